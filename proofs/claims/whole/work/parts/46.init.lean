/-! a new centre -/
def v0 : SDv := (0, false, [], [], 0, 0, [], [], 0)
def S0 : SS := (fun _ => v0, [], [], [], 0)
section IN
variable {G : Gx} {l : Launch} {d w : Nat} {own own' : Nat → Tg} {h h' : Hp} {D : Nat → Nat}
theorem obj_dev {a : Nat} (hx : hS h a = some (14, 0)) : ObjA G h a 5 := ⟨4, 0, hx, rfl, fun hSy => by
  intro s hW comp hcomp
  obtain ⟨A0, hw, hcl, hz⟩ := hSy
  obtain ⟨-, hfc, kC, hkC, hkind⟩ := u_Kn_moved hW.alike (hcl 4 _ rfl).1
  have e : comp = G.2.1.1 4 := Option.some.inj (hcomp.symm.trans hfc)
  rw [e]
  exact va_assign ⟨hfc, kC, hkC, hkind⟩⟩
theorem Fr.ft {h2 : Hp} {q : Nat} {kd : Nat × Nat} (Fq : Fre h q) (F : Fr (pN h q kd) h2 (fun x => x = q)) {T : Tg → Prop} : FT own h h2 T := by
  have := (fr_pN (h := h) (a := q) (kd := kd) (F := fun y => y = q) Fq.1).trans F (fun y _ z => z)
  exact ⟨this.1, fun y hy _ => this.2 y hy (fun z => hy (by rw [z]; exact Fq.1))⟩
/-- a new line -/
theorem LN.new {n q la most : Nat} {h2 : Hp} (Fq : Fre h q) (Fl : Fre (pN h q (11, 0)) la) (L : LnA G h2 q la (gK G 0) 0 most []) : LN G (ow (ow own q (3, n)) la (4, n)) h2 n q most [] ∧ Ey own (ow (ow own q (3, n)) la (4, n)) h := by
  obtain ⟨l1, l2, l3, l4, A, l6⟩ := L
  have nql : q ≠ la := fun z => by have := Fl.1; rw [← z, Fre.new] at this; cases this
  have fl : hS h la = none := by
    have := Fl.1
    rw [show hS (pN h q (11, 0)) la = hS h la from (same_pN (fun z => nql z.symm)).1] at this
    exact this
  refine ⟨⟨[], ⟨l1, by rw [ow_ne nql, ow_eq], l3, l4, fun x hx => (by cases hx), Nat.zero_le _, la, l2, gK G 0, 0, A, ow_eq, Or.inl ⟨rfl, rfl, rfl⟩⟩, rfl, fun p hp => by cases hp⟩, fun x hx => ?_⟩
  rw [ow_ne (fun z => hx (by rw [z]; exact fl)), ow_ne (fun z => hx (by rw [z]; exact Fq.1))]
theorem LJ.new {n q : Nat} {h1 : Hp} (e : h1 = pR (pI (pN h q (12, 0)) q 2 0) q 0 (some (gK G 0))) (Fq : Fre h q) (ho : own q = (4, n)) : LJ G own h1 n q [] := by
  subst e
  refine ⟨gK G 0, 0, ⟨?_, ?_, by simp, hR_pR_eq, Or.inl ⟨rfl, rfl, rfl⟩⟩, ho, Or.inl ⟨rfl, rfl, rfl⟩⟩
  · exact Fre.new
  · show hI (pI (pN h q (12, 0)) q 2 0) q 1 = _
    rw [hI_pI_ne (by omega)]
    exact Fq.2.1 1
theorem c_De_init {a dd : Nat} (hD : D dd = a) (ho : own a = (8, dd)) (hs : hS h a = some (14, 0)) (z1 : ∀ j, hI h a j = 0) (z2 : ∀ j, hL h a j = 0) : Cv G l M_De_init (d + 5) (w + 101) [.ref a] h 6 493 (fun h' => (∃ own', DV G own' h' D dd v0 ∧ FT own h h' (fun t => t = (8, dd)) ∧ Ey own own' h) ∧ KF G h') := by
  refine Cv.kf (fun kf => ?_)
  refine ok_De_init ?_
  unfold wp_De_init
  refine ⟨by omega, fun q1 F1 => ⟨1, 3, _, c_Li_init (m := 6) Fre.new (by decide), by omega, ?_⟩⟩
  rintro h1 ⟨⟨la1, Fl1, L1, Fr1⟩, kf1⟩
  have g1 := LN.new (own := own) (n := 1 + dd) F1 Fl1 L1
  have f1 : FT own h h1 (fun _ => False) := Fr.ft F1 Fr1
  generalize hown1 : ow (ow own q1 (3, 1 + dd)) la1 (4, 1 + dd) = own1 at g1
  have hs1 : hS h1 a = some (14, 0) := by rw [f1.1 a (ne_none hs)]; exact hs
  have ho1 : own1 a = (8, dd) := g1.2.at hs ho
  refine ⟨hs1, by omega, fun q2 F2 => ⟨1, 3, _, c_Li_init (m := 6) Fre.new (by decide), by omega, ?_⟩⟩
  have T8 : FT own1 h1 (pR h1 a 2 (some q1)) (fun t => t = (8, dd)) := t_pR ho1 rfl
  have n8 : ∀ o : Nat → Tg, NB o (fun t => t = (8, dd)) := fun o => ⟨by simp, fun a _ => by simp⟩
  have nf : ∀ o : Nat → Tg, NB o (fun _ => False) := fun o => ⟨id, fun _ _ => id⟩
  have g2 := g1.1.kept T8 Ey.rfl.ex (n8 _) (by simp) (by simp) (by simp)
  have e2a : hR (pR h1 a 2 (some q1)) a 2 = some q1 := hR_pR_eq
  have hs2 : hS (pR h1 a 2 (some q1)) a = some (14, 0) := hs1
  have i2 : ∀ j, hI (pR h1 a 2 (some q1)) a j = 0 := fun j => by
    show hI h1 a j = 0
    rw [(f1.kp hs ho id).2.1]; exact z1 j
  have l2 : ∀ j, hL (pR h1 a 2 (some q1)) a j = 0 := fun j => by
    show hL h1 a j = 0
    rw [(f1.kp hs ho id).2.2.1]; exact z2 j
  have f2 : FT own h (pR h1 a 2 (some q1)) (fun t => t = (8, dd)) := (f1.mono (fun _ z => z.elim)).trans T8 g1.2
  generalize pR h1 a 2 (some q1) = h2 at *
  rintro h3 ⟨⟨la3, Fl3, L3, Fr3⟩, kf3⟩
  have g3 := LN.new (own := own1) (n := 5 + dd) F2 Fl3 L3
  have f3 : FT own1 h2 h3 (fun _ => False) := Fr.ft F2 Fr3
  generalize hown3 : ow (ow own1 q2 (3, 5 + dd)) la3 (4, 5 + dd) = own3 at g3
  have s3 := f3.kp hs2 ho1 id
  have hs3 : hS h3 a = some (14, 0) := by rw [s3.1]; exact hs2
  have ho3 : own3 a = (8, dd) := g3.2.at hs2 ho1
  have g2' := g2.kept f3 g3.2.ex (nf _) id id id
  refine ⟨hs3, by omega, fun q4 F4 => ?_⟩
  have T8' : FT own3 h3 (pR h3 a 3 (some q2)) (fun t => t = (8, dd)) := t_pR ho3 rfl
  have k2 := g2'.kept T8' Ey.rfl.ex (n8 _) (by simp) (by simp) (by simp)
  have k3 := g3.1.kept T8' Ey.rfl.ex (n8 _) (by simp) (by simp) (by simp)
  have e3a : hR (pR h3 a 3 (some q2)) a 3 = some q2 := hR_pR_eq
  have e3b : hR (pR h3 a 3 (some q2)) a 2 = some q1 := by rw [hR_pR_ne (by omega), s3.2.2.2]; exact e2a
  have hs4 : hS (pR h3 a 3 (some q2)) a = some (14, 0) := hs3
  have i4 : ∀ j, hI (pR h3 a 3 (some q2)) a j = 0 := fun j => by
    show hI h3 a j = 0
    rw [s3.2.1]; exact i2 j
  have l4 : ∀ j, hL (pR h3 a 3 (some q2)) a j = 0 := fun j => by
    show hL h3 a j = 0
    rw [s3.2.2.1]; exact l2 j
  have E13 : Ey own own3 h := g1.2.trans g3.2 f2.1
  have f4 : FT own h (pR h3 a 3 (some q2)) (fun t => t = (8, dd)) := (f2.trans (f3.mono (fun _ z => z.elim)) g1.2).trans T8' E13
  generalize pR h3 a 3 (some q2) = h4 at *
  refine ⟨_, c_AL_init Fre.new, by omega, ?_⟩
  rintro _ rfl
  -- the piles' list
  generalize h5e : pR (pI (pN h4 q4 (12, 0)) q4 2 0) q4 0 (some (gK G 0)) = h5
  have f5 : FT own3 h4 h5 (fun _ => False) := by
    refine Fr.ft F4 (kd := (12, 0)) ?_
    rw [← h5e]
    exact fr_pI.trans fr_pR (fun _ _ z => z)
  have E35 : Ey own3 (ow own3 q4 (4, 11 + dd)) h4 := Ey.ow F4.1
  have P5 : LJ G (ow own3 q4 (4, 11 + dd)) h5 (11 + dd) q4 [] := LJ.new h5e.symm F4 ow_eq
  generalize ow own3 q4 (4, 11 + dd) = own5 at *
  have s5 := f5.kp hs4 ho3 id
  have hs5 : hS h5 a = some (14, 0) := by rw [s5.1]; exact hs4
  have ho5 : own5 a = (8, dd) := E35.at hs4 ho3
  have T8'' : FT own5 h5 (pR h5 a 6 (some q4)) (fun t => t = (8, dd)) := t_pR ho5 rfl
  have m2 := (k2.kept f5 E35.ex (nf _) id id id).kept T8'' Ey.rfl.ex (n8 _) (by simp) (by simp) (by simp)
  have m3 := (k3.kept f5 E35.ex (nf _) id id id).kept T8'' Ey.rfl.ex (n8 _) (by simp) (by simp) (by simp)
  have mp := P5.kept T8'' Ey.rfl.ex (by simp) (by simp)
  have e6a : hR (pR h5 a 6 (some q4)) a 6 = some q4 := hR_pR_eq
  have e6b : hR (pR h5 a 6 (some q4)) a 2 = some q1 := by rw [hR_pR_ne (by omega), s5.2.2.2]; exact e3b
  have e6c : hR (pR h5 a 6 (some q4)) a 3 = some q2 := by rw [hR_pR_ne (by omega), s5.2.2.2]; exact e3a
  have hs6 : hS (pR h5 a 6 (some q4)) a = some (14, 0) := hs5
  have i6 : ∀ j, hI (pR h5 a 6 (some q4)) a j = 0 := fun j => by
    show hI h5 a j = 0
    rw [s5.2.1]; exact i4 j
  have l6 : ∀ j, hL (pR h5 a 6 (some q4)) a j = 0 := fun j => by
    show hL h5 a j = 0
    rw [s5.2.2.1]; exact l4 j
  have E15 : Ey own own5 h := E13.trans E35 f4.1
  have f6 : FT own h (pR h5 a 6 (some q4)) (fun t => t = (8, dd)) := (f4.trans (f5.mono (fun _ z => z.elim)) E13).trans T8'' E15
  refine ⟨hs5, 480, ⟨rfl, by decide, by decide⟩, by omega, fun q7 F7 => ⟨by omega, ?_⟩⟩
  generalize pR h5 a 6 (some q4) = h6 at *
  have f7 : FT own5 h6 (pN h6 q7 (0, 480)) (fun _ => False) := t_pN F7.1
  have E57 : Ey own5 (ow own5 q7 (9, dd)) h6 := Ey.ow F7.1
  have o7 : ow own5 q7 (9, dd) q7 = (9, dd) := ow_eq
  have h7q : hS (pN h6 q7 (0, 480)) q7 = some (0, 480) := Fre.new
  generalize ow own5 q7 (9, dd) = own7 at *
  have s7 := f7.kp hs6 ho5 id
  have ho7 : own7 a = (8, dd) := E57.at hs6 ho5
  have hs7 : hS (pN h6 q7 (0, 480)) a = some (14, 0) := by rw [s7.1]; exact hs6
  have T9 : FT own7 (pN h6 q7 (0, 480)) (pR (pN h6 q7 (0, 480)) a 7 (some q7)) (fun t => t = (8, dd)) := t_pR ho7 rfl
  generalize hh7 : pN h6 q7 (0, 480) = h7 at *
  have E17 : Ey own own7 h := E15.trans E57 f6.1
  refine ⟨own7, ?_, (f6.trans (f7.mono (fun _ z => z.elim)) E15).trans T9 E17, E17⟩
  have hR8 : ∀ j, j ≠ 7 → hR (pR h7 a 7 (some q7)) a j = hR h6 a j := fun j hj => by rw [hR_pR_ne (fun z => hj z.2), s7.2.2.2]
  have hI8 : ∀ j, hI (pR h7 a 7 (some q7)) a j = 0 := fun j => by
    show hI h7 a j = 0
    rw [s7.2.1]; exact i6 j
  have hL8 : ∀ j, hL (pR h7 a 7 (some q7)) a j = 0 := fun j => by
    show hL h7 a j = 0
    rw [s7.2.2.1]; exact l6 j
  subst hD
  exact ⟨hs7, ho7, hL8 0, hI8 1, hI8 4, hI8 5, hI8 8, hL8 9, ⟨q1, by rw [hR8 2 (by decide)]; exact e6b, (m2.kept f7 E57.ex (nf _) id id id).kept T9 Ey.rfl.ex (n8 _) (by simp) (by simp) (by simp)⟩, ⟨q2, by rw [hR8 3 (by decide)]; exact e6c, (m3.kept f7 E57.ex (nf _) id id id).kept T9 Ey.rfl.ex (n8 _) (by simp) (by simp) (by simp)⟩, ⟨q4, by rw [hR8 6 (by decide)]; exact e6a, [], (mp.kept f7 E57.ex id id).kept T9 Ey.rfl.ex (by simp) (by simp), rfl, List.nodup_nil, fun p hp => by cases hp⟩, q7, hR_pR_eq, h7q, o7, fun j hj => absurd hj (Nat.not_lt_zero _)⟩
end IN
