/-! the centre's constructor -/
section IC
variable {G : Gx} {l : Launch} {d w : Nat} {own own' : Nat → Tg} {h h' : Hp} {D : Nat → Nat}
/-- while the devices come -/
def CRp (own : Nat → Tg) (h : Hp) (D : Nat → Nat) (x u ml pl dv n : Nat) : Prop := (hS h x = some (10, 0) ∧ own x = (1, 0) ∧ hI h x 5 = nI 0) ∧ (hR h x 0 = some dv ∧ hS h dv = some (5, 4) ∧ own dv = (2, 0) ∧ ∀ d, d < n → hR h dv d = some (D d)) ∧ hR h x 1 = some u ∧ (∃ a b, hR h x 2 = some a ∧ DrA h a b [] ∧ own a = (6, 0) ∧ own b = (7, 0)) ∧ hR h x 3 = some ml ∧ hR h x 4 = some pl
theorem CRp.kept {x u ml pl dv n : Nat} {T : Tg → Prop} (C : CRp own h D x u ml pl dv n) (F : FT own h h' T) (E : Eo own own' h) (n1 : ¬ T (1, 0)) (n2 : ¬ T (2, 0)) (n6 : ¬ T (6, 0)) (n7 : ¬ T (7, 0)) : CRp own' h' D x u ml pl dv n := by
  obtain ⟨⟨c1, c2, c3⟩, ⟨c4, c5, c6, c7⟩, c8, ⟨a, b, c10, c11, c12, c13⟩, c14, c15⟩ := C
  have s1 := F.kp c1 c2 n1
  have s2 := F.kp c5 c6 n2
  exact ⟨⟨by rw [s1.1]; exact c1, E.at c1 c2 (by simp), by rw [s1.2.1]; exact c3⟩, ⟨by rw [s1.2.2.2]; exact c4, by rw [s2.1]; exact c5, E.at c5 c6 (by simp), fun d hd => by rw [s2.2.2.2]; exact c7 d hd⟩, by rw [s1.2.2.2]; exact c8, ⟨a, b, by rw [s1.2.2.2]; exact c10, c11.keptT F c12 c13 n6 n7, E.at c11.1 c12 (by simp), E.at c11.2.2.1 c13 (by simp)⟩, by rw [s1.2.2.2]; exact c14, by rw [s1.2.2.2]; exact c15⟩
theorem DV.kD {D' : Nat → Nat} {k : Nat} {v : SDv} (V : DV G own h D k v) (e : D' k = D k) : DV G own h D' k v := by
  unfold DV at V ⊢
  rw [e]
  exact V
theorem init_loop {x u ml pl dv k0 n0 : Nat} {P : Hp → Prop} (own0 : Nat → Tg) (hb : Hp) (D0 : Nat → Nat) (own1 : Nat → Tg) (h1 : Hp) (C : CRp own1 h1 D0 x u ml pl dv 0) (U : UP G own1 h1 D0 u []) (M : MG G own1 h1 D0 ml pl []) (F : FT own0 hb h1 T0) (E : Ey own0 own1 hb) (hk : k0 + 28 ≤ 100) (hn : n0 + 2012 ≤ 3000) (hP : ∀ own' D' h', CS G own' h' D' x S0 → FT own0 hb h' T0 → Ey own0 own' hb → P h') : wL_SC_init_60 G l d w 100 3000 P x 0 h1 k0 n0 := by
  unfold wL_SC_init_60
  refine ⟨fun x1 h' k n => ∃ j D' own', j ≤ 4 ∧ x1 = nI j ∧ CRp own' h' D' x u ml pl dv j ∧ UP G own' h' D' u [] ∧ MG G own' h' D' ml pl [] ∧ (∀ q, q < j → DV G own' h' D' q v0) ∧ FT own0 hb h' T0 ∧ Ey own0 own' hb ∧ k ≤ k0 + 7 * j ∧ n ≤ n0 + 503 * j ∧ (∀ y kd, hS hb y = some kd → own' y = own0 y), fun x1 _ _ _ => 10 - x1.toNatClampNeg, ⟨0, D0, own1, by omega, rfl, C, U, M, fun q hq => absurd hq (Nat.not_lt_zero _), F, E, by omega, by omega, fun y kd hy => E y (ne_none hy)⟩, ?_⟩
  rintro _ h2 k n ⟨j, D2, own2, hj, rfl, C2, U2, M2, V2, F2, E2, hk2, hn2, hO⟩
  unfold wB_SC_init_60
  rw [Lle (by omega) (by decide)]
  refine ⟨fun c => ⟨by omega, ?_⟩, fun c => ⟨C2.1.1, by omega, fun q Fq => ?_⟩⟩
  · have hj4 : j = 4 := by
      have c' : 4 ≤ j := c
      omega
    subst hj4
    refine hP own2 D2 h2 ?_ F2 E2
    obtain ⟨c1, ⟨c4, c5, c6, c7⟩, c8, c9, c10, c11⟩ := C2
    exact CS.join (drf := []) (now := 0) ⟨c1, ⟨dv, c4, c5, c6, c7⟩, c8, c9, c10, c11⟩ U2 M2 V2
  · have hj4 : j < 4 := by
      have c' : ¬ 4 ≤ j := c
      omega
    have E3 : Ey own2 (ow own2 q (8, j)) h2 := Ey.ow Fq.1
    have f3 : FT own2 h2 (pN h2 q (14, 0)) (fun _ => False) := t_pN Fq.1
    have nf : ∀ o : Nat → Tg, NB o (fun _ => False) := fun o => ⟨id, fun _ _ => id⟩
    have n8 : ∀ o : Nat → Tg, NB o (fun t => t = (8, j)) := fun o => ⟨by simp, fun a _ => by simp⟩
    have n2' : ∀ o : Nat → Tg, NB o (fun t => t = (2, 0)) := fun o => ⟨by simp, fun a _ => by simp⟩
    have hDj : (fun y => if y = j then q else D2 y) j = q := if_pos rfl
    have hDo : ∀ y, y ≠ j → (fun y => if y = j then q else D2 y) y = D2 y := fun y hy => if_neg hy
    generalize (fun y => if y = j then q else D2 y) = D3 at hDj hDo
    have hq14 : hS (pN h2 q (14, 0)) q = some (14, 0) := Fre.new
    have hoq : ow own2 q (8, j) q = (8, j) := ow_eq
    generalize ow own2 q (8, j) = own3 at *
    have C3 := C2.kept f3 E3.ex id id id id
    have U3 : UP G own3 (pN h2 q (14, 0)) D3 u [] := by
      obtain ⟨ps, A, e, nd, r⟩ := U2.kept f3 E3 id id id id (fun _ => id)
      cases ps with
      | nil => exact ⟨[], A, rfl, List.nodup_nil, fun p hp => by cases hp⟩
      | cons p ps => cases e
    have M3 : MG G own3 (pN h2 q (14, 0)) D3 ml pl [] := by
      obtain ⟨xs, A, B, e, r⟩ := M2.kept f3 E3.ex (nf _) ⟨id, id⟩ ⟨id, id⟩ (fun _ => id)
      exact ⟨xs, A, B, e, fun k m hk => by simp at hk⟩
    have V3 : ∀ y, y < j → DV G own3 (pN h2 q (14, 0)) D3 y v0 := fun y hy => ((V2 y hy).kept f3 E3.ex (nf _) id id ⟨id, id⟩ ⟨id, id, id⟩ ⟨id, id, id⟩ id (fun _ => id)).kD (hDo y (by omega))
    have f23 : FT own0 hb (pN h2 q (14, 0)) T0 := F2.trans (f3.mono (fun _ z => z.elim)) E2
    have E23 : Ey own0 own3 hb := E2.trans E3 F2.1
    have zI : ∀ y, hI (pN h2 q (14, 0)) q y = 0 := Fq.2.1
    have zL : ∀ y, hL (pN h2 q (14, 0)) q y = 0 := Fq.2.2.1
    have hdvne : dv ≠ q := fun z => by have := C2.2.1.2.1; rw [z, Fq.1] at this; cases this
    have hRx0 : hR h2 x 0 = some dv := C2.2.1.1
    generalize pN h2 q (14, 0) = h3 at *
    refine ⟨6, 493, _, c_De_init (D := D3) hDj hoq hq14 zI zL, by omega, ?_⟩
    rintro h4 ⟨⟨own4, V4, f4, E4⟩, kf4⟩
    have C4 := C3.kept f4 E4.ex (by simp) (by simp) (by simp) (by simp)
    have U4 := U3.kept f4 E4 (by simp) (by simp) (by simp) (by simp) (by simp)
    have M4 := M3.kept f4 E4.ex (n8 _) ⟨by simp, by simp⟩ ⟨by simp, by simp⟩ (by simp)
    have V4' : ∀ y, y < j → DV G own4 h4 D3 y v0 := fun y hy => (V3 y hy).kept f4 E4.ex (n8 _) (by simp; omega) (by simp) ⟨by simp, by simp⟩ ⟨by simp, by simp, by simp⟩ ⟨by simp, by simp, by simp⟩ (by simp) (by simp <;> omega)
    have hdv4 := C4.2.1
    refine ⟨dv, hRx0, 4, j, ⟨hdv4.2.1, rfl, hj4, by omega⟩, obj_dev (by rw [← hDj]; exact V4.1), ?_⟩
    have F5 : FT own4 h4 (pR h4 dv j (some q)) (fun t => t = (2, 0)) := t_pR hdv4.2.2.1 rfl
    rintro _ rfl
    refine ⟨⟨j + 1, D3, own4, hj4, nI_1 j, ?_, U4.kept F5 Ey.rfl (by simp) (by simp) (by simp) (by simp) (by simp), M4.kept F5 Ey.rfl.ex (n2' _) ⟨by simp, by simp⟩ ⟨by simp, by simp⟩ (by simp), fun y hy => ?_, ?_, E23.trans E4 f23.1, by omega, by omega, fun y kd hy => ?_⟩, ?_⟩
    · obtain ⟨⟨c1, c2, c3⟩, ⟨c4, c5, c6, c7⟩, c8, ⟨a, b, c10, c11, c12, c13⟩, c14, c15⟩ := C4
      have nx : x ≠ dv := fun z => by rw [z, c5] at c1; cases c1
      have sx : ∀ i, hR (pR h4 dv j (some q)) x i = hR h4 x i := fun i => hR_pR_ne (fun z => nx z.1)
      refine ⟨⟨c1, c2, c3⟩, ⟨by rw [sx]; exact c4, c5, c6, fun y hy => ?_⟩, by rw [sx]; exact c8, ⟨a, b, by rw [sx]; exact c10, c11.keptT F5 c12 c13 (by simp) (by simp), c12, c13⟩, by rw [sx]; exact c14, by rw [sx]; exact c15⟩
      rcases (show y < j ∨ y = j by omega) with z | z
      · rw [hR_pR_ne (fun z' => by omega), c7 y z, hDo y (by omega)]
      · rw [z, hR_pR_eq, hDj]
    · have K : ∀ y, y < j + 1 → DV G own4 h4 D3 y v0 := fun y hy => by
        rcases (show y < j ∨ y = j by omega) with z | z
        · exact V4' y z
        · rw [z]; exact V4
      exact (K y hy).kept F5 Ey.rfl.ex (n2' _) (by simp) (by simp) ⟨by simp, by simp⟩ ⟨by simp, by simp, by simp⟩ ⟨by simp, by simp, by simp⟩ (by simp) (by simp <;> omega)
    · exact ((f23.trans (f4.mono (fun t z => by rw [z]; simp [T0])) E23).trans (F5.mono (fun t z => by rw [z]; simp [T0])) (E23.trans E4 f23.1))
    · exact (E23.trans E4 f23.1) y (ne_none hy)
    · show 10 - (nI j + 1).toNatClampNeg < 10 - (nI j).toNatClampNeg
      rw [nI_1, nI_clamp (by omega), nI_clamp (by omega)]
      omega
theorem c_Dr_init {a : Nat} (hs : hS h a = some (13, 0)) (hz : ∀ j, hI h a j = 0) : Cv G l M_Dr_init (d + 1) (w + 20) [.ref a] h 1 480 (fun h' => ∃ q, Fre h q ∧ h' = pR (pN h q (0, 480)) a 0 (some q) ∧ DrA h' a q []) := by
  refine ok_Dr_init ⟨480, ⟨rfl, by decide, by decide⟩, by omega, fun q Fq => ⟨Fq.old hs, by omega, q, Fq, rfl, ?_⟩⟩
  have nq := Fq.ne hs
  refine ⟨Fq.old hs, hR_pR_eq, Fre.new, ?_, by simp, fun j hj => absurd hj (Nat.not_lt_zero _)⟩
  show hI h a 1 = _
  exact hz 1
theorem c_SC_init {x : Nat} (hs : hS h x = some (10, 0)) (hz : ∀ j, hI h x j = 0) (hzr : ∀ j, hR h x j = none) : Cv G l M_SC_init (d + 6) (w + 121) [.ref x] h 100 3000 (fun h' => ∃ own' D', CS G own' h' D' x S0 ∧ FT (ow (fun _ => (0, 0)) x (1, 0)) h h' T0 ∧ Ey (ow (fun _ => (0, 0)) x (1, 0)) own' h) := by
  have ho : ow (fun _ => (0, 0)) x (1, 0) x = (1, 0) := ow_eq
  generalize ow (fun _ => (0, 0)) x (1, 0) = own0 at ho
  have nf : ∀ o : Nat → Tg, NB o (fun _ => False) := fun o => ⟨id, fun _ _ => id⟩
  have n1' : ∀ o : Nat → Tg, NB o (fun t => t = (1, 0)) := fun o => ⟨by simp, fun a _ => by simp⟩
  refine ok_SC_init ?_
  unfold wp_SC_init
  refine ⟨4, ⟨rfl, by decide⟩, by omega, fun dv Fv => ⟨Fv.old hs, by omega, fun u Fu => ⟨1, 3, _, c_Li_init (m := 8) Fre.new (by decide), by omega, ?_⟩⟩⟩
  -- the devices' row
  have e1 : Ey own0 (ow own0 dv (2, 0)) h := Ey.ow Fv.1
  have f1 : FT own0 h (pN h dv (5, 4)) (fun _ => False) := t_pN Fv.1
  have hdv : hS (pN h dv (5, 4)) dv = some (5, 4) := Fre.new
  have odv : ow own0 dv (2, 0) dv = (2, 0) := ow_eq
  generalize ow own0 dv (2, 0) = own1 at *
  have s1 := f1.kp hs ho id
  have hs1 : hS (pN h dv (5, 4)) x = some (10, 0) := by rw [s1.1]; exact hs
  have ho1 : own1 x = (1, 0) := e1.at hs ho
  have i1 : ∀ j, hI (pN h dv (5, 4)) x j = 0 := fun j => by rw [s1.2.1]; exact hz j
  generalize pN h dv (5, 4) = h1 at *
  have f2 : FT own1 h1 (pR h1 x 0 (some dv)) (fun t => t = (1, 0)) := t_pR ho1 rfl
  have F02 : FT own0 h (pR h1 x 0 (some dv)) T0 := (f1.mono (fun _ z => z.elim)).trans (f2.mono (fun t z => by rw [z]; simp [T0])) e1
  have r2 : hR (pR h1 x 0 (some dv)) x 0 = some dv := hR_pR_eq
  have hs2 : hS (pR h1 x 0 (some dv)) x = some (10, 0) := hs1
  have hdv2 : hS (pR h1 x 0 (some dv)) dv = some (5, 4) := hdv
  have i2 : ∀ j, hI (pR h1 x 0 (some dv)) x j = 0 := i1
  generalize pR h1 x 0 (some dv) = h2 at *
  rintro h3 ⟨⟨la, Fl, L3, Fr3⟩, kf3⟩
  -- the uplink
  have g3 := LN.new (own := own1) (n := 0) Fu Fl L3
  have f3 : FT own1 h2 h3 (fun _ => False) := Fr.ft Fu Fr3
  generalize ow (ow own1 u (3, 0)) la (4, 0) = own3 at g3
  have s3 := f3.kp hs2 ho1 id
  have hs3 : hS h3 x = some (10, 0) := by rw [s3.1]; exact hs2
  have ho3 : own3 x = (1, 0) := g3.2.at hs2 ho1
  have sd3 := f3.kp hdv2 odv id
  have hdv3 : hS h3 dv = some (5, 4) := by rw [sd3.1]; exact hdv2
  have odv3 : own3 dv = (2, 0) := g3.2.at hdv2 odv
  have E03 : Ey own0 own3 h := e1.trans g3.2 F02.1
  have F03 : FT own0 h h3 T0 := F02.trans (f3.mono (fun _ z => z.elim)) e1
  have A3 : LA G own3 h3 0 u 8 [] := by
    obtain ⟨ps, A, e, rz⟩ := g3.1
    cases ps with
    | nil => exact A
    | cons p ps => cases e
  refine ⟨hs3, by omega, fun q4 F4 => ?_⟩
  have f4 : FT own3 h3 (pR h3 x 1 (some u)) (fun t => t = (1, 0)) := t_pR ho3 rfl
  have A4 := A3.kept f4 Ey.rfl.ex (by simp) (by simp) (by simp)
  have r4a : hR (pR h3 x 1 (some u)) x 1 = some u := hR_pR_eq
  have r4b : hR (pR h3 x 1 (some u)) x 0 = some dv := by rw [hR_pR_ne (by omega), s3.2.2.2]; exact r2
  have hs4 : hS (pR h3 x 1 (some u)) x = some (10, 0) := hs3
  have hdv4 : hS (pR h3 x 1 (some u)) dv = some (5, 4) := hdv3
  have i4 : ∀ j, hI (pR h3 x 1 (some u)) x j = 0 := fun j => by
    show hI h3 x j = 0
    rw [s3.2.1]; exact i2 j
  have F04 : FT own0 h (pR h3 x 1 (some u)) T0 := F03.trans (f4.mono (fun t z => by rw [z]; simp [T0])) E03
  generalize pR h3 x 1 (some u) = h4 at *
  -- the draft
  have hz4 : ∀ j, hI (pN h4 q4 (13, 0)) q4 j = 0 := F4.2.1
  refine ⟨1, 480, _, c_Dr_init Fre.new hz4, by omega, ?_⟩
  rintro h5 ⟨q5, F5, e5, D5⟩
  have nq45 : q4 ≠ q5 := fun z => by have := F5.1; rw [← z, Fre.new] at this; cases this
  have fq5 : hS h4 q5 = none := by
    have := F5.1
    rw [show hS (pN h4 q4 (13, 0)) q5 = hS h4 q5 from (same_pN (fun z => nq45 z.symm)).1] at this
    exact this
  have f5 : FT own3 h4 h5 (fun _ => False) := by
    refine Fr.ft F4 (kd := (13, 0)) ?_
    rw [e5]
    exact (fr_pN F5.1).trans fr_pR (fun _ _ z => z)
  have E5 : Ey own3 (ow (ow own3 q4 (6, 0)) q5 (7, 0)) h4 := fun y hy => by
    rw [ow_ne (fun z => hy (by rw [z]; exact fq5)), ow_ne (fun z => hy (by rw [z]; exact F4.1))]
  have o5a : ow (ow own3 q4 (6, 0)) q5 (7, 0) q4 = (6, 0) := by rw [ow_ne nq45, ow_eq]
  have o5b : ow (ow own3 q4 (6, 0)) q5 (7, 0) q5 = (7, 0) := ow_eq
  generalize ow (ow own3 q4 (6, 0)) q5 (7, 0) = own5 at *
  have s5 := f5.kp hs4 ho3 id
  have sd5 := f5.kp hdv4 odv3 id
  have hs5 : hS h5 x = some (10, 0) := by rw [s5.1]; exact hs4
  have ho5 : own5 x = (1, 0) := E5.at hs4 ho3
  have hdv5 : hS h5 dv = some (5, 4) := by rw [sd5.1]; exact hdv4
  have odv5 : own5 dv = (2, 0) := E5.at hdv4 odv3
  have A5 := A4.kept f5 E5.ex id id id
  have E05 : Ey own0 own5 h := E03.trans E5 F04.1
  have F05 : FT own0 h h5 T0 := F04.trans (f5.mono (fun _ z => z.elim)) E03
  refine ⟨hs5, by omega, fun q6 F6 => ?_⟩
  have f6 : FT own5 h5 (pR h5 x 2 (some q4)) (fun t => t = (1, 0)) := t_pR ho5 rfl
  have A6 := A5.kept f6 Ey.rfl.ex (by simp) (by simp) (by simp)
  have D6 := D5.keptT f6 o5a o5b (by simp) (by simp)
  have r6a : hR (pR h5 x 2 (some q4)) x 2 = some q4 := hR_pR_eq
  have r6b : hR (pR h5 x 2 (some q4)) x 0 = some dv := by rw [hR_pR_ne (by omega), s5.2.2.2]; exact r4b
  have r6c : hR (pR h5 x 2 (some q4)) x 1 = some u := by rw [hR_pR_ne (by omega), s5.2.2.2]; exact r4a
  have hs6 : hS (pR h5 x 2 (some q4)) x = some (10, 0) := hs5
  have hdv6 : hS (pR h5 x 2 (some q4)) dv = some (5, 4) := hdv5
  have i6 : ∀ j, hI (pR h5 x 2 (some q4)) x j = 0 := fun j => by
    show hI h5 x j = 0
    rw [s5.2.1]; exact i4 j
  have F06 : FT own0 h (pR h5 x 2 (some q4)) T0 := F05.trans (f6.mono (fun t z => by rw [z]; simp [T0])) E05
  generalize pR h5 x 2 (some q4) = h6 at *
  -- the messages
  refine ⟨_, c_AL_init Fre.new, by omega, ?_⟩
  rintro _ rfl
  generalize h7e : pR (pI (pN h6 q6 (12, 0)) q6 2 0) q6 0 (some (gK G 0)) = h7
  have f7 : FT own5 h6 h7 (fun _ => False) := by
    refine Fr.ft F6 (kd := (12, 0)) ?_
    rw [← h7e]
    exact fr_pI.trans fr_pR (fun _ _ z => z)
  have E7 : Ey own5 (ow own5 q6 (4, 9)) h6 := Ey.ow F6.1
  have J7 : LJ G (ow own5 q6 (4, 9)) h7 9 q6 [] := LJ.new h7e.symm F6 ow_eq
  generalize ow own5 q6 (4, 9) = own7 at *
  have s7 := f7.kp hs6 ho5 id
  have sd7 := f7.kp hdv6 odv5 id
  have hs7 : hS h7 x = some (10, 0) := by rw [s7.1]; exact hs6
  have ho7 : own7 x = (1, 0) := E7.at hs6 ho5
  have hdv7 : hS h7 dv = some (5, 4) := by rw [sd7.1]; exact hdv6
  have odv7 : own7 dv = (2, 0) := E7.at hdv6 odv5
  have A7 := A6.kept f7 E7.ex id id id
  have D7 := D6.keptT f7 o5a o5b id id
  have o7a : own7 q4 = (6, 0) := E7.at D6.1 o5a
  have o7b : own7 q5 = (7, 0) := E7.at D6.2.2.1 o5b
  have E07 : Ey own0 own7 h := E05.trans E7 F06.1
  have F07 : FT own0 h h7 T0 := F06.trans (f7.mono (fun _ z => z.elim)) E05
  refine ⟨hs7, by omega, fun q8 F8 => ?_⟩
  have f8 : FT own7 h7 (pR h7 x 3 (some q6)) (fun t => t = (1, 0)) := t_pR ho7 rfl
  have A8 := A7.kept f8 Ey.rfl.ex (by simp) (by simp) (by simp)
  have D8 := D7.keptT f8 o7a o7b (by simp) (by simp)
  have J8 := J7.kept f8 Ey.rfl.ex (by simp) (by simp)
  have r8a : hR (pR h7 x 3 (some q6)) x 3 = some q6 := hR_pR_eq
  have r8b : hR (pR h7 x 3 (some q6)) x 0 = some dv := by rw [hR_pR_ne (by omega), s7.2.2.2]; exact r6b
  have r8c : hR (pR h7 x 3 (some q6)) x 1 = some u := by rw [hR_pR_ne (by omega), s7.2.2.2]; exact r6c
  have r8d : hR (pR h7 x 3 (some q6)) x 2 = some q4 := by rw [hR_pR_ne (by omega), s7.2.2.2]; exact r6a
  have hs8 : hS (pR h7 x 3 (some q6)) x = some (10, 0) := hs7
  have hdv8 : hS (pR h7 x 3 (some q6)) dv = some (5, 4) := hdv7
  have i8 : ∀ j, hI (pR h7 x 3 (some q6)) x j = 0 := fun j => by
    show hI h7 x j = 0
    rw [s7.2.1]; exact i6 j
  have F08 : FT own0 h (pR h7 x 3 (some q6)) T0 := F07.trans (f8.mono (fun t z => by rw [z]; simp [T0])) E07
  generalize pR h7 x 3 (some q6) = h8 at *
  -- those that wait
  refine ⟨_, c_AL_init Fre.new, by omega, ?_⟩
  rintro _ rfl
  generalize h9e : pR (pI (pN h8 q8 (12, 0)) q8 2 0) q8 0 (some (gK G 0)) = h9
  have f9 : FT own7 h8 h9 (fun _ => False) := by
    refine Fr.ft F8 (kd := (12, 0)) ?_
    rw [← h9e]
    exact fr_pI.trans fr_pR (fun _ _ z => z)
  have E9 : Ey own7 (ow own7 q8 (4, 10)) h8 := Ey.ow F8.1
  have J9 : LJ G (ow own7 q8 (4, 10)) h9 10 q8 [] := LJ.new h9e.symm F8 ow_eq
  generalize ow own7 q8 (4, 10) = own9 at *
  have s9 := f9.kp hs8 ho7 id
  have sd9 := f9.kp hdv8 odv7 id
  have hs9 : hS h9 x = some (10, 0) := by rw [s9.1]; exact hs8
  have ho9 : own9 x = (1, 0) := E9.at hs8 ho7
  have hdv9 : hS h9 dv = some (5, 4) := by rw [sd9.1]; exact hdv8
  have odv9 : own9 dv = (2, 0) := E9.at hdv8 odv7
  have A9 := A8.kept f9 E9.ex id id id
  have D9 := D8.keptT f9 o7a o7b id id
  have o9a : own9 q4 = (6, 0) := E9.at D8.1 o7a
  have o9b : own9 q5 = (7, 0) := E9.at D8.2.2.1 o7b
  have J9' := J8.kept f9 E9.ex id id
  have E09 : Ey own0 own9 h := E07.trans E9 F08.1
  have F09 : FT own0 h h9 T0 := F08.trans (f9.mono (fun _ z => z.elim)) E07
  have fA : FT own9 h9 (pR h9 x 4 (some q8)) (fun t => t = (1, 0)) := t_pR ho9 rfl
  have rA : ∀ j, j ≠ 4 → hR (pR h9 x 4 (some q8)) x j = hR h8 x j := fun j hj => by rw [hR_pR_ne (fun z => hj z.2), s9.2.2.2]
  refine ⟨hs9, init_loop (ml := q6) (pl := q8) (dv := dv) (u := u) own0 h (fun _ => 0) own9 (pR h9 x 4 (some q8)) ⟨⟨hs9, ho9, ?_⟩, ⟨by rw [rA 0 (by decide)]; exact r8b, hdv9, odv9, fun d hd => absurd hd (Nat.not_lt_zero _)⟩, by rw [rA 1 (by decide)]; exact r8c, ⟨q4, q5, by rw [rA 2 (by decide)]; exact r8d, D9.keptT fA o9a o9b (by simp) (by simp), o9a, o9b⟩, by rw [rA 3 (by decide)]; exact r8a, hR_pR_eq⟩ ⟨[], A9.kept fA Ey.rfl.ex (by simp) (by simp) (by simp), rfl, List.nodup_nil, fun p hp => by cases hp⟩ ⟨[], J9'.kept fA Ey.rfl.ex (by simp) (by simp), J9.kept fA Ey.rfl.ex (by simp) (by simp), rfl, fun k m hk => by simp at hk⟩ (F09.trans (fA.mono (fun t z => by rw [z]; simp [T0])) E09) E09 (by omega) (by omega) (fun own' D' h' C' F' E' => ⟨own', D', C', F', E'⟩)⟩
  show hI h9 x 5 = _
  rw [s9.2.1]
  exact i8 5
end IC
