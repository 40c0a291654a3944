/-! who owns a cell: (1,0) the centre, (2,0) its devices' row, (3,n) line n, (4,n) list n, (5,n) its row, (6,0) draft, (7,0) its row, (8,d) device, (9,d) its text, (10,0) rows of the uplink, (11,0) other rows, (12,a) bytes of row a, (13,k) message k, (14,d) piles, (100+a,d) the parts' row of pile a of device d -/
abbrev Tg := Nat × Nat
def FT (own : Nat → Tg) (h h' : Hp) (T : Tg → Prop) : Prop := Fr h h' (fun x => T (own x))
def Eo (own own' : Nat → Tg) (h : Hp) : Prop := ∀ x, hS h x ≠ none → own x ≠ (10, 0) → own' x = own x
def Ey (own own' : Nat → Tg) (h : Hp) : Prop := ∀ x, hS h x ≠ none → own' x = own x
def ow (own : Nat → Tg) (a : Nat) (t : Tg) : Nat → Tg := fun x => if x = a then t else own x
theorem ow_eq {own : Nat → Tg} {a : Nat} {t : Tg} : ow own a t a = t := if_pos rfl
theorem ow_ne {own : Nat → Tg} {a x : Nat} {t : Tg} (n : x ≠ a) : ow own a t x = own x := if_neg n
theorem ow_id {own : Nat → Tg} {a : Nat} {t : Tg} (e : own a = t) : ow own a t = own := by
  funext x
  by_cases q : x = a
  · rw [q, ow_eq, e]
  · exact ow_ne q
theorem Ey.rfl {own : Nat → Tg} {h : Hp} : Ey own own h := fun _ _ => Eq.refl _
theorem Ey.ex {own own' : Nat → Tg} {h : Hp} (e : Ey own own' h) : Eo own own' h := fun x hx _ => e x hx
theorem Ey.ow {own : Nat → Tg} {h : Hp} {a : Nat} {t : Tg} (f : hS h a = none) : Ey own (ow own a t) h := fun x hx => ow_ne (fun e => hx (by rw [e]; exact f))
theorem Ey.trans {own own1 own2 : Nat → Tg} {h h1 : Hp} (a : Ey own own1 h) (b : Ey own1 own2 h1) (al : ∀ x, hS h x ≠ none → hS h1 x = hS h x) : Ey own own2 h := fun x hx => (b x (by rw [al x hx]; exact hx)).trans (a x hx)
theorem Eo.trans {own own1 own2 : Nat → Tg} {h h1 : Hp} (a : Eo own own1 h) (b : Eo own1 own2 h1) (al : ∀ x, hS h x ≠ none → hS h1 x = hS h x) : Eo own own2 h := fun x hx n => (b x (by rw [al x hx]; exact hx) (by rw [a x hx n]; exact n)).trans (a x hx n)
theorem FT.al {own : Nat → Tg} {h h' : Hp} {T : Tg → Prop} (F : FT own h h' T) : ∀ x, hS h x ≠ none → hS h' x = hS h x := F.1
theorem FT.kp {own : Nat → Tg} {h h' : Hp} {T : Tg → Prop} (F : FT own h h' T) {x : Nat} {kd : Nat × Nat} {t : Tg} (hx : hS h x = some kd) (ho : own x = t) (n : ¬ T t) : Same h h' x := F.2 x (by rw [hx]; exact fun z => by cases z) (by show ¬ T (own x); rw [ho]; exact n)
theorem FT.rfl {own : Nat → Tg} {h : Hp} {T : Tg → Prop} : FT own h h T := Fr.rfl
theorem FT.mono {own : Nat → Tg} {h h' : Hp} {T T' : Tg → Prop} (F : FT own h h' T) (c : ∀ t, T t → T' t) : FT own h h' T' := Fr.mono F (fun x => c (own x))
theorem FT.trans {own own1 : Nat → Tg} {h h1 h2 : Hp} {T : Tg → Prop} (F : FT own h h1 T) (F2 : FT own1 h1 h2 T) (e : Ey own own1 h) : FT own h h2 T := Fr.trans F F2 (fun x hx z => by rw [← e x hx]; exact z)
theorem FT.transx {own own1 : Nat → Tg} {h h1 h2 : Hp} {T : Tg → Prop} (F : FT own h h1 T) (F2 : FT own1 h1 h2 T) (e : Eo own own1 h) (t10 : T (10, 0)) : FT own h h2 T := Fr.trans F F2 (fun x hx z => by
  by_cases q : own x = (10, 0)
  · show T (own x)
    rw [q]; exact t10
  · show T (own x)
    rw [← e x hx q]; exact z)
theorem ne_none {h : Hp} {x : Nat} {kd : Nat × Nat} (hx : hS h x = some kd) : hS h x ≠ none := by rw [hx]; exact fun z => by cases z
theorem Eo.at {own own' : Nat → Tg} {h : Hp} (e : Eo own own' h) {x : Nat} {kd : Nat × Nat} {t : Tg} (hx : hS h x = some kd) (ho : own x = t) (n : t ≠ (10, 0)) : own' x = t := by rw [e x (ne_none hx) (by rw [ho]; exact n), ho]
theorem Ey.at {own own' : Nat → Tg} {h : Hp} (e : Ey own own' h) {x : Nat} {kd : Nat × Nat} {t : Tg} (hx : hS h x = some kd) (ho : own x = t) : own' x = t := by rw [e x (ne_none hx), ho]
theorem t_pI {own : Nat → Tg} {h : Hp} {a k : Nat} {v : Int32} {t : Tg} {T : Tg → Prop} (ho : own a = t) (ht : T t) : FT own h (pI h a k v) T := Fr.mono fr_pI (fun x e => by show T (own x); rw [e, ho]; exact ht)
theorem t_pL {own : Nat → Tg} {h : Hp} {a k : Nat} {v : Int64} {t : Tg} {T : Tg → Prop} (ho : own a = t) (ht : T t) : FT own h (pL h a k v) T := Fr.mono fr_pL (fun x e => by show T (own x); rw [e, ho]; exact ht)
theorem t_pR {own : Nat → Tg} {h : Hp} {a k : Nat} {v : Option Nat} {t : Tg} {T : Tg → Prop} (ho : own a = t) (ht : T t) : FT own h (pR h a k v) T := Fr.mono fr_pR (fun x e => by show T (own x); rw [e, ho]; exact ht)
theorem t_pN {own : Nat → Tg} {h : Hp} {a : Nat} {kd : Nat × Nat} {T : Tg → Prop} (f : hS h a = none) : FT own h (pN h a kd) T := fr_pN f
theorem t_Wr {own : Nat → Tg} {h h' : Hp} {a b : Nat} {T : Tg → Prop} (W : Wr h h' a b) (ha : T (own a)) (hb : T (own b)) : FT own h h' T := Fr.mono W.Fr (fun x e => by
  rcases e with e | e
  · show T (own x); rw [e]; exact ha
  · show T (own x); rw [e]; exact hb)
/-- a list and its row, by their owner -/
def LJ (G : Gx) (own : Nat → Tg) (h : Hp) (n a : Nat) (xs : List Nat) : Prop := ∃ e cap, ALe G h a e cap xs ∧ own a = (4, n) ∧ ((e = gK G 0 ∧ xs = [] ∧ cap = 0) ∨ (hS h e = some (3, cap) ∧ own e = (5, n)))
def t45 (n : Nat) : Tg → Prop := fun t => t = (4, n) ∨ t = (5, n)
section LJ
variable {G : Gx} {l : Launch} {d w : Nat} {own own' : Nat → Tg} {h h' : Hp} {n a : Nat} {xs : List Nat}
theorem LJ.kept {T : Tg → Prop} (L : LJ G own h n a xs) (F : FT own h h' T) (E : Eo own own' h) (n4 : ¬ T (4, n)) (n5 : ¬ T (5, n)) : LJ G own' h' n a xs := by
  obtain ⟨e, cap, A, o1, o2⟩ := L
  have s1 := F.kp A.1 o1 n4
  rcases o2 with o2 | ⟨o2, o3⟩
  · exact ⟨e, cap, ⟨by rw [s1.1]; exact A.1, by rw [s1.2.1]; exact A.2.1, A.2.2.1, by rw [s1.2.2.2]; exact A.2.2.2.1, Or.inl o2⟩, E.at A.1 o1 (by simp), Or.inl o2⟩
  · have s2 := F.kp o2 o3 n5
    exact ⟨e, cap, A.kept s1 (fun _ => s2), E.at A.1 o1 (by simp), Or.inr ⟨by rw [s2.1]; exact o2, E.at o2 o3 (by simp)⟩⟩
theorem LJ.hs (L : LJ G own h n a xs) : hS h a = some (12, 0) := by
  obtain ⟨e, cap, A, o1, o2⟩ := L
  exact A.1
theorem LJ.ow (L : LJ G own h n a xs) : own a = (4, n) := by
  obtain ⟨e, cap, A, o1, o2⟩ := L
  exact o1
theorem LJ.len (L : LJ G own h n a xs) : xs.length ≤ 120 := by
  obtain ⟨e, cap, A, o1, o2⟩ := L
  exact A.2.2.1
theorem c_LJ_size (L : LJ G own h n a xs) : Ci G l M_AL_size (d + 0) (w + 0) [.ref a] h 0 0 (Xi (nI xs.length) h) := by
  obtain ⟨e, cap, A, o1, o2⟩ := L
  exact c_AL_size A
theorem c_LJ_isEmpty (L : LJ G own h n a xs) : Ci G l M_AL_isEmpty (d + 0) (w + 0) [.ref a] h 0 0 (Xi (if xs.length = 0 then 1 else 0) h) := by
  obtain ⟨e, cap, A, o1, o2⟩ := L
  exact c_AL_isEmpty A
theorem c_LJ_get {j : Nat} (L : LJ G own h n a xs) (hj : j < xs.length) : Cr G l M_AL_get (d + 3) (w + 73) [.ref a, .int (nI j)] h 0 0 (Xq (some (xs.getD j 0)) h) := by
  obtain ⟨e, cap, A, o1, o2⟩ := L
  exact c_AL_get A hj
theorem LJ.fr (L : LJ G own h n a xs) (kf : KF G h) {e cap : Nat} (A : ALe G h a e cap xs) (F : Fr h h' (fun x => x = a ∨ x = e)) : FT own h h' (t45 n) := by
  obtain ⟨e2, cap2, A2, o1, o2⟩ := L
  have ee : e = e2 := by
    have := A.2.2.2.1
    rw [A2.2.2.2.1] at this
    cases this
    rfl
  subst ee
  refine ⟨F.1, fun x hx nx => F.2 x hx (fun z => ?_)⟩
  rcases z with z | z
  · exact nx (Or.inl (by rw [z]; exact o1))
  · rcases o2 with ⟨q, -⟩ | ⟨-, q⟩
    · exact hx (by rw [z, q]; exact kf)
    · exact nx (Or.inr (by rw [z]; exact q))
theorem c_LJ_add {v : Nat} (L : LJ G own h n a xs) (hn : xs.length < 120) (hv : ObjA G h v 3) (hva : v ≠ a) (hO : ∀ x ∈ xs, ObjA G h x 3) : Ci G l M_AL_add (d + 6) (w + 141) [.ref a, .ref v] h 1 400 (fun _ h' => (∃ own', LJ G own' h' n a (xs ++ [v]) ∧ FT own h h' (t45 n) ∧ Ey own own' h) ∧ KF G h') := by
  refine Ci.kf (fun kf => ?_)
  have L0 := L
  obtain ⟨e, cap, A, o1, o2⟩ := L
  refine (c_AL_add A hn hv hva hO).mono ?_
  rintro _ h' ⟨e', c', A', q, F⟩
  have FF := L0.fr kf A F
  have hl : (xs ++ [v]).length ≠ 0 := by simp
  have h3 : hS h' e' = some (3, c') := by
    rcases A'.2.2.2.2 with ⟨-, z, -⟩ | ⟨z, -⟩
    · exact absurd (congrArg List.length z) hl
    · exact z
  rcases q with q | q
  · rcases o2 with ⟨z, z2, z3⟩ | ⟨z, z2⟩
    · refine ⟨ow own e' (5, n), ⟨e', c', A', ?_, Or.inr ⟨h3, ow_eq⟩⟩, FF, ?_⟩
      · rw [ow_ne]
        · exact o1
        · intro y
          have := A'.1
          rw [y, h3] at this
          cases this
      · exact Ey.ow (by rw [q, z]; exact kf)
    · exact ⟨own, ⟨e', c', A', o1, Or.inr ⟨h3, by rw [q]; exact z2⟩⟩, FF, Ey.rfl⟩
  · refine ⟨ow own e' (5, n), ⟨e', c', A', ?_, Or.inr ⟨h3, ow_eq⟩⟩, FF, Ey.ow q⟩
    rw [ow_ne]
    · exact o1
    · intro y
      have := A'.1
      rw [y, h3] at this
      cases this
theorem c_LJ_remove {j : Nat} (L : LJ G own h n a xs) (hj : j < xs.length) (hO : ∀ x ∈ xs, ObjA G h x 3) : Cr G l M_AL_remove (d + 3) (w + 73) [.ref a, .int (nI j)] h 0 0 (fun x h' => (x = some (xs.getD j 0) ∧ LJ G own h' n a (xs.eraseIdx j) ∧ FT own h h' (t45 n)) ∧ KF G h') := by
  refine Cr.kf (fun kf => ?_)
  have L0 := L
  obtain ⟨e, cap, A, o1, o2⟩ := L
  refine (c_AL_remove A hj hO).mono ?_
  rintro _ h' ⟨rfl, A', F⟩
  have FF := L0.fr kf A F
  rcases o2 with ⟨z, z2, z3⟩ | ⟨z, z2⟩
  · rw [z2] at hj
    exact absurd hj (Nat.not_lt_zero _)
  · exact ⟨rfl, ⟨e, cap, A', o1, Or.inr ⟨by rw [F.1 e (ne_none z)]; exact z, z2⟩⟩, FF⟩
/-- a line -/
def LA (G : Gx) (own : Nat → Tg) (h : Hp) (n a most : Nat) (xs : List Nat) : Prop := hS h a = some (11, 0) ∧ own a = (3, n) ∧ hI h a 1 = nI most ∧ most ≤ 100 ∧ (∀ x ∈ xs, hS h x = some (15, 0)) ∧ xs.length ≤ most ∧ ∃ la, hR h a 0 = some la ∧ LJ G own h n la xs
theorem LA.kept {most : Nat} {T : Tg → Prop} (L : LA G own h n a most xs) (F : FT own h h' T) (E : Eo own own' h) (n3 : ¬ T (3, n)) (n4 : ¬ T (4, n)) (n5 : ¬ T (5, n)) : LA G own' h' n a most xs := by
  obtain ⟨l1, l2, l3, l4, l5, l6, la, l7, l8⟩ := L
  have s1 := F.kp l1 l2 n3
  exact ⟨by rw [s1.1]; exact l1, E.at l1 l2 (by simp), by rw [s1.2.1]; exact l3, l4, fun x hx => by rw [F.1 x (ne_none (l5 x hx))]; exact l5 x hx, l6, la, by rw [s1.2.2.2]; exact l7, l8.kept F E n4 n5⟩
theorem LA.ln {most : Nat} (L : LA G own h n a most xs) : ∃ la e cap, LnA G h a la e cap most xs ∧ ALe G h la e cap xs ∧ own la = (4, n) ∧ ((e = gK G 0 ∧ xs = [] ∧ cap = 0) ∨ (hS h e = some (3, cap) ∧ own e = (5, n))) := by
  obtain ⟨l1, l2, l3, l4, l5, l6, la, l7, e, cap, A, o1, o2⟩ := L
  exact ⟨la, e, cap, ⟨l1, l7, l3, l4, A, l5⟩, A, o1, o2⟩
theorem c_LA_size {most : Nat} (L : LA G own h n a most xs) : Ci G l M_Li_size (d + 1) (w + 20) [.ref a] h 0 0 (Xi (nI xs.length) h) := by
  obtain ⟨la, e, cap, L', -⟩ := L.ln
  exact c_Li_size L'
theorem c_LA_room {most : Nat} (L : LA G own h n a most xs) : Ci G l M_Li_room (d + 1) (w + 20) [.ref a] h 0 0 (Xi (nI (most - xs.length)) h) := by
  obtain ⟨la, e, cap, L', -⟩ := L.ln
  exact c_Li_room L' L.2.2.2.2.2.1
theorem c_LA_first {most : Nat} (L : LA G own h n a most xs) : Cr G l M_Li_first (d + 4) (w + 94) [.ref a] h 0 0 (Xq xs.head? h) := by
  obtain ⟨la, e, cap, L', -⟩ := L.ln
  exact c_Li_first L'
theorem c_LA_removeFirst0 {most : Nat} (L : LA G own h n a most []) : Cr G l M_Li_removeFirst (d + 4) (w + 96) [.ref a] h 0 0 (Xq none h) := by
  obtain ⟨la, e, cap, L', -⟩ := L.ln
  exact c_Li_removeFirst0 L'
theorem LJ.mk' {e cap : Nat} (A : ALe G h a e cap xs) (o1 : own a = (4, n)) (o2 : hS h e = some (3, cap)) (o3 : own e = (5, n)) : LJ G own h n a xs := ⟨e, cap, A, o1, Or.inr ⟨o2, o3⟩⟩
theorem c_LA_removeFirst {y most : Nat} (L : LA G own h n a most (y :: xs)) : Cr G l M_Li_removeFirst (d + 4) (w + 96) [.ref a] h 0 0 (fun x h' => (x = some y ∧ LA G own h' n a most xs ∧ FT own h h' (t45 n)) ∧ KF G h') := by
  refine Cr.kf (fun kf => ?_)
  obtain ⟨la, e, cap, L', A, o1, o2⟩ := L.ln
  refine (c_Li_removeFirst L').mono ?_
  rintro _ h' ⟨⟨rfl, M, F⟩, kf'⟩
  obtain ⟨m1, m2, m3, m4, m5, m6⟩ := M
  have FF := LJ.fr ⟨e, cap, A, o1, o2⟩ kf A F
  rcases o2 with ⟨-, z, -⟩ | ⟨z, z2⟩
  · cases z
  · refine ⟨rfl, ⟨m1, L.2.1, m3, m4, m6, ?_, la, m2, e, cap, m5, o1, Or.inr ⟨by rw [F.1 e (ne_none z)]; exact z, z2⟩⟩, FF⟩
    have := L.2.2.2.2.2.1
    simp only [List.length_cons] at this
    omega
theorem c_LA_append {v most : Nat} (L : LA G own h n a most xs) (hm : xs.length < most) (hv : hS h v = some (15, 0)) : Cv G l M_Li_append (d + 7) (w + 162) [.ref a, .ref v] h 1 400 (fun h' => (∃ own', LA G own' h' n a most (xs ++ [v]) ∧ FT own h h' (t45 n) ∧ Ey own own' h) ∧ KF G h') := by
  refine Cv.kf (fun kf => ?_)
  obtain ⟨la, e, cap, L', A, o1, o2⟩ := L.ln
  refine (c_Li_append L' hm hv).mono ?_
  rintro h' ⟨⟨e', c', M, q, F⟩, kf'⟩
  obtain ⟨m1, m2, m3, m4, A', m6⟩ := M
  have FF := LJ.fr ⟨e, cap, A, o1, o2⟩ kf A F
  have hl : (xs ++ [v]).length ≠ 0 := by simp
  have h3 : hS h' e' = some (3, c') := by
    rcases A'.2.2.2.2 with ⟨-, z, -⟩ | ⟨z, -⟩
    · exact absurd (congrArg List.length z) hl
    · exact z
  have hlen : (xs ++ [v]).length ≤ most := by simp; omega
  have k1 : la ≠ e' := fun y => by
    have := A'.1
    rw [y, h3] at this
    cases this
  have k2 : a ≠ e' := fun y => by
    rw [y, h3] at m1
    cases m1
  rcases q with q | q
  · rcases o2 with ⟨z, z2, z3⟩ | ⟨z, z2⟩
    · exact ⟨ow own e' (5, n), ⟨m1, by rw [ow_ne k2]; exact L.2.1, m3, m4, m6, hlen, la, m2, e', c', A', by rw [ow_ne k1]; exact o1, Or.inr ⟨h3, ow_eq⟩⟩, FF, Ey.ow (by rw [q, z]; exact kf)⟩
    · exact ⟨own, ⟨m1, L.2.1, m3, m4, m6, hlen, la, m2, e', c', A', o1, Or.inr ⟨h3, by rw [q]; exact z2⟩⟩, FF, Ey.rfl⟩
  · exact ⟨ow own e' (5, n), ⟨m1, by rw [ow_ne k2]; exact L.2.1, m3, m4, m6, hlen, la, m2, e', c', A', by rw [ow_ne k1]; exact o1, Or.inr ⟨h3, ow_eq⟩⟩, FF, Ey.ow q⟩
theorem c_LA_swap {y z most : Nat} (L : LA G own h n a most (y :: z :: xs)) : Ci G l M_Li_exchangeFirstTwo (d + 4) (w + 96) [.ref a] h 0 0 (fun x h' => (x = 1 ∧ LA G own h' n a most (z :: y :: xs) ∧ FT own h h' (t45 n)) ∧ KF G h') := by
  refine Ci.kf (fun kf => ?_)
  obtain ⟨la, e, cap, L', A, o1, o2⟩ := L.ln
  refine (c_Li_swap L').mono ?_
  rintro _ h' ⟨⟨rfl, M, F⟩, kf'⟩
  obtain ⟨m1, m2, m3, m4, m5, m6⟩ := M
  have FF := LJ.fr ⟨e, cap, A, o1, o2⟩ kf A (F.mono (fun x z => Or.inr z))
  rcases o2 with ⟨-, z, -⟩ | ⟨z, z2⟩
  · cases z
  · exact ⟨rfl, ⟨m1, L.2.1, m3, m4, m6, L.2.2.2.2.2.1, la, m2, e, cap, m5, o1, Or.inr ⟨by rw [F.1 e (ne_none z)]; exact z, z2⟩⟩, FF⟩
theorem c_LA_swapN {most : Nat} (L : LA G own h n a most xs) (hl : xs.length < 2) : Ci G l M_Li_exchangeFirstTwo (d + 4) (w + 96) [.ref a] h 0 0 (Xi 0 h) := by
  obtain ⟨la, e, cap, L', -⟩ := L.ln
  exact c_Li_swapN L' hl
end LJ
