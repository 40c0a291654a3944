/-! the state that the class and the reference have in common, and how the class holds it -/
/-- a message: its SUBMIT, the device it came from, that one's number, when accepted, when next, how often offered, its fate -/
abbrev SMs := List Nat × Nat × Nat × Nat × Nat × Nat × Nat
/-- a pile: from whom, reference, the parts -/
abbrev SPl := Nat × Nat × List (Option (List Nat))
/-- a device: number, on, inbox, reports, references, message numbers, piles, last text, its sender -/
abbrev SDv := Nat × Bool × List (List Nat) × List (List Nat) × Nat × Nat × List SPl × List Int32 × Nat
abbrev dNum (v : SDv) : Nat := v.1
abbrev dOn (v : SDv) : Bool := v.2.1
abbrev dInb (v : SDv) : List (List Nat) := v.2.2.1
abbrev dRep (v : SDv) : List (List Nat) := v.2.2.2.1
abbrev dRef (v : SDv) : Nat := v.2.2.2.2.1
abbrev dMn (v : SDv) : Nat := v.2.2.2.2.2.1
abbrev dPil (v : SDv) : List SPl := v.2.2.2.2.2.2.1
abbrev dTxt (v : SDv) : List Int32 := v.2.2.2.2.2.2.2.1
abbrev dSnd (v : SDv) : Nat := v.2.2.2.2.2.2.2.2
abbrev mSub (m : SMs) : List Nat := m.1
abbrev mOrg (m : SMs) : Nat := m.2.1
abbrev mFrm (m : SMs) : Nat := m.2.2.1
abbrev mAcc (m : SMs) : Nat := m.2.2.2.1
abbrev mNxt (m : SMs) : Nat := m.2.2.2.2.1
abbrev mOff (m : SMs) : Nat := m.2.2.2.2.2.1
abbrev mFate (m : SMs) : Nat := m.2.2.2.2.2.2
def sTo (bs : List Nat) : Nat := numN bs 4 (bt bs 2)
def sOld (bs : List Nat) (acc : Nat) : Nat := acc + 5 * (bt bs (sda bs - 1) + 1)
def lack (ps : List (Option (List Nat))) : Nat := ps.countP (fun o => o.isNone)
def pend (ms : List SMs) : List Nat := (List.range ms.length).filter (fun k => ms[k]?.any (fun m => mFate m = 0))
def Rz (own : Nat → Tg) (h : Hp) (p : Nat × Nat × List Nat) : Prop := Rw h p.1 p.2.1 p.2.2 ∧ own p.1 = (11, 0) ∧ own p.2.1 = (12, p.1)
def LN (G : Gx) (own : Nat → Tg) (h : Hp) (n a most : Nat) (rs : List (List Nat)) : Prop := ∃ ps : List (Nat × Nat × List Nat), LA G own h n a most (ps.map (fun p => p.1)) ∧ rs = ps.map (fun p => p.2.2) ∧ ∀ p ∈ ps, Rz own h p
def PZ (own : Nat → Tg) (h : Hp) (d a : Nat) (pl : SPl) : Prop := hS h a = some (17, 0) ∧ own a = (14, d) ∧ hL h a 0 = lN pl.1 ∧ hI h a 1 = nI pl.2.1 ∧ hI h a 3 = nI (lack pl.2.2) ∧ ∃ q, hR h a 2 = some q ∧ hS h q = some (4, pl.2.2.length) ∧ own q = (100 + a, d) ∧ ∀ k o, pl.2.2[k]? = some o → (o = none → hR h q k = none) ∧ ∀ bs, o = some bs → ∃ ra rb, hR h q k = some ra ∧ Rz own h (ra, rb, bs)
def PS (G : Gx) (own : Nat → Tg) (h : Hp) (d a : Nat) (pls : List SPl) : Prop := ∃ ps : List (Nat × SPl), LJ G own h (11 + d) a (ps.map (fun p => p.1)) ∧ pls = ps.map (fun p => p.2) ∧ (ps.map (fun p => p.1)).Nodup ∧ ∀ p ∈ ps, PZ own h d p.1 p.2
def DV (G : Gx) (own : Nat → Tg) (h : Hp) (D : Nat → Nat) (d : Nat) (v : SDv) : Prop := hS h (D d) = some (14, 0) ∧ own (D d) = (8, d) ∧ hL h (D d) 0 = lN (dNum v) ∧ hI h (D d) 1 = (if dOn v then 1 else 0) ∧ hI h (D d) 4 = nI (dRef v) ∧ hI h (D d) 5 = nI (dMn v) ∧ hI h (D d) 8 = nI (dTxt v).length ∧ hL h (D d) 9 = lN (dSnd v) ∧ (∃ i, hR h (D d) 2 = some i ∧ LN G own h (1 + d) i 6 (dInb v)) ∧ (∃ r, hR h (D d) 3 = some r ∧ LN G own h (5 + d) r 6 (dRep v)) ∧ (∃ p, hR h (D d) 6 = some p ∧ PS G own h d p (dPil v)) ∧ (∃ t, hR h (D d) 7 = some t ∧ hS h t = some (0, 480) ∧ own t = (9, d) ∧ ∀ j, j < (dTxt v).length → hI h t j = (dTxt v).getD j 0)
def UP (G : Gx) (own : Nat → Tg) (h : Hp) (D : Nat → Nat) (a : Nat) (up : List (Nat × List Nat)) : Prop := ∃ ps : List (Nat × Nat × Nat × List Nat), LA G own h 0 a 8 (ps.map (fun p => p.1)) ∧ up = ps.map (fun p => p.2.2) ∧ (ps.map (fun p => p.1)).Nodup ∧ ∀ p ∈ ps, Rw h p.1 p.2.1 p.2.2.2 ∧ own p.1 = (10, 0) ∧ own p.2.1 = (12, p.1) ∧ p.2.2.1 < 4 ∧ hR h p.1 2 = some (D p.2.2.1)
def MS (G : Gx) (own : Nat → Tg) (h : Hp) (D : Nat → Nat) (k a : Nat) (m : SMs) : Prop := hS h a = some (16, 0) ∧ own a = (13, k) ∧ (∃ ra rb, hR h a 0 = some ra ∧ Rz own h (ra, rb, mSub m)) ∧ mOrg m < 4 ∧ hR h a 1 = some (D (mOrg m)) ∧ hL h a 2 = lN (mFrm m) ∧ hI h a 3 = nI (mAcc m) ∧ hI h a 4 = nI (mNxt m) ∧ hL h a 5 = lN (sTo (mSub m)) ∧ hI h a 6 = nI (sOld (mSub m) (mAcc m)) ∧ hI h a 7 = nI (mOff m) ∧ hR h a 8 = some (gK G (4 + mFate m)) ∧ mFate m ≤ 3
def MG (G : Gx) (own : Nat → Tg) (h : Hp) (D : Nat → Nat) (ml pl : Nat) (ms : List SMs) : Prop := ∃ xs : List Nat, LJ G own h 9 ml xs ∧ LJ G own h 10 pl ((pend ms).map (fun k => xs.getD k 0)) ∧ xs.length = ms.length ∧ ∀ k m, ms[k]? = some m → MS G own h D k (xs.getD k 0) m
def CR (G : Gx) (own : Nat → Tg) (h : Hp) (D : Nat → Nat) (x : Nat) (dev : Nat → SDv) (up : List (Nat × List Nat)) (drf : List Nat) (ms : List SMs) (now : Nat) : Prop := (hS h x = some (10, 0) ∧ own x = (1, 0) ∧ hI h x 5 = nI now) ∧ (∃ dv, hR h x 0 = some dv ∧ hS h dv = some (5, 4) ∧ own dv = (2, 0) ∧ ∀ d, d < 4 → hR h dv d = some (D d)) ∧ (∃ u, hR h x 1 = some u ∧ UP G own h D u up) ∧ (∃ a b, hR h x 2 = some a ∧ DrA h a b (drf.map fm) ∧ own a = (6, 0) ∧ own b = (7, 0)) ∧ (∃ ml pl, hR h x 3 = some ml ∧ hR h x 4 = some pl ∧ MG G own h D ml pl ms) ∧ ∀ d, d < 4 → DV G own h D d (dev d)
section KP
variable {G : Gx} {own own' : Nat → Tg} {h h' : Hp} {D : Nat → Nat} {T : Tg → Prop}
theorem Rw.same {a b : Nat} {bs : List Nat} (R : Rw h a b bs) (s1 : Same h h' a) (s2 : Same h h' b) : Rw h' a b bs := R.kept s1.1 (by rw [s1.2.2.2]) s2.1 s2.2.1
/-- other rows' bytes stay -/
def NB (own : Nat → Tg) (T : Tg → Prop) : Prop := ¬ T (11, 0) ∧ ∀ a, own a = (11, 0) → ¬ T (12, a)
theorem Rz.kept {p : Nat × Nat × List Nat} (R : Rz own h p) (F : FT own h h' T) (E : Eo own own' h) (nb : NB own T) : Rz own' h' p := by
  obtain ⟨r, o1, o2⟩ := R
  exact ⟨r.same (F.kp r.1 o1 nb.1) (F.kp r.2.2.1 o2 (nb.2 _ o1)), E.at r.1 o1 (by simp), E.at r.2.2.1 o2 (by simp)⟩
theorem LN.kept {n a most : Nat} {rs : List (List Nat)} (L : LN G own h n a most rs) (F : FT own h h' T) (E : Eo own own' h) (nb : NB own T) (n3 : ¬ T (3, n)) (n4 : ¬ T (4, n)) (n5 : ¬ T (5, n)) : LN G own' h' n a most rs := by
  obtain ⟨ps, A, e, r⟩ := L
  exact ⟨ps, A.kept F E n3 n4 n5, e, fun p hp => (r p hp).kept F E nb⟩
theorem PZ.kept {d a : Nat} {pl : SPl} (P : PZ own h d a pl) (F : FT own h h' T) (E : Eo own own' h) (nb : NB own T) (n14 : ¬ T (14, d)) (n15 : ∀ a, ¬ T (100 + a, d)) : PZ own' h' d a pl := by
  obtain ⟨p1, p2, p3, p4, p5, q, p6, p7, p8, p9⟩ := P
  have s1 := F.kp p1 p2 n14
  have s2 := F.kp p7 p8 (n15 a)
  refine ⟨by rw [s1.1]; exact p1, E.at p1 p2 (by simp), by rw [s1.2.2.1]; exact p3, by rw [s1.2.1]; exact p4, by rw [s1.2.1]; exact p5, q, by rw [s1.2.2.2]; exact p6, by rw [s2.1]; exact p7, E.at p7 p8 (by simp <;> omega), fun k o ho => ⟨fun z => by rw [s2.2.2.2]; exact (p9 k o ho).1 z, fun bs hb => ?_⟩⟩
  obtain ⟨ra, rb, z1, z2⟩ := (p9 k o ho).2 bs hb
  exact ⟨ra, rb, by rw [s2.2.2.2]; exact z1, z2.kept F E nb⟩
theorem PS.kept {d a : Nat} {pls : List SPl} (P : PS G own h d a pls) (F : FT own h h' T) (E : Eo own own' h) (nb : NB own T) (n4 : ¬ T (4, 11 + d)) (n5 : ¬ T (5, 11 + d)) (n14 : ¬ T (14, d)) (n15 : ∀ a, ¬ T (100 + a, d)) : PS G own' h' d a pls := by
  obtain ⟨ps, A, e, nd, r⟩ := P
  exact ⟨ps, A.kept F E n4 n5, e, nd, fun p hp => (r p hp).kept F E nb n14 n15⟩
theorem DV.kept {d : Nat} {v : SDv} (V : DV G own h D d v) (F : FT own h h' T) (E : Eo own own' h) (nb : NB own T) (n8 : ¬ T (8, d)) (n9 : ¬ T (9, d)) (n3 : ¬ T (3, 1 + d) ∧ ¬ T (3, 5 + d)) (n4 : ¬ T (4, 1 + d) ∧ ¬ T (4, 5 + d) ∧ ¬ T (4, 11 + d)) (n5 : ¬ T (5, 1 + d) ∧ ¬ T (5, 5 + d) ∧ ¬ T (5, 11 + d)) (n14 : ¬ T (14, d)) (n15 : ∀ a, ¬ T (100 + a, d)) : DV G own' h' D d v := by
  obtain ⟨v1, v2, v3, v4, v5, v6, v7, v8, ⟨i, v9, v10⟩, ⟨r, v11, v12⟩, ⟨p, v13, v14⟩, t, v15, v16, v17, v18⟩ := V
  have s1 := F.kp v1 v2 n8
  have s2 := F.kp v16 v17 n9
  exact ⟨by rw [s1.1]; exact v1, E.at v1 v2 (by simp), by rw [s1.2.2.1]; exact v3, by rw [s1.2.1]; exact v4, by rw [s1.2.1]; exact v5, by rw [s1.2.1]; exact v6, by rw [s1.2.1]; exact v7, by rw [s1.2.2.1]; exact v8, ⟨i, by rw [s1.2.2.2]; exact v9, v10.kept F E nb n3.1 n4.1 n5.1⟩, ⟨r, by rw [s1.2.2.2]; exact v11, v12.kept F E nb n3.2 n4.2.1 n5.2.1⟩, ⟨p, by rw [s1.2.2.2]; exact v13, v14.kept F E nb n4.2.2 n5.2.2 n14 n15⟩, t, by rw [s1.2.2.2]; exact v15, by rw [s2.1]; exact v16, E.at v16 v17 (by simp), fun j hj => by rw [s2.2.1]; exact v18 j hj⟩
theorem UP.kept {a : Nat} {up : List (Nat × List Nat)} (U : UP G own h D a up) (F : FT own h h' T) (E : Ey own own' h) (n3 : ¬ T (3, 0)) (n4 : ¬ T (4, 0)) (n5 : ¬ T (5, 0)) (n10 : ¬ T (10, 0)) (n12 : ∀ a, ¬ T (12, a)) : UP G own' h' D a up := by
  obtain ⟨ps, A, e, nd, r⟩ := U
  refine ⟨ps, A.kept F E.ex n3 n4 n5, e, nd, fun p hp => ?_⟩
  obtain ⟨r1, r2, r3, r4, r5⟩ := r p hp
  have s1 := F.kp r1.1 r2 n10
  exact ⟨r1.same s1 (F.kp r1.2.2.1 r3 (n12 _)), E.at r1.1 r2, E.at r1.2.2.1 r3, r4, by rw [s1.2.2.2]; exact r5⟩
theorem MS.kept {k a : Nat} {m : SMs} (M : MS G own h D k a m) (F : FT own h h' T) (E : Eo own own' h) (nb : NB own T) (n13 : ¬ T (13, k)) : MS G own' h' D k a m := by
  obtain ⟨m1, m2, ⟨ra, rb, m3, m4⟩, m5, m6, m7, m8, m9, m10, m11, m12, m13, m14⟩ := M
  have s1 := F.kp m1 m2 n13
  exact ⟨by rw [s1.1]; exact m1, E.at m1 m2 (by simp), ⟨ra, rb, by rw [s1.2.2.2]; exact m3, m4.kept F E nb⟩, m5, by rw [s1.2.2.2]; exact m6, by rw [s1.2.2.1]; exact m7, by rw [s1.2.1]; exact m8, by rw [s1.2.1]; exact m9, by rw [s1.2.2.1]; exact m10, by rw [s1.2.1]; exact m11, by rw [s1.2.1]; exact m12, by rw [s1.2.2.2]; exact m13, m14⟩
theorem MG.kept {ml pl : Nat} {ms : List SMs} (M : MG G own h D ml pl ms) (F : FT own h h' T) (E : Eo own own' h) (nb : NB own T) (n4 : ¬ T (4, 9) ∧ ¬ T (4, 10)) (n5 : ¬ T (5, 9) ∧ ¬ T (5, 10)) (n13 : ∀ k, ¬ T (13, k)) : MG G own' h' D ml pl ms := by
  obtain ⟨xs, A, B, e, r⟩ := M
  exact ⟨xs, A.kept F E n4.1 n5.1, B.kept F E n4.2 n5.2, e, fun k m hk => (r k m hk).kept F E nb (n13 k)⟩
theorem DrA.keptT {a b : Nat} {fs : List (Option Nat)} (A : DrA h a b fs) (F : FT own h h' T) (o1 : own a = (6, 0)) (o2 : own b = (7, 0)) (n6 : ¬ T (6, 0)) (n7 : ¬ T (7, 0)) : DrA h' a b fs := by
  obtain ⟨a1, a2, a3, a4, a5, a6⟩ := A
  have s1 := F.kp a1 o1 n6
  have s2 := F.kp a3 o2 n7
  exact ⟨by rw [s1.1]; exact a1, by rw [s1.2.2.2]; exact a2, by rw [s2.1]; exact a3, by rw [s1.2.1]; exact a4, a5, fun j hj => by rw [s2.2.1]; exact a6 j hj⟩
end KP
