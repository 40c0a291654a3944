/-! what each call does to the common state, and what it answers -/
abbrev SS := (Nat → SDv) × List (Nat × List Nat) × List Nat × List SMs × Nat
def devOf (y : Int32) : Option Nat := if 0 ≤ y ∧ y < 4 then some y.toNatClampNeg else none
theorem devOf_nI {k : Nat} (hk : k < 4) : devOf (nI k) = some k := by
  unfold devOf
  rw [if_pos ⟨nI_pos' (by omega), (ltL (by omega) (by decide)).mpr hk⟩, nI_clamp (by omega)]
theorem devOf_no {y : Int32} (hy : ¬ (0 ≤ y ∧ y < 4)) : devOf y = none := by
  unfold devOf
  rw [if_neg hy]
def lNat (n : Int64) : Nat := n.toInt.toNat
theorem lNat_lN {v : Nat} (h : v < 9223372036854775808) : lNat (lN v) = v := by
  unfold lNat
  rw [pk_lT h]
  rfl
def setNum (v : SDv) (n : Nat) : SDv := (n, v.2)
def setOn (v : SDv) (b : Bool) : SDv := (v.1, b, v.2.2)
def sReg (S : SS) (y : Int32) (n : Int64) : SS × Int32 := match devOf y with
  | none => (S, 0)
  | some k => if 1 ≤ n ∧ n ≤ 999999999999 then ((updD S.1 k (setNum (S.1 k) (lNat n)), S.2), 1) else (S, 0)
def sPow (S : SS) (y : Int32) (b : Bool) : SS × Int32 := match devOf y with
  | none => (S, 0)
  | some k => ((updD S.1 k (setOn (S.1 k) b), S.2), 1)
def sTyp (S : SS) (c : Nat) (n : Int32) : SS × Int32 := if 1 ≤ n ∧ n ≤ 160 ∧ S.2.2.1.length + n.toNatClampNeg ≤ 480 then ((S.1, S.2.1, S.2.2.1 ++ List.replicate n.toNatClampNeg c, S.2.2.2), 1) else (S, 0)
def sWip (S : SS) : SS := (S.1, S.2.1, [], S.2.2.2)
def sAlt (S : SS) (i x : Int32) : SS × Int32 := match S.2.1 with
  | [] => (S, 0)
  | p :: r => if 0 ≤ i ∧ i < nI p.2.length ∧ 1 ≤ x ∧ x ≤ 255 then ((S.1, (p.1, p.2.set i.toNatClampNeg (bt p.2 i.toNatClampNeg ^^^ x.toNatClampNeg)) :: r, S.2.2), 1) else (S, 0)
def sTak (S : SS) (y : Int32) : SS × Int32 := match devOf y with
  | none => (S, -1)
  | some k => match dInb (S.1 k) with
    | [] => (S, -100)
    | r :: rs => ((updD S.1 k (rdD (setInb (S.1 k) rs) r).1, S.2), (rdD (setInb (S.1 k) rs) r).2)
def sCop (S : SS) (y : Int32) : SS × Int32 := match devOf y with
  | none => (S, 0)
  | some k => match dInb (S.1 k) with
    | [] => (S, 0)
    | r :: rs => if rs.length = 5 then (S, 0) else ((updD S.1 k (setInb (S.1 k) (r :: rs ++ [r])), S.2), 1)
def sSwp (S : SS) (y : Int32) : SS × Int32 := match devOf y with
  | none => (S, 0)
  | some k => match dInb (S.1 k) with
    | [] => (S, 0)
    | [_] => (S, 0)
    | a :: b :: rs => ((updD S.1 k (setInb (S.1 k) (b :: a :: rs)), S.2), 1)
def sRpt (S : SS) (y : Int32) : SS × Int32 := match devOf y with
  | none => (S, -1)
  | some k => match dRep (S.1 k) with
    | [] => (S, -2)
    | r :: rs => ((updD S.1 k (setRep (S.1 k) rs), S.2), 256 * nI (bt r (r.length - 1)) + nI (bt r 1))
def linOf (S : SS) (y : Int32) : Option (List (List Nat)) := if y = -1 then some (S.2.1.map (fun p => p.2)) else match devOf y with
  | some k => some (dInb (S.1 k))
  | none => match devOf (y - 4) with
    | some k => if y < 4 then none else some (dRep (S.1 k))
    | none => none
def sWai (S : SS) (y : Int32) : Int32 := match linOf S y with
  | none => -1
  | some L => nI L.length
def sByt (S : SS) (y i : Int32) : Int32 := match linOf S y with
  | none => -2
  | some [] => -2
  | some (r :: _) => if i < 0 ∨ nI r.length ≤ i then -2 else nI (bt r i.toNatClampNeg)
def sTxt (S : SS) (y i : Int32) : Int32 := match devOf y with
  | none => -2
  | some k => if i < 0 ∨ nI (dTxt (S.1 k)).length ≤ i then -2 else (dTxt (S.1 k)).getD i.toNatClampNeg 0
def sSnd (S : SS) (y : Int32) : Int64 := match devOf y with
  | none => 0
  | some k => lN (dSnd (S.1 k))
def m0 : SMs := ([], 0, 0, 0, 0, 0, 0)
def sSta (S : SS) (m : Int32) : Int32 := if m < 0 ∨ nI S.2.2.2.1.length ≤ m then -2 else nI (mFate (S.2.2.2.1.getD m.toNatClampNeg m0))
def sOff (S : SS) (m : Int32) : Int32 := if m < 0 ∨ nI S.2.2.2.1.length ≤ m then -2 else nI (mOff (S.2.2.2.1.getD m.toNatClampNeg m0))
/-- what is known of a device -/
def DW (v : SDv) : Prop := dNum v < 1000000000000 ∧ (∀ r ∈ dInb v, DK r) ∧ (dInb v).length ≤ 6 ∧ (∀ r ∈ dRep v, 2 ≤ r.length ∧ r.length ≤ 160 ∧ ∀ j, bt r j < 256) ∧ (dRep v).length ≤ 6 ∧ dRef v < 256 ∧ dMn v < 256 ∧ (dPil v).length ≤ 3 ∧ (∀ pl ∈ dPil v, PK pl) ∧ (dTxt v).length ≤ 480 ∧ dSnd v < 1000000000000
/-- of a row of the uplink -/
def UW (dev : Nat → SDv) (p : Nat × List Nat) : Prop := p.1 < 4 ∧ 9 ≤ p.2.length ∧ p.2.length ≤ 154 ∧ (∀ j, bt p.2 j < 256) ∧ 1 ≤ dNum (dev p.1)
/-- of a message -/
def MW (now : Nat) (m : SMs) : Prop := Lg (mSub m) ∧ (mSub m).length ≤ 154 ∧ (∀ j, bt (mSub m) j < 256) ∧ mOrg m < 4 ∧ 1 ≤ mFrm m ∧ mFrm m < 1000000000000 ∧ mAcc m ≤ now ∧ mFate m ≤ 3 ∧ mNxt m ≤ sOld (mSub m) (mAcc m) + 16 ∧ mAcc m + mOff m ≤ mNxt m + 1 ∧ (mFate m = 0 → mAcc m + mOff m ≤ mNxt m)
def WF (S : SS) : Prop := (∀ d, d < 4 → DW (S.1 d)) ∧ S.2.1.length ≤ 8 ∧ (∀ p ∈ S.2.1, UW S.1 p) ∧ S.2.2.1.length ≤ 480 ∧ (∀ c ∈ S.2.2.1, c < 65536) ∧ S.2.2.2.1.length ≤ 100 ∧ (pend S.2.2.2.1).length ≤ 12 ∧ (∀ m ∈ S.2.2.2.1, MW S.2.2.2.2 m) ∧ S.2.2.2.2 ≤ 60000000
def CS (G : Gx) (own : Nat → Tg) (h : Hp) (D : Nat → Nat) (x : Nat) (S : SS) : Prop := CR G own h D x S.1 S.2.1 S.2.2.1 S.2.2.2.1 S.2.2.2.2
/-- what a call leaves -/
def CQ (G : Gx) (D : Nat → Nat) (x : Nat) (own : Nat → Tg) (h : Hp) (S : SS) (h' : Hp) : Prop := ∃ own', CS G own' h' D x S ∧ FT own h h' T0 ∧ Eo own own' h
section SP
variable {G : Gx} {l : Launch} {d w : Nat} {own own' : Nat → Tg} {h h' : Hp} {D : Nat → Nat} {x : Nat} {S : SS}
theorem CQ.same (C : CS G own h D x S) : CQ G D x own h S h := ⟨own, C, FT.rfl, Ey.rfl.ex⟩
theorem CS.dvv {k : Nat} (C : CS G own h D x S) (hk : k < 4) : DV G own h D k (S.1 k) := C.2.2.2.2.2 k hk
theorem CS.hs (C : CS G own h D x S) : hS h x = some (10, 0) := C.1.1
theorem CQ.dv {k : Nat} {v : SDv} (C : CS G own h D x S) (F : FT own h h' (TD k)) (E : Ey own own' h) (hk : k < 4) (V : DV G own' h' D k v) : CQ G D x own h (updD S.1 k v, S.2) h' := ⟨own', C.dv F E hk V, F.mono TD.t0, E.ex⟩
theorem c_SC_register {y : Int32} {n : Int64} (C : CS G own h D x S) : Ci G l M_SC_register (d + 1) (w + 21) [.ref x, .int y, .long n] h 0 0 (fun r h' => r = (sReg S y n).2 ∧ CQ G D x own h (sReg S y n).1 h') := by
  refine ok_SC_register ?_
  unfold wp_SC_register wJ_SC_register_19 sReg
  rcases int_dev y with ⟨k, hk, rfl⟩ | hy
  · rw [devOf_nI hk]
    refine ⟨C.hs, _, c_dvY C hk, ?_⟩
    rintro _ _ ⟨rfl, rfl⟩
    refine ⟨fun z => (by cases z), fun q hq => ?_⟩
    cases hq
    refine ⟨_, c_isNum, ?_⟩
    rintro _ _ ⟨rfl, ⟨rfl, hn⟩ | ⟨rfl, hn⟩⟩
    · have V := C.dvv hk
      obtain ⟨v, rfl, n1, n2⟩ := num_of hn
      refine ⟨fun _ => ⟨V.1, ?_⟩, fun c => absurd c (by decide)⟩
      dsimp only
      rw [if_pos hn, lNat_lN (by omega)]
      refine ⟨rfl, ?_⟩
      have F : FT own h (pL h (D k) 0 (lN v)) (fun t => t = (8, k)) := t_pL V.2.1 rfl
      refine CQ.dv C (F.mono (fun t z => Or.inl z)) Ey.rfl hk ?_
      obtain ⟨v1, v2, v3, v4, v5, v6, v7, v8, ⟨i, v9, v10⟩, ⟨r, v11, v12⟩, ⟨p, v13, v14⟩, t, v15, v16, v17, v18⟩ := V
      have nb : NB own (fun t => t = (8, k)) := ⟨by simp, fun a _ => by simp⟩
      exact ⟨v1, v2, hL_pL_eq, v4, v5, v6, v7, by rw [hL_pL_ne (by omega)]; exact v8, ⟨i, v9, v10.kept F Ey.rfl.ex nb (by simp) (by simp) (by simp)⟩, ⟨r, v11, v12.kept F Ey.rfl.ex nb (by simp) (by simp) (by simp)⟩, ⟨p, v13, v14.kept F Ey.rfl.ex nb (by simp) (by simp) (by simp) (by simp <;> omega)⟩, t, v15, v16, v17, v18⟩
    · refine ⟨fun c => absurd rfl c, fun _ => ?_⟩
      dsimp only
      rw [if_neg hn]
      exact ⟨rfl, CQ.same C⟩
  · rw [devOf_no hy]
    refine ⟨C.hs, _, c_dvN hy, ?_⟩
    rintro _ _ ⟨rfl, rfl⟩
    exact ⟨fun _ => ⟨rfl, CQ.same C⟩, fun q hq => by cases hq⟩
theorem c_SC_power {y : Int32} {b : Bool} (C : CS G own h D x S) : Ci G l M_SC_power (d + 1) (w + 21) [.ref x, .int y, .int (if b then 1 else 0)] h 0 0 (fun r h' => r = (sPow S y b).2 ∧ CQ G D x own h (sPow S y b).1 h') := by
  refine ok_SC_power ?_
  unfold wp_SC_power sPow
  rcases int_dev y with ⟨k, hk, rfl⟩ | hy
  · rw [devOf_nI hk]
    refine ⟨C.hs, _, c_dvY C hk, ?_⟩
    rintro _ _ ⟨rfl, rfl⟩
    refine ⟨fun z => (by cases z), fun q hq => ?_⟩
    cases hq
    have V := C.dvv hk
    refine ⟨V.1, by cases b <;> simp, rfl, ?_⟩
    have F : FT own h (pI h (D k) 1 (if b then 1 else 0)) (fun t => t = (8, k)) := t_pI V.2.1 rfl
    refine CQ.dv C (F.mono (fun t z => Or.inl z)) Ey.rfl hk ?_
    obtain ⟨v1, v2, v3, v4, v5, v6, v7, v8, ⟨i, v9, v10⟩, ⟨r, v11, v12⟩, ⟨p, v13, v14⟩, t, v15, v16, v17, v18⟩ := V
    have nb : NB own (fun t => t = (8, k)) := ⟨by simp, fun a _ => by simp⟩
    have nt : t ≠ D k := fun z => by rw [z, v1] at v16; cases v16
    exact ⟨v1, v2, v3, hI_pI_eq, by rw [hI_pI_ne (by omega)]; exact v5, by rw [hI_pI_ne (by omega)]; exact v6, by rw [hI_pI_ne (by omega)]; exact v7, v8, ⟨i, v9, v10.kept F Ey.rfl.ex nb (by simp) (by simp) (by simp)⟩, ⟨r, v11, v12.kept F Ey.rfl.ex nb (by simp) (by simp) (by simp)⟩, ⟨p, v13, v14.kept F Ey.rfl.ex nb (by simp) (by simp) (by simp) (by simp <;> omega)⟩, t, v15, v16, v17, fun j hj => by rw [hI_pI_ne (fun z => nt z.1)]; exact v18 j hj⟩
  · rw [devOf_no hy]
    refine ⟨C.hs, _, c_dvN hy, ?_⟩
    rintro _ _ ⟨rfl, rfl⟩
    exact ⟨fun _ => ⟨rfl, CQ.same C⟩, fun q hq => by cases hq⟩
/-- the draft has changed -/
theorem CS.dr {a b : Nat} {drf : List Nat} (C : CS G own h D x S) (ha : hR h x 2 = some a) (o1 : own a = (6, 0)) (o2 : own b = (7, 0)) (A : DrA h' a b (drf.map fm)) (W : Wr h h' a b) : CQ G D x own h (S.1, S.2.1, drf, S.2.2.2) h' := by
  have F : FT own h h' (fun t => t = (6, 0) ∨ t = (7, 0)) := t_Wr W (Or.inl o1) (Or.inr o2)
  obtain ⟨⟨c1, c2, c3⟩, ⟨dv, c4, c5, c6, c7⟩, ⟨u, c8, c9⟩, ⟨a', b', c10, c11, c12, c13⟩, ⟨ml, pl, c14, c15, c16⟩, c17⟩ := C
  have nb : NB own (fun t => t = (6, 0) ∨ t = (7, 0)) := ⟨by simp, fun a _ => by simp⟩
  have s1 := F.kp c1 c2 (by simp)
  have s2 := F.kp c5 c6 (by simp)
  refine ⟨own, ⟨⟨by rw [s1.1]; exact c1, c2, by rw [s1.2.1]; exact c3⟩, ⟨dv, by rw [s1.2.2.2]; exact c4, by rw [s2.1]; exact c5, c6, fun d hd => by rw [s2.2.2.2]; exact c7 d hd⟩, ⟨u, by rw [s1.2.2.2]; exact c8, c9.kept F Ey.rfl (by simp) (by simp) (by simp) (by simp) (by simp)⟩, ⟨a, b, by rw [s1.2.2.2]; exact ha, A, o1, o2⟩, ⟨ml, pl, by rw [s1.2.2.2]; exact c14, by rw [s1.2.2.2]; exact c15, c16.kept F Ey.rfl.ex nb ⟨by simp, by simp⟩ ⟨by simp, by simp⟩ (by simp)⟩, fun j hj => (c17 j hj).kept F Ey.rfl.ex nb (by simp) (by simp) ⟨by simp, by simp⟩ ⟨by simp, by simp, by simp⟩ ⟨by simp, by simp, by simp⟩ (by simp) (by simp <;> omega)⟩, F.mono (fun t z => ?_), Ey.rfl.ex⟩
  rcases z with z | z <;> rw [z] <;> simp [T0]
theorem c_SC_wipe (C : CS G own h D x S) : Cv G l M_SC_wipe (d + 0) (w + 0) [.ref x] h 0 0 (fun h' => CQ G D x own h (sWip S) h') := by
  have C0 := C
  obtain ⟨⟨c1, c2, c3⟩, -, -, ⟨a, b, c10, c11, c12, c13⟩, -, -⟩ := C
  refine ok_SC_wipe ⟨c1, a, c10, c11.1, ?_⟩
  have nab : a ≠ b := fun z => by have := c11.1; rw [z, c11.2.2.1] at this; cases this
  refine CS.dr (drf := []) C0 c10 c12 c13 ⟨c11.1, c11.2.1, c11.2.2.1, hI_pI_eq, by simp, fun j hj => absurd hj (Nat.not_lt_zero _)⟩ wr_a
theorem c_SC_type {c : Nat} {n : Int32} (C : CS G own h D x S) (hl : S.2.2.1.length ≤ 480) : Ci G l M_SC_type (d + 1) (w + 23) [.ref x, .int (nI c), .int n] h 0 0 (fun r h' => r = (sTyp S c n).2 ∧ CQ G D x own h (sTyp S c n).1 h') := by
  have C0 := C
  obtain ⟨⟨c1, c2, c3⟩, -, -, ⟨a, b, c10, c11, c12, c13⟩, -, -⟩ := C
  refine ok_SC_type ?_
  unfold wp_SC_type wJ_SC_type_23 sTyp
  refine ⟨fun z => ?_, fun z1 => ⟨fun z => ?_, fun z2 => ?_⟩⟩
  · rw [if_neg (fun y => absurd z (Int32.not_lt.mpr y.1))]
    exact ⟨rfl, CQ.same C0⟩
  · rw [if_neg (fun y => absurd z (Int32.not_lt.mpr y.2.1))]
    exact ⟨rfl, CQ.same C0⟩
  · have g1 := Int32.not_lt.mp z1
    have g2 := Int32.not_lt.mp z2
    obtain ⟨m, m1, m2, rfl⟩ : ∃ m : Nat, 1 ≤ m ∧ m ≤ 160 ∧ n = nI m := by
      have h1 := Int32.le_iff_toInt_le.mp g1
      have h2 := Int32.le_iff_toInt_le.mp g2
      have e0 : (1 : Int32).toInt = 1 := rfl
      have e4 : (160 : Int32).toInt = 160 := rfl
      rw [e0] at h1
      rw [e4] at h2
      refine ⟨n.toInt.toNat, by omega, by omega, ?_⟩
      apply Int32.toInt_inj.mp
      rw [nI_toInt (by omega)]
      omega
    rw [nI_clamp (by omega)]
    refine ⟨c1, a, c10, c11.1, _, c_Dr_room c11, ?_⟩
    rintro _ _ ⟨rfl, rfl⟩
    rw [nI_leI (by omega) (by omega), List.length_map]
    refine ⟨fun z => ?_, fun z => ?_⟩
    · rw [if_pos ⟨g1, g2, by omega⟩]
      refine ⟨c1, _, c_Al_formOf, ?_⟩
      rintro _ _ ⟨rfl, rfl⟩
      refine ⟨a, c10, c11.1, _, c_Dr_append (o := fm c) (n := m) c11 (by rw [List.length_map]; omega), ?_⟩
      rintro h1 ⟨A1, W1⟩
      refine ⟨rfl, ?_⟩
      refine CS.dr (drf := S.2.2.1 ++ List.replicate m c) C0 c10 c12 c13 ?_ W1
      rw [List.map_append, List.map_replicate]
      exact A1
    · rw [if_neg (fun y => z (by have := y.2.2; omega))]
      exact ⟨rfl, CQ.same C0⟩
theorem c_SC_time (C : CS G own h D x S) : Ci G l M_SC_time (d + 0) (w + 0) [.ref x] h 0 0 (Xi (nI S.2.2.2.2) h) := ok_SC_time ⟨C.hs, C.1.2.2, rfl⟩
theorem c_SC_sender {y : Int32} (C : CS G own h D x S) : Cl G l M_SC_sender (d + 1) (w + 21) [.ref x, .int y] h 0 0 (Xl (sSnd S y) h) := by
  refine ok_SC_sender ?_
  unfold wp_SC_sender wJ_SC_sender_18 sSnd
  rcases int_dev y with ⟨k, hk, rfl⟩ | hy
  · rw [devOf_nI hk]
    refine ⟨C.hs, _, c_dvY C hk, ?_⟩
    rintro _ _ ⟨rfl, rfl⟩
    refine ⟨fun z => (by cases z), fun q hq => ?_⟩
    cases hq
    have V := C.dvv hk
    exact ⟨V.1, V.2.2.2.2.2.2.2.1, rfl⟩
  · rw [devOf_no hy]
    refine ⟨C.hs, _, c_dvN hy, ?_⟩
    rintro _ _ ⟨rfl, rfl⟩
    exact ⟨fun _ => ⟨rfl, rfl⟩, fun q hq => by cases hq⟩
theorem i_nat {y : Int32} (hy : ¬ y < 0) : ∃ k : Nat, k < 2147483648 ∧ y = nI k := by
  have h1 := Int32.le_iff_toInt_le.mp (Int32.not_lt.mp hy)
  have e0 : (0 : Int32).toInt = 0 := rfl
  rw [e0] at h1
  have h2 := Int32.toInt_lt y
  refine ⟨y.toInt.toNat, by omega, ?_⟩
  apply Int32.toInt_inj.mp
  rw [nI_toInt (by omega)]
  omega
theorem c_SC_text {y i : Int32} (C : CS G own h D x S) (hw : ∀ k, k < 4 → (dTxt (S.1 k)).length ≤ 480) : Ci G l M_SC_text (d + 1) (w + 21) [.ref x, .int y, .int i] h 0 0 (Xi (sTxt S y i) h) := by
  refine ok_SC_text ?_
  unfold wp_SC_text wJ_SC_text_22 wJ_SC_text_33 sTxt
  rcases int_dev y with ⟨k, hk, rfl⟩ | hy
  · rw [devOf_nI hk]
    refine ⟨C.hs, _, c_dvY C hk, ?_⟩
    rintro _ _ ⟨rfl, rfl⟩
    refine ⟨fun z => (by cases z), fun q hq => ?_⟩
    cases hq
    have V := C.dvv hk
    obtain ⟨v1, v2, v3, v4, v5, v6, v7, v8, -, -, -, t, v15, v16, v17, v18⟩ := V
    have hl := hw k hk
    dsimp only
    refine ⟨fun c => ⟨by rw [if_pos (Or.inl c)], rfl⟩, fun c => ⟨v1, ?_⟩⟩
    obtain ⟨j, hj, rfl⟩ := i_nat c
    rw [v7, nI_ltI (by omega) (by omega)]
    refine ⟨fun c2 => ⟨t, v15, 480, j, ⟨v16, rfl, by omega, by omega⟩, ?_, rfl⟩, fun c2 => ⟨?_, rfl⟩⟩
    · rw [if_neg, v18 j c2, nI_clamp (by omega)]
      rintro (z | z)
      · exact c z
      · have := (nI_leI (by omega) (by omega)).mp z
        omega
    · rw [if_pos (Or.inr (nI_le (by omega) (by omega)))]
  · rw [devOf_no hy]
    refine ⟨C.hs, _, c_dvN hy, ?_⟩
    rintro _ _ ⟨rfl, rfl⟩
    exact ⟨fun _ => ⟨rfl, rfl⟩, fun q hq => by cases hq⟩
end SP
