/-! advance: what it does -/
def mom (m : SMs) : Nat := min (mNxt m) (sOld (mSub m) (mAcc m))
def stp (f : Nat → Nat) (b : Option Nat) (k : Nat) : Option Nat := match b with
  | none => some k
  | some b => if f k < f b then some k else some b
def mat (ms : List SMs) (k : Nat) : SMs := ms.getD k m0
def erl (ms : List SMs) : Option Nat := (pend ms).foldl (stp (fun k => mom (mat ms k))) none
def setFate (m : SMs) (f : Nat) : SMs := (m.1, m.2.1, m.2.2.1, m.2.2.2.1, m.2.2.2.2.1, m.2.2.2.2.2.1, f)
def setOff (m : SMs) (o : Nat) : SMs := (m.1, m.2.1, m.2.2.1, m.2.2.2.1, m.2.2.2.2.1, o, m.2.2.2.2.2.2)
def setNxt (m : SMs) (t : Nat) : SMs := (m.1, m.2.1, m.2.2.1, m.2.2.2.1, t, m.2.2.2.2.2)
def hold (dev : Nat → SDv) (to : Nat) : Option Nat := (List.range 4).find? (fun d => decide (dNum (dev d) = to))
def setMs (S : SS) (ms : List SMs) : SS := (S.1, S.2.1, S.2.2.1, ms, S.2.2.2.2)
def setDev (S : SS) (dev : Nat → SDv) : SS := (dev, S.2)
def deal1 (S : SS) (k : Nat) : SS :=
  if mom (mat S.2.2.2.1 k) = sOld (mSub (mat S.2.2.2.1 k)) (mAcc (mat S.2.2.2.1 k)) then setMs S (S.2.2.2.1.set k (setFate (mat S.2.2.2.1 k) 2))
  else match hold S.1 (sTo (mSub (mat S.2.2.2.1 k))) with
  | none => setMs S (S.2.2.2.1.set k (setFate (setOff (mat S.2.2.2.1 k) (mOff (mat S.2.2.2.1 k) + 1)) 3))
  | some d => if dOn (S.1 d) = true ∧ (dInb (S.1 d)).length < 6 then setDev (setMs S (S.2.2.2.1.set k (setFate (setOff (mat S.2.2.2.1 k) (mOff (mat S.2.2.2.1 k) + 1)) 1))) (updD S.1 d (setInb (S.1 d) (dInb (S.1 d) ++ [dlvR (mSub (mat S.2.2.2.1 k)) (mFrm (mat S.2.2.2.1 k)) (mAcc (mat S.2.2.2.1 k))])))
    else setMs S (S.2.2.2.1.set k (setNxt (setOff (mat S.2.2.2.1 k) (mOff (mat S.2.2.2.1 k) + 1)) (offN (mOff (mat S.2.2.2.1 k) + 1) (mom (mat S.2.2.2.1 k)))))
/-- the report of message k, settled at t -/
def rep1 (S : SS) (k t : Nat) : SS := setDev S (updD S.1 (mOrg (mat S.2.2.2.1 k)) (setRep (S.1 (mOrg (mat S.2.2.2.1 k))) (repN (mat S.2.2.2.1 k) t (dRep (S.1 (mOrg (mat S.2.2.2.1 k)))))))
def deal (S : SS) (k : Nat) : SS × Nat := if mFate (mat (deal1 S k).2.2.2.1 k) = 0 then (deal1 S k, 0) else (rep1 (deal1 S k) k (mom (mat S.2.2.2.1 k)), 1)
def advL : Nat → SS → Nat → Nat → SS × Nat
  | 0, S, _, c => (S, c)
  | n + 1, S, u, c => match erl S.2.2.2.1 with
    | none => (S, c)
    | some k => if mom (mat S.2.2.2.1 k) ≤ u then advL n (deal S k).1 u (c + (deal S k).2) else (S, c)
def sAdv (S : SS) (by_ : Int32) : SS × Int32 := if by_ < 0 ∨ 100000 < by_ then (S, -1) else
  (((advL 100000 S (S.2.2.2.2 + by_.toNatClampNeg) 0).1.1, (advL 100000 S (S.2.2.2.2 + by_.toNatClampNeg) 0).1.2.1, (advL 100000 S (S.2.2.2.2 + by_.toNatClampNeg) 0).1.2.2.1, (advL 100000 S (S.2.2.2.2 + by_.toNatClampNeg) 0).1.2.2.2.1, S.2.2.2.2 + by_.toNatClampNeg), nI (advL 100000 S (S.2.2.2.2 + by_.toNatClampNeg) 0).2)
theorem advL_succ (n : Nat) (S : SS) (u c : Nat) : advL (n + 1) S u c = match erl S.2.2.2.1 with
    | none => (S, c)
    | some k => if mom (mat S.2.2.2.1 k) ≤ u then advL n (deal S k).1 u (c + (deal S k).2) else (S, c) := rfl
/-! digits -/
theorem numN_dgs {bs : List Nat} {s v n : Nat} (hv : v < 10 ^ n) (hd : ∀ k, k < n → nib bs s k = dg v n k) : ∀ j, j ≤ n → numN bs s j = v / 10 ^ (n - j) := by
  intro j
  induction j with
  | zero =>
    intro _
    rw [Nat.sub_zero, Nat.div_eq_of_lt hv]
    rfl
  | succ j ih =>
    intro hj
    have h1 := ih (by omega)
    show 10 * numN bs s j + nib bs s j = _
    rw [h1, hd j (by omega)]
    unfold dg
    have e1 : n - j = (n - (j + 1)) + 1 := by omega
    have e2 : n - 1 - j = n - (j + 1) := by omega
    rw [e1, e2, Nat.pow_succ, ← Nat.div_div_eq_div_mul]
    omega
theorem nib_dgs {P Z : List Nat} {v n k : Nat} (hk : k < n) : nib (P ++ dgs v n ++ Z) P.length k = dg v n k := by
  unfold nib
  have hl : k / 2 < (dgs v n).length := by rw [dgs_len]; omega
  rw [bt_mid hl]
  have h1 := pd_at (v := v) (count := n) (K := 0) (j := k / 2) (by omega)
  have h2 : (dgs v n).getD (k / 2) 0 = dg v n (2 * (k / 2)) + 16 * (if 2 * (k / 2) + 1 < n then dg v n (2 * (k / 2) + 1) else 15) := by
    unfold dgs
    rw [List.getD_eq_getElem?_getD, h1]
    simp
  rw [h2]
  have d1 := dg_lt v n (2 * (k / 2))
  rcases (show k % 2 = 0 ∨ k % 2 = 1 by omega) with z | z
  · have e : 2 * (k / 2) = k := by omega
    rw [z, e, Nat.pow_zero, Nat.div_one]
    rw [e] at d1
    omega
  · have e : 2 * (k / 2) + 1 = k := by omega
    rw [z, Nat.pow_one, e, if_pos hk]
    have d2 := dg_lt v n k
    omega
theorem bt_app_l {A B : List Nat} {j : Nat} (h : j < A.length) : bt (A ++ B) j = bt A j := by
  unfold bt
  rw [List.getD_eq_getElem?_getD, List.getElem?_append_left h, ← List.getD_eq_getElem?_getD]
theorem bt_app_r {A B : List Nat} {j : Nat} : bt (A ++ B) (A.length + j) = bt B j := by
  unfold bt
  rw [List.getD_eq_getElem?_getD, List.getElem?_append_right (by omega), Nat.add_sub_cancel_left, ← List.getD_eq_getElem?_getD]
theorem bt_drop {A : List Nat} {p j : Nat} : bt (A.drop p) j = bt A (p + j) := by
  unfold bt
  rw [List.getD_eq_getElem?_getD, List.getElem?_drop, ← List.getD_eq_getElem?_getD]
/-- a DELIVER's head -/
def dlvH (sub : List Nat) (frm acc : Nat) : List Nat := [4 + (if hdr sub then 64 else 0)] ++ adr frm ++ [0] ++ [0] ++ dgs acc 14
theorem dlvH_len (sub : List Nat) (frm acc : Nat) : (dlvH sub frm acc).length = 12 + (nd frm + 1) / 2 := by
  unfold dlvH
  simp only [List.length_append, List.length_cons, List.length_nil, dgs_len, adr_len]
  omega
theorem dlv_eq (sub : List Nat) (frm acc : Nat) : dlvR sub frm acc = dlvH sub frm acc ++ sub.drop (sda sub) := rfl
theorem dlv_0 (sub : List Nat) (frm acc : Nat) : bt (dlvR sub frm acc) 0 = 4 + (if hdr sub then 64 else 0) := rfl
theorem dlv_1 (sub : List Nat) (frm acc : Nat) : bt (dlvR sub frm acc) 1 = nd frm := rfl
theorem dlv_d (sub : List Nat) (frm acc j : Nat) : bt (dlvR sub frm acc) (12 + (nd frm + 1) / 2 + j) = bt sub (sda sub + j) := by
  rw [dlv_eq, ← dlvH_len sub frm acc, bt_app_r, bt_drop]
theorem dlv_hdr (sub : List Nat) (frm acc : Nat) : hdr (dlvR sub frm acc) = hdr sub := by
  have : hdr (dlvR sub frm acc) = decide ((4 + (if hdr sub then 64 else 0)) / 64 % 2 = 1) := rfl
  rw [this]
  cases hdr sub <;> rfl
theorem dlv_frm {sub : List Nat} {frm acc : Nat} (h1 : 1 ≤ frm) (h2 : frm < 1000000000000) : dFrm (dlvR sub frm acc) = frm := by
  unfold dFrm
  rw [dlv_1]
  obtain ⟨n1, n2, n3, n4⟩ := nd_ok h1 h2
  have e : dlvR sub frm acc = [4 + (if hdr sub then 64 else 0), nd frm, 145] ++ dgs frm (nd frm) ++ ([0] ++ [0] ++ dgs acc 14 ++ sub.drop (sda sub)) := by
    unfold dlvR adr
    simp
  rw [numN_dgs (v := frm) (n := nd frm) n4 (fun k hk => ?_) (nd frm) (Nat.le_refl _), Nat.sub_self, Nat.pow_zero, Nat.div_one]
  rw [e]
  exact nib_dgs (P := [4 + (if hdr sub then 64 else 0), nd frm, 145]) hk
theorem dlv_len {sub : List Nat} {frm acc : Nat} : (dlvR sub frm acc).length = 12 + (nd frm + 1) / 2 + (sub.length - sda sub) := by
  rw [dlv_eq, List.length_append, dlvH_len, List.length_drop]
theorem dlv_DK {sub : List Nat} {frm acc : Nat} (L : Lg sub) (hb : ∀ j, bt sub j < 256) (h1 : 1 ≤ frm) (h2 : frm < 1000000000000) : DK (dlvR sub frm acc) := by
  obtain ⟨-, -, -, l1, l2, l3, l4, -⟩ := L
  have hn := (nd_ok h1 h2).2.1
  have hd0 := dlv_d sub frm acc 0
  rw [Nat.add_zero, Nat.add_zero] at hd0
  refine ⟨by rw [dlv_len]; omega, by rw [dlv_1]; exact hn, by rw [dlv_len, dlv_1]; omega, by rw [dlv_frm h1 h2]; exact h2, by rw [dlv_1, hd0]; exact l2, fun hh => ?_⟩
  rw [dlv_hdr] at hh
  obtain ⟨u7, q0, q1, q2, q3, q4, q5, q6, q7⟩ := l4 hh
  have hdj : ∀ j, bt (dlvR sub frm acc) (dHd (dlvR sub frm acc) + j) = bt sub (sda sub + 1 + j) := fun j => by
    unfold dHd
    rw [dlv_1, show 13 + (nd frm + 1) / 2 + j = 12 + (nd frm + 1) / 2 + (1 + j) by omega, dlv_d]
    congr 1
    omega
  refine ⟨?_, by rw [hdj]; exact q3, by rw [hdj]; exact q4, by rw [hdj]; exact q5, by rw [hdj, hdj]; exact q6, by rw [hdj]; exact hb _⟩
  rw [dlv_len]
  unfold dHd
  rw [dlv_1]
  omega
