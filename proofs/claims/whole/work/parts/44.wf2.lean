/-! a dealing keeps what is known, and comes to an end -/
theorem DW.inb {v : SDv} {inb : List (List Nat)} (W : DW v) (h1 : ∀ r ∈ inb, DK r) (h2 : inb.length ≤ 6) : DW (setInb v inb) := by
  obtain ⟨w1, w2, w3, w4, w5, w6, w7, w8, w9, w10, w11⟩ := W
  exact ⟨w1, h1, h2, w4, w5, w6, w7, w8, w9, w10, w11⟩
theorem DW.rep {v : SDv} {rep : List (List Nat)} (W : DW v) (h1 : ∀ r ∈ rep, 2 ≤ r.length ∧ r.length ≤ 160 ∧ ∀ j, bt r j < 256) (h2 : rep.length ≤ 6) : DW (setRep v rep) := by
  obtain ⟨w1, w2, w3, w4, w5, w6, w7, w8, w9, w10, w11⟩ := W
  exact ⟨w1, w2, w3, h1, h2, w6, w7, w8, w9, w10, w11⟩
theorem updD_all {dev : Nat → SDv} {d : Nat} {v : SDv} {P : SDv → Prop} (h : ∀ j, j < 4 → P (dev j)) (hv : P v) : ∀ j, j < 4 → P (updD dev d v j) := by
  intro j hj
  by_cases z : j = d
  · rw [z, updD_eq]; exact hv
  · rw [updD_ne z]; exact h j hj
theorem deal1_form {S : SS} {k : Nat} (W : WF S) (hk : k ∈ pend S.2.2.2.1) : ∃ dev' m', deal1 S k = (dev', S.2.1, S.2.2.1, S.2.2.2.1.set k m', S.2.2.2.2) ∧ (∀ d, d < 4 → DW (dev' d)) ∧ (∀ d, dNum (dev' d) = dNum (S.1 d)) ∧ MW S.2.2.2.2 m' ∧ mOrg m' = mOrg (mat S.2.2.2.1 k) ∧ muM m' < muM (mat S.2.2.2.1 k) := by
  obtain ⟨hw1, hw2, hw3, hw4, hw5, hw6, hw7, hw8, hw9⟩ := W
  have hl := pend_lt hk
  have hat := mat_at hl
  have M := hw8 _ (List.mem_of_getElem? hat)
  have hf : mFate (mat S.2.2.2.1 k) = 0 := by
    obtain ⟨m1, h1, h2⟩ := pend_mem.mp hk
    rw [hat] at h1
    rw [Option.some.inj h1]
    exact h2
  unfold deal1
  generalize mat S.2.2.2.1 k = m at *
  obtain ⟨a1, a2, a3, a4, a5, a6, a7, a8, a9, a10, a11⟩ := M
  have a11' := a11 hf
  have hmu : muM m = sOld (mSub m) (mAcc m) - mom m + 1 := by unfold muM; rw [if_pos hf]
  have settled : ∀ m' : SMs, ¬ mFate m' = 0 → muM m' < muM m := fun m' hm' => by
    rw [hmu]
    unfold muM
    rw [if_neg hm']
    omega
  by_cases c : mom m = sOld (mSub m) (mAcc m)
  · rw [if_pos c]
    exact ⟨S.1, setFate m 2, rfl, hw1, fun _ => rfl, ⟨a1, a2, a3, a4, a5, a6, a7, (show 2 ≤ 3 by decide), a9, a10, fun z => absurd (show (2 : Nat) = 0 from z) (by decide)⟩, rfl, settled _ (show ¬ (2 : Nat) = 0 by decide)⟩
  · rw [if_neg c]
    have hst : ∀ f, f ≤ 3 → ¬ f = 0 → MW S.2.2.2.2 (setFate (setOff m (mOff m + 1)) f) := fun f h1 h2 => ⟨a1, a2, a3, a4, a5, a6, a7, h1, a9, (show mAcc m + (mOff m + 1) ≤ mNxt m + 1 by omega), fun z => absurd z h2⟩
    cases hh : hold S.1 (sTo (mSub m)) with
    | none => exact ⟨S.1, setFate (setOff m (mOff m + 1)) 3, rfl, hw1, fun _ => rfl, hst 3 (by decide) (by decide), rfl, settled _ (show ¬ (3 : Nat) = 0 by decide)⟩
    | some d =>
      dsimp only
      have hd := hold_lt hh
      by_cases c2 : dOn (S.1 d) = true ∧ (dInb (S.1 d)).length < 6
      · rw [if_pos c2]
        refine ⟨updD S.1 d (setInb (S.1 d) (dInb (S.1 d) ++ [dlvR (mSub m) (mFrm m) (mAcc m)])), setFate (setOff m (mOff m + 1)) 1, rfl, updD_all hw1 ((hw1 d hd).inb (fun r hr => ?_) ?_), fun j => ?_, hst 1 (by decide) (by decide), rfl, settled _ (show ¬ (1 : Nat) = 0 by decide)⟩
        · rcases List.mem_append.mp hr with z | z
          · exact (hw1 d hd).2.1 r z
          · rw [List.mem_singleton.mp z]
            exact dlv_DK a1 a3 a5 a6
        · rw [List.length_append, List.length_singleton]
          omega
        · by_cases z : j = d
          · rw [z, updD_eq]; rfl
          · rw [updD_ne z]
      · rw [if_neg c2]
        have hmle : mom m ≤ sOld (mSub m) (mAcc m) := by unfold mom; omega
        have hmn : mom m = mNxt m := by
          unfold mom at c ⊢
          omega
        have hon : mom m + 1 ≤ offN (mOff m + 1) (mom m) ∧ offN (mOff m + 1) (mom m) ≤ mom m + 16 := by
          unfold offN
          split
          · omega
          · split <;> omega
        refine ⟨S.1, setNxt (setOff m (mOff m + 1)) (offN (mOff m + 1) (mom m)), rfl, hw1, fun _ => rfl, ⟨a1, a2, a3, a4, a5, a6, a7, a8, (show offN (mOff m + 1) (mom m) ≤ sOld (mSub m) (mAcc m) + 16 by omega), (show mAcc m + (mOff m + 1) ≤ offN (mOff m + 1) (mom m) + 1 by omega), fun _ => (show mAcc m + (mOff m + 1) ≤ offN (mOff m + 1) (mom m) by omega)⟩, rfl, ?_⟩
        rw [hmu]
        have e : muM (setNxt (setOff m (mOff m + 1)) (offN (mOff m + 1) (mom m))) = sOld (mSub m) (mAcc m) - min (offN (mOff m + 1) (mom m)) (sOld (mSub m) (mAcc m)) + 1 := by
          unfold muM
          rw [if_pos (show mFate (setNxt (setOff m (mOff m + 1)) (offN (mOff m + 1) (mom m))) = 0 from hf)]
          rfl
        rw [e]
        omega
theorem repN_ok {m : SMs} {now t : Nat} {rep : List (List Nat)} (M : MW now m) (h1 : ∀ r ∈ rep, 2 ≤ r.length ∧ r.length ≤ 160 ∧ ∀ j, bt r j < 256) (h2 : rep.length ≤ 6) : (∀ r ∈ repN m t rep, 2 ≤ r.length ∧ r.length ≤ 160 ∧ ∀ j, bt r j < 256) ∧ (repN m t rep).length ≤ 6 := by
  unfold repN
  split
  · rename_i c
    refine ⟨fun r hr => ?_, by rw [List.length_append, List.length_singleton]; omega⟩
    rcases List.mem_append.mp hr with z | z
    · exact h1 r z
    · rw [List.mem_singleton.mp z]
      refine rpt_ok M.1 M.2.2.1 ?_
      unfold fCode
      split
      · decide
      · split <;> decide
  · exact ⟨h1, h2⟩
theorem pend_len_set {ms : List SMs} {k : Nat} {m : SMs} (hk : k ∈ pend ms) : (if mFate m = 0 then 0 else 1) + (pend (ms.set k m)).length ≤ (pend ms).length := by
  by_cases c : mFate m = 0
  · rw [if_pos c, pend_set0 hk c]
    omega
  · rw [if_neg c]
    obtain ⟨j, hj, e⟩ := List.mem_iff_getElem.mp hk
    have hj' : (pend ms)[j]? = some k := by rw [List.getElem?_eq_getElem hj, e]
    rw [pend_erase hj' c, List.length_eraseIdx, if_pos hj]
    omega
theorem deal_ok {S : SS} {k : Nat} (W : WF S) (hk : k ∈ pend S.2.2.2.1) : WF (deal S k).1 ∧ (deal S k).1.2.2.2.2 = S.2.2.2.2 ∧ mu (deal S k).1.2.2.2.1 < mu S.2.2.2.1 ∧ (deal S k).2 + (pend (deal S k).1.2.2.2.1).length ≤ (pend S.2.2.2.1).length := by
  obtain ⟨dev', m', e, d1, d2, d3, d4, d5⟩ := deal1_form W hk
  obtain ⟨hw1, hw2, hw3, hw4, hw5, hw6, hw7, hw8, hw9⟩ := W
  have hl := pend_lt hk
  have hmat : mat (deal1 S k).2.2.2.1 k = m' := by rw [e]; exact mat_set hl
  have hms := mu_set (m' := m') hl
  have hpl := pend_len_set (m := m') hk
  have hall : ∀ m ∈ S.2.2.2.1.set k m', MW S.2.2.2.2 m := fun m hm => by
    rcases List.mem_or_eq_of_mem_set hm with z | z
    · exact hw8 m z
    · rw [z]; exact d3
  have hup : ∀ dev'' : Nat → SDv, (∀ d, dNum (dev'' d) = dNum (S.1 d)) → ∀ p ∈ S.2.1, UW dev'' p := fun dev'' hd p hp => by
    obtain ⟨u1, u2, u3, u4, u5⟩ := hw3 p hp
    exact ⟨u1, u2, u3, u4, by rw [hd]; exact u5⟩
  unfold deal
  rw [hmat]
  by_cases c : mFate m' = 0
  · rw [if_pos c, e]
    rw [if_pos c] at hpl
    exact ⟨⟨d1, hw2, hup dev' d2, hw4, hw5, by show (S.2.2.2.1.set k m').length ≤ 100; rw [List.length_set]; exact hw6, by show (pend (S.2.2.2.1.set k m')).length ≤ 12; omega, hall, hw9⟩, rfl, by show mu (S.2.2.2.1.set k m') < _; omega, hpl⟩
  · rw [if_neg c]
    rw [if_neg c] at hpl
    unfold rep1
    rw [hmat, e]
    have hO : mOrg m' < 4 := d3.2.2.2.1
    have hr := repN_ok (t := mom (mat S.2.2.2.1 k)) d3 (d1 _ hO).2.2.2.1 (d1 _ hO).2.2.2.2.1
    refine ⟨⟨updD_all d1 ((d1 _ hO).rep hr.1 hr.2), hw2, hup _ (fun d => ?_), hw4, hw5, by show (S.2.2.2.1.set k m').length ≤ 100; rw [List.length_set]; exact hw6, by show (pend (S.2.2.2.1.set k m')).length ≤ 12; omega, hall, hw9⟩, rfl, by show mu (S.2.2.2.1.set k m') < _; omega, hpl⟩
    show dNum (updD dev' (mOrg m') _ d) = _
    by_cases z : d = mOrg m'
    · rw [z, updD_eq]
      exact d2 _
    · rw [updD_ne z]
      exact d2 d
