/-! what a dealing keeps -/
def muM (m : SMs) : Nat := if mFate m = 0 then sOld (mSub m) (mAcc m) - mom m + 1 else 0
def mu (ms : List SMs) : Nat := (ms.map muM).sum
theorem sum_set : ∀ (l : List Nat) (k v : Nat) (hk : k < l.length), (l.set k v).sum + l[k] = l.sum + v
  | [], k, v, hk => absurd hk (Nat.not_lt_zero _)
  | a :: l, 0, v, hk => by simp; omega
  | a :: l, k + 1, v, hk => by
    have := sum_set l k v (by simpa using hk)
    simp only [List.set_cons_succ, List.sum_cons, List.getElem_cons_succ]
    omega
theorem mu_set {ms : List SMs} {k : Nat} {m' : SMs} (hk : k < ms.length) : mu (ms.set k m') + muM (mat ms k) = mu ms + muM m' := by
  unfold mu
  rw [List.map_set]
  have := sum_set (ms.map muM) k (muM m') (by rw [List.length_map]; exact hk)
  rw [List.getElem_map] at this
  have e : ms[k] = mat ms k := by
    have := mat_at hk
    rw [List.getElem?_eq_getElem hk] at this
    exact Option.some.inj this
  rw [e] at this
  exact this
theorem mu_le {ms : List SMs} {b : Nat} (h : ∀ m ∈ ms, muM m ≤ b) : mu ms ≤ b * ms.length := by
  induction ms with
  | nil => simp [mu]
  | cons m ms ih =>
    have h1 := ih (fun m hm => h m (List.mem_cons_of_mem _ hm))
    have h2 := h m List.mem_cons_self
    unfold mu at h1 ⊢
    rw [List.map_cons, List.sum_cons, List.length_cons, Nat.mul_succ]
    omega
theorem muM_le {now : Nat} {m : SMs} (W : MW now m) : muM m ≤ 721 := by
  unfold muM
  split
  · rename_i hf
    have h1 : sOld (mSub m) (mAcc m) ≤ mAcc m + 720 := by
      unfold sOld
      have := W.1.2.2.1.2.2.2
      omega
    have h2 := W.2.2.2.2.2.2.2.2.2.2 hf
    have h3 : mAcc m ≤ sOld (mSub m) (mAcc m) := by unfold sOld; omega
    unfold mom
    omega
  · omega
theorem erl_mem {ms : List SMs} {k : Nat} (h : erl ms = some k) : k ∈ pend ms := by
  unfold erl at h
  have gen : ∀ (l : List Nat) (b : Option Nat), l.foldl (stp (fun k => mom (mat ms k))) b = some k → k ∈ l ∨ b = some k := by
    intro l
    induction l with
    | nil => intro b hb; exact Or.inr hb
    | cons a l ih =>
      intro b hb
      rw [List.foldl_cons] at hb
      rcases ih _ hb with z | z
      · exact Or.inl (List.mem_cons_of_mem _ z)
      · cases b with
        | none =>
          left
          have : a = k := Option.some.inj z
          rw [this]
          exact List.mem_cons_self
        | some b =>
          have z' : (if mom (mat ms a) < mom (mat ms b) then some a else some b) = some k := z
          split at z'
          · left
            rw [Option.some.inj z']
            exact List.mem_cons_self
          · exact Or.inr z'
  rcases gen _ _ h with z | z
  · exact z
  · cases z
theorem erl_none {ms : List SMs} (h : erl ms = none) : pend ms = [] := by
  unfold erl at h
  have gen : ∀ (l : List Nat) (b : Nat), l.foldl (stp (fun k => mom (mat ms k))) (some b) ≠ none := by
    intro l
    induction l with
    | nil => intro b hb; cases hb
    | cons a l ih =>
      intro b hb
      rw [List.foldl_cons] at hb
      have e : stp (fun k => mom (mat ms k)) (some b) a = if mom (mat ms a) < mom (mat ms b) then some a else some b := rfl
      rw [e] at hb
      split at hb
      · exact ih _ hb
      · exact ih _ hb
  cases hp : pend ms with
  | nil => rfl
  | cons a l =>
    rw [hp, List.foldl_cons] at h
    exact absurd h (gen l a)
theorem mat_set {ms : List SMs} {k : Nat} {m : SMs} (hk : k < ms.length) : mat (ms.set k m) k = m := by
  unfold mat
  rw [List.getD_eq_getElem?_getD, List.getElem?_set_self hk]
  rfl
theorem pend_set0 {ms : List SMs} {k : Nat} {m : SMs} (hk : k ∈ pend ms) (hm : mFate m = 0) : pend (ms.set k m) = pend ms := by
  unfold pend
  rw [List.length_set]
  apply List.filter_congr
  intro j hj
  by_cases z : j = k
  · subst z
    have hl := pend_lt hk
    obtain ⟨m1, h1, h2⟩ := pend_mem.mp hk
    rw [List.getElem?_set_self hl, h1]
    simp [hm, h2]
  · rw [List.getElem?_set_ne (fun y => z y.symm)]
theorem pend_set1 {ms : List SMs} {k : Nat} {m : SMs} (hk : k < ms.length) (hm : ¬ mFate m = 0) : pend (ms.set k m) = (pend ms).filter (fun j => decide (j ≠ k)) := by
  unfold pend
  rw [List.length_set, List.filter_filter]
  apply List.filter_congr
  intro j hj
  by_cases z : j = k
  · subst z
    rw [List.getElem?_set_self hk]
    simp [hm]
  · rw [List.getElem?_set_ne (fun y => z y.symm)]
    simp [z]
theorem pend_nodup (ms : List SMs) : (pend ms).Nodup := by
  unfold pend
  exact List.Nodup.sublist List.filter_sublist List.nodup_range
theorem erase_filter : ∀ (l : List Nat) (j k : Nat), l.Nodup → l[j]? = some k → l.eraseIdx j = l.filter (fun i => decide (i ≠ k))
  | [], j, k, _, h => by simp at h
  | a :: l, 0, k, nd, h => by
    simp at h
    subst h
    rw [List.nodup_cons] at nd
    rw [List.eraseIdx_zero, List.filter_cons]
    simp only [ne_eq, not_true_eq_false, decide_false, Bool.false_eq_true, if_false]
    symm
    apply List.filter_eq_self.mpr
    intro i hi
    exact decide_eq_true (fun z => nd.1 (by rw [← z]; exact hi))
  | a :: l, j + 1, k, nd, h => by
    rw [List.nodup_cons] at nd
    simp at h
    have := erase_filter l j k nd.2 h
    rw [List.eraseIdx_cons_succ, this, List.filter_cons]
    have hak : a ≠ k := fun z => nd.1 (by rw [z]; exact List.mem_of_getElem? h)
    rw [if_pos (decide_eq_true hak)]
theorem pend_erase {ms : List SMs} {j k : Nat} {m : SMs} (hj : (pend ms)[j]? = some k) (hm : ¬ mFate m = 0) : pend (ms.set k m) = (pend ms).eraseIdx j := by
  rw [pend_set1 (pend_lt (List.mem_of_getElem? hj)) hm, erase_filter _ _ _ (pend_nodup ms) hj]
theorem all_bt {l : List Nat} (h : ∀ x ∈ l, x < 256) (j : Nat) : bt l j < 256 := by
  unfold bt
  rcases Nat.lt_or_ge j l.length with z | z
  · rw [List.getD_eq_getElem?_getD, List.getElem?_eq_getElem z]
    exact h _ (List.getElem_mem z)
  · rw [List.getD_eq_getElem?_getD, List.getElem?_eq_none z]
    decide
theorem dgs_all (v n : Nat) : ∀ x ∈ dgs v n, x < 256 := by
  intro x hx
  obtain ⟨j, hj, rfl⟩ := List.mem_iff_getElem.mp hx
  have := pd_lt (v := v) (count := n) (K := 0) (j := j)
  unfold dgs at hj ⊢
  rw [List.getD_eq_getElem?_getD, List.getElem?_eq_getElem hj] at this
  exact this
theorem adr_all {v : Nat} (h1 : 1 ≤ v) (h2 : v < 1000000000000) : ∀ x ∈ adr v, x < 256 := by
  intro x hx
  have := (nd_ok h1 h2).2.1
  unfold adr at hx
  rcases List.mem_cons.mp hx with z | z
  · omega
  · rcases List.mem_cons.mp z with z | z
    · omega
    · exact dgs_all _ _ x z
theorem rpt_ok {sub : List Nat} {acc t c : Nat} (L : Lg sub) (hb : ∀ j, bt sub j < 256) (hc : c < 256) : 2 ≤ (rptR sub acc t c).length ∧ (rptR sub acc t c).length ≤ 160 ∧ ∀ j, bt (rptR sub acc t c) j < 256 := by
  obtain ⟨t1, t2⟩ := Lg_to L
  have hn := (nd_ok t1 t2).2.1
  have hl : (rptR sub acc t c).length = 17 + (adr (sTo sub)).length := by
    unfold rptR
    simp only [List.length_append, List.length_cons, List.length_nil, dgs_len]
    omega
  rw [hl, adr_len]
  refine ⟨by omega, by omega, all_bt (fun x hx => ?_)⟩
  unfold rptR at hx
  simp only [List.mem_append, List.mem_singleton] at hx
  rcases hx with ((((z | z) | z) | z) | z) | z
  · omega
  · rw [z]; exact hb 1
  · exact adr_all t1 t2 x z
  · exact dgs_all _ _ x z
  · exact dgs_all _ _ x z
  · omega
