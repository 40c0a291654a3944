/-! the reference's side -/
section MO
variable {G : Gx} {l : Launch} {d w : Nat} {A : Nat → Nat} {h h' : Hp} {F : List Nat} {S : SS}
theorem mat_ne {ms : List SMs} {m : SMs} {k j : Nat} (n : j ≠ k) : mat (ms.set k m) j = mat ms j := by
  unfold mat
  rw [List.getD_eq_getElem?_getD, List.getD_eq_getElem?_getD, List.getElem?_set_ne (fun z => n z.symm)]
/-- other messages stay -/
theorem MM1.upd {k j : Nat} {m : SMs} (c : MM1 A h j m) (a : Mf A [18, 28, 29, 30] h h') (J : MJ A) (e28 : hI h' (A 28) j = hI h (A 28) j) (e29 : hI h' (A 29) j = hI h (A 29) j) (e30 : hI h' (A 30) j = hI h (A 30) j) : MM1 A h' j m := by
  obtain ⟨c1, c2, c3, c4, c5, c6, c7, c8, c9, c10, c11⟩ := c
  exact ⟨by rw [a.i J 20 (by decide) (by decide) (by decide)]; exact c1, by rw [a.i J 21 (by decide) (by decide) (by decide)]; exact c2, by rw [a.l J 22 (by decide) (by decide) (by decide)]; exact c3, by rw [a.l J 23 (by decide) (by decide) (by decide)]; exact c4, by rw [a.i J 24 (by decide) (by decide) (by decide)]; exact c5, by rw [a.i J 25 (by decide) (by decide) (by decide)]; exact c6, by rw [a.i J 26 (by decide) (by decide) (by decide)]; exact c7, by rw [a.i J 27 (by decide) (by decide) (by decide)]; exact c8, by rw [e28]; exact c9, by rw [e29]; exact c10, by rw [e30]; exact c11⟩
theorem pend_len1 {ms : List SMs} {k : Nat} {m : SMs} (hk : k ∈ pend ms) (hm : ¬ mFate m = 0) : (pend (ms.set k m)).length + 1 = (pend ms).length := by
  obtain ⟨j, hj, e⟩ := List.mem_iff_getElem.mp hk
  rw [pend_erase (j := j) (by rw [List.getElem?_eq_getElem hj, e]) hm, List.length_eraseIdx_of_lt hj]
  omega
theorem linS_ms {ms : List SMs} {n : Nat} : linS (S.1, S.2.1, S.2.2.1, ms, n) = linS S := rfl
/-- a message's next moment or its offers have changed -/
theorem MR.msg {k : Nat} {m : SMs} (R : MR A h S) (a : Mf A [28, 29] h h') (hk : k ∈ pend S.2.2.2.1) (hm : m = setNxt (mat S.2.2.2.1 k) (mNxt m) ∨ m = setOff (mat S.2.2.2.1 k) (mOff m)) (e28 : ∀ j, j ≠ k → hI h' (A 28) j = hI h (A 28) j) (e29 : ∀ j, j ≠ k → hI h' (A 29) j = hI h (A 29) j) (k28 : hI h' (A 28) k = nI (mNxt m)) (k29 : hI h' (A 29) k = nI (mOff m)) : MQr A h (setMs S (S.2.2.2.1.set k m)) h' := by
  obtain ⟨M, r1, r2, r3, r4, r5, r6, r7, r8, r9⟩ := R
  have hl := pend_lt hk
  have hf0 : mFate (mat S.2.2.2.1 k) = 0 := by
    obtain ⟨m1, h1, h2⟩ := pend_mem.mp hk
    rw [mat_at hl] at h1
    rw [Option.some.inj h1]
    exact h2
  have hf : mFate m = 0 := by rcases hm with e | e <;> rw [e] <;> exact hf0
  have hsub : mSub m = mSub (mat S.2.2.2.1 k) := by rcases hm with e | e <;> rw [e] <;> rfl
  have hp : pend (S.2.2.2.1.set k m) = pend S.2.2.2.1 := pend_set0 hk hf
  have z30 := a.i M.j 30 (by decide) (by decide) (by decide)
  refine ⟨⟨a.ma M, r1.kept a M.j (by decide) (by decide), r2.kept a M.j (fun _ _ => ⟨rfl, rfl⟩) (by decide) (by decide), r3.kept a M.j (fun _ _ => ⟨rfl, rfl⟩) (by decide) (by decide), r4.kept a M.j (fun _ _ => ⟨rfl, rfl⟩) (by decide) (by decide) (by decide), r5.kept a M.j (by decide) (by decide) (by decide), r6.kept a M.j (by decide), ⟨⟨?_, ?_, ?_⟩, fun j hj => ?_, fun j hj => ?_⟩, ?_, r9.kept a M.j (fun _ _ => rfl) (by simp; omega)⟩, a.mono (by decide)⟩
  · show hI h' (A 41) 17 = nI (S.2.2.2.1.set k m).length
    rw [a.2.2 17 (by decide), List.length_set]
    exact r7.1.1
  · show hI h' (A 41) 18 = nI (pend (S.2.2.2.1.set k m)).length
    rw [a.2.2 18 (by decide), hp]
    exact r7.1.2.1
  · rw [a.2.2 19 (by decide)]
    exact r7.1.2.2
  · have hj' : j < (S.2.2.2.1.set k m).length := hj
    rw [List.length_set] at hj'
    have o := r7.2.1 j hj'
    show MM1 A h' j (mat (S.2.2.2.1.set k m) j)
    by_cases cj : j = k
    · rw [cj, mat_set hl]
      rw [cj] at o
      obtain ⟨c1, c2, c3, c4, c5, c6, c7, c8, c9, c10, c11⟩ := o
      have g1 : mOrg m = mOrg (mat S.2.2.2.1 k) := by rcases hm with e | e <;> rw [e] <;> rfl
      have g2 : mFrm m = mFrm (mat S.2.2.2.1 k) := by rcases hm with e | e <;> rw [e] <;> rfl
      have g3 : mAcc m = mAcc (mat S.2.2.2.1 k) := by rcases hm with e | e <;> rw [e] <;> rfl
      unfold MM1
      rw [g1, g2, g3, hsub, hf, k28, k29]
      rw [hf0] at c11
      exact ⟨by rw [a.i M.j 20 (by decide) (by decide) (by decide)]; exact c1, by rw [a.i M.j 21 (by decide) (by decide) (by decide)]; exact c2, by rw [a.l M.j 22 (by decide) (by decide) (by decide)]; exact c3, by rw [a.l M.j 23 (by decide) (by decide) (by decide)]; exact c4, by rw [a.i M.j 24 (by decide) (by decide) (by decide)]; exact c5, by rw [a.i M.j 25 (by decide) (by decide) (by decide)]; exact c6, by rw [a.i M.j 26 (by decide) (by decide) (by decide)]; exact c7, by rw [a.i M.j 27 (by decide) (by decide) (by decide)]; exact c8, rfl, rfl, by rw [z30]; exact c11⟩
    · rw [mat_ne cj]
      exact MM1.upd (k := k) o (a.mono (by simp)) M.j (e28 j cj) (e29 j cj) (by rw [z30])
  · have hj' : (S.2.2.2.1.set k m).length ≤ j := hj
    rw [List.length_set] at hj'
    rw [e29 j (by omega), z30]
    exact r7.2.2 j hj'
  · obtain ⟨pl, p1, p2, p3⟩ := r8.kept a M.j (by decide) (by decide) (by decide) (by decide)
    show MPc A h' (S.2.2.2.1.set k m)
    refine ⟨pl, fun j hj => ?_, ?_, ?_⟩
    · rw [hp] at hj
      have o := p1 j hj
      by_cases cj : j = k
      · rw [cj, mat_set hl, hsub]
        rw [cj] at o
        exact o
      · rw [mat_ne cj]
        exact o
    · rw [hp]; exact p2
    · rw [hp]; exact p3
/-- a message is settled -/
theorem MR.fate {k s f : Nat} {h3 : Hp} (R : MR A h S) (hk : k ∈ pend S.2.2.2.1) (hf : ¬ f = 0) (a : Mf A [18, 30, 32] h h3) (k18 : hI h3 (A 41) 18 = nI ((pend S.2.2.2.1).length - 1)) (k30 : hI h3 (A 30) = va_up (hI h (A 30)) k (nI f)) (hs : hI h (A 31) k = nI s) (hs12 : s < 12) (k32 : hI h3 (A 32) = va_up (hI h (A 32)) s 0) : MQr A h (setMs S (S.2.2.2.1.set k (setFate (mat S.2.2.2.1 k) f))) h3 := by
  obtain ⟨M, r1, r2, r3, r4, r5, r6, r7, r8, r9⟩ := R
  have hl := pend_lt hk
  have hlen := pend_len1 (m := setFate (mat S.2.2.2.1 k) f) hk hf
  have hpe : pend (S.2.2.2.1.set k (setFate (mat S.2.2.2.1 k) f)) = (pend S.2.2.2.1).filter (fun j => decide (j ≠ k)) := pend_set1 hl hf
  have z28 := a.i M.j 28 (by decide) (by decide) (by decide)
  have z29 := a.i M.j 29 (by decide) (by decide) (by decide)
  refine ⟨⟨a.ma M, r1.kept a M.j (by decide) (by decide), r2.kept a M.j (fun _ _ => ⟨rfl, rfl⟩) (by decide) (by decide), r3.kept a M.j (fun _ _ => ⟨rfl, rfl⟩) (by decide) (by decide), r4.kept a M.j (fun _ _ => ⟨rfl, rfl⟩) (by decide) (by decide) (by decide), r5.kept a M.j (by decide) (by decide) (by decide), r6.kept a M.j (by decide), ⟨⟨?_, ?_, ?_⟩, fun j hj => ?_, fun j hj => ?_⟩, ?_, r9.kept a M.j (fun _ _ => rfl) (by simp; omega)⟩, a.mono (by decide)⟩
  · show hI h3 (A 41) 17 = nI (S.2.2.2.1.set k (setFate (mat S.2.2.2.1 k) f)).length
    rw [a.2.2 17 (by decide), List.length_set]
    exact r7.1.1
  · show hI h3 (A 41) 18 = nI (pend (S.2.2.2.1.set k (setFate (mat S.2.2.2.1 k) f))).length
    rw [k18]
    congr 1
    omega
  · rw [a.2.2 19 (by decide)]
    exact r7.1.2.2
  · have hj' : j < (S.2.2.2.1.set k (setFate (mat S.2.2.2.1 k) f)).length := hj
    rw [List.length_set] at hj'
    have o := r7.2.1 j hj'
    show MM1 A h3 j (mat (S.2.2.2.1.set k (setFate (mat S.2.2.2.1 k) f)) j)
    by_cases cj : j = k
    · rw [cj, mat_set hl]
      rw [cj] at o
      obtain ⟨c1, c2, c3, c4, c5, c6, c7, c8, c9, c10, c11⟩ := o
      exact ⟨by rw [a.i M.j 20 (by decide) (by decide) (by decide)]; exact c1, by rw [a.i M.j 21 (by decide) (by decide) (by decide)]; exact c2, by rw [a.l M.j 22 (by decide) (by decide) (by decide)]; exact c3, by rw [a.l M.j 23 (by decide) (by decide) (by decide)]; exact c4, by rw [a.i M.j 24 (by decide) (by decide) (by decide)]; exact c5, by rw [a.i M.j 25 (by decide) (by decide) (by decide)]; exact c6, by rw [a.i M.j 26 (by decide) (by decide) (by decide)]; exact c7, by rw [a.i M.j 27 (by decide) (by decide) (by decide)]; exact c8, by rw [z28]; exact c9, by rw [z29]; exact c10, by rw [k30, va_up_self]; rfl⟩
    · rw [mat_ne cj]
      obtain ⟨c1, c2, c3, c4, c5, c6, c7, c8, c9, c10, c11⟩ := o
      exact ⟨by rw [a.i M.j 20 (by decide) (by decide) (by decide)]; exact c1, by rw [a.i M.j 21 (by decide) (by decide) (by decide)]; exact c2, by rw [a.l M.j 22 (by decide) (by decide) (by decide)]; exact c3, by rw [a.l M.j 23 (by decide) (by decide) (by decide)]; exact c4, by rw [a.i M.j 24 (by decide) (by decide) (by decide)]; exact c5, by rw [a.i M.j 25 (by decide) (by decide) (by decide)]; exact c6, by rw [a.i M.j 26 (by decide) (by decide) (by decide)]; exact c7, by rw [a.i M.j 27 (by decide) (by decide) (by decide)]; exact c8, by rw [z28]; exact c9, by rw [z29]; exact c10, by rw [k30, va_up_ne _ _ cj]; exact c11⟩
  · have hj' : (S.2.2.2.1.set k (setFate (mat S.2.2.2.1 k) f)).length ≤ j := hj
    rw [List.length_set] at hj'
    rw [z29, k30, va_up_ne _ _ (by omega)]
    exact r7.2.2 j hj'
  · obtain ⟨pl, p1, p2, p3⟩ := r8
    have hsk : pl k = s := by
      have h1 := p1 k hk
      have := h1.2.1
      rw [hs] at this
      exact ((nI_eq (by omega) (by have := h1.1; omega)).mp this).symm
    have z31 := a.i M.j 31 (by decide) (by decide) (by decide)
    have z33 := a.i M.j 33 (by decide) (by decide) (by decide)
    have z34 := a.i M.j 34 (by decide) (by decide) (by decide)
    have hmem : ∀ j, j ∈ pend (S.2.2.2.1.set k (setFate (mat S.2.2.2.1 k) f)) → j ∈ pend S.2.2.2.1 ∧ j ≠ k := fun j hj => by
      rw [hpe] at hj
      have := List.mem_filter.mp hj
      exact ⟨this.1, of_decide_eq_true this.2⟩
    show MPc A h3 (S.2.2.2.1.set k (setFate (mat S.2.2.2.1 k) f))
    refine ⟨pl, fun j hj => ?_, fun i j hi hj e => p2 i j (hmem i hi).1 (hmem j hj).1 e, fun t ht => ?_⟩
    · obtain ⟨h1, h2⟩ := hmem j hj
      have o := p1 j h1
      have hne : pl j ≠ s := fun z => h2 (p2 j k h1 hk (by rw [z, hsk]))
      rw [mat_ne h2]
      exact ⟨o.1, by rw [z31]; exact o.2.1, by rw [k32, va_up_ne _ _ hne]; exact o.2.2.1, by rw [z33]; exact o.2.2.2.1, fun i hi => by rw [z34]; exact o.2.2.2.2 i hi⟩
    · by_cases ct : t = s
      · left
        rw [k32, ct, va_up_self]
      · rw [k32, va_up_ne _ _ ct]
        rcases p3 t ht with z | ⟨j, hj, e⟩
        · exact Or.inl z
        · have hjk : j ≠ k := fun z => ct (by rw [← e, z, hsk])
          refine Or.inr ⟨j, ?_, e⟩
          rw [hpe]
          exact List.mem_filter.mpr ⟨hj, decide_eq_true hjk⟩
theorem c_MO_owner {to : Nat} (R : MR A h S) (hn : ∀ d, d < 4 → dNum (S.1 d) < 1000000000000) (ht : to < 1000000000000) : Ci G l M_MO_owner (d + 0) (w + 0) [.ref (A 41), .long (lN to)] h 0 0 (fun r h' => h = h' ∧ ((hold S.1 to = none ∧ r = 4) ∨ ∃ k, k < 4 ∧ hold S.1 to = some k ∧ r = nI k)) := by
  refine ok_MO_owner ?_
  obtain ⟨M, r1, r2, r3, r4, r5, r6, r7, r8, r9⟩ := R
  unfold wp_MO_owner wL_MO_owner_2
  refine ⟨fun x h' => h = h' ∧ ∃ k, k ≤ 4 ∧ x = nI k ∧ ∀ i, i < k → dNum (S.1 i) ≠ to, fun x h' => 4 - x.toNatClampNeg, ⟨rfl, 0, Nat.zero_le _, rfl, fun i hi => absurd hi (Nat.not_lt_zero _)⟩, ?_⟩
  rintro _ _ ⟨rfl, k, hk, rfl, hno⟩
  unfold wB_MO_owner_2 wJ_MO_owner_24
  rw [Lle (by omega) (by decide)]
  refine ⟨fun c => ⟨rfl, Or.inl ⟨find_none (fun i hi => decide_eq_false (hno i ?_)), ?_⟩⟩, fun c => ⟨M.s41, A 4, M.r4, 4, k, ⟨M.s4, rfl, ?_, by omega⟩, ?_⟩⟩
  · have c' : 4 ≤ k := c
    omega
  · have c' : 4 ≤ k := c
    rw [show k = 4 by omega]
    rfl
  · have c' : ¬ 4 ≤ k := c
    omega
  · have c' : ¬ 4 ≤ k := c
    have hnk := hn k (by omega)
    rw [cmp_eq, (r2 k (by omega)).1, pk_lEQ (by omega) (by omega)]
    refine ⟨fun e => ⟨rfl, Or.inr ⟨k, by omega, find_some (by omega) (decide_eq_true e) (fun i hi => decide_eq_false (hno i hi)), rfl⟩⟩, fun e => ?_⟩
    rintro _ rfl
    rw [nI_1]
    refine ⟨⟨rfl, k + 1, by omega, rfl, fun i hi => ?_⟩, mu_lt (by omega) (by omega)⟩
    by_cases ci : i = k
    · rw [ci]; exact e
    · exact hno i (by omega)
theorem c_MO_moment {k : Nat} (R : MR A h S) (W : WF S) (hk : k < S.2.2.2.1.length) : Ci G l M_MO_moment (d + 0) (w + 0) [.ref (A 41), .int (nI k)] h 0 0 (Xi (nI (mom (mat S.2.2.2.1 k))) h) := by
  refine ok_MO_moment ?_
  obtain ⟨M, r1, r2, r3, r4, r5, r6, r7, r8, r9⟩ := R
  obtain ⟨c1, c2, c3, c4, c5, c6, c7, c8, c9, c10, c11⟩ := r7.2.1 k hk
  have hl := W.2.2.2.2.2.1
  have Wk := (W.2.2.2.2.2.2.2.1 _ (List.mem_of_getElem? (mat_at hk))).bnd W.2.2.2.2.2.2.2.2
  unfold wp_MO_moment wJ_MO_moment_30 mom
  refine ⟨M.s41, A 28, M.r28, 100, k, ⟨M.s28, rfl, by omega, by omega⟩, A 27, M.r27, 100, k, ⟨M.s27, rfl, by omega, by omega⟩, ?_⟩
  rw [c8, c9, nI_leI (by omega) (by omega)]
  refine ⟨fun c => ⟨A 27, M.r27, 100, k, ⟨M.s27, rfl, by omega, by omega⟩, ?_, rfl⟩, fun c => ⟨A 28, M.r28, 100, k, ⟨M.s28, rfl, by omega, by omega⟩, ?_, rfl⟩⟩
  · rw [c8, Nat.min_eq_right c]
  · rw [c9, Nat.min_eq_left (by omega)]
theorem c_MO_earliest (R : MR A h S) (W : WF S) : Ci G l M_MO_earliest (d + 1) (w + 21) [.ref (A 41)] h 0 0 (fun r h' => h = h' ∧ ((erl S.2.2.2.1 = none ∧ r = -1) ∨ ∃ k, k < S.2.2.2.1.length ∧ erl S.2.2.2.1 = some k ∧ r = nI k)) := by
  refine ok_MO_earliest ?_
  have R0 := R
  obtain ⟨M, r1, r2, r3, r4, r5, r6, r7, r8, r9⟩ := R
  have hl := W.2.2.2.2.2.1
  generalize hms : S.2.2.2.1 = ms at *
  have step : ∀ n, (List.range (n + 1)).foldl (fun b k => if ms[k]?.any (fun m => mFate m = 0) = true then stp (fun k => mom (mat ms k)) b k else b) none = (if ms[n]?.any (fun m => mFate m = 0) = true then stp (fun k => mom (mat ms k)) ((List.range n).foldl (fun b k => if ms[k]?.any (fun m => mFate m = 0) = true then stp (fun k => mom (mat ms k)) b k else b) none) n else (List.range n).foldl (fun b k => if ms[k]?.any (fun m => mFate m = 0) = true then stp (fun k => mom (mat ms k)) b k else b) none) := fun n => by
    rw [List.range_succ, List.foldl_append]
    rfl
  rw [erl_range]
  unfold wp_MO_earliest wL_MO_earliest_4
  refine ⟨fun x1 x h' => h = h' ∧ ∃ n, n ≤ ms.length ∧ x = nI n ∧ (((List.range n).foldl (fun b k => if ms[k]?.any (fun m => mFate m = 0) = true then stp (fun k => mom (mat ms k)) b k else b) none = none ∧ x1 = -1) ∨ ∃ k, k < n ∧ (List.range n).foldl (fun b k => if ms[k]?.any (fun m => mFate m = 0) = true then stp (fun k => mom (mat ms k)) b k else b) none = some k ∧ x1 = nI k), fun x1 x h' => ms.length - x.toNatClampNeg, ⟨rfl, 0, Nat.zero_le _, rfl, Or.inl ⟨rfl, rfl⟩⟩, ?_⟩
  rintro x1 _ _ ⟨rfl, n, hn, rfl, hx⟩
  unfold wB_MO_earliest_4 wJ_MO_earliest_42 wJ_MO_earliest_38 wJ_MO_earliest_43
  rw [r7.1.1, nI_leI (by omega) (by omega)]
  refine ⟨M.s41, fun c => ?_, fun c => ⟨A 30, M.r30, 100, n, ⟨M.s30, rfl, by omega, by omega⟩, ?_⟩⟩
  · have en : n = ms.length := by omega
    subst en
    refine ⟨rfl, ?_⟩
    rcases hx with z | ⟨k, z1, z2, z3⟩
    · exact Or.inl z
    · exact Or.inr ⟨k, z1, z2, z3⟩
  · have hnl : n < ms.length := by omega
    have f30 := (r7.2.1 n hnl).2.2.2.2.2.2.2.2.2.2
    have hf3 := (W.2.2.2.2.2.2.2.1 (mat ms n) (by rw [hms]; exact List.mem_of_getElem? (mat_at hnl))).2.2.2.2.2.2.2.1
    have hany : (ms[n]?.any (fun m => decide (mFate m = 0)) = true) ↔ mFate (mat ms n) = 0 := by
      rw [mat_at hnl]
      simp
    rw [f30, eqL (by omega) (by decide)]
    have next : ∀ x1', (((List.range (n + 1)).foldl (fun b k => if ms[k]?.any (fun m => mFate m = 0) = true then stp (fun k => mom (mat ms k)) b k else b) none = none ∧ x1' = -1) ∨ ∃ k, k < n + 1 ∧ (List.range (n + 1)).foldl (fun b k => if ms[k]?.any (fun m => mFate m = 0) = true then stp (fun k => mom (mat ms k)) b k else b) none = some k ∧ x1' = nI k) → ∀ x_1, x_1 = nI n + 1 → (h = h ∧ ∃ n, n ≤ ms.length ∧ x_1 = nI n ∧ (((List.range n).foldl (fun b k => if ms[k]?.any (fun m => mFate m = 0) = true then stp (fun k => mom (mat ms k)) b k else b) none = none ∧ x1' = -1) ∨ ∃ k, k < n ∧ (List.range n).foldl (fun b k => if ms[k]?.any (fun m => mFate m = 0) = true then stp (fun k => mom (mat ms k)) b k else b) none = some k ∧ x1' = nI k)) ∧ ms.length - x_1.toNatClampNeg < ms.length - (nI n).toNatClampNeg := by
      rintro x1' hx1 _ rfl
      rw [nI_1]
      exact ⟨⟨rfl, n + 1, by omega, rfl, hx1⟩, mu_lt hnl (by omega)⟩
    refine ⟨fun c0 => next _ ?_, fun c0 => ⟨fun cm => next _ (Or.inr ⟨n, by omega, ?_, rfl⟩), fun cm => ?_⟩⟩
    · rw [step, if_neg (fun z => c0 (hany.mp z))]
      rcases hx with z | ⟨k, z1, z2, z3⟩
      · exact Or.inl z
      · exact Or.inr ⟨k, by omega, z2, z3⟩
    · rw [step, if_pos (hany.mpr c0)]
      rcases hx with ⟨z, -⟩ | ⟨k, z1, z2, z3⟩
      · rw [z]; rfl
      · rw [z3] at cm
        exact absurd cm (nI_pos (by omega))
    · obtain ⟨k, z1, z2, z3⟩ : ∃ k, k < n ∧ (List.range n).foldl (fun b k => if ms[k]?.any (fun m => mFate m = 0) = true then stp (fun k => mom (mat ms k)) b k else b) none = some k ∧ x1 = nI k := by
        rcases hx with ⟨-, z⟩ | z
        · rw [z] at cm
          exact absurd (show (-1 : Int32) < 0 by decide) cm
        · exact z
      subst z3
      have m1 := c_MO_moment (G := G) (l := l) (d := d) (w := w) (k := n) R0 W (by rw [hms]; exact hnl)
      have m2 := c_MO_moment (G := G) (l := l) (d := d) (w := w) (k := k) R0 W (by rw [hms]; omega)
      rw [hms] at m1 m2
      have b1 := (W.2.2.2.2.2.2.2.1 (mat ms n) (by rw [hms]; exact List.mem_of_getElem? (mat_at hnl))).bnd W.2.2.2.2.2.2.2.2
      have b2 := (W.2.2.2.2.2.2.2.1 (mat ms k) (by rw [hms]; exact List.mem_of_getElem? (mat_at (by omega)))).bnd W.2.2.2.2.2.2.2.2
      have b1' : mom (mat ms n) ≤ 60000736 := Nat.le_trans (Nat.min_le_left _ _) b1.2.2.1
      have b2' : mom (mat ms k) ≤ 60000736 := Nat.le_trans (Nat.min_le_left _ _) b2.2.2.1
      refine ⟨_, m1, ?_⟩
      rintro _ _ ⟨rfl, rfl⟩
      refine ⟨M.s41, _, m2, ?_⟩
      rintro _ _ ⟨rfl, rfl⟩
      rw [nI_leI (by omega) (by omega)]
      refine ⟨fun cl => next _ (Or.inr ⟨k, by omega, ?_, rfl⟩), fun cl => next _ (Or.inr ⟨n, by omega, ?_, rfl⟩)⟩
      · rw [step, if_pos (hany.mpr c0), z2]
        show (if mom (mat ms n) < mom (mat ms k) then some n else some k) = some k
        rw [if_neg (by omega)]
      · rw [step, if_pos (hany.mpr c0), z2]
        show (if mom (mat ms n) < mom (mat ms k) then some n else some k) = some n
        rw [if_pos (by omega)]
end MO
