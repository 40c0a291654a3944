/-! one dealing -/
theorem numN_lt {bs : List Nat} {s : Nat} : ∀ n, (∀ k, k < n → nib bs s k ≤ 9) → numN bs s n < 10 ^ n := by
  intro n
  induction n with
  | zero => intro _; exact Nat.zero_lt_one
  | succ n ih =>
    intro hd
    have h1 := ih (fun k hk => hd k (by omega))
    have h2 := hd n (by omega)
    show 10 * numN bs s n + nib bs s n < _
    rw [Nat.pow_succ]
    omega
theorem numN_pos {bs : List Nat} {s : Nat} (h0 : 1 ≤ nib bs s 0) : ∀ n, 1 ≤ n → 1 ≤ numN bs s n := by
  intro n
  induction n with
  | zero => intro h; omega
  | succ n ih =>
    intro _
    show 1 ≤ 10 * numN bs s n + nib bs s n
    by_cases c : n = 0
    · subst c
      omega
    · have := ih (by omega)
      omega
theorem Lg_to {bs : List Nat} (L : Lg bs) : 1 ≤ sTo bs ∧ sTo bs < 1000000000000 := by
  obtain ⟨-, ⟨-, n1, n2, -, n4, -⟩, -⟩ := L
  unfold sTo
  refine ⟨numN_pos ((n4 0 n1).2.2 rfl) _ n1, ?_⟩
  refine Nat.lt_of_lt_of_le (numN_lt _ (fun k hk => (n4 k hk).2.1)) ?_
  exact Nat.le_trans (Nat.pow_le_pow_right (by decide) n2) (by decide)
def MGx (G : Gx) (own : Nat → Tg) (h : Hp) (D : Nat → Nat) (ml pl : Nat) (xs pk : List Nat) (ms : List SMs) : Prop := LJ G own h 9 ml xs ∧ LJ G own h 10 pl (pk.map (fun k => xs.getD k 0)) ∧ xs.length = ms.length ∧ ∀ k m, ms[k]? = some m → MS G own h D k (xs.getD k 0) m
def CX (G : Gx) (own : Nat → Tg) (h : Hp) (D : Nat → Nat) (x u ml pl : Nat) (xs pk : List Nat) (S : SS) : Prop := CRc own h D x u S.2.2.1 ml pl S.2.2.2.2 ∧ UP G own h D u S.2.1 ∧ MGx G own h D ml pl xs pk S.2.2.2.1 ∧ ∀ d, d < 4 → DV G own h D d (S.1 d)
theorem MW.bnd {now : Nat} {m : SMs} (W : MW now m) (hn : now ≤ 60000000) : mAcc m ≤ 60000000 ∧ sOld (mSub m) (mAcc m) ≤ 60000720 ∧ mNxt m ≤ 60000736 ∧ mOff m ≤ 60000740 ∧ sOld (mSub m) (mAcc m) ≤ mAcc m + 720 := by
  obtain ⟨w1, w2, w3, w4, w5, w6, w7, w8, w9, w10, w11⟩ := W
  have h1 : sOld (mSub m) (mAcc m) ≤ mAcc m + 720 := by
    unfold sOld
    have := w1.2.2.1.2.2.2
    omega
  omega
section DL
variable {G : Gx} {l : Launch} {d w : Nat} {own own' : Nat → Tg} {h h' : Hp} {D : Nat → Nat} {x u ml pl : Nat} {xs pk : List Nat} {S : SS}
theorem CS.cx (C : CS G own h D x S) : ∃ u ml pl xs, CX G own h D x u ml pl xs (pend S.2.2.2.1) S := by
  obtain ⟨u, ml, pl, C1, U, ⟨xs, A, B, e, r⟩, V⟩ := C.split
  exact ⟨u, ml, pl, xs, C1, U, ⟨A, B, e, r⟩, V⟩
theorem CX.cs (C : CX G own h D x u ml pl xs (pend S.2.2.2.1) S) : CS G own h D x S := by
  obtain ⟨C1, U, ⟨A, B, e, r⟩, V⟩ := C
  exact CS.join C1 U ⟨xs, A, B, e, r⟩ V
theorem mat_at {ms : List SMs} {k : Nat} (hk : k < ms.length) : ms[k]? = some (mat ms k) := by
  unfold mat
  rw [List.getD_eq_getElem?_getD, List.getElem?_eq_getElem hk]
  rfl
theorem pend_lt {ms : List SMs} {k : Nat} (hk : k ∈ pend ms) : k < ms.length := by
  unfold pend at hk
  exact List.mem_range.mp (List.mem_filter.mp hk).1
theorem c_SC_earliestPlace (C : CX G own h D x u ml pl xs (pend S.2.2.2.1) S) (hw : WF S) : Ci G l M_SC_earliestPlace (d + 4) (w + 94) [.ref x] h 0 0 (fun r h' => h = h' ∧ match erl S.2.2.2.1 with
    | none => r = -1
    | some k => ∃ j, r = nI j ∧ j < (pend S.2.2.2.1).length ∧ (pend S.2.2.2.1)[j]? = some k) := by
  obtain ⟨C1, U, ⟨A, B, e, r⟩, V⟩ := C
  obtain ⟨hw1, hw2, hw3, hw4, hw5, hw6, hw7, hw8, hw9⟩ := hw
  refine ok_SC_earliestPlace ?_
  unfold wp_SC_earliestPlace wL_SC_earliestPlace_4
  refine ⟨fun x1 x2 h' => h = h' ∧ ∃ i, i ≤ (pend S.2.2.2.1).length ∧ x2 = nI i ∧ match ((pend S.2.2.2.1).take i).foldl (stp (fun k => mom (mat S.2.2.2.1 k))) none with
    | none => x1 = -1
    | some k => ∃ j, x1 = nI j ∧ j < i ∧ (pend S.2.2.2.1)[j]? = some k, fun _ x2 _ => 1000 - x2.toNatClampNeg, ⟨rfl, 0, Nat.zero_le _, rfl, rfl⟩, ?_⟩
  rintro x1 _ _ ⟨rfl, i, hi, rfl, hb⟩
  unfold wB_SC_earliestPlace_4
  refine ⟨C1.1.1, pl, C1.2.2.2.2.2, B.hs, _, c_LJ_size B, ?_⟩
  rintro _ _ ⟨rfl, rfl⟩
  rw [List.length_map, nI_leI (by omega) (by omega)]
  refine ⟨fun c => ⟨rfl, ?_⟩, fun c => ?_⟩
  · rw [List.take_of_length_le c] at hb
    unfold erl
    generalize (pend S.2.2.2.1).foldl (stp (fun k => mom (mat S.2.2.2.1 k))) none = b at hb ⊢
    cases b with
    | none => exact hb
    | some k =>
      obtain ⟨j, j1, j2, j3⟩ := hb
      exact ⟨j, j1, by omega, j3⟩
  · have hil : i < (pend S.2.2.2.1).length := by omega
    have htk : (pend S.2.2.2.1).take (i + 1) = (pend S.2.2.2.1).take i ++ [(pend S.2.2.2.1)[i]] := by rw [List.take_succ, List.getElem?_eq_getElem hil]; rfl
    have mu : 1000 - (nI i + 1).toNatClampNeg < 1000 - (nI i).toNatClampNeg := by
      rw [nI_1, nI_clamp (by omega), nI_clamp (by omega)]
      omega
    have gt : ∀ j, ∀ hj : j < (pend S.2.2.2.1).length, ((pend S.2.2.2.1).map (fun k => xs.getD k 0)).getD j 0 = xs.getD (pend S.2.2.2.1)[j] 0 ∧ MS G own h D (pend S.2.2.2.1)[j] (xs.getD (pend S.2.2.2.1)[j] 0) (mat S.2.2.2.1 (pend S.2.2.2.1)[j]) ∧ MW S.2.2.2.2 (mat S.2.2.2.1 (pend S.2.2.2.1)[j]) := fun j hj => by
      have hm := List.getElem_mem hj
      have hat := mat_at (pend_lt hm)
      refine ⟨by simp [List.getD_eq_getElem?_getD, hj], r _ _ hat, hw8 _ (List.mem_of_getElem? hat)⟩
    unfold wJ_SC_earliestPlace_50 wJ_SC_earliestPlace_52
    have new : (((pend S.2.2.2.1).take i).foldl (stp (fun k => mom (mat S.2.2.2.1 k))) none = none ∨ ∃ k, ((pend S.2.2.2.1).take i).foldl (stp (fun k => mom (mat S.2.2.2.1 k))) none = some k ∧ mom (mat S.2.2.2.1 (pend S.2.2.2.1)[i]) < mom (mat S.2.2.2.1 k)) → ((h = h ∧ ∃ i', i' ≤ (pend S.2.2.2.1).length ∧ nI i + 1 = nI i' ∧ match ((pend S.2.2.2.1).take i').foldl (stp (fun k => mom (mat S.2.2.2.1 k))) none with
      | none => nI i = -1
      | some k => ∃ j, nI i = nI j ∧ j < i' ∧ (pend S.2.2.2.1)[j]? = some k) ∧ 1000 - (nI i + 1).toNatClampNeg < 1000 - (nI i).toNatClampNeg) := by
      intro hc
      refine ⟨⟨rfl, i + 1, hil, nI_1 i, ?_⟩, mu⟩
      rw [htk, List.foldl_append]
      have : List.foldl (stp (fun k => mom (mat S.2.2.2.1 k))) (((pend S.2.2.2.1).take i).foldl (stp (fun k => mom (mat S.2.2.2.1 k))) none) [(pend S.2.2.2.1)[i]] = some (pend S.2.2.2.1)[i] := by
        rcases hc with hc | ⟨k, hc, hlt⟩
        · rw [hc]; rfl
        · rw [hc]
          show (if _ < _ then _ else _) = _
          rw [if_pos hlt]
      rw [this]
      exact ⟨i, rfl, by omega, List.getElem?_eq_getElem hil⟩
    cases hf : ((pend S.2.2.2.1).take i).foldl (stp (fun k => mom (mat S.2.2.2.1 k))) none with
    | none =>
      rw [hf] at hb
      dsimp only at hb
      subst hb
      refine ⟨fun _ => ?_, fun c1 => absurd (by decide) c1⟩
      rintro _ rfl
      exact new (Or.inl hf)
    | some k =>
      rw [hf] at hb
      obtain ⟨j, rfl, hj, hjk⟩ := hb
      refine ⟨fun c1 => absurd c1 (nI_pos (by omega)), fun _ => ⟨C1.1.1, pl, C1.2.2.2.2.2, B.hs, _, c_LJ_get B (by rw [List.length_map]; exact hil), ?_⟩⟩
      rintro _ _ ⟨rfl, rfl⟩
      obtain ⟨g1, g2, g3⟩ := gt i hil
      have b3 := g3.bnd hw9
      rw [g1]
      refine ⟨_, rfl, g2.1, _, c_Me_moment g2 (by omega) (by omega), ?_⟩
      rintro _ _ ⟨rfl, rfl⟩
      refine ⟨C1.1.1, pl, C1.2.2.2.2.2, B.hs, _, c_LJ_get B (j := j) (by rw [List.length_map]; omega), ?_⟩
      rintro _ _ ⟨rfl, rfl⟩
      obtain ⟨k1, k2, k3⟩ := gt j (by omega)
      have b4 := k3.bnd hw9
      have ejk : (pend S.2.2.2.1)[j]'(by omega) = k := by
        rw [List.getElem?_eq_getElem (by omega)] at hjk
        exact Option.some.inj hjk
      rw [k1]
      refine ⟨_, rfl, k2.1, _, c_Me_moment k2 (by omega) (by omega), ?_⟩
      rintro _ _ ⟨rfl, rfl⟩
      have m1 : min (mNxt (mat S.2.2.2.1 (pend S.2.2.2.1)[j])) (sOld (mSub (mat S.2.2.2.1 (pend S.2.2.2.1)[j])) (mAcc (mat S.2.2.2.1 (pend S.2.2.2.1)[j]))) = mom (mat S.2.2.2.1 k) := by rw [ejk]; rfl
      have m2 : min (mNxt (mat S.2.2.2.1 (pend S.2.2.2.1)[i])) (sOld (mSub (mat S.2.2.2.1 (pend S.2.2.2.1)[i])) (mAcc (mat S.2.2.2.1 (pend S.2.2.2.1)[i]))) = mom (mat S.2.2.2.1 (pend S.2.2.2.1)[i]) := rfl
      rw [m1, m2, nI_leI (by omega) (by omega)]
      refine ⟨fun c2 => ?_, fun c2 => ?_⟩
      · rintro _ rfl
        refine ⟨⟨rfl, i + 1, hil, nI_1 i, ?_⟩, mu⟩
        rw [htk, List.foldl_append, hf]
        have : List.foldl (stp (fun k => mom (mat S.2.2.2.1 k))) (some k) [(pend S.2.2.2.1)[i]] = some k := by
          show (if _ < _ then _ else _) = _
          rw [if_neg (Nat.not_lt.mpr c2)]
        rw [this]
        exact ⟨j, rfl, by omega, hjk⟩
      · rintro _ rfl
        exact new (Or.inr ⟨k, hf, by omega⟩)
theorem c_SC_holderOf {to : Nat} (C : CRc own h D x u S.2.2.1 ml pl S.2.2.2.2) (V : ∀ d, d < 4 → DV G own h D d (S.1 d)) (hn : ∀ d, d < 4 → dNum (S.1 d) < 1000000000000) (ht : to < 1000000000000) : Cr G l M_SC_holderOf (d + 0) (w + 0) [.ref x, .long (lN to)] h 0 0 (Xq ((hold S.1 to).map D) h) := by
  obtain ⟨⟨c1, c2, c3⟩, ⟨dv, c4, c5, c6, c7⟩, -⟩ := C
  refine ok_SC_holderOf ?_
  unfold wp_SC_holderOf wL_SC_holderOf_2
  refine ⟨fun x3 h' => h = h' ∧ ∃ j, j ≤ 4 ∧ x3 = nI j ∧ ∀ i, i < j → ¬ dNum (S.1 i) = to, fun x3 _ => 10 - x3.toNatClampNeg, ⟨rfl, 0, by omega, rfl, fun i hi => by omega⟩, ?_⟩
  rintro _ _ ⟨rfl, j, hj, rfl, hV⟩
  unfold wB_SC_holderOf_2
  rw [Lle (by omega) (by decide)]
  refine ⟨fun c => ⟨?_, rfl⟩, fun c => ⟨c1, dv, c4, 4, j, ⟨c5, rfl, by omega, by omega⟩, D j, c7 j (by omega), (V j (by omega)).1, ?_⟩⟩
  · unfold hold
    rw [find_none (fun i hi => decide_eq_false (hV i (by omega)))]
    rfl
  · rw [(V j (by omega)).2.2.1, cmp_eq, pk_lEQ (by have := hn j (by omega); omega) (by omega)]
    refine ⟨fun c2 => ?_, fun c2 => ⟨dv, c4, 4, j, ⟨c5, rfl, by omega, by omega⟩, ?_, rfl⟩⟩
    · rintro _ rfl
      refine ⟨⟨rfl, j + 1, by omega, nI_1 j, fun i hi => ?_⟩, ?_⟩
      · rcases (show i < j ∨ i = j by omega) with z | z
        · exact hV i z
        · rw [z]; exact c2
      · show 10 - (nI j + 1).toNatClampNeg < 10 - (nI j).toNatClampNeg
        rw [nI_1, nI_clamp (by omega), nI_clamp (by omega)]
        omega
    · unfold hold
      rw [find_some (j := j) (by omega) (decide_eq_true c2) (fun i hi => decide_eq_false (hV i hi)), c7 j (by omega)]
      rfl
theorem MGx.kept {T : Tg → Prop} {ms : List SMs} (M : MGx G own h D ml pl xs pk ms) (F : FT own h h' T) (E : Eo own own' h) (nb : NB own T) (n4 : ¬ T (4, 9) ∧ ¬ T (4, 10)) (n5 : ¬ T (5, 9) ∧ ¬ T (5, 10)) (n13 : ∀ k, ¬ T (13, k)) : MGx G own' h' D ml pl xs pk ms := by
  obtain ⟨A, B, e, r⟩ := M
  exact ⟨A.kept F E n4.1 n5.1, B.kept F E n4.2 n5.2, e, fun k m hk => (r k m hk).kept F E nb (n13 k)⟩
/-- one message changes -/
theorem CX.msg {k : Nat} {m : SMs} (C : CX G own h D x u ml pl xs pk S) (hk : k < S.2.2.2.1.length) (F : FT own h h' (fun t => t = (13, k))) (M : MS G own h' D k (xs.getD k 0) m) : CX G own h' D x u ml pl xs pk (setMs S (S.2.2.2.1.set k m)) := by
  obtain ⟨C1, U, ⟨A, B, e, r⟩, V⟩ := C
  have nb : NB own (fun t => t = (13, k)) := ⟨by simp, fun a _ => by simp⟩
  refine ⟨C1.kept F Ey.rfl.ex (by simp) (by simp) (by simp) (by simp), U.kept F Ey.rfl (by simp) (by simp) (by simp) (by simp) (by simp), ⟨A.kept F Ey.rfl.ex (by simp) (by simp), B.kept F Ey.rfl.ex (by simp) (by simp), ?_, fun j m' hj => ?_⟩, fun j hj => (V j hj).kept F Ey.rfl.ex nb (by simp) (by simp) ⟨by simp, by simp⟩ ⟨by simp, by simp, by simp⟩ ⟨by simp, by simp, by simp⟩ (by simp) (by simp <;> omega)⟩
  · show xs.length = (S.2.2.2.1.set k m).length
    rw [List.length_set]
    exact e
  · change (S.2.2.2.1.set k m)[j]? = some m' at hj
    by_cases z : j = k
    · subst z
      rw [List.getElem?_set_self hk] at hj
      cases hj
      exact M
    · rw [List.getElem?_set_ne (fun y => z y.symm)] at hj
      exact (r j m' hj).kept F Ey.rfl.ex nb (by simp [z])
end DL
