/-! the reference's side -/
theorem lea_ex (P : Nat → Prop) (h : ∃ k, P k) : ∃ k, P k ∧ ∀ j, P j → k ≤ j := by
  obtain ⟨k, hk⟩ := h
  induction k using Nat.strongRecOn with
  | _ k ih =>
    by_cases c : ∃ j, j < k ∧ P j
    · obtain ⟨j, h1, h2⟩ := c
      exact ih j h1 h2
    · exact ⟨k, hk, fun j hj => Nat.le_of_not_lt (fun z => c ⟨j, z, hj⟩)⟩
noncomputable def lea (P : Nat → Prop) : Nat := @dite _ (∃ k, P k) (Classical.propDecidable _) (fun h => Classical.choose (lea_ex P h)) (fun _ => 0)
theorem lea_ok {P : Nat → Prop} (h : ∃ k, P k) : P (lea P) ∧ ∀ j, P j → lea P ≤ j := by
  unfold lea
  rw [dif_pos h]
  exact Classical.choose_spec (lea_ex P h)
section MR2
variable {G : Gx} {l : Launch} {d w : Nat} {A : Nat → Nat} {h h' : Hp} {F : List Nat} {S : SS}
def setN (S : SS) (n : Nat) : SS := (S.1, S.2.1, S.2.2.1, S.2.2.2.1, n)
theorem deal1_now (S : SS) (n k : Nat) : deal1 (setN S n) k = setN (deal1 S k) n := by
  have e1 : (setN S n).1 = S.1 := rfl
  have e2 : (setN S n).2.2.2.1 = S.2.2.2.1 := rfl
  unfold deal1
  rw [e1, e2]
  by_cases c : mom (mat S.2.2.2.1 k) = sOld (mSub (mat S.2.2.2.1 k)) (mAcc (mat S.2.2.2.1 k))
  · rw [if_pos c, if_pos c]
    rfl
  · rw [if_neg c, if_neg c]
    cases hh : hold S.1 (sTo (mSub (mat S.2.2.2.1 k))) with
    | none => rfl
    | some e =>
      dsimp only
      by_cases c2 : dOn (S.1 e) = true ∧ (dInb (S.1 e)).length < 6
      · rw [if_pos c2, if_pos c2]
        rfl
      · rw [if_neg c2, if_neg c2]
        rfl
theorem deal_now (S : SS) (n k : Nat) : deal (setN S n) k = (setN (deal S k).1 n, (deal S k).2) := by
  unfold deal
  rw [deal1_now]
  have e2 : (setN (deal1 S k) n).2.2.2.1 = (deal1 S k).2.2.2.1 := rfl
  have e3 : (setN S n).2.2.2.1 = S.2.2.2.1 := rfl
  rw [e2, e3]
  by_cases c : mFate (mat (deal1 S k).2.2.2.1 k) = 0
  · rw [if_pos c, if_pos c]
  · rw [if_neg c, if_neg c]
    rfl
theorem MR.tm {n : Nat} (R : MR A h S) : MQr A h (setN S n) (pI h (A 41) 19 (nI n)) := by
  obtain ⟨M, r1, r2, r3, r4, r5, r6, r7, r8, r9⟩ := R
  have a : Mf A [19] h (pI h (A 41) 19 (nI n)) := mf_pS (by decide)
  refine ⟨⟨a.ma M, r1.kept a M.j (by decide) (by decide), r2.kept a M.j (fun _ _ => ⟨rfl, rfl⟩) (by decide) (by decide), r3.kept a M.j (fun _ _ => ⟨rfl, rfl⟩) (by decide) (by decide), r4.kept a M.j (fun _ _ => ⟨rfl, rfl⟩) (by decide) (by decide) (by decide), r5.kept a M.j (by decide) (by decide) (by decide), r6.kept a M.j (by decide), ⟨⟨?_, ?_, hI_pI_eq⟩, fun k hk => (r7.2.1 k hk).kept a M.j (by simp; omega), fun k hk => ?_⟩, r8.kept a M.j (by decide) (by decide) (by decide) (by decide), r9.kept a M.j (fun _ _ => rfl) (by simp; omega)⟩, a.mono (by decide)⟩
  · rw [a.2.2 17 (by decide)]; exact r7.1.1
  · rw [a.2.2 18 (by decide)]; exact r7.1.2.1
  · rw [a.i M.j 29 (by decide) (by decide) (by decide), a.i M.j 30 (by decide) (by decide) (by decide)]
    exact r7.2.2 k hk
theorem c_MO_advance {y : Int32} (R : MR A h S) (W : WX S) (hnow : S.2.2.2.2 + 100000 ≤ 60000000) : Ci G l M_MO_advance (d + 5) (w + 119) [.ref (A 41), .int y] h 0 0 (fun r h' => r = (sAdv S y).2 ∧ MQr A h (sAdv S y).1 h') := by
  refine ok_MO_advance ?_
  unfold wp_MO_advance wJ_MO_advance_10
  refine ⟨fun c => ?_, fun c => ⟨fun c2 => ?_, fun c2 => ?_⟩⟩
  · unfold sAdv
    rw [if_pos (Or.inl c)]
    exact ⟨rfl, MQr.same R⟩
  · obtain ⟨b, hb, rfl⟩ := i_nat c
    rw [leL hb (by decide)] at c2
    have c2' : b ≤ 100000 := c2
    have M := R.1
    have t19 : hI h (A 41) 19 = nI S.2.2.2.2 := R.2.2.2.2.2.2.2.1.1.2.2
    have es : sAdv S (nI b) = (setN (advL 100000 S (S.2.2.2.2 + b) 0).1 (S.2.2.2.2 + b), nI (advL 100000 S (S.2.2.2.2 + b) 0).2) := by
      unfold sAdv
      rw [if_neg (fun z => by
        rcases z with z | z
        · exact c z
        · have := (Llt hb (by decide)).mp z
          have : 100000 < b := this
          omega), nI_clamp hb]
      rfl
    rw [es, t19, nI_add]
    generalize hu : S.2.2.2.2 + b = u at *
    have R1 := R.tm (n := u)
    generalize pI h (A 41) 19 (nI u) = h1 at R1 ⊢
    have W1 : ∀ {T : SS}, WX T → T.2.2.2.2 = S.2.2.2.2 → WX (setN T u) := fun {T} WT eT => WT.now (by rw [eT]; omega) (by omega)
    refine ⟨M.s41, _, c_MO_earliest R1.1 (W1 W rfl).1, ?_⟩
    rintro x _ ⟨rfl, hx⟩
    have hmu0 : mu S.2.2.2.1 ≤ 72100 := by
      have h1 := mu_le (ms := S.2.2.2.1) (b := 721) (fun m hm => muM_le (W.1.2.2.2.2.2.2.2.1 m hm))
      have h2 : 721 * S.2.2.2.1.length ≤ 721 * 100 := Nat.mul_le_mul_left _ W.1.2.2.2.2.2.1
      omega
    unfold wL_MO_advance_29
    refine ⟨fun x2 x3 h' => ∃ j, ∃ T cnt, advL 100000 S u 0 = advL j T u cnt ∧ mu T.2.2.2.1 < j ∧ WX T ∧ T.2.2.2.2 = S.2.2.2.2 ∧ x2 = nI cnt ∧ ((erl T.2.2.2.1 = none ∧ x3 = -1) ∨ ∃ k, k < T.2.2.2.1.length ∧ erl T.2.2.2.1 = some k ∧ x3 = nI k) ∧ MR A h' (setN T u) ∧ Mf A FA h h', fun x2 x3 h' => lea (fun j => ∃ T cnt, advL 100000 S u 0 = advL j T u cnt ∧ mu T.2.2.2.1 < j ∧ WX T ∧ T.2.2.2.2 = S.2.2.2.2 ∧ x2 = nI cnt ∧ ((erl T.2.2.2.1 = none ∧ x3 = -1) ∨ ∃ k, k < T.2.2.2.1.length ∧ erl T.2.2.2.1 = some k ∧ x3 = nI k) ∧ MR A h' (setN T u) ∧ Mf A FA h h'), ⟨100000, S, 0, rfl, by omega, W, rfl, rfl, hx, R1.1, R1.2⟩, ?_⟩
    rintro x2 x3 h2 hInv
    obtain ⟨⟨T, cnt, e1, e2, WT, e3, rfl, hx3, R2, F2⟩, hmin⟩ := lea_ok hInv
    generalize hj : lea _ = j at e1 e2 hmin
    have M2 := R2.1
    have WN := W1 WT e3
    unfold wB_MO_advance_29 wJ_MO_advance_69
    -- the end
    have fin : advL j T u cnt = (T, cnt) → nI cnt = nI (advL 100000 S u 0).2 ∧ MQr A h (setN (advL 100000 S u 0).1 u) h2 := fun e => by
      rw [e1, e]
      exact ⟨rfl, R2, F2⟩
    have ej : j = (j - 1) + 1 := by omega
    rcases hx3 with ⟨z1, rfl⟩ | ⟨k, hk, z1, rfl⟩
    · refine ⟨fun _ => fin ?_, fun z => absurd (show (-1 : Int32) < 0 by decide) z⟩
      rw [ej, advL_succ, z1]
    · have hl100 := WT.1.2.2.2.2.2.1
      refine ⟨fun z => absurd z (nI_pos (by omega)), fun _ => ⟨M2.s41, _, c_MO_moment R2 WN.1 hk, ?_⟩⟩
      rintro _ _ ⟨rfl, rfl⟩
      have em : mat (setN T u).2.2.2.1 k = mat T.2.2.2.1 k := rfl
      rw [em]
      have bnd := (WT.1.2.2.2.2.2.2.2.1 _ (List.mem_of_getElem? (mat_at hk))).bnd WT.1.2.2.2.2.2.2.2.2
      have hat : mom (mat T.2.2.2.1 k) ≤ 60000736 := Nat.le_trans (Nat.min_le_left _ _) bnd.2.2.1
      have t19' : hI h2 (A 41) 19 = nI u := R2.2.2.2.2.2.2.2.1.1.2.2
      rw [t19', nI_ltI (by omega) (by omega)]
      refine ⟨M2.s41, fun cu => fin ?_, fun cu => ?_⟩
      · rw [ej, advL_succ, z1]
        dsimp only
        rw [if_neg (by omega)]
      · have hkp := erl_mem z1
        refine ⟨_, c_MO_deal R2 WN hkp, ?_⟩
        rintro y h3 ⟨rfl, R3⟩
        rw [deal_now] at R3 ⊢
        obtain ⟨d1, d2, d3, d4⟩ := deal_ok WT.1 hkp
        have WD := deal_dx WT hkp
        have eD : (deal T k).1.2.2.2.2 = S.2.2.2.2 := by rw [d2, e3]
        have F3 := F2.trans R3.2
        have next : ∀ c', c' = cnt + (deal T k).2 → wJ_MO_advance_60 G l d w (fun r h' => r = nI (advL 100000 S u 0).2 ∧ MQr A h (setN (advL 100000 S u 0).1 u) h') (fun x2_ x3_ h_ => (∃ j, ∃ T cnt, advL 100000 S u 0 = advL j T u cnt ∧ mu T.2.2.2.1 < j ∧ WX T ∧ T.2.2.2.2 = S.2.2.2.2 ∧ x2_ = nI cnt ∧ ((erl T.2.2.2.1 = none ∧ x3_ = -1) ∨ ∃ k, k < T.2.2.2.1.length ∧ erl T.2.2.2.1 = some k ∧ x3_ = nI k) ∧ MR A h_ (setN T u) ∧ Mf A FA h h_) ∧ lea (fun j => ∃ T cnt, advL 100000 S u 0 = advL j T u cnt ∧ mu T.2.2.2.1 < j ∧ WX T ∧ T.2.2.2.2 = S.2.2.2.2 ∧ x2_ = nI cnt ∧ ((erl T.2.2.2.1 = none ∧ x3_ = -1) ∨ ∃ k, k < T.2.2.2.1.length ∧ erl T.2.2.2.1 = some k ∧ x3_ = nI k) ∧ MR A h_ (setN T u) ∧ Mf A FA h h_) < j) (A 41) (nI b) (nI cnt) (nI k) (nI c') h3 := by
          intro c' hc'
          unfold wJ_MO_advance_60
          refine ⟨R3.1.1.s41, _, c_MO_earliest R3.1 (W1 WD eD).1, ?_⟩
          rintro z _ ⟨rfl, hz⟩
          have hI2 : ∃ T cnt, advL 100000 S u 0 = advL (j - 1) T u cnt ∧ mu T.2.2.2.1 < j - 1 ∧ WX T ∧ T.2.2.2.2 = S.2.2.2.2 ∧ nI c' = nI cnt ∧ ((erl T.2.2.2.1 = none ∧ z = -1) ∨ ∃ k, k < T.2.2.2.1.length ∧ erl T.2.2.2.1 = some k ∧ z = nI k) ∧ MR A h3 (setN T u) ∧ Mf A FA h h3 := by
            refine ⟨(deal T k).1, c', ?_, by omega, WD, eD, rfl, hz, R3.1, F3⟩
            rw [e1, ej, advL_succ, z1]
            dsimp only
            rw [if_pos (by omega), ← hc', Nat.add_sub_cancel]
          exact ⟨⟨j - 1, hI2⟩, Nat.lt_of_le_of_lt ((lea_ok ⟨j - 1, hI2⟩).2 _ hI2) (by omega)⟩
        have d2' : (deal T k).2 = 0 ∨ (deal T k).2 = 1 := by
          unfold deal
          split
          · exact Or.inl rfl
          · exact Or.inr rfl
        dsimp only
        rw [← hj] at next
        rcases d2' with e | e
        · rw [e]
          exact ⟨fun _ => next cnt (by rw [e]; rfl), fun z => absurd rfl z⟩
        · rw [e]
          refine ⟨fun z => absurd z (by decide), fun _ => ?_⟩
          rw [nI_1]
          exact next (cnt + 1) (by rw [e])
  · unfold sAdv
    rw [if_pos (Or.inr (Int32.not_le.mp c2))]
    exact ⟨rfl, MQr.same R⟩
end MR2
