/-! the reference's side -/
section ML
variable {G : Gx} {l : Launch} {d w : Nat} {A : Nat → Nat} {h h' : Hp} {F : List Nat} {S : SS}
theorem row_other {n m j c : Nat} (hj : j < cap m) (c2 : m ≠ n) (hc : c < cap n) : bL m + j ≠ bL n + c := fun e => c2 (row_ne hj hc e).1
theorem c_MO_swap {y : Int32} (R : MR A h S) (W : WX S) : Ci G l M_MO_swap (d + 2) (w + 44) [.ref (A 41), .int y] h 0 0 (fun r h' => r = (sSwp S y).2 ∧ MQr A h (sSwp S y).1 h') := by
  refine ok_MO_swap ?_
  have R0 := R
  obtain ⟨M, r1, r2, r3, r4, r5, r6, r7, r8, r9⟩ := R
  unfold wp_MO_swap wJ_MO_swap_19
  refine ⟨_, c_MO_isDevice, ?_⟩
  rintro _ _ ⟨rfl, ⟨k, hk, rfl, hd, rfl⟩ | ⟨hd, rfl⟩⟩
  · unfold sSwp
    rw [hd, show (1 : Int32) + nI k = nI (1 + k) from nI_add 1 k]
    dsimp only
    obtain ⟨q1, q2, q3, q4⟩ := r5 (1 + k) (by omega)
    have hcn : cap (1 + k) = 6 := by have := bL_or (1 + k); omega
    have hL := linS_i (S := S) hk
    rw [hL] at q1 q2 q3 q4
    refine ⟨fun c => absurd c (by decide), fun _ => ⟨M.s41, A 16, M.r16, 9, 1 + k, ⟨M.s16, rfl, by omega, by omega⟩, ?_⟩⟩
    rw [q1, Lle (by omega) (by decide)]
    cases hr : dInb (S.1 k) with
    | nil => exact ⟨fun z => absurd z (by decide), fun _ => ⟨rfl, MQr.same R0⟩⟩
    | cons a rs0 =>
      cases rs0 with
      | nil => exact ⟨fun z => absurd z (by show ¬ 2 ≤ 1; decide), fun _ => ⟨rfl, MQr.same R0⟩⟩
      | cons b rs =>
        have hlen : (dInb (S.1 k)).length = rs.length + 2 := by rw [hr]; rfl
        have ba := q3 a (by rw [hr]; exact List.mem_cons_self ..)
        have bb := q3 b (by rw [hr]; exact List.mem_cons_of_mem _ (List.mem_cons_self ..))
        have h57 := row_lt (n := 1 + k) (by omega) (k := 1) (by omega)
        have hra := q4 0 (by omega)
        have hrb := q4 1 (by omega)
        rw [hr, Nat.add_zero] at hra
        rw [hr] at hrb
        have hra' : RA A h (bL (1 + k)) a := hra
        have hrb' : RA A h (bL (1 + k) + 1) b := hrb
        refine ⟨fun _ => ⟨_, c_MO_baseOf (by omega), ?_⟩, fun z => absurd (show 2 ≤ (a :: b :: rs).length by simp) z⟩
        rintro _ _ ⟨rfl, rfl⟩
        refine ⟨M.s41, _, c_MO_load M hra' (by omega) ba, ?_⟩
        rintro h1 ⟨B1, F1⟩
        have M1 := F1.ma M
        rw [nI_1]
        refine ⟨M1.s41, _, c_MO_move M1 (by omega) (by omega) (by omega), ?_⟩
        rintro h2 ⟨m13, m14, m15, F2⟩
        have M2 := F2.ma M1
        have g13 := F1.i M.j 13 (by decide) (by decide) (by decide)
        have g14 := F1.i M.j 14 (by decide) (by decide) (by decide)
        have g15 := F1.i M.j 15 (by decide) (by decide) (by decide)
        have g16 : hI h2 (A 16) = hI h (A 16) := (F2.i M.j 16 (by decide) (by decide) (by decide)).trans (F1.i M.j 16 (by decide) (by decide) (by decide))
        rw [g13] at m13
        rw [g14] at m14
        rw [g15] at m15
        refine ⟨M2.s41, A 16, M2.r16, 9, 1 + k, ⟨M2.s16, rfl, by omega, by omega⟩, ?_⟩
        rintro _ rfl
        refine ⟨A 16, M2.r16, 9, 1 + k, ⟨M2.s16, rfl, by omega, by omega⟩, ?_⟩
        rw [g16, q1, hlen]
        have F3 : Mf A [16] h2 (pI h2 (A 16) (1 + k) 1) := mf_pI M.j (by decide) (by decide) (by decide)
        have M3 := F3.ma M2
        have L3 : LR A (pI h2 (A 16) (1 + k) 1) (updL (linS S) (1 + k) [b]) := by
          intro m hm
          have k13 := F3.i M.j 13 (by decide) (by decide) (by decide)
          have k14 := F3.i M.j 14 (by decide) (by decide) (by decide)
          by_cases cm : m = 1 + k
          · subst cm
            rw [updL_eq, rE, va_up_self]
            refine ⟨rfl, by rw [hcn]; simp, fun r hr1 => by rw [List.mem_singleton.mp hr1]; exact bb, fun j hj => ?_⟩
            have j0 : j = 0 := by simp at hj; omega
            subst j0
            show RA A _ (bL (1 + k) + 0) b
            rw [Nat.add_zero]
            refine ⟨by rw [k14, m14, va_up_self]; exact hrb'.1, fun i hi => ?_⟩
            rw [k13, m13, cpF_in (by omega) (by omega), show 160 * (bL (1 + k) + 1) + (160 * bL (1 + k) + i - 160 * bL (1 + k)) = 160 * (bL (1 + k) + 1) + i by omega]
            exact hrb'.2 i hi
          · obtain ⟨s1, s2, s3, s4⟩ := r5 m hm
            rw [updL_ne cm, rE, va_up_ne _ _ cm, g16]
            refine ⟨s1, s2, s3, fun j hj => ?_⟩
            have hne := row_other (n := 1 + k) (c := 0) (by omega : j < cap m) cm (by omega)
            have hl := s3 _ (getD_mem (z := []) hj)
            refine ⟨by rw [k14, m14, va_up_ne _ _ (by omega)]; exact (s4 j hj).1, fun i hi => ?_⟩
            rw [k13, m13, cpF_out (by omega)]
            exact (s4 j hj).2 i hi
        have B3 := (B1.kept F2 M.j (by decide) (by decide)).kept F3 M.j (by decide) (by decide)
        have u3 : updL (linS S) (1 + k) [b] (1 + k) = [b] := updL_eq
        refine ⟨_, c_MO_append (x := 0) M3 L3 (by omega) (by rw [u3, hcn]; simp) B3 ba, ?_⟩
        rw [u3]
        rintro h4 ⟨L4, a15, ⟨a13, a14, a16⟩, F4⟩
        have M4 := F4.ma M3
        refine ⟨M4.s41, A 16, M4.r16, 9, 1 + k, ⟨M4.s16, rfl, by omega, by omega⟩, rfl, ?_⟩
        have F5 : Mf A [16] h4 (pI h4 (A 16) (1 + k) (nI (rs.length + 2))) := mf_pI M.j (by decide) (by decide) (by decide)
        have l13 := F5.i M.j 13 (by decide) (by decide) (by decide)
        have l14 := F5.i M.j 14 (by decide) (by decide) (by decide)
        have l15 := F5.i M.j 15 (by decide) (by decide) (by decide)
        have k13 := F3.i M.j 13 (by decide) (by decide) (by decide)
        have k14 := F3.i M.j 14 (by decide) (by decide) (by decide)
        have k15 := F3.i M.j 15 (by decide) (by decide) (by decide)
        have F05 : Mf A [11, 12, 13, 14, 15, 16] h (pI h4 (A 16) (1 + k) (nI (rs.length + 2))) := (F1.mono (by simp)).trans ((F2.mono (by simp)).trans ((F3.mono (by simp)).trans ((F4.mono (by simp)).trans (F5.mono (by simp)))))
        have l1 : ([b] : List (List Nat)).length = 1 := rfl
        rw [l1] at a13 a14 a15 a16
        refine R0.line (v := setInb (S.1 k) (b :: a :: rs)) F05 ⟨rfl, rfl⟩ ⟨rfl, rfl⟩ ⟨rfl, rfl⟩ rfl ?_ (fun j hj => ?_)
        · rw [linS_inb (v := setInb (S.1 k) (b :: a :: rs)) (x := b :: a :: rs) hk rfl rfl S.2 rfl]
          intro m hm
          obtain ⟨t1, t2, t3, t4⟩ := L4 m hm
          by_cases cm : m = 1 + k
          · subst cm
            rw [updL_eq] at t1 t2 t3 t4
            rw [updL_eq, rE, va_up_self]
            refine ⟨rfl, by rw [hcn] at q2 ⊢; rw [hlen] at q2; exact q2, fun r hr1 => q3 r ?_, fun j hj => ?_⟩
            · rw [hr]
              simp only [List.mem_cons] at hr1 ⊢
              rcases hr1 with z | z | z
              · exact Or.inr (Or.inl z)
              · exact Or.inl z
              · exact Or.inr (Or.inr z)
            · unfold RA
              rw [l13, l14]
              match j, hj with
              | 0, _ => exact t4 0 (by simp)
              | 1, _ => exact t4 1 (by simp)
              | j + 2, hj =>
                have hj' : j < rs.length := by simpa using hj
                have o := q4 (j + 2) (by omega)
                rw [hr] at o
                have o' : RA A h (bL (1 + k) + (j + 2)) (rs.getD j []) := o
                have hlr := q3 (rs.getD j []) (by rw [hr]; exact List.mem_cons_of_mem _ (List.mem_cons_of_mem _ (getD_mem hj')))
                show hI h4 (A 14) _ = nI (rs.getD j []).length ∧ ∀ i, i < (rs.getD j []).length → hI h4 (A 13) _ = nI (bt (rs.getD j []) i)
                refine ⟨by rw [a14 _ (by omega), k14, m14, va_up_ne _ _ (by omega)]; exact o'.1, fun i hi => ?_⟩
                rw [a13 _ (by omega), k13, m13, cpF_out (by omega)]
                exact o'.2 i hi
          · rw [updL_ne cm, updL_ne cm] at t1 t2 t3 t4
            rw [updL_ne cm, rE, va_up_ne _ _ cm]
            refine ⟨t1, t2, t3, fun j hj => ?_⟩
            unfold RA
            rw [l13, l14]
            exact t4 j hj
        · have := W.1.2.1
          have hb8 := bL_or (1 + k)
          rw [l15, a15, va_up_ne _ _ (by omega), k15, m15, va_up_ne _ _ (by omega)]
          exact r6 j hj
  · unfold sSwp
    rw [hd]
    exact ⟨fun _ => ⟨rfl, MQr.same R0⟩, fun c => absurd rfl c⟩
/-- where a part ends -/
theorem c_MO_cut {gs : List Nat} {i : Nat} (M : MA A h) (Q : SQ A h (gs.flatMap fsep)) (hg : ∀ g ∈ gs, g ≠ 27) (hi : i ≤ gs.length) : Ci G l M_MO_cut (d + 0) (w + 0) [.ref (A 41), .int (nI (sumS (gs.take i)))] h 0 0 (Xi (nI (sumS (gs.take (i + peL 0 (gs.drop i))))) h) := by
  refine ok_MO_cut ?_
  have hl := Q.2.1
  have hQ1 := Q.1
  rw [flat_len] at hl hQ1
  unfold wp_MO_cut wL_MO_cut_2
  refine ⟨fun x h' => h = h' ∧ ∃ j, i ≤ j ∧ j ≤ gs.length ∧ x = nI (sumS (gs.take j)) ∧ sumS (gs.take j) ≤ sumS (gs.take i) + 153 ∧ i + peL 0 (gs.drop i) = j + peL (sumS (gs.take j) - sumS (gs.take i)) (gs.drop j), fun x h' => sumS gs - x.toNatClampNeg, ⟨rfl, i, Nat.le_refl _, hi, rfl, by omega, by rw [Nat.sub_self]⟩, ?_⟩
  rintro _ _ ⟨rfl, j, hij, hj, rfl, h153, hpe⟩
  have hle := sumS_take gs j
  have hmono : sumS (gs.take i) ≤ sumS (gs.take j) := by
    rw [show j = i + (j - i) by omega, sumS_take_add]
    omega
  unfold wB_MO_cut_2
  rw [hQ1, nI_leI (by omega) (by omega)]
  refine ⟨M.s41, fun c => ?_, fun c => ?_⟩
  · have ej : j = gs.length := by
      rcases Nat.lt_or_ge j gs.length with z | z
      · have := sumS_take_lt z
        omega
      · omega
    rw [ej, List.drop_of_length_le (Nat.le_refl _)] at hpe
    have e0 : ∀ u, peL u [] = 0 := fun _ => rfl
    rw [e0] at hpe
    rw [hpe, Nat.add_zero, ej]
    exact ⟨rfl, rfl⟩
  · have hjl : j < gs.length := by
      rcases Nat.lt_or_ge j gs.length with z | z
      · exact z
      · rw [List.take_of_length_le z] at c
        omega
    have h27 := flat_at hg j hjl
    have hs := sumS_take_succ hjl
    have hsl := sl_le (gs.getD j 0)
    have hlt := sumS_take (gs) (j + 1)
    have hdr := drop_cons hjl
    rw [hdr, peL_cons] at hpe
    have hb128 : bt (gs.flatMap fsep) (sumS (gs.take j)) < 128 := Q.2.2.1 _ (getD_mem (by rw [flat_len]; omega))
    refine ⟨A 3, M.r3, 960, _, ⟨M.s3, rfl, by omega, by omega⟩, ?_⟩
    rw [Q.2.2.2 _ (by rw [flat_len]; omega), eqL (by omega) (by decide)]
    have go : ∀ x, x = nI (sumS (gs.take (j + 1))) → wJ_MO_cut_30 G l d w (Xi (nI (sumS (gs.take (i + peL 0 (gs.drop i))))) h) (fun x_ h_ => (h = h_ ∧ ∃ j, i ≤ j ∧ j ≤ gs.length ∧ x_ = nI (sumS (gs.take j)) ∧ sumS (gs.take j) ≤ sumS (gs.take i) + 153 ∧ i + peL 0 (gs.drop i) = j + peL (sumS (gs.take j) - sumS (gs.take i)) (gs.drop j)) ∧ sumS gs - x_.toNatClampNeg < sumS gs - (nI (sumS (gs.take j))).toNatClampNeg) (A 41) (nI (sumS (gs.take i))) (nI (sumS (gs.take j))) x h := by
      rintro _ rfl
      unfold wJ_MO_cut_30
      rw [pk_sub (by omega), leL (by omega) (by decide)]
      refine ⟨fun c1 => ?_, fun c1 => ?_⟩
      · have c1' : sumS (gs.take (j + 1)) - sumS (gs.take i) ≤ 153 := c1
        refine ⟨⟨rfl, j + 1, by omega, by omega, rfl, by omega, ?_⟩, ?_⟩
        · rw [if_pos (by omega)] at hpe
          rw [show sumS (gs.take (j + 1)) - sumS (gs.take i) = sumS (gs.take j) - sumS (gs.take i) + sl (gs.getD j 0) by omega]
          omega
        · rw [nI_clamp (by omega), nI_clamp (by omega)]
          omega
      · have c1' : ¬ sumS (gs.take (j + 1)) - sumS (gs.take i) ≤ 153 := c1
        rw [if_neg (by omega)] at hpe
        rw [hpe, Nat.add_zero]
        exact ⟨rfl, rfl⟩
    refine ⟨fun c2 => go _ ?_, fun c2 => go _ ?_⟩
    · have : sl (gs.getD j 0) ≠ 2 := fun z => c2 (h27.mpr z)
      rw [nI_1, hs, show sl (gs.getD j 0) = 1 by omega]
    · have := h27.mp c2
      rw [show (2 : Int32) = nI 2 from rfl, nI_add, hs, this]
theorem c_MO_partsOf {gs : List Nat} (M : MA A h) (Q : SQ A h (gs.flatMap fsep)) (hg : ∀ g ∈ gs, g ≠ 27) (hgl : gs.length ≤ 480) : Ci G l M_MO_partsOf (d + 1) (w + 23) [.ref (A 41)] h 0 0 (Xi (nI (pcN gs)) h) := by
  refine ok_MO_partsOf ?_
  have hl := Q.2.1
  have hQ1 := Q.1
  rw [flat_len] at hl hQ1
  unfold wp_MO_partsOf wL_MO_partsOf_4
  refine ⟨fun x1 x h' => h = h' ∧ ∃ n j, j ≤ gs.length ∧ n ≤ j ∧ x1 = nI n ∧ x = nI (sumS (gs.take j)) ∧ nP gs.length gs = n + nP gs.length (gs.drop j), fun x1 x h' => sumS gs - x.toNatClampNeg, ⟨rfl, 0, 0, Nat.zero_le _, Nat.le_refl _, rfl, rfl, by rw [List.drop_zero, Nat.zero_add]⟩, ?_⟩
  rintro _ _ _ ⟨rfl, n, j, hj, hnj, rfl, rfl, hn⟩
  have hle := sumS_take gs j
  unfold wB_MO_partsOf_4 wJ_MO_partsOf_39
  rw [hQ1, nI_leI (by omega) (by omega), Llt (by omega) (by decide)]
  refine ⟨M.s41, fun c => ⟨fun c1 => ⟨?_, rfl⟩, fun c1 => ⟨?_, rfl⟩⟩, fun c => ?_⟩
  · have c1' : 160 < sumS gs := c1
    have ej : j = gs.length := by
      rcases Nat.lt_or_ge j gs.length with z | z
      · have := sumS_take_lt z
        omega
      · omega
    have hne : gs.length ≠ 0 := fun z => by
      rw [List.length_eq_zero_iff.mp z] at c1'
      exact absurd c1' (by decide)
    have e0 : ∀ k, nP k [] = 0 := fun k => by cases k <;> rfl
    rw [ej, List.drop_of_length_le (Nat.le_refl _), e0, Nat.add_zero] at hn
    unfold pcN
    rw [if_neg (by omega), nP_pc hne, hn]
  · unfold pcN
    rw [if_pos (by have : ¬ 160 < sumS gs := c1; omega)]
    rfl
  · rintro _ rfl
    have hjl : j < gs.length := by
      rcases Nat.lt_or_ge j gs.length with z | z
      · exact z
      · rw [List.take_of_length_le z] at c
        omega
    have hdl : (gs.drop j).length ≠ 0 := by rw [List.length_drop]; omega
    have hpp := peL_pos hdl
    have hpl := peL_le 0 (gs.drop j)
    rw [List.length_drop] at hpl
    refine ⟨_, c_MO_cut M Q hg hj, ?_⟩
    rintro _ _ ⟨rfl, rfl⟩
    rw [nI_1]
    refine ⟨⟨rfl, n + 1, j + peL 0 (gs.drop j), by omega, by omega, rfl, rfl, ?_⟩, ?_⟩
    · rw [hn, nP_step hdl (by rw [List.length_drop]; omega), List.drop_drop]
      omega
    · have h1 := sumS_take (gs) (j + peL 0 (gs.drop j))
      have h2 : sumS (gs.take j) < sumS (gs.take (j + peL 0 (gs.drop j))) := by
        have h3 := sumS_take_succ hjl
        have h4 := (sl_le (gs.getD j 0)).1
        have h5 := sumS_take_add gs (j + 1) (peL 0 (gs.drop j) - 1)
        rw [show j + 1 + (peL 0 (gs.drop j) - 1) = j + peL 0 (gs.drop j) by omega] at h5
        omega
      dsimp only
      rw [nI_clamp (by omega), nI_clamp (by omega)]
      omega
end ML
