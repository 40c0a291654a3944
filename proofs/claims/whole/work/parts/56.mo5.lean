/-! the reference's side -/
section MH
variable {G : Gx} {l : Launch} {d w : Nat} {A : Nat → Nat} {h : Hp}
theorem SQ.snoc {sp : List Nat} {v : Nat} (M : MA A h) (Q : SQ A h sp) (hl : sp.length < 960) (hv : v < 128) : SQ A (pI (pI h (A 3) sp.length (nI v)) (A 41) 2 (nI (sp.length + 1))) (sp ++ [v]) := by
  refine ⟨?_, ?_, fun x hx => ?_, fun j hj => ?_⟩
  · rw [hI_pI_eq, List.length_append]
    rfl
  · rw [List.length_append]
    exact hl
  · rcases List.mem_append.mp hx with z | z
    · exact Q.2.2.1 x z
    · rw [List.mem_singleton.mp z]; exact hv
  · rw [List.length_append] at hj
    rw [rN M.j (by decide) (by decide) (by decide), rE]
    by_cases c : j = sp.length
    · rw [c, va_up_self, bt_snoc_r]
    · have hj' : j < sp.length := by simp only [List.length_cons, List.length_nil] at hj; omega
      rw [va_up_ne _ _ c, bt_snoc_l hj']
      exact Q.2.2.2 j hj'
theorem c_MO_encode {sp : List Nat} {c : Nat} (M : MA A h) (Q : SQ A h sp) (hl : sp.length + 2 ≤ 960) (hc : c < 65536) : Ci G l M_MO_encode (d + 2) (w + 40) [.ref (A 41), .int (nI c)] h 0 0 (fun r h' => (r = 1 ∧ ∃ f, fm c = some f ∧ SQ A h' (sp ++ fsep f) ∧ Mf A [2, 3] h h') ∨ (r = 0 ∧ fm c = none ∧ h = h')) := by
  refine ok_MO_encode ?_
  unfold wp_MO_encode wL_MO_encode_2
  refine ⟨fun x h' => h = h' ∧ ∃ k, k ≤ 128 ∧ x = nI k ∧ ∀ i, i < k → (i ≠ 27 → tabC.getD i 0 ≠ nI c) ∧ secN i ≠ nI c, fun x h' => 128 - x.toNatClampNeg, ⟨rfl, 0, Nat.zero_le _, rfl, fun i hi => absurd hi (Nat.not_lt_zero _)⟩, ?_⟩
  rintro _ _ ⟨rfl, k, hk, rfl, hno⟩
  unfold wB_MO_encode_2
  rw [Lle (by omega) (by decide)]
  refine ⟨fun c1 => Or.inr ⟨rfl, ?_, rfl⟩, fun c1 => ?_⟩
  · cases hf : fm c with
    | none => rfl
    | some f =>
      rcases fm_of hc hf with ⟨h1, h2, h3⟩ | ⟨h1, h2, h3⟩
      · exact absurd h3 ((hno f (by omega)).1 h2)
      · exact absurd h3 (hno (f - 128) (by omega)).2
  · have esc : (k ≠ 27 → tabC.getD k 0 ≠ nI c) → wJ_MO_encode_45 G l d w (fun r h' => (r = 1 ∧ ∃ f, fm c = some f ∧ SQ A h' (sp ++ fsep f) ∧ Mf A [2, 3] h h') ∨ (r = 0 ∧ fm c = none ∧ h = h')) (fun x2_ h_ => (fun x h' => h = h' ∧ ∃ k, k ≤ 128 ∧ x = nI k ∧ ∀ i, i < k → (i ≠ 27 → tabC.getD i 0 ≠ nI c) ∧ secN i ≠ nI c) x2_ h_ ∧ (fun (x : Int32) (h' : Hp) => 128 - x.toNatClampNeg) x2_ h_ < (fun (x : Int32) (h' : Hp) => 128 - x.toNatClampNeg) (nI k) h) (A 41) (nI c) (nI k) h := by
      intro hp
      unfold wJ_MO_encode_45
      refine ⟨_, c_MO_escaped (by omega), ?_⟩
      rintro _ _ ⟨rfl, rfl⟩
      refine ⟨fun ne => ?_, fun e => ?_⟩
      · rintro _ rfl
        rw [nI_1]
        refine ⟨⟨rfl, k + 1, by omega, rfl, fun i hi => ?_⟩, mu_lt (by omega) (by omega)⟩
        by_cases ci : i = k
        · rw [ci]; exact ⟨hp, ne⟩
        · exact hno i (by omega)
      · have hf := fm_sec ⟨k, by omega⟩ (by show 0 ≤ secN k; rw [e]; exact nI_pos' (by omega)) c hc e
        have Q1 := Q.snoc (v := 27) M (by omega) (by decide)
        have F1 : Mf A [2, 3] h (pI (pI h (A 3) sp.length (nI 27)) (A 41) 2 (nI (sp.length + 1))) := (mf_pI M.j (by decide) (by decide) (by decide)).trans (mf_pS (by decide))
        refine ⟨M.s41, A 3, M.r3, 960, sp.length, ⟨M.s3, Q.1, by omega, by omega⟩, A 3, M.r3, 960, sp.length + 1, ⟨M.s3, by rw [rN M.j (by decide) (by decide) (by decide), Q.1, nI_1], by omega, by omega⟩, Or.inl ⟨rfl, _, hf, ?_, ?_⟩⟩
        · rw [rN M.j (by decide) (by decide) (by decide), rN M.j (by decide) (by decide) (by decide), Q.1, show (2 : Int32) = nI 2 from rfl, nI_add]
          unfold fsep
          rw [if_neg (by show ¬ 128 + k < 128; omega), show 128 + (⟨k, by omega⟩ : Fin 128).val - 128 = k from Nat.add_sub_cancel_left ..]
          refine ⟨?_, ?_, fun x hx => ?_, fun j hj => ?_⟩
          · rw [hI_pI_eq, List.length_append]
            rfl
          · rw [List.length_append]
            exact hl
          · simp only [List.mem_append, List.mem_cons, List.not_mem_nil, or_false] at hx
            rcases hx with z | z | z
            · exact Q.2.2.1 x z
            · omega
            · omega
          · rw [List.length_append] at hj
            simp only [List.length_cons, List.length_nil] at hj
            rw [rN M.j (by decide) (by decide) (by decide), rE, rE, show sp ++ [27, k] = (sp ++ [27]) ++ [k] by simp]
            have l1 : (sp ++ [27]).length = sp.length + 1 := by rw [List.length_append]; rfl
            by_cases cj : j = sp.length + 1
            · rw [cj, va_up_self, ← l1, bt_snoc_r]
            · rw [va_up_ne _ _ cj, bt_snoc_l (by omega)]
              by_cases cj2 : j = sp.length
              · rw [cj2, va_up_self, bt_snoc_r]
                rfl
              · rw [va_up_ne _ _ cj2, bt_snoc_l (by omega)]
                exact Q.2.2.2 j (by omega)
        · exact (mf_pI M.j (by decide) (by decide) (by decide)).trans ((mf_pI M.j (by decide) (by decide) (by decide)).trans (mf_pS (by decide)))
    refine ⟨fun e27 => esc (fun z => absurd ((eqL (by omega) (by decide)).mp e27) z), fun n27 => ⟨_, c_MO_plain (by omega), ?_⟩⟩
    have n27' : k ≠ 27 := fun z => n27 (by rw [z]; rfl)
    rintro _ _ ⟨rfl, rfl⟩
    have ep : pl k = tabC.getD k 0 := if_neg n27'
    rw [ep]
    refine ⟨fun ne => esc (fun _ => ne), fun e => ?_⟩
    have hf := fm_plain ⟨k, by omega⟩ n27' c hc e
    refine ⟨M.s41, A 3, M.r3, 960, sp.length, ⟨M.s3, Q.1, by omega, by omega⟩, Or.inl ⟨rfl, _, hf, ?_, ?_⟩⟩
    · rw [rN M.j (by decide) (by decide) (by decide), Q.1, nI_1]
      unfold fsep
      rw [if_pos (by show k < 128; omega)]
      exact Q.snoc M (by omega) (by omega)
    · exact (mf_pI M.j (by decide) (by decide) (by decide)).trans (mf_pS (by decide))
theorem c_MO_bit {bs : List Nat} {p n : Nat} (M : MA A h) (B : BF A h bs) (hp : p + n / 8 < bs.length) (hn : n < 100000) (hb : ∀ j, bt bs j < 256) : Ci G l M_MO_bit (d + 0) (w + 0) [.ref (A 41), .int (nI p), .int (nI n)] h 0 0 (Xi (nI (bitN bs p n)) h) := by
  refine ok_MO_bit ?_
  unfold wp_MO_bit
  have hl := B.2.1
  rw [show (8 : Int32) = nI 8 from rfl, pk_rem (by omega) (by decide) (by decide), pk_div (by omega) (by decide) (by decide), nI_add]
  refine ⟨M.s41, A 12, M.r12, 176, _, ⟨M.s12, rfl, by omega, by omega⟩, ?_, rfl⟩
  have := hb (p + n / 8)
  rw [B.2.2 _ hp, nI_shr (by omega) (by omega), show (1 : Int32) = nI 1 from rfl, nI_and, Nat.and_one_is_mod]
  rfl
theorem c_MO_readSeptets {bs : List Nat} {p b cnt : Nat} {x2 : Int32} (M : MA A h) (B : BF A h bs) (hb : ∀ j, bt bs j < 256) (hp : p < bs.length) (hx : (x2 = 0 ∧ b = 0 ∧ cnt = bt bs p) ∨ (¬ x2 = 0 ∧ b = 49 ∧ 7 ≤ bt bs p ∧ cnt = bt bs p - 7)) (hu : bt bs p ≤ 160) (hl : p + 1 + (7 * bt bs p + 7) / 8 ≤ bs.length) : Cv G l M_MO_readSeptets (d + 1) (w + 22) [.ref (A 41), .int (nI p), .int x2] h 0 0 (fun h' => SQ A h' (seps bs (p + 1) b cnt) ∧ Mf A [2, 3] h h') := by
  refine ok_MO_readSeptets ?_
  have hbl := B.2.1
  have hcb : b + 7 * cnt = 7 * bt bs p := by omega
  have go : wJ_MO_readSeptets_34 G l d w (fun h' => SQ A h' (seps bs (p + 1) b cnt) ∧ Mf A [2, 3] h h') (A 41) (nI p) x2 (nI b) (nI cnt) (A 41) h := by
    unfold wJ_MO_readSeptets_34
    refine ⟨M.s41, ?_⟩
    unfold wL_MO_readSeptets_40
    refine ⟨fun x h' => ∃ k, k ≤ cnt ∧ x = nI k ∧ hI h' (A 41) 2 = nI cnt ∧ (∀ j, j < k → hI h' (A 3) j = nI (sept bs (p + 1) (b + 7 * j))) ∧ Mf A [2, 3] h h', fun x h' => cnt - x.toNatClampNeg, ⟨0, Nat.zero_le _, rfl, hI_pI_eq, fun j hj => absurd hj (Nat.not_lt_zero _), mf_pS (by decide)⟩, ?_⟩
    rintro _ h1 ⟨k, hk, rfl, e1, e2, F1⟩
    have M1 := F1.ma M
    unfold wB_MO_readSeptets_40
    rw [e1, nI_leI (by omega) (by omega)]
    refine ⟨M1.s41, fun c => ⟨⟨by rw [seps_len]; exact e1, by rw [seps_len]; omega, seps_lt _ _, fun j hj => ?_⟩, F1⟩, fun c => ?_⟩
    · rw [seps_len] at hj
      rw [seps_at _ _ _ hj]
      exact e2 j (by omega)
    · refine ⟨A 3, M1.r3, 960, k, ⟨M1.s3, rfl, by omega, by omega⟩, ?_⟩
      unfold wL_MO_readSeptets_60
      refine ⟨fun x h' => ∃ i, i ≤ 7 ∧ x = nI i ∧ hI h' (A 41) 2 = nI cnt ∧ (∀ j, j < k → hI h' (A 3) j = nI (sept bs (p + 1) (b + 7 * j))) ∧ hI h' (A 3) k = nI (sept bs (p + 1) (b + 7 * k) % 2 ^ i) ∧ Mf A [2, 3] h h', fun x h' => 7 - x.toNatClampNeg, ⟨0, Nat.zero_le _, rfl, by rw [rN M.j (by decide) (by decide) (by decide)]; exact e1, fun j hj => by rw [rE, va_up_ne _ _ (by omega)]; exact e2 j hj, by rw [rE, va_up_self, Nat.pow_zero, Nat.mod_one]; rfl, F1.trans (mf_pI M.j (by decide) (by decide) (by decide))⟩, ?_⟩
      rintro _ h2 ⟨i, hi, rfl, g1, g2, g3, F2⟩
      have M2 := F2.ma M
      have B2 := B.kept F2 M.j (by decide) (by decide)
      unfold wB_MO_readSeptets_60
      rw [Lle (by omega) (by decide)]
      refine ⟨fun c7 => ?_, fun c7 => ?_⟩
      · rintro _ rfl
        rw [nI_1]
        refine ⟨⟨k + 1, by omega, rfl, g1, fun j hj => ?_, F2⟩, mu_lt (by omega) (by omega)⟩
        by_cases cj : j = k
        · rw [cj, g3, show i = 7 by omega, Nat.mod_eq_of_lt (by have := sept_lt bs (p + 1) (b + 7 * k); omega)]
        · exact g2 j (by omega)
      · have en : nI b + 7 * nI k + nI i = nI (b + 7 * k + i) := by rw [show (7 : Int32) = nI 7 from rfl, pk_mul, nI_add, nI_add]
        rw [en, nI_1]
        refine ⟨M2.s41, A 3, M2.r3, 960, k, ⟨M2.s3, rfl, by omega, by omega⟩, _, c_MO_bit M2 B2 (by omega) (by omega) hb, ?_⟩
        rintro _ _ ⟨rfl, rfl⟩
        refine ⟨960, k, ⟨M2.s3, rfl, by omega, by omega⟩, ?_⟩
        rintro _ rfl
        have hb2 : bitN bs (p + 1) (b + 7 * k + i) < 2 := Nat.mod_lt _ (by decide)
        rw [g3, nI_shl (by omega) (by
          have h1 : 2 ^ i ≤ 2 ^ 7 := Nat.pow_le_pow_right (by decide) hi
          have h3 : bitN bs (p + 1) (b + 7 * k + i) * 2 ^ i ≤ 1 * 2 ^ 7 := Nat.mul_le_mul (by omega) h1
          omega), nI_or, acc_step hb (by omega), nI_1]
        exact ⟨⟨i + 1, by omega, rfl, by rw [rN M.j (by decide) (by decide) (by decide)]; exact g1, fun j hj => by rw [rE, va_up_ne _ _ (by omega)]; exact g2 j hj, by rw [rE, va_up_self], F2.trans (mf_pI M.j (by decide) (by decide) (by decide))⟩, mu_lt (by omega) (by omega)⟩
  unfold wp_MO_readSeptets wJ_MO_readSeptets_10
  rcases hx with ⟨h1, h2, h3⟩ | ⟨h1, h2, h3, h4⟩
  · refine ⟨fun _ => ⟨fun _ => ⟨M.s41, A 12, M.r12, 176, p, ⟨M.s12, rfl, by omega, by omega⟩, ?_⟩, fun c => absurd h1 c⟩, fun c => absurd h1 c⟩
    rw [B.2.2 p hp, ← h3, show (0 : Int32) = nI b by rw [h2]; rfl]
    exact go
  · refine ⟨fun c => absurd c h1, fun _ => ⟨fun c => absurd c h1, fun _ => ⟨M.s41, A 12, M.r12, 176, p, ⟨M.s12, rfl, by omega, by omega⟩, ?_⟩⟩⟩
    rw [B.2.2 p hp, show (7 : Int32) = nI 7 from rfl, pk_sub h3, ← h4, show (49 : Int32) = nI b by rw [h2]; rfl]
    exact go
end MH
