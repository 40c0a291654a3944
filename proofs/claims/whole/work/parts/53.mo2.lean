/-! the reference's side -/
section MD
variable {G : Gx} {l : Launch} {d w : Nat} {A : Nat → Nat} {h : Hp}
/-- the septets at hand -/
def SQ (A : Nat → Nat) (h : Hp) (sp : List Nat) : Prop := hI h (A 41) 2 = nI sp.length ∧ sp.length ≤ 960 ∧ (∀ x ∈ sp, x < 128) ∧ ∀ j, j < sp.length → hI h (A 3) j = nI (bt sp j)
theorem SQ.kept {h1 : Hp} {F : List Nat} {sp : List Nat} (B : SQ A h sp) (a : Mf A F h h1) (J : MJ A) (n1 : 2 ∉ F) (n2 : 3 ∉ F) : SQ A h1 sp := ⟨by rw [a.2.2 2 n1]; exact B.1, B.2.1, B.2.2.1, fun j hj => by rw [a.i J 3 (by decide) (by decide) n2]; exact B.2.2.2 j hj⟩
theorem BF.set {bs : List Nat} {j v : Nat} (J : MJ A) (B : BF A h bs) (hj : j < bs.length) : BF A (pI h (A 12) j (nI v)) (bs.set j v) := by
  refine ⟨?_, by rw [List.length_set]; exact B.2.1, fun i hi => ?_⟩
  · rw [rN J (by decide) (by decide) (by decide), List.length_set]
    exact B.1
  · rw [List.length_set] at hi
    rw [rE, bt_set]
    by_cases c : i = j
    · rw [c, va_up_self, if_pos ⟨rfl, hj⟩]
    · rw [va_up_ne _ _ c, if_neg (fun z => c z.1.symm)]
      exact B.2.2 i hi
theorem zs_app (a b : Nat) : zs (a + b) = zs a ++ zs b := by unfold zs; rw [List.replicate_append_replicate]
theorem hd_set {L : List Nat} {n r p q : Nat} (hn : 6 ≤ n) : (((((L ++ zs n).set L.length 5).set (L.length + 2) 3).set (L.length + 3) r).set (L.length + 4) p).set (L.length + 5) q = L ++ [5, 0, 3, r, p, q] ++ zs (n - 6) := by
  have e : zs n = [0, 0, 0, 0, 0, 0] ++ zs (n - 6) := by
    rw [show n = 6 + (n - 6) by omega, zs_app, show 6 + (n - 6) - 6 = n - 6 by omega]
    rfl
  have st : ∀ (Z : List Nat) (i v : Nat), (L ++ Z).set (L.length + i) v = L ++ Z.set i v := fun Z i v => by
    rw [List.set_append_right _ _ (by omega), Nat.add_sub_cancel_left]
  have s0 : (L ++ ([0, 0, 0, 0, 0, 0] ++ zs (n - 6))).set L.length 5 = L ++ ([0, 0, 0, 0, 0, 0] ++ zs (n - 6)).set 0 5 := st _ 0 5
  rw [e, s0, st, st, st, st, List.append_assoc]
  rfl
def b0 (hd : List Nat) : Nat := if hd.length = 0 then 0 else 49
def uN (hd : List Nat) (count : Nat) : Nat := count + (if hd.length = 0 then 0 else 7)
/-- the bits of the text, packed behind the header -/
theorem putData_bits {X sp : List Nat} {first count base b u : Nat} {x3 x4 x5 : Int32} {P : Hp → Prop} (M : MA A h) (B : BF A h X) (Q : SQ A h sp) (hf : first + count ≤ sp.length) (hb : b = 0 ∨ b = 49) (hc : count ≤ 160) (hl : count = 0 ∨ base + (b + 7 * count - 1) / 8 < X.length) (hP : ∀ h', BF A h' (mrgL X base b ((sp.drop first).take count)) → Mf A [11, 12] h h' → P h') : wL_MO_putData_119 G l d w P (A 41) (nI first) (nI count) x3 x4 x5 (nI u) (nI base) (nI b) 0 h := by
  unfold wL_MO_putData_119
  have hspl := Q.2.1
  have hX := B.2.1
  have htl : ((sp.drop first).take count).length = count := by rw [List.length_take, List.length_drop]; omega
  refine ⟨fun x h' => ∃ k, k ≤ count ∧ x = nI k ∧ BF A h' (mrgL X base b (((sp.drop first).take count).take k)) ∧ Mf A [11, 12] h h', fun x h' => count - x.toNatClampNeg, ⟨0, Nat.zero_le _, rfl, B, Mf.rfl⟩, ?_⟩
  rintro _ h1 ⟨k, hk, rfl, B1, F1⟩
  unfold wB_MO_putData_119
  rw [nI_leI (by omega) (by omega)]
  refine ⟨fun c => hP h1 ?_ F1, fun c => ?_⟩
  · rw [List.take_of_length_le (by omega)] at B1
    exact B1
  · have hv : bt ((sp.drop first).take count) k = bt sp (first + k) := by
      unfold bt
      rw [List.getD_eq_getElem?_getD, List.getElem?_take, if_pos (by omega), List.getElem?_drop, List.getD_eq_getElem?_getD]
    have hv128 : bt sp (first + k) < 128 := by
      apply Q.2.2.1
      unfold bt
      rw [List.getD_eq_getElem?_getD, List.getElem?_eq_getElem (by omega)]
      exact List.getElem_mem _
    unfold wL_MO_putData_128
    refine ⟨fun x h' => ∃ j, j ≤ 7 ∧ x = nI j ∧ BF A h' (mrg (mrgL X base b (((sp.drop first).take count).take k)) base (b + 7 * k) (bt sp (first + k) % 2 ^ j)) ∧ Mf A [11, 12] h h', fun x h' => 7 - x.toNatClampNeg, ⟨0, Nat.zero_le _, rfl, ?_, F1⟩, ?_⟩
    · rw [Nat.pow_zero, Nat.mod_one, mrg_0]
      exact B1
    rintro _ h2 ⟨j, hj, rfl, B2, F2⟩
    have M2 := F2.ma M
    have Q2 := Q.kept F2 M.j (by decide) (by decide)
    unfold wB_MO_putData_128
    rw [Lle (by omega) (by decide)]
    refine ⟨fun c7 => ?_, fun c7 => ?_⟩
    · rintro _ rfl
      rw [nI_1]
      refine ⟨⟨k + 1, by omega, rfl, ?_, F2⟩, mu_lt (by omega) (by omega)⟩
      rw [show j = 7 by omega, Nat.mod_eq_of_lt (by omega)] at B2
      rw [take_snoc (by omega), hv, mrgL_app, List.length_take, htl, Nat.min_eq_left hk]
      exact B2
    · rintro _ rfl
      have hn : nI b + 7 * nI k + nI j = nI (b + 7 * k + j) := by rw [show (7 : Int32) = nI 7 from rfl, pk_mul, nI_add, nI_add]
      rw [hn, show (8 : Int32) = nI 8 from rfl, pk_div (by omega) (by decide) (by decide), show nI (b + 7 * k + j) - nI ((b + 7 * k + j) / 8) * nI 8 = nI ((b + 7 * k + j) % 8) by rw [← pk_div (by omega) (by decide) (by decide)]; exact pk_rem (by omega) (by decide) (by decide), nI_add, nI_add]
      have hin : base + (b + 7 * k + j) / 8 < X.length := by omega
      have hlen2 : (mrg (mrgL X base b (((sp.drop first).take count).take k)) base (b + 7 * k) (bt sp (first + k) % 2 ^ j)).length = X.length := by rw [mrg_len, mrgL_len]
      refine ⟨M2.s41, A 12, M2.r12, 176, _, ⟨M2.s12, rfl, by omega, by omega⟩, A 3, M2.r3, 960, _, ⟨M2.s3, rfl, by omega, by omega⟩, ?_⟩
      rintro _ rfl
      rw [Q2.2.2.2 _ (by omega), B2.2.2 _ (by rw [hlen2]; exact hin), nI_shr (by omega) (by omega), show (1 : Int32) = nI 1 from rfl, nI_and, Nat.and_one_is_mod, nI_shl (Nat.lt_trans (Nat.mod_lt _ (by decide)) (by decide)) (by
        have h1 : 2 ^ ((b + 7 * k + j) % 8) ≤ 2 ^ 7 := Nat.pow_le_pow_right (by decide) (by omega)
        have h2 : bt sp (first + k) / 2 ^ j % 2 < 2 := Nat.mod_lt _ (by decide)
        have h3 : bt sp (first + k) / 2 ^ j % 2 * 2 ^ ((b + 7 * k + j) % 8) ≤ 1 * 2 ^ 7 := Nat.mul_le_mul (by omega) h1
        omega), nI_or, nI_add]
      refine ⟨⟨j + 1, by omega, rfl, ?_, F2.trans (mf_pI M.j (by decide) (by decide) (by decide))⟩, mu_lt (by omega) (by omega)⟩
      rw [← mb_step hv128 (by omega)]
      exact B2.set M.j (by rw [hlen2]; exact hin)
theorem c_MO_putData {bs sp hd : List Nat} {first count : Nat} {x3 x4 x5 : Int32} (M : MA A h) (B : BF A h bs) (Q : SQ A h sp) (hf : first + count ≤ sp.length) (hh : (hd = [] ∧ x3 < 0) ∨ ∃ r p q, hd = [5, 0, 3, r, p, q] ∧ x3 = nI r ∧ x4 = nI p ∧ x5 = nI q ∧ r < 2147483648) (hc : count ≤ 160) (hl : bs.length + 1 + (7 * uN hd count + 7) / 8 ≤ 176) : Cv G l M_MO_putData (d + 1) (w + 21) [.ref (A 41), .int (nI first), .int (nI count), .int x3, .int x4, .int x5] h 0 0 (fun h' => BF A h' (mrgL (bs ++ [uN hd count] ++ hd ++ zs ((7 * uN hd count + 7) / 8 - hd.length)) (bs.length + 1) (b0 hd) ((sp.drop first).take count)) ∧ Mf A [11, 12] h h') := by
  refine ok_MO_putData ?_
  have hneg : ∀ r, r < 2147483648 → ¬ nI r < 0 := fun r hr => nI_pos hr
  have go : ∀ u, u = uN hd count → wJ_MO_putData_12 G l d w (fun h' => BF A h' (mrgL (bs ++ [uN hd count] ++ hd ++ zs ((7 * uN hd count + 7) / 8 - hd.length)) (bs.length + 1) (b0 hd) ((sp.drop first).take count)) ∧ Mf A [11, 12] h h') (A 41) (nI first) (nI count) x3 x4 x5 (nI u) h := by
    rintro u hu
    rw [← hu] at hl ⊢
    have hu167 : u ≤ 167 := by rw [hu]; unfold uN; split <;> omega
    unfold wJ_MO_putData_12
    refine ⟨M.s41, _, c_MO_put M B (by omega), ?_⟩
    rintro h1 ⟨B1, F1⟩
    have M1 := F1.ma M
    refine ⟨M1.s41, ?_⟩
    rintro _ rfl
    rw [B1.1]
    have hbl : (bs ++ [u]).length = bs.length + 1 := by rw [List.length_append]; rfl
    rw [hbl]
    unfold wL_MO_putData_29
    refine ⟨fun x h' => ∃ k, k ≤ (7 * u + 7) / 8 ∧ x = nI k ∧ BF A h' (bs ++ [u] ++ zs k) ∧ Mf A [11, 12] h h', fun x h' => (7 * u + 7) / 8 - x.toNatClampNeg, ⟨0, Nat.zero_le _, rfl, by rw [show zs 0 = [] from rfl, List.append_nil]; exact B1, F1⟩, ?_⟩
    rintro _ h2 ⟨k, hk, rfl, B2, F2⟩
    have M2 := F2.ma M
    unfold wB_MO_putData_29
    refine ⟨_, c_MO_bytesFor (by omega), ?_⟩
    rintro _ _ ⟨rfl, rfl⟩
    rw [nI_leI (by omega) (by omega)]
    refine ⟨fun c => ?_, fun c => ⟨M2.s41, _, c_MO_put (v := 0) M2 B2 ?_, ?_⟩⟩
    · have ek : k = (7 * u + 7) / 8 := by omega
      subst ek
      have Q2 := Q.kept F2 M.j (by decide) (by decide)
      rcases hh with ⟨e1, e2⟩ | ⟨r, p, q, e1, e2, e3, e4, e5⟩
      · refine ⟨fun _ => ?_, fun c => absurd e2 c⟩
        unfold wJ_MO_putData_104
        refine ⟨fun c => absurd e2 (Int32.not_lt.mpr c), fun _ => ?_⟩
        unfold wJ_MO_putData_114
        have eu : u = count := by rw [hu, e1]; rfl
        refine putData_bits (b := 0) M2 B2 Q2 hf (Or.inl rfl) hc ?_ (fun h' B3 F3 => ⟨?_, F2.trans F3⟩)
        · by_cases c0 : count = 0
          · exact Or.inl c0
          · right
            rw [List.length_append, hbl, zs_len]
            omega
        · rw [e1]
          simpa [b0] using B3
      · have eu : u = count + 7 := by rw [hu, e1]; rfl
        rw [e2]
        refine ⟨fun c => absurd c (hneg r e5), fun _ => ?_⟩
        have hlX : (bs ++ [u] ++ zs ((7 * u + 7) / 8)).length = bs.length + 1 + (7 * u + 7) / 8 := by rw [List.length_append, hbl, zs_len]
        rw [show nI (bs.length + 1) + 2 = nI (bs.length + 1 + 2) from nI_add _ 2, show nI (bs.length + 1) + 3 = nI (bs.length + 1 + 3) from nI_add _ 3, show nI (bs.length + 1) + 4 = nI (bs.length + 1 + 4) from nI_add _ 4, show nI (bs.length + 1) + 5 = nI (bs.length + 1 + 5) from nI_add _ 5]
        refine ⟨M2.s41, A 12, M2.r12, 176, _, ⟨M2.s12, rfl, by omega, by omega⟩, A 12, M2.r12, 176, _, ⟨M2.s12, rfl, by omega, by omega⟩, A 12, M2.r12, 176, _, ⟨M2.s12, rfl, by omega, by omega⟩, A 12, M2.r12, 176, _, ⟨M2.s12, rfl, by omega, by omega⟩, A 12, M2.r12, 176, _, ⟨M2.s12, rfl, by omega, by omega⟩, ?_⟩
        have B3 := ((((B2.set (v := 5) M.j (j := bs.length + 1) (by omega)).set (v := 3) M.j (j := bs.length + 1 + 2) (by rw [List.length_set]; omega)).set (v := r) M.j (j := bs.length + 1 + 3) (by rw [List.length_set, List.length_set]; omega)).set (v := p) M.j (j := bs.length + 1 + 4) (by rw [List.length_set, List.length_set, List.length_set]; omega)).set (v := q) M.j (j := bs.length + 1 + 5) (by rw [List.length_set, List.length_set, List.length_set, List.length_set]; omega)
        rw [← hbl, hd_set (by omega), hbl] at B3
        have F3 : Mf A [11, 12] h2 (pI (pI (pI (pI (pI h2 (A 12) (bs.length + 1) (nI 5)) (A 12) (bs.length + 1 + 2) (nI 3)) (A 12) (bs.length + 1 + 3) (nI r)) (A 12) (bs.length + 1 + 4) (nI p)) (A 12) (bs.length + 1 + 5) (nI q)) := (mf_pI M.j (by decide) (by decide) (by decide)).trans ((mf_pI M.j (by decide) (by decide) (by decide)).trans ((mf_pI M.j (by decide) (by decide) (by decide)).trans ((mf_pI M.j (by decide) (by decide) (by decide)).trans (mf_pI M.j (by decide) (by decide) (by decide)))))
        rw [e3, e4]
        rw [show (5 : Int32) = nI 5 from rfl, show (3 : Int32) = nI 3 from rfl]
        generalize (pI (pI (pI (pI (pI h2 (A 12) (bs.length + 1) (nI 5)) (A 12) (bs.length + 1 + 2) (nI 3)) (A 12) (bs.length + 1 + 3) (nI r)) (A 12) (bs.length + 1 + 4) (nI p)) (A 12) (bs.length + 1 + 5) (nI q)) = h3 at B3 F3 ⊢
        have M3 := F3.ma M2
        unfold wJ_MO_putData_104
        refine ⟨fun _ => ?_, fun c => absurd (Int32.not_lt.mp (hneg r e5)) c⟩
        unfold wJ_MO_putData_114
        refine putData_bits (b := 49) M3 B3 (Q2.kept F3 M.j (by decide) (by decide)) hf (Or.inr rfl) hc ?_ (fun h' B4 F4 => ⟨?_, F2.trans (F3.trans F4)⟩)
        · right
          simp only [List.length_append, List.length_cons, List.length_nil, zs_len]
          omega
        · rw [e1]
          exact B4
    · rw [List.length_append, hbl, zs_len]
      omega
    · rintro h3 ⟨B3, F3⟩ _ rfl
      rw [nI_1]
      refine ⟨⟨k + 1, by omega, rfl, ?_, F2.trans F3⟩, mu_lt (by omega) (by omega)⟩
      rw [zs_app, ← List.append_assoc]
      exact B3
  unfold wp_MO_putData
  rcases hh with ⟨e1, e2⟩ | ⟨r, p, q, e1, e2, e3, e4, e5⟩
  · refine ⟨fun c => absurd e2 (Int32.not_lt.mpr c), fun _ => go count ?_⟩
    rw [e1]
    rfl
  · refine ⟨fun _ => ?_, fun c => absurd (Int32.not_lt.mp (by rw [e2]; exact hneg r e5)) c⟩
    rw [show (7 : Int32) + nI count = nI (7 + count) from nI_add 7 count]
    refine go (7 + count) ?_
    rw [e1]
    show 7 + count = count + 7
    omega
end MD
