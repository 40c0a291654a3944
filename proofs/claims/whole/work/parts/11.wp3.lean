set_option maxRecDepth 100000 in
set_option maxHeartbeats 4000000 in
def wp_De_init (G : Gx) (l : Launch) (d w mc ms : Nat) (P : Hp → Prop) (q0 : Nat) (h : Hp) : Prop := (0 + 1 ≤ mc ∧ 0 + 2 ≤ ms) ∧ (∀ q_1 : Nat, Fre h q_1 → ∃ mc_9 : Nat, ∃ ms_10 : Nat, ∃ P_4 : Hp → Prop, (Cv G l M_Li_init (d + 4) (w + 80) [.ref q_1, .int 6] (pN h q_1 (11, 0)) mc_9 ms_10 P_4) ∧ (((0 + 1) + mc_9 ≤ mc ∧ (0 + 2) + ms_10 ≤ ms) ∧ (∀ h_6 : Hp, P_4 h_6 → (hS h_6 q0 = some (14, 0)) ∧ ((((0 + 1) + mc_9) + 1 ≤ mc ∧ ((0 + 2) + ms_10) + 2 ≤ ms) ∧ (∀ q_14 : Nat, Fre (pR h_6 q0 2 (some q_1)) q_14 → ∃ mc_23 : Nat, ∃ ms_24 : Nat, ∃ P_18 : Hp → Prop, (Cv G l M_Li_init (d + 4) (w + 80) [.ref q_14, .int 6] (pN (pR h_6 q0 2 (some q_1)) q_14 (11, 0)) mc_23 ms_24 P_18) ∧ (((((0 + 1) + mc_9) + 1) + mc_23 ≤ mc ∧ (((0 + 2) + ms_10) + 2) + ms_24 ≤ ms) ∧ (∀ h_20 : Hp, P_18 h_20 → (hS h_20 q0 = some (14, 0)) ∧ ((((((0 + 1) + mc_9) + 1) + mc_23) + 1 ≤ mc ∧ ((((0 + 2) + ms_10) + 2) + ms_24) + 3 ≤ ms) ∧ (∀ q_28 : Nat, Fre (pR h_20 q0 3 (some q_14)) q_28 → ∃ P_32 : Hp → Prop, (Cv G l M_AL_init (d + 3) (w + 60) [.ref q_28] (pN (pR h_20 q0 3 (some q_14)) q_28 (12, 0)) 0 0 P_32) ∧ (((((((0 + 1) + mc_9) + 1) + mc_23) + 1) ≤ mc ∧ (((((0 + 2) + ms_10) + 2) + ms_24) + 3) ≤ ms) ∧ (∀ h_34 : Hp, P_32 h_34 → (hS h_34 q0 = some (14, 0)) ∧ (∃ N_42 : Nat, (480 = nI N_42 ∧ N_42 < 2147483648 ∧ N_42 * 4 ≤ 536870912) ∧ (((((((0 + 1) + mc_9) + 1) + mc_23) + 1) + 1 ≤ mc ∧ (((((0 + 2) + ms_10) + 2) + ms_24) + 3) + N_42 ≤ ms) ∧ (∀ q_40 : Nat, Fre (pR h_34 q0 6 (some q_28)) q_40 → (((((((0 + 1) + mc_9) + 1) + mc_23) + 1) + 1) ≤ mc ∧ ((((((0 + 2) + ms_10) + 2) + ms_24) + 3) + N_42) ≤ ms) ∧ (P (pR (pN (pR h_34 q0 6 (some q_28)) q_40 (0, N_42)) q0 7 (some q_40)))))))))))))))))
set_option maxRecDepth 100000 in
set_option maxHeartbeats 4000000 in
theorem ok_De_init {G : Gx} {l : Launch} {d w : Nat} {mc ms : Nat} {P : Hp → Prop} {q0 : Nat} {h : Hp} (H : wp_De_init G l d w mc ms P q0 h) : Cv G l M_De_init (d + 5) (w + 101) [.ref q0] h mc ms P := by
  unfold wp_De_init at H
  refine Ct.of (lv := [some (.ref q0)]) (by decide) (Nat.le_of_ble_eq_true rfl) rfl (fun p e s m args below meth c => ?_)
  refine g_aload_n d_De_init_0 rfl ?_
  refine g_objInit d_De_init_1 kx_De kx_n kx_c (catS_le (Nat.le_of_ble_eq_true rfl)) ⟨show 1 ≤ d + 5 by omega, show 20 ≤ w + 101 by omega⟩ ?_
  refine g_aload_n d_De_init_4 rfl ?_
  obtain ⟨b_2, H⟩ := H
  refine g_new d_De_init_5 (ci := 1) rfl k_De_7 kI_1 kJ_1 b_2.1 b_2.2 (fun q_1 Fq_1 => ?_)
  replace H := H q_1 Fq_1
  have z_3 : hS (pN h q_1 (11, 0)) q_1 = some (11, 0) := Fre.new
  refine g_dup d_De_init_8 rfl ?_
  refine g_bipush (v := 6) d_De_init_9 (by decide) ?_
  obtain ⟨mc_9, H⟩ := H
  obtain ⟨ms_10, H⟩ := H
  obtain ⟨P_4, C_5, H⟩ := H
  obtain ⟨b_11, H⟩ := H
  refine q_I (As := [.int 6]) (st := [.ref q_1, .ref q0]) (nl := 2) d_De_init_11 v_De_11 C_5 rfl (catS_le (Nat.le_of_ble_eq_true rfl)) rfl ⟨by omega, by omega, b_11.1, b_11.2⟩ (fun r_12 h_6 p_7 => ?_)
  obtain ⟨rfl, p_7⟩ := p_7
  replace H := H h_6 p_7
  show Go _ _ _ _ [.ref q_1, .ref q0] _ _ _
  obtain ⟨z_13, H⟩ := H
  refine g_putR (x := (some q_1)) (ty := .object "SeptetCentre$Line") d_De_init_14 f_De_14 ⟨_, rfl, Or.inr ⟨rfl, rfl, rfl⟩⟩ z_13 (by decide) (by decide +kernel) (Or.inl ⟨_, rfl⟩) ?_
  refine g_aload_n d_De_init_17 rfl ?_
  obtain ⟨b_15, H⟩ := H
  refine g_new d_De_init_18 (ci := 1) rfl k_De_7 kI_1 kJ_1 b_15.1 b_15.2 (fun q_14 Fq_14 => ?_)
  replace H := H q_14 Fq_14
  have z_16 := Fre.old (kd := (11, 0)) Fq_14 z_13
  have z_17 : hS (pN (pR h_6 q0 2 (some q_1)) q_14 (11, 0)) q_14 = some (11, 0) := Fre.new
  refine g_dup d_De_init_21 rfl ?_
  refine g_bipush (v := 6) d_De_init_22 (by decide) ?_
  obtain ⟨mc_23, H⟩ := H
  obtain ⟨ms_24, H⟩ := H
  obtain ⟨P_18, C_19, H⟩ := H
  obtain ⟨b_25, H⟩ := H
  refine q_I (As := [.int 6]) (st := [.ref q_14, .ref q0]) (nl := 2) d_De_init_24 v_De_11 C_19 rfl (catS_le (Nat.le_of_ble_eq_true rfl)) rfl ⟨by omega, by omega, b_25.1, b_25.2⟩ (fun r_26 h_20 p_21 => ?_)
  obtain ⟨rfl, p_21⟩ := p_21
  replace H := H h_20 p_21
  show Go _ _ _ _ [.ref q_14, .ref q0] _ _ _
  obtain ⟨z_27, H⟩ := H
  refine g_putR (x := (some q_14)) (ty := .object "SeptetCentre$Line") d_De_init_27 f_De_18 ⟨_, rfl, Or.inr ⟨rfl, rfl, rfl⟩⟩ z_27 (by decide) (by decide +kernel) (Or.inl ⟨_, rfl⟩) ?_
  refine g_aload_n d_De_init_30 rfl ?_
  obtain ⟨b_29, H⟩ := H
  refine g_new d_De_init_31 (ci := 2) rfl k_De_21 kI_2 kJ_2 b_29.1 b_29.2 (fun q_28 Fq_28 => ?_)
  replace H := H q_28 Fq_28
  have z_30 := Fre.old (kd := (12, 0)) Fq_28 z_27
  have z_31 : hS (pN (pR h_20 q0 3 (some q_14)) q_28 (12, 0)) q_28 = some (12, 0) := Fre.new
  refine g_dup d_De_init_34 rfl ?_
  obtain ⟨P_32, C_33, H⟩ := H
  obtain ⟨b_37, H⟩ := H
  refine q_I (As := []) (st := [.ref q_28, .ref q0]) (nl := 1) d_De_init_35 v_De_23 C_33 rfl (catS_le (Nat.le_of_ble_eq_true rfl)) rfl ⟨by omega, by omega, b_37.1, b_37.2⟩ (fun r_38 h_34 p_35 => ?_)
  obtain ⟨rfl, p_35⟩ := p_35
  replace H := H h_34 p_35
  show Go _ _ _ _ [.ref q_28, .ref q0] _ _ _
  obtain ⟨z_39, H⟩ := H
  refine g_putR (x := (some q_28)) (ty := .object "java/util/ArrayList") d_De_init_38 f_De_24 ⟨_, rfl, Or.inr ⟨rfl, rfl, rfl⟩⟩ z_39 (by decide) (by decide +kernel) (Or.inl ⟨_, rfl⟩) ?_
  refine g_aload_n d_De_init_41 rfl ?_
  refine g_sipush (v := 480) d_De_init_42 (by decide) ?_
  obtain ⟨N_42, H⟩ := H
  obtain ⟨z_43, H⟩ := H
  obtain ⟨b_41, H⟩ := H
  refine g_newarr d_De_init_45 kA_i z_43.1 z_43.2.1 z_43.2.2 b_41.1 b_41.2 (Or.inl ⟨rfl, rfl⟩) (fun q_40 Fq_40 => ?_)
  replace H := H q_40 Fq_40
  have z_44 := Fre.old (kd := (0, N_42)) Fq_40 z_39
  have z_45 : hS (pN (pR h_34 q0 6 (some q_28)) q_40 (0, N_42)) q_40 = some (0, N_42) := Fre.new
  refine g_putR (x := (some q_40)) (ty := .array .int) d_De_init_47 f_De_28 ⟨_, rfl, Or.inr ⟨rfl, rfl, rfl⟩⟩ z_44 (by decide) (by decide +kernel) (Or.inr ⟨_, rfl⟩) ?_
  obtain ⟨b_46, H⟩ := H
  exact g_return d_De_init_50 rfl b_46.1 b_46.2 ⟨rfl, H⟩
set_option maxRecDepth 100000 in
set_option maxHeartbeats 4000000 in
def wp_De_nextMessageNumber (G : Gx) (l : Launch) (d w : Nat) (P : Int32 → Hp → Prop) (q0 : Nat) (h : Hp) : Prop := (hS h q0 = some (14, 0)) ∧ (∀ x_2 : Int32, x_2 = (hI h q0 5) → P x_2 (pI h q0 5 (((hI h q0 5) + 1) - ((hI h q0 5) + 1) / 256 * 256)))
set_option maxRecDepth 100000 in
set_option maxHeartbeats 4000000 in
theorem ok_De_nextMessageNumber {G : Gx} {l : Launch} {d w : Nat} {P : Int32 → Hp → Prop} {q0 : Nat} {h : Hp} (H : wp_De_nextMessageNumber G l d w P q0 h) : Ci G l M_De_nextMessageNumber (d + 0) (w + 0) [.ref q0] h 0 0 P := by
  unfold wp_De_nextMessageNumber at H
  refine Ct.of (lv := [some (.ref q0), none]) (by decide) (Nat.le_of_ble_eq_true rfl) rfl (fun p e s m args below meth c => ?_)
  refine g_aload_n d_De_nextMessageNumber_0 rfl ?_
  obtain ⟨z_1, H⟩ := H
  refine g_getI d_De_nextMessageNumber_1 f_De_32 z_1 ?_
  refine g_topi (fun x_2 ex_2 => ?_)
  replace H := H x_2 ex_2
  refine g_istore_n (lv' := [some (.ref q0), some (.int x_2)]) d_De_nextMessageNumber_4 (by decide) rfl ?_
  refine g_aload_n d_De_nextMessageNumber_5 rfl ?_
  refine g_aload_n d_De_nextMessageNumber_6 rfl ?_
  refine g_getI d_De_nextMessageNumber_7 f_De_32 z_1 ?_
  refine g_iconst (v := 1) d_De_nextMessageNumber_10 (by decide) ?_
  refine g_iadd d_De_nextMessageNumber_11 ?_
  refine g_sipush (v := 256) d_De_nextMessageNumber_12 (by decide) ?_
  refine g_irem d_De_nextMessageNumber_15 (by decide) ?_
  refine g_putI d_De_nextMessageNumber_16 f_De_32 (fo_4_5 _) z_1 ?_
  refine g_iload_n d_De_nextMessageNumber_19 rfl ?_
  exact g_ireturn d_De_nextMessageNumber_20 rfl (Nat.le_refl _) (Nat.le_refl _) ⟨_, rfl, H⟩
set_option maxRecDepth 100000 in
set_option maxHeartbeats 4000000 in
def wp_De_countReference (G : Gx) (l : Launch) (d w : Nat) (P : Hp → Prop) (q0 : Nat) (h : Hp) : Prop := (hS h q0 = some (14, 0)) ∧ (P (pI h q0 4 (((hI h q0 4) + 1) - ((hI h q0 4) + 1) / 256 * 256)))
set_option maxRecDepth 100000 in
set_option maxHeartbeats 4000000 in
theorem ok_De_countReference {G : Gx} {l : Launch} {d w : Nat} {P : Hp → Prop} {q0 : Nat} {h : Hp} (H : wp_De_countReference G l d w P q0 h) : Cv G l M_De_countReference (d + 0) (w + 0) [.ref q0] h 0 0 P := by
  unfold wp_De_countReference at H
  refine Ct.of (lv := [some (.ref q0)]) (by decide) (Nat.le_of_ble_eq_true rfl) rfl (fun p e s m args below meth c => ?_)
  refine g_aload_n d_De_countReference_0 rfl ?_
  refine g_aload_n d_De_countReference_1 rfl ?_
  obtain ⟨z_1, H⟩ := H
  refine g_getI d_De_countReference_2 f_De_36 z_1 ?_
  refine g_iconst (v := 1) d_De_countReference_5 (by decide) ?_
  refine g_iadd d_De_countReference_6 ?_
  refine g_sipush (v := 256) d_De_countReference_7 (by decide) ?_
  refine g_irem d_De_countReference_10 (by decide) ?_
  refine g_putI d_De_countReference_11 f_De_36 (fo_4_4 _) z_1 ?_
  exact g_return d_De_countReference_14 rfl (Nat.le_refl _) (Nat.le_refl _) ⟨rfl, H⟩
set_option maxRecDepth 100000 in
set_option maxHeartbeats 4000000 in
def wp_De_read (G : Gx) (l : Launch) (d w mc ms : Nat) (P : Int32 → Hp → Prop) (q0 : Nat) (q1 : Nat) (h : Hp) : Prop := (hS h q1 = some (15, 0)) ∧ (∃ P_2 : Int64 → Hp → Prop, (Cl G l M_Ro_numberAt (d + 3) (w + 65) [.ref q1, .int 1] h 0 0 P_2) ∧ ((0 ≤ mc ∧ 0 ≤ ms) ∧ (∀ (y_6 : Int64) (h_4 : Hp), P_2 y_6 h_4 → (hS h_4 q1 = some (15, 0)) ∧ (∃ P_10 : Int32 → Hp → Prop, (Ci G l M_Ro_hasHeader (d + 2) (w + 42) [.ref q1] h_4 0 0 P_10) ∧ ((0 ≤ mc ∧ 0 ≤ ms) ∧ (∀ (x_14 : Int32) (h_12 : Hp), P_10 x_14 h_12 → (x_14 = 0 → (hS h_12 q0 = some (14, 0)) ∧ (∃ q_19 : Nat, (hR h_12 q0 7) = some q_19 ∧ ((hS h_12 q1 = some (15, 0)) ∧ (∃ P_22 : Int32 → Hp → Prop, (Ci G l M_Ro_readText (d + 4) (w + 82) [.ref q1, .ref q_19, .int 0] h_12 0 0 P_22) ∧ ((0 ≤ mc ∧ 0 ≤ ms) ∧ (∀ (x_26 : Int32) (h_24 : Hp), P_22 x_26 h_24 → (hS h_24 q0 = some (14, 0)) ∧ ((0 ≤ mc ∧ 0 ≤ ms) ∧ (P (hI (pI h_24 q0 8 x_26) q0 8) (pL (pI h_24 q0 8 x_26) q0 9 y_6))))))))) ∧ (¬ x_14 = 0 → (hS h_12 q0 = some (14, 0)) ∧ (∃ mc_37 : Nat, ∃ ms_38 : Nat, ∃ P_32 : Int32 → Hp → Prop, (Ci G l M_De_gather (d + 8) (w + 187) [.ref q0, .ref q1, .long y_6] h_12 mc_37 ms_38 P_32) ∧ ((0 + mc_37 ≤ mc ∧ 0 + ms_38 ≤ ms) ∧ (∀ (x_36 : Int32) (h_34 : Hp), P_32 x_36 h_34 → ((0 + mc_37) ≤ mc ∧ (0 + ms_38) ≤ ms) ∧ (P x_36 h_34)))))))))))
set_option maxRecDepth 100000 in
set_option maxHeartbeats 4000000 in
theorem ok_De_read {G : Gx} {l : Launch} {d w : Nat} {mc ms : Nat} {P : Int32 → Hp → Prop} {q0 : Nat} {q1 : Nat} {h : Hp} (H : wp_De_read G l d w mc ms P q0 q1 h) : Ci G l M_De_read (d + 9) (w + 213) [.ref q0, .ref q1] h mc ms P := by
  unfold wp_De_read at H
  refine Ct.of (lv := [some (.ref q0), some (.ref q1), none, none]) (by decide) (Nat.le_of_ble_eq_true rfl) rfl (fun p e s m args below meth c => ?_)
  refine g_aload_n d_De_read_0 rfl ?_
  refine g_iconst (v := 1) d_De_read_1 (by decide) ?_
  obtain ⟨z_1, H⟩ := H
  obtain ⟨P_2, C_3, H⟩ := H
  obtain ⟨b_7, H⟩ := H
  refine q_V (As := [.int 1]) (st := []) (nl := 6) d_De_read_2 v_De_41 C_3 z_1 rfl (catS_le (Nat.le_of_ble_eq_true rfl)) rfl ⟨by omega, by omega, b_7.1, b_7.2⟩ (fun r_8 h_4 p_5 => ?_)
  obtain ⟨y_6, rfl, p_5⟩ := p_5
  replace H := H y_6 h_4 p_5
  show Go _ _ _ _ [.long y_6] _ _ _
  refine g_lstore_n (lv' := [some (.ref q0), some (.ref q1), some (.long y_6), none]) d_De_read_5 (by decide) rfl ?_
  refine g_aload_n d_De_read_6 rfl ?_
  obtain ⟨z_9, H⟩ := H
  obtain ⟨P_10, C_11, H⟩ := H
  obtain ⟨b_15, H⟩ := H
  refine q_V (As := []) (st := []) (nl := 1) d_De_read_7 v_De_45 C_11 z_9 rfl (catS_le (Nat.le_of_ble_eq_true rfl)) rfl ⟨by omega, by omega, b_15.1, b_15.2⟩ (fun r_16 h_12 p_13 => ?_)
  obtain ⟨x_14, rfl, p_13⟩ := p_13
  replace H := H x_14 h_12 p_13
  show Go _ _ _ _ [.int x_14] _ _ _
  obtain ⟨H1, H2⟩ := H
  refine g_if_eq (tgt := 20) d_De_read_10 (by decide) (fun c_17 => ?_) (fun c_17 => ?_)
  · have H := H1 c_17
    refine g_aload_n d_De_read_20 rfl ?_
    refine g_aload_n d_De_read_21 rfl ?_
    refine g_aload_n d_De_read_22 rfl ?_
    obtain ⟨z_18, H⟩ := H
    refine g_getR d_De_read_23 f_De_28 z_18 (by decide) ?_
    refine g_iconst (v := 0) d_De_read_26 (by decide) ?_
    obtain ⟨q_19, e_20, H⟩ := H
    show Go _ _ _ [some (.ref q0), some (.ref q1), some (.long y_6), none] [.int 0, va_rf (hR h_12 q0 7), .ref q1, .ref q0] _ _ _
    rw [show va_rf (hR h_12 q0 7) = Value.ref q_19 from by rw [e_20]; rfl]
    obtain ⟨z_21, H⟩ := H
    obtain ⟨P_22, C_23, H⟩ := H
    obtain ⟨b_27, H⟩ := H
    refine q_V (As := [.ref q_19, .int 0]) (st := [.ref q0]) (nl := 9) d_De_read_27 v_De_53 C_23 z_21 rfl (catS_le (Nat.le_of_ble_eq_true rfl)) rfl ⟨by omega, by omega, b_27.1, b_27.2⟩ (fun r_28 h_24 p_25 => ?_)
    obtain ⟨x_26, rfl, p_25⟩ := p_25
    replace H := H x_26 h_24 p_25
    show Go _ _ _ _ [.int x_26, .ref q0] _ _ _
    obtain ⟨z_29, H⟩ := H
    refine g_putI d_De_read_30 f_De_57 (fo_4_8 _) z_29 ?_
    refine g_aload_n d_De_read_33 rfl ?_
    refine g_lload_n d_De_read_34 rfl ?_
    refine g_putJ d_De_read_35 f_De_60 (fo_4_9 _) z_29 ?_
    refine g_aload_n d_De_read_38 rfl ?_
    refine g_getI d_De_read_39 f_De_57 z_29 ?_
    obtain ⟨b_30, H⟩ := H
    exact g_ireturn d_De_read_42 rfl b_30.1 b_30.2 ⟨_, rfl, H⟩
  · have H := H2 c_17
    refine g_aload_n d_De_read_13 rfl ?_
    refine g_aload_n d_De_read_14 rfl ?_
    refine g_lload_n d_De_read_15 rfl ?_
    obtain ⟨z_31, H⟩ := H
    obtain ⟨mc_37, H⟩ := H
    obtain ⟨ms_38, H⟩ := H
    obtain ⟨P_32, C_33, H⟩ := H
    obtain ⟨b_39, H⟩ := H
    refine q_V (As := [.ref q1, .long y_6]) (st := []) (nl := 7) d_De_read_16 v_De_49 C_33 z_31 rfl (catS_le (Nat.le_of_ble_eq_true rfl)) rfl ⟨by omega, by omega, b_39.1, b_39.2⟩ (fun r_40 h_34 p_35 => ?_)
    obtain ⟨x_36, rfl, p_35⟩ := p_35
    replace H := H x_36 h_34 p_35
    show Go _ _ _ _ [.int x_36] _ _ _
    obtain ⟨b_41, H⟩ := H
    exact g_ireturn d_De_read_19 rfl b_41.1 b_41.2 ⟨_, rfl, H⟩
set_option maxRecDepth 100000 in
set_option maxHeartbeats 4000000 in
def wp_De_gather (G : Gx) (l : Launch) (d w mc ms : Nat) (P : Int32 → Hp → Prop) (q0 : Nat) (q1 : Nat) (y2 : Int64) (h : Hp) : Prop := (hS h q1 = some (15, 0)) ∧ (∃ P_2 : Int32 → Hp → Prop, (Ci G l M_Ro_deliverDataAt (d + 2) (w + 42) [.ref q1] h 0 0 P_2) ∧ ((0 ≤ mc ∧ 0 ≤ ms) ∧ (∀ (x_6 : Int32) (h_4 : Hp), P_2 x_6 h_4 → ∀ x_9 : Int32, x_9 = (x_6 + 1) → (hS h_4 q1 = some (15, 0)) ∧ (∃ P_11 : Int32 → Hp → Prop, (Ci G l M_Ro_at (d + 1) (w + 21) [.ref q1, .int (x_9 + 3)] h_4 0 0 P_11) ∧ ((0 ≤ mc ∧ 0 ≤ ms) ∧ (∀ (x_15 : Int32) (h_13 : Hp), P_11 x_15 h_13 → (hS h_13 q1 = some (15, 0)) ∧ (∃ P_19 : Int32 → Hp → Prop, (Ci G l M_Ro_at (d + 1) (w + 21) [.ref q1, .int (x_9 + 4)] h_13 0 0 P_19) ∧ ((0 ≤ mc ∧ 0 ≤ ms) ∧ (∀ (x_23 : Int32) (h_21 : Hp), P_19 x_23 h_21 → (hS h_21 q0 = some (14, 0)) ∧ (∃ mc_32 : Nat, ∃ ms_33 : Nat, ∃ P_27 : Int32 → Hp → Prop, (Ci G l M_De_pilePlace (d + 7) (w + 162) [.ref q0, .long y2, .int x_15, .int x_23] h_21 mc_32 ms_33 P_27) ∧ ((0 + mc_32 ≤ mc ∧ 0 + ms_33 ≤ ms) ∧ (∀ (x_31 : Int32) (h_29 : Hp), P_27 x_31 h_29 → (hS h_29 q0 = some (14, 0)) ∧ (∃ q_37 : Nat, (hR h_29 q0 6) = some q_37 ∧ ((hS h_29 q_37 = some (12, 0)) ∧ (∃ P_40 : Option Nat → Hp → Prop, (Cr G l M_AL_get (d + 3) (w + 73) [.ref q_37, .int x_31] h_29 0 0 P_40) ∧ (((0 + mc_32) ≤ mc ∧ (0 + ms_33) ≤ ms) ∧ (∀ (o_44 : Option Nat) (h_42 : Hp), P_40 o_44 h_42 → ∃ q_47 : Nat, o_44 = some q_47 ∧ ((hS h_42 q_47 = some (17, 0)) ∧ ((hS h_42 q1 = some (15, 0)) ∧ (∃ P_51 : Int32 → Hp → Prop, (Ci G l M_Ro_at (d + 1) (w + 21) [.ref q1, .int (x_9 + 5)] h_42 0 0 P_51) ∧ (((0 + mc_32) ≤ mc ∧ (0 + ms_33) ≤ ms) ∧ (∀ (x_55 : Int32) (h_53 : Hp), P_51 x_55 h_53 → (hS h_53 q_47 = some (17, 0)) ∧ (∃ P_59 : Hp → Prop, (Cv G l M_Pi_keep (d + 0) (w + 0) [.ref q_47, .int x_55, .ref q1] h_53 0 0 P_59) ∧ (((0 + mc_32) ≤ mc ∧ (0 + ms_33) ≤ ms) ∧ (∀ h_61 : Hp, P_59 h_61 → (hS h_61 q_47 = some (17, 0)) ∧ (∃ P_67 : Int32 → Hp → Prop, (Ci G l M_Pi_lacking (d + 0) (w + 0) [.ref q_47] h_61 0 0 P_67) ∧ (((0 + mc_32) ≤ mc ∧ (0 + ms_33) ≤ ms) ∧ (∀ (x_71 : Int32) (h_69 : Hp), P_67 x_71 h_69 → (x_71 ≤ 0 → (hS h_69 q0 = some (14, 0)) ∧ (∃ q_76 : Nat, (hR h_69 q0 6) = some q_76 ∧ ((hS h_69 q_76 = some (12, 0)) ∧ (∃ P_79 : Option Nat → Hp → Prop, (Cr G l M_AL_remove (d + 3) (w + 73) [.ref q_76, .int x_31] h_69 0 0 P_79) ∧ (((0 + mc_32) ≤ mc ∧ (0 + ms_33) ≤ ms) ∧ (∀ (o_83 : Option Nat) (h_81 : Hp), P_79 o_83 h_81 → (hS h_81 q0 = some (14, 0)) ∧ (∃ q_87 : Nat, (hR h_81 q0 7) = some q_87 ∧ ((hS h_81 q_47 = some (17, 0)) ∧ (∃ P_90 : Int32 → Hp → Prop, (Ci G l M_Pi_readText (d + 5) (w + 110) [.ref q_47, .ref q_87] h_81 0 0 P_90) ∧ (((0 + mc_32) ≤ mc ∧ (0 + ms_33) ≤ ms) ∧ (∀ (x_94 : Int32) (h_92 : Hp), P_90 x_94 h_92 → (hS h_92 q0 = some (14, 0)) ∧ (((0 + mc_32) ≤ mc ∧ (0 + ms_33) ≤ ms) ∧ (P (hI (pI h_92 q0 8 x_94) q0 8) (pL (pI h_92 q0 8 x_94) q0 9 y2)))))))))))))) ∧ (¬ x_71 ≤ 0 → (hS h_69 q_47 = some (17, 0)) ∧ (∃ P_100 : Int32 → Hp → Prop, (Ci G l M_Pi_lacking (d + 0) (w + 0) [.ref q_47] h_69 0 0 P_100) ∧ (((0 + mc_32) ≤ mc ∧ (0 + ms_33) ≤ ms) ∧ (∀ (x_104 : Int32) (h_102 : Hp), P_100 x_104 h_102 → ((0 + mc_32) ≤ mc ∧ (0 + ms_33) ≤ ms) ∧ (P ((-1) - x_104) h_102)))))))))))))))))))))))))))))))))
set_option maxRecDepth 100000 in
set_option maxHeartbeats 4000000 in
theorem ok_De_gather {G : Gx} {l : Launch} {d w : Nat} {mc ms : Nat} {P : Int32 → Hp → Prop} {q0 : Nat} {q1 : Nat} {y2 : Int64} {h : Hp} (H : wp_De_gather G l d w mc ms P q0 q1 y2 h) : Ci G l M_De_gather (d + 8) (w + 187) [.ref q0, .ref q1, .long y2] h mc ms P := by
  unfold wp_De_gather at H
  refine Ct.of (lv := [some (.ref q0), some (.ref q1), some (.long y2), none, none, none, none]) (by decide) (Nat.le_of_ble_eq_true rfl) rfl (fun p e s m args below meth c => ?_)
  refine g_aload_n d_De_gather_0 rfl ?_
  obtain ⟨z_1, H⟩ := H
  obtain ⟨P_2, C_3, H⟩ := H
  obtain ⟨b_7, H⟩ := H
  refine q_V (As := []) (st := []) (nl := 1) d_De_gather_1 v_De_64 C_3 z_1 rfl (catS_le (Nat.le_of_ble_eq_true rfl)) rfl ⟨by omega, by omega, b_7.1, b_7.2⟩ (fun r_8 h_4 p_5 => ?_)
  obtain ⟨x_6, rfl, p_5⟩ := p_5
  replace H := H x_6 h_4 p_5
  show Go _ _ _ _ [.int x_6] _ _ _
  refine g_iconst (v := 1) d_De_gather_4 (by decide) ?_
  refine g_iadd d_De_gather_5 ?_
  refine g_topi (fun x_9 ex_9 => ?_)
  replace H := H x_9 ex_9
  refine g_istore (lv' := [some (.ref q0), some (.ref q1), some (.long y2), none, some (.int x_9), none, none]) d_De_gather_6 (by decide) rfl ?_
  refine g_aload_n d_De_gather_8 rfl ?_
  refine g_lload_n d_De_gather_9 rfl ?_
  refine g_aload_n d_De_gather_10 rfl ?_
  refine g_iload d_De_gather_11 rfl ?_
  refine g_iconst (v := 3) d_De_gather_13 (by decide) ?_
  refine g_iadd d_De_gather_14 ?_
  obtain ⟨z_10, H⟩ := H
  obtain ⟨P_11, C_12, H⟩ := H
  obtain ⟨b_16, H⟩ := H
  refine q_V (As := [.int (x_9 + 3)]) (st := [.long y2, .ref q0]) (nl := 2) d_De_gather_15 v_De_68 C_12 z_10 rfl (catS_le (Nat.le_of_ble_eq_true rfl)) rfl ⟨by omega, by omega, b_16.1, b_16.2⟩ (fun r_17 h_13 p_14 => ?_)
  obtain ⟨x_15, rfl, p_14⟩ := p_14
  replace H := H x_15 h_13 p_14
  show Go _ _ _ _ [.int x_15, .long y2, .ref q0] _ _ _
  refine g_aload_n d_De_gather_18 rfl ?_
  refine g_iload d_De_gather_19 rfl ?_
  refine g_iconst (v := 4) d_De_gather_21 (by decide) ?_
  refine g_iadd d_De_gather_22 ?_
  obtain ⟨z_18, H⟩ := H
  obtain ⟨P_19, C_20, H⟩ := H
  obtain ⟨b_24, H⟩ := H
  refine q_V (As := [.int (x_9 + 4)]) (st := [.int x_15, .long y2, .ref q0]) (nl := 2) d_De_gather_23 v_De_68 C_20 z_18 rfl (catS_le (Nat.le_of_ble_eq_true rfl)) rfl ⟨by omega, by omega, b_24.1, b_24.2⟩ (fun r_25 h_21 p_22 => ?_)
  obtain ⟨x_23, rfl, p_22⟩ := p_22
  replace H := H x_23 h_21 p_22
  show Go _ _ _ _ [.int x_23, .int x_15, .long y2, .ref q0] _ _ _
  obtain ⟨z_26, H⟩ := H
  obtain ⟨mc_32, H⟩ := H
  obtain ⟨ms_33, H⟩ := H
  obtain ⟨P_27, C_28, H⟩ := H
  obtain ⟨b_34, H⟩ := H
  refine q_V (As := [.long y2, .int x_15, .int x_23]) (st := []) (nl := 6) d_De_gather_26 v_De_72 C_28 z_26 rfl (catS_le (Nat.le_of_ble_eq_true rfl)) rfl ⟨by omega, by omega, b_34.1, b_34.2⟩ (fun r_35 h_29 p_30 => ?_)
  obtain ⟨x_31, rfl, p_30⟩ := p_30
  replace H := H x_31 h_29 p_30
  show Go _ _ _ _ [.int x_31] _ _ _
  refine g_istore (lv' := [some (.ref q0), some (.ref q1), some (.long y2), none, some (.int x_9), some (.int x_31), none]) d_De_gather_29 (by decide) rfl ?_
  refine g_aload_n d_De_gather_31 rfl ?_
  obtain ⟨z_36, H⟩ := H
  refine g_getR d_De_gather_32 f_De_24 z_36 (by decide) ?_
  refine g_iload d_De_gather_35 rfl ?_
  obtain ⟨q_37, e_38, H⟩ := H
  show Go _ _ _ [some (.ref q0), some (.ref q1), some (.long y2), none, some (.int x_9), some (.int x_31), none] [.int x_31, va_rf (hR h_29 q0 6)] _ _ _
  rw [show va_rf (hR h_29 q0 6) = Value.ref q_37 from by rw [e_38]; rfl]
  obtain ⟨z_39, H⟩ := H
  obtain ⟨P_40, C_41, H⟩ := H
  obtain ⟨b_45, H⟩ := H
  refine q_V (As := [.int x_31]) (st := []) (nl := 2) d_De_gather_37 v_De_76 C_41 z_39 rfl (catS_le (Nat.le_of_ble_eq_true rfl)) rfl ⟨by omega, by omega, b_45.1, b_45.2⟩ (fun r_46 h_42 p_43 => ?_)
  obtain ⟨o_44, rfl, p_43⟩ := p_43
  replace H := H o_44 h_42 p_43
  show Go _ _ _ _ [va_rf o_44] _ _ _
  obtain ⟨q_47, e_48, H⟩ := H
  refine g_eqr e_48 ?_
  obtain ⟨z_49, H⟩ := H
  refine g_cast d_De_gather_40 (ci := 7) rfl k_De_80 kC_7 z_49 ?_
  refine g_astore (lv' := [some (.ref q0), some (.ref q1), some (.long y2), none, some (.int x_9), some (.int x_31), some (.ref q_47)]) d_De_gather_43 (by decide) rfl ?_
  refine g_aload d_De_gather_45 rfl ?_
  refine g_aload_n d_De_gather_47 rfl ?_
  refine g_iload d_De_gather_48 rfl ?_
  refine g_iconst (v := 5) d_De_gather_50 (by decide) ?_
  refine g_iadd d_De_gather_51 ?_
  obtain ⟨z_50, H⟩ := H
  obtain ⟨P_51, C_52, H⟩ := H
  obtain ⟨b_56, H⟩ := H
  refine q_V (As := [.int (x_9 + 5)]) (st := [.ref q_47]) (nl := 2) d_De_gather_52 v_De_68 C_52 z_50 rfl (catS_le (Nat.le_of_ble_eq_true rfl)) rfl ⟨by omega, by omega, b_56.1, b_56.2⟩ (fun r_57 h_53 p_54 => ?_)
  obtain ⟨x_55, rfl, p_54⟩ := p_54
  replace H := H x_55 h_53 p_54
  show Go _ _ _ _ [.int x_55, .ref q_47] _ _ _
  refine g_aload_n d_De_gather_55 rfl ?_
  obtain ⟨z_58, H⟩ := H
  obtain ⟨P_59, C_60, H⟩ := H
  obtain ⟨b_64, H⟩ := H
  refine q_V (As := [.int x_55, .ref q1]) (st := []) (nl := 4) d_De_gather_56 v_De_82 C_60 z_58 rfl (catS_le (Nat.le_of_ble_eq_true rfl)) rfl ⟨by omega, by omega, b_64.1, b_64.2⟩ (fun r_65 h_61 p_62 => ?_)
  obtain ⟨rfl, p_62⟩ := p_62
  replace H := H h_61 p_62
  show Go _ _ _ _ [] _ _ _
  refine g_aload d_De_gather_59 rfl ?_
  obtain ⟨z_66, H⟩ := H
  obtain ⟨P_67, C_68, H⟩ := H
  obtain ⟨b_72, H⟩ := H
  refine q_V (As := []) (st := []) (nl := 1) d_De_gather_61 v_De_86 C_68 z_66 rfl (catS_le (Nat.le_of_ble_eq_true rfl)) rfl ⟨by omega, by omega, b_72.1, b_72.2⟩ (fun r_73 h_69 p_70 => ?_)
  obtain ⟨x_71, rfl, p_70⟩ := p_70
  replace H := H x_71 h_69 p_70
  show Go _ _ _ _ [.int x_71] _ _ _
  obtain ⟨H1, H2⟩ := H
  refine g_if_le (tgt := 75) d_De_gather_64 (by decide) (fun c_74 => ?_) (fun c_74 => ?_)
  · have H := H1 c_74
    refine g_aload_n d_De_gather_75 rfl ?_
    obtain ⟨z_75, H⟩ := H
    refine g_getR d_De_gather_76 f_De_24 z_75 (by decide) ?_
    refine g_iload d_De_gather_79 rfl ?_
    obtain ⟨q_76, e_77, H⟩ := H
    show Go _ _ _ [some (.ref q0), some (.ref q1), some (.long y2), none, some (.int x_9), some (.int x_31), some (.ref q_47)] [.int x_31, va_rf (hR h_69 q0 6)] _ _ _
    rw [show va_rf (hR h_69 q0 6) = Value.ref q_76 from by rw [e_77]; rfl]
    obtain ⟨z_78, H⟩ := H
    obtain ⟨P_79, C_80, H⟩ := H
    obtain ⟨b_84, H⟩ := H
    refine q_V (As := [.int x_31]) (st := []) (nl := 4) d_De_gather_81 v_De_89 C_80 z_78 rfl (catS_le (Nat.le_of_ble_eq_true rfl)) rfl ⟨by omega, by omega, b_84.1, b_84.2⟩ (fun r_85 h_81 p_82 => ?_)
    obtain ⟨o_83, rfl, p_82⟩ := p_82
    replace H := H o_83 h_81 p_82
    show Go _ _ _ _ [va_rf o_83] _ _ _
    refine g_pop d_De_gather_84 (vcat _) ?_
    refine g_aload_n d_De_gather_85 rfl ?_
    refine g_aload d_De_gather_86 rfl ?_
    refine g_aload_n d_De_gather_88 rfl ?_
    obtain ⟨z_86, H⟩ := H
    refine g_getR d_De_gather_89 f_De_28 z_86 (by decide) ?_
    obtain ⟨q_87, e_88, H⟩ := H
    refine g_eqr e_88 ?_
    obtain ⟨z_89, H⟩ := H
    obtain ⟨P_90, C_91, H⟩ := H
    obtain ⟨b_95, H⟩ := H
    refine q_V (As := [.ref q_87]) (st := [.ref q0]) (nl := 4) d_De_gather_92 v_De_92 C_91 z_89 rfl (catS_le (Nat.le_of_ble_eq_true rfl)) rfl ⟨by omega, by omega, b_95.1, b_95.2⟩ (fun r_96 h_92 p_93 => ?_)
    obtain ⟨x_94, rfl, p_93⟩ := p_93
    replace H := H x_94 h_92 p_93
    show Go _ _ _ _ [.int x_94, .ref q0] _ _ _
    obtain ⟨z_97, H⟩ := H
    refine g_putI d_De_gather_95 f_De_57 (fo_4_8 _) z_97 ?_
    refine g_aload_n d_De_gather_98 rfl ?_
    refine g_lload_n d_De_gather_99 rfl ?_
    refine g_putJ d_De_gather_100 f_De_60 (fo_4_9 _) z_97 ?_
    refine g_aload_n d_De_gather_103 rfl ?_
    refine g_getI d_De_gather_104 f_De_57 z_97 ?_
    obtain ⟨b_98, H⟩ := H
    exact g_ireturn d_De_gather_107 rfl b_98.1 b_98.2 ⟨_, rfl, H⟩
  · have H := H2 c_74
    refine g_iconst (v := (-1)) d_De_gather_67 (by decide) ?_
    refine g_aload d_De_gather_68 rfl ?_
    obtain ⟨z_99, H⟩ := H
    obtain ⟨P_100, C_101, H⟩ := H
    obtain ⟨b_105, H⟩ := H
    refine q_V (As := []) (st := [.int (-1)]) (nl := 1) d_De_gather_70 v_De_86 C_101 z_99 rfl (catS_le (Nat.le_of_ble_eq_true rfl)) rfl ⟨by omega, by omega, b_105.1, b_105.2⟩ (fun r_106 h_102 p_103 => ?_)
    obtain ⟨x_104, rfl, p_103⟩ := p_103
    replace H := H x_104 h_102 p_103
    show Go _ _ _ _ [.int x_104, .int (-1)] _ _ _
    refine g_isub d_De_gather_73 ?_
    obtain ⟨b_107, H⟩ := H
    exact g_ireturn d_De_gather_74 rfl b_107.1 b_107.2 ⟨_, rfl, H⟩
set_option maxRecDepth 100000 in
set_option maxHeartbeats 4000000 in
def wJ_De_pilePlace_66 (G : Gx) (l : Launch) (d w mc ms : Nat) (P : Int32 → Hp → Prop) (q0 : Nat) (y1 : Int64) (x3 : Int32) (x4 : Int32) (x5 : Int32) (h : Hp) (k n : Nat) : Prop := (hS h q0 = some (14, 0)) ∧ ((k + 1 ≤ mc ∧ n + 4 ≤ ms) ∧ (∀ q_2 : Nat, Fre h q_2 → ∃ mc_11 : Nat, ∃ ms_12 : Nat, ∃ P_6 : Hp → Prop, (Cv G l M_Pi_init (d + 1) (w + 20) [.ref q_2, .long y1, .int x3, .int x4] (pN h q_2 (17, 0)) mc_11 ms_12 P_6) ∧ (((k + 1) + mc_11 ≤ mc ∧ (n + 4) + ms_12 ≤ ms) ∧ (∀ h_8 : Hp, P_6 h_8 → ∃ q_15 : Nat, (hR h q0 6) = some q_15 ∧ ((hS h_8 q_15 = some (12, 0)) ∧ (∃ mc_23 : Nat, ∃ ms_24 : Nat, ∃ P_18 : Int32 → Hp → Prop, (Ci G l M_AL_add (d + 6) (w + 141) [.ref q_15, .ref q_2] h_8 mc_23 ms_24 P_18) ∧ ((((k + 1) + mc_11) + mc_23 ≤ mc ∧ ((n + 4) + ms_12) + ms_24 ≤ ms) ∧ (∀ (x_22 : Int32) (h_20 : Hp), P_18 x_22 h_20 → (hS h_20 q0 = some (14, 0)) ∧ (∃ q_28 : Nat, (hR h_20 q0 6) = some q_28 ∧ ((hS h_20 q_28 = some (12, 0)) ∧ (∃ P_31 : Int32 → Hp → Prop, (Ci G l M_AL_size (d + 0) (w + 0) [.ref q_28] h_20 0 0 P_31) ∧ (((((k + 1) + mc_11) + mc_23) ≤ mc ∧ (((n + 4) + ms_12) + ms_24) ≤ ms) ∧ (∀ (x_35 : Int32) (h_33 : Hp), P_31 x_35 h_33 → ((((k + 1) + mc_11) + mc_23) ≤ mc ∧ (((n + 4) + ms_12) + ms_24) ≤ ms) ∧ (P (x_35 - 1) h_33))))))))))))))
set_option maxRecDepth 100000 in
set_option maxHeartbeats 4000000 in
theorem okJ_De_pilePlace_66 {G : Gx} {l : Launch} {d w : Nat} {mc ms : Nat} {P : Int32 → Hp → Prop} {p : Program} {e : Env} {s : State} {m : MethodId} {args : Array Value} {below : List Frame} {meth : Method} {c : Code} {q0 : Nat} {y1 : Int64} {x3 : Int32} {x4 : Int32} {x5 : Int32} {h : Hp} {k n : Nat} (H : wJ_De_pilePlace_66 G l d w mc ms P  q0 y1 x3 x4 x5 h k n) : Go M_De_pilePlace (mkX G (fun r h' => ∃ x, r = some (.int x) ∧ P x h') (d + 7) (w + 162) mc ms p l e s m args below meth c) 66 [some (.ref q0), some (.long y1), none, some (.int x3), some (.int x4), some (.int x5)] [] h k n := by
  unfold wJ_De_pilePlace_66 at H
  refine g_aload_n d_De_pilePlace_66 rfl ?_
  obtain ⟨z_1, H⟩ := H
  refine g_getR d_De_pilePlace_67 f_De_24 z_1 (by decide) ?_
  obtain ⟨b_3, H⟩ := H
  refine g_new d_De_pilePlace_70 (ci := 7) rfl k_De_80 kI_7 kJ_7 b_3.1 b_3.2 (fun q_2 Fq_2 => ?_)
  replace H := H q_2 Fq_2
  have z_4 := Fre.old (kd := (17, 0)) Fq_2 z_1
  have z_5 : hS (pN h q_2 (17, 0)) q_2 = some (17, 0) := Fre.new
  refine g_dup d_De_pilePlace_73 rfl ?_
  refine g_lload_n d_De_pilePlace_74 rfl ?_
  refine g_iload_n d_De_pilePlace_75 rfl ?_
  refine g_iload d_De_pilePlace_76 rfl ?_
  obtain ⟨mc_11, H⟩ := H
  obtain ⟨ms_12, H⟩ := H
  obtain ⟨P_6, C_7, H⟩ := H
  obtain ⟨b_13, H⟩ := H
  refine q_I (As := [.long y1, .int x3, .int x4]) (st := [.ref q_2, va_rf (hR h q0 6)]) (nl := 5) d_De_pilePlace_78 v_De_102 C_7 rfl (catS_le (Nat.le_of_ble_eq_true rfl)) rfl ⟨by omega, by omega, b_13.1, b_13.2⟩ (fun r_14 h_8 p_9 => ?_)
  obtain ⟨rfl, p_9⟩ := p_9
  replace H := H h_8 p_9
  show Go _ _ _ _ [.ref q_2, va_rf (hR h q0 6)] _ _ _
  obtain ⟨q_15, e_16, H⟩ := H
  show Go _ _ _ [some (.ref q0), some (.long y1), none, some (.int x3), some (.int x4), some (.int x5)] [.ref q_2, va_rf (hR h q0 6)] _ _ _
  rw [show va_rf (hR h q0 6) = Value.ref q_15 from by rw [e_16]; rfl]
  obtain ⟨z_17, H⟩ := H
  obtain ⟨mc_23, H⟩ := H
  obtain ⟨ms_24, H⟩ := H
  obtain ⟨P_18, C_19, H⟩ := H
  obtain ⟨b_25, H⟩ := H
  refine q_V (As := [.ref q_2]) (st := []) (nl := 2) d_De_pilePlace_81 v_De_105 C_19 z_17 rfl (catS_le (Nat.le_of_ble_eq_true rfl)) rfl ⟨by omega, by omega, b_25.1, b_25.2⟩ (fun r_26 h_20 p_21 => ?_)
  obtain ⟨x_22, rfl, p_21⟩ := p_21
  replace H := H x_22 h_20 p_21
  show Go _ _ _ _ [.int x_22] _ _ _
  refine g_pop d_De_pilePlace_84 rfl ?_
  refine g_aload_n d_De_pilePlace_85 rfl ?_
  obtain ⟨z_27, H⟩ := H
  refine g_getR d_De_pilePlace_86 f_De_24 z_27 (by decide) ?_
  obtain ⟨q_28, e_29, H⟩ := H
  refine g_eqr e_29 ?_
  obtain ⟨z_30, H⟩ := H
  obtain ⟨P_31, C_32, H⟩ := H
  obtain ⟨b_36, H⟩ := H
  refine q_V (As := []) (st := []) (nl := 1) d_De_pilePlace_89 v_De_95 C_32 z_30 rfl (catS_le (Nat.le_of_ble_eq_true rfl)) rfl ⟨by omega, by omega, b_36.1, b_36.2⟩ (fun r_37 h_33 p_34 => ?_)
  obtain ⟨x_35, rfl, p_34⟩ := p_34
  replace H := H x_35 h_33 p_34
  show Go _ _ _ _ [.int x_35] _ _ _
  refine g_iconst (v := 1) d_De_pilePlace_92 (by decide) ?_
  refine g_isub d_De_pilePlace_93 ?_
  obtain ⟨b_38, H⟩ := H
  exact g_ireturn d_De_pilePlace_94 rfl b_38.1 b_38.2 ⟨_, rfl, H⟩
set_option maxRecDepth 100000 in
set_option maxHeartbeats 4000000 in
def wB_De_pilePlace_3 (G : Gx) (l : Launch) (d w mc ms : Nat) (P : Int32 → Hp → Prop) (C3 : Int32 → Hp → Nat → Nat → Prop) (q0 : Nat) (y1 : Int64) (x3 : Int32) (x4 : Int32) (x5 : Int32) (h : Hp) (k n : Nat) : Prop := (hS h q0 = some (14, 0)) ∧ (∃ q_40 : Nat, (hR h q0 6) = some q_40 ∧ ((hS h q_40 = some (12, 0)) ∧ (∃ P_43 : Int32 → Hp → Prop, (Ci G l M_AL_size (d + 0) (w + 0) [.ref q_40] h 0 0 P_43) ∧ ((k ≤ mc ∧ n ≤ ms) ∧ (∀ (x_47 : Int32) (h_45 : Hp), P_43 x_47 h_45 → (x_47 ≤ x5 → (hS h_45 q0 = some (14, 0)) ∧ (∃ q_52 : Nat, (hR h_45 q0 6) = some q_52 ∧ ((hS h_45 q_52 = some (12, 0)) ∧ (∃ P_55 : Int32 → Hp → Prop, (Ci G l M_AL_size (d + 0) (w + 0) [.ref q_52] h_45 0 0 P_55) ∧ ((k ≤ mc ∧ n ≤ ms) ∧ (∀ (x_59 : Int32) (h_57 : Hp), P_55 x_59 h_57 → (x_59 < 3 → wJ_De_pilePlace_66 G l d w mc ms P q0 y1 x3 x4 x5 h_57 k n) ∧ (¬ x_59 < 3 → (hS h_57 q0 = some (14, 0)) ∧ (∃ q_64 : Nat, (hR h_57 q0 6) = some q_64 ∧ ((hS h_57 q_64 = some (12, 0)) ∧ (∃ P_67 : Option Nat → Hp → Prop, (Cr G l M_AL_remove (d + 3) (w + 73) [.ref q_64, .int 0] h_57 0 0 P_67) ∧ ((k ≤ mc ∧ n ≤ ms) ∧ (∀ (o_71 : Option Nat) (h_69 : Hp), P_67 o_71 h_69 → wJ_De_pilePlace_66 G l d w mc ms P q0 y1 x3 x4 x5 h_69 k n)))))))))))) ∧ (¬ x_47 ≤ x5 → (hS h_45 q0 = some (14, 0)) ∧ (∃ q_75 : Nat, (hR h_45 q0 6) = some q_75 ∧ ((hS h_45 q_75 = some (12, 0)) ∧ (∃ P_78 : Option Nat → Hp → Prop, (Cr G l M_AL_get (d + 3) (w + 73) [.ref q_75, .int x5] h_45 0 0 P_78) ∧ ((k ≤ mc ∧ n ≤ ms) ∧ (∀ (o_82 : Option Nat) (h_80 : Hp), P_78 o_82 h_80 → ∃ q_85 : Nat, o_82 = some q_85 ∧ ((hS h_80 q_85 = some (17, 0)) ∧ (∃ P_88 : Int32 → Hp → Prop, (Ci G l M_Pi_gathers (d + 0) (w + 0) [.ref q_85, .long y1, .int x3, .int x4] h_80 0 0 P_88) ∧ ((k ≤ mc ∧ n ≤ ms) ∧ (∀ (x_92 : Int32) (h_90 : Hp), P_88 x_92 h_90 → (x_92 = 0 → ∀ x_96 : Int32, x_96 = x5 + 1 → C3 x_96 h_90 k n) ∧ (¬ x_92 = 0 → (k ≤ mc ∧ n ≤ ms) ∧ (P x5 h_90)))))))))))))))))
set_option maxRecDepth 100000 in
set_option maxHeartbeats 4000000 in
theorem okB_De_pilePlace_3 {G : Gx} {l : Launch} {d w : Nat} {mc ms : Nat} {P : Int32 → Hp → Prop} {p : Program} {e : Env} {s : State} {m : MethodId} {args : Array Value} {below : List Frame} {meth : Method} {c : Code} {C3 : Int32 → Hp → Nat → Nat → Prop} {q0 : Nat} {y1 : Int64} {x3 : Int32} {x4 : Int32} {x5 : Int32} (hC3 : ∀ (x5 : Int32) (h : Hp) (k n : Nat), C3 x5 h k n → Go M_De_pilePlace (mkX G (fun r h' => ∃ x, r = some (.int x) ∧ P x h') (d + 7) (w + 162) mc ms p l e s m args below meth c) 3 [some (.ref q0), some (.long y1), none, some (.int x3), some (.int x4), some (.int x5)] [] h k n) {h : Hp} {k n : Nat} (H : wB_De_pilePlace_3 G l d w mc ms P C3 q0 y1 x3 x4 x5 h k n) : Go M_De_pilePlace (mkX G (fun r h' => ∃ x, r = some (.int x) ∧ P x h') (d + 7) (w + 162) mc ms p l e s m args below meth c) 3 [some (.ref q0), some (.long y1), none, some (.int x3), some (.int x4), some (.int x5)] [] h k n := by
  unfold wB_De_pilePlace_3 at H
  refine g_iload d_De_pilePlace_3 rfl ?_
  refine g_aload_n d_De_pilePlace_5 rfl ?_
  obtain ⟨z_39, H⟩ := H
  refine g_getR d_De_pilePlace_6 f_De_24 z_39 (by decide) ?_
  obtain ⟨q_40, e_41, H⟩ := H
  refine g_eqr e_41 ?_
  obtain ⟨z_42, H⟩ := H
  obtain ⟨P_43, C_44, H⟩ := H
  obtain ⟨b_48, H⟩ := H
  refine q_V (As := []) (st := [.int x5]) (nl := 1) d_De_pilePlace_9 v_De_95 C_44 z_42 rfl (catS_le (Nat.le_of_ble_eq_true rfl)) rfl ⟨by omega, by omega, b_48.1, b_48.2⟩ (fun r_49 h_45 p_46 => ?_)
  obtain ⟨x_47, rfl, p_46⟩ := p_46
  replace H := H x_47 h_45 p_46
  show Go _ _ _ _ [.int x_47, .int x5] _ _ _
  obtain ⟨H1, H2⟩ := H
  refine g_icmp_ge (tgt := 46) d_De_pilePlace_12 (by decide) (fun c_50 => ?_) (fun c_50 => ?_)
  · have H := H1 c_50
    refine g_aload_n d_De_pilePlace_46 rfl ?_
    obtain ⟨z_51, H⟩ := H
    refine g_getR d_De_pilePlace_47 f_De_24 z_51 (by decide) ?_
    obtain ⟨q_52, e_53, H⟩ := H
    refine g_eqr e_53 ?_
    obtain ⟨z_54, H⟩ := H
    obtain ⟨P_55, C_56, H⟩ := H
    obtain ⟨b_60, H⟩ := H
    refine q_V (As := []) (st := []) (nl := 1) d_De_pilePlace_50 v_De_95 C_56 z_54 rfl (catS_le (Nat.le_of_ble_eq_true rfl)) rfl ⟨by omega, by omega, b_60.1, b_60.2⟩ (fun r_61 h_57 p_58 => ?_)
    obtain ⟨x_59, rfl, p_58⟩ := p_58
    replace H := H x_59 h_57 p_58
    show Go _ _ _ _ [.int x_59] _ _ _
    refine g_iconst (v := 3) d_De_pilePlace_53 (by decide) ?_
    obtain ⟨H1, H2⟩ := H
    refine g_icmp_lt (tgt := 66) d_De_pilePlace_54 (by decide) (fun c_62 => ?_) (fun c_62 => ?_)
    · have H := H1 c_62
      refine g_msk [true, true, false, true, true, true] ?_
      exact okJ_De_pilePlace_66 H
    · have H := H2 c_62
      refine g_aload_n d_De_pilePlace_57 rfl ?_
      obtain ⟨z_63, H⟩ := H
      refine g_getR d_De_pilePlace_58 f_De_24 z_63 (by decide) ?_
      refine g_iconst (v := 0) d_De_pilePlace_61 (by decide) ?_
      obtain ⟨q_64, e_65, H⟩ := H
      show Go _ _ _ [some (.ref q0), some (.long y1), none, some (.int x3), some (.int x4), some (.int x5)] [.int 0, va_rf (hR h_57 q0 6)] _ _ _
      rw [show va_rf (hR h_57 q0 6) = Value.ref q_64 from by rw [e_65]; rfl]
      obtain ⟨z_66, H⟩ := H
      obtain ⟨P_67, C_68, H⟩ := H
      obtain ⟨b_72, H⟩ := H
      refine q_V (As := [.int 0]) (st := []) (nl := 4) d_De_pilePlace_62 v_De_89 C_68 z_66 rfl (catS_le (Nat.le_of_ble_eq_true rfl)) rfl ⟨by omega, by omega, b_72.1, b_72.2⟩ (fun r_73 h_69 p_70 => ?_)
      obtain ⟨o_71, rfl, p_70⟩ := p_70
      replace H := H o_71 h_69 p_70
      show Go _ _ _ _ [va_rf o_71] _ _ _
      refine g_pop d_De_pilePlace_65 (vcat _) ?_
      refine g_msk [true, true, false, true, true, true] ?_
      exact okJ_De_pilePlace_66 H
  · have H := H2 c_50
    refine g_aload_n d_De_pilePlace_15 rfl ?_
    obtain ⟨z_74, H⟩ := H
    refine g_getR d_De_pilePlace_16 f_De_24 z_74 (by decide) ?_
    refine g_iload d_De_pilePlace_19 rfl ?_
    obtain ⟨q_75, e_76, H⟩ := H
    show Go _ _ _ [some (.ref q0), some (.long y1), none, some (.int x3), some (.int x4), some (.int x5)] [.int x5, va_rf (hR h_45 q0 6)] _ _ _
    rw [show va_rf (hR h_45 q0 6) = Value.ref q_75 from by rw [e_76]; rfl]
    obtain ⟨z_77, H⟩ := H
    obtain ⟨P_78, C_79, H⟩ := H
    obtain ⟨b_83, H⟩ := H
    refine q_V (As := [.int x5]) (st := []) (nl := 2) d_De_pilePlace_21 v_De_76 C_79 z_77 rfl (catS_le (Nat.le_of_ble_eq_true rfl)) rfl ⟨by omega, by omega, b_83.1, b_83.2⟩ (fun r_84 h_80 p_81 => ?_)
    obtain ⟨o_82, rfl, p_81⟩ := p_81
    replace H := H o_82 h_80 p_81
    show Go _ _ _ _ [va_rf o_82] _ _ _
    obtain ⟨q_85, e_86, H⟩ := H
    refine g_eqr e_86 ?_
    obtain ⟨z_87, H⟩ := H
    refine g_cast d_De_pilePlace_24 (ci := 7) rfl k_De_80 kC_7 z_87 ?_
    refine g_lload_n d_De_pilePlace_27 rfl ?_
    refine g_iload_n d_De_pilePlace_28 rfl ?_
    refine g_iload d_De_pilePlace_29 rfl ?_
    obtain ⟨P_88, C_89, H⟩ := H
    obtain ⟨b_93, H⟩ := H
    refine q_V (As := [.long y1, .int x3, .int x4]) (st := []) (nl := 5) d_De_pilePlace_31 v_De_98 C_89 z_87 rfl (catS_le (Nat.le_of_ble_eq_true rfl)) rfl ⟨by omega, by omega, b_93.1, b_93.2⟩ (fun r_94 h_90 p_91 => ?_)
    obtain ⟨x_92, rfl, p_91⟩ := p_91
    replace H := H x_92 h_90 p_91
    show Go _ _ _ _ [.int x_92] _ _ _
    obtain ⟨H1, H2⟩ := H
    refine g_if_eq (tgt := 40) d_De_pilePlace_34 (by decide) (fun c_95 => ?_) (fun c_95 => ?_)
    · have H := H1 c_95
      obtain ⟨x_96, ex_96⟩ : ∃ z : Int32, z = x5 + 1 := ⟨_, rfl⟩
      replace H := H x_96 ex_96
      refine g_iinc (v := x_96) (lv' := [some (.ref q0), some (.long y1), none, some (.int x3), some (.int x4), some (.int x_96)]) d_De_pilePlace_40 rfl (by decide) (by rw [ex_96]; rfl) rfl ?_
      refine g_goto (tgt := 3) d_De_pilePlace_43 (by decide) ?_
      refine g_msk [true, true, false, true, true, true] ?_
      exact hC3 _ _ _ _ H
    · have H := H2 c_95
      refine g_iload d_De_pilePlace_37 rfl ?_
      obtain ⟨b_97, H⟩ := H
      exact g_ireturn d_De_pilePlace_39 rfl b_97.1 b_97.2 ⟨_, rfl, H⟩
set_option maxRecDepth 100000 in
set_option maxHeartbeats 4000000 in
def wL_De_pilePlace_3 (G : Gx) (l : Launch) (d w mc ms : Nat) (P : Int32 → Hp → Prop) (q0 : Nat) (y1 : Int64) (x3 : Int32) (x4 : Int32) (x5 : Int32) (h : Hp) (k n : Nat) : Prop := ∃ (I : Int32 → Hp → Nat → Nat → Prop) (μ : Int32 → Hp → Nat → Nat → Nat), I x5 h k n ∧ ∀ (x5' : Int32) (h' : Hp) (k' n' : Nat), I x5' h' k' n' → wB_De_pilePlace_3 G l d w mc ms P (fun x5_ h_ k_ n_ => I x5_ h_ k_ n_ ∧ μ x5_ h_ k_ n_ < μ x5' h' k' n') q0 y1 x3 x4 x5' h' k' n'
set_option maxRecDepth 100000 in
set_option maxHeartbeats 4000000 in
theorem okL_De_pilePlace_3 {G : Gx} {l : Launch} {d w : Nat} {mc ms : Nat} {P : Int32 → Hp → Prop} {p : Program} {e : Env} {s : State} {m : MethodId} {args : Array Value} {below : List Frame} {meth : Method} {c : Code} {q0 : Nat} {y1 : Int64} {x3 : Int32} {x4 : Int32} {x5 : Int32} {h : Hp} {k n : Nat} (H : wL_De_pilePlace_3 G l d w mc ms P  q0 y1 x3 x4 x5 h k n) : Go M_De_pilePlace (mkX G (fun r h' => ∃ x, r = some (.int x) ∧ P x h') (d + 7) (w + 162) mc ms p l e s m args below meth c) 3 [some (.ref q0), some (.long y1), none, some (.int x3), some (.int x4), some (.int x5)] [] h k n := by
  obtain ⟨I, μ, h0, hs⟩ := H
  have key : ∀ (N : Nat) (x5 : Int32) (h : Hp) (k n : Nat), I x5 h k n → μ x5 h k n < N → Go M_De_pilePlace (mkX G (fun r h' => ∃ x, r = some (.int x) ∧ P x h') (d + 7) (w + 162) mc ms p l e s m args below meth c) 3 [some (.ref q0), some (.long y1), none, some (.int x3), some (.int x4), some (.int x5)] [] h k n := by
    intro N
    induction N with
    | zero => intro x5 h k n _ hN; exact absurd hN (Nat.not_lt_zero _)
    | succ N ih =>
      intro x5 h k n hI hN
      exact okB_De_pilePlace_3 (fun x5_ h_ k_ n_ hh => ih x5_ h_ k_ n_ hh.1 (Nat.lt_of_lt_of_le hh.2 (Nat.le_of_lt_succ hN))) (hs x5 h k n hI)
  exact key _ _ _ _ _ h0 (Nat.lt_succ_self _)
set_option maxRecDepth 100000 in
set_option maxHeartbeats 4000000 in
def wp_De_pilePlace (G : Gx) (l : Launch) (d w mc ms : Nat) (P : Int32 → Hp → Prop) (q0 : Nat) (y1 : Int64) (x3 : Int32) (x4 : Int32) (h : Hp) : Prop := wL_De_pilePlace_3 G l d w mc ms P q0 y1 x3 x4 0 h 0 0
set_option maxRecDepth 100000 in
set_option maxHeartbeats 4000000 in
theorem ok_De_pilePlace {G : Gx} {l : Launch} {d w : Nat} {mc ms : Nat} {P : Int32 → Hp → Prop} {q0 : Nat} {y1 : Int64} {x3 : Int32} {x4 : Int32} {h : Hp} (H : wp_De_pilePlace G l d w mc ms P q0 y1 x3 x4 h) : Ci G l M_De_pilePlace (d + 7) (w + 162) [.ref q0, .long y1, .int x3, .int x4] h mc ms P := by
  unfold wp_De_pilePlace at H
  refine Ct.of (lv := [some (.ref q0), some (.long y1), none, some (.int x3), some (.int x4), none]) (by decide) (Nat.le_of_ble_eq_true rfl) rfl (fun p e s m args below meth c => ?_)
  refine g_iconst (v := 0) d_De_pilePlace_0 (by decide) ?_
  refine g_istore (lv' := [some (.ref q0), some (.long y1), none, some (.int x3), some (.int x4), some (.int 0)]) d_De_pilePlace_1 (by decide) rfl ?_
  refine g_msk [true, true, false, true, true, true] ?_
  exact okL_De_pilePlace_3 H
set_option maxRecDepth 100000 in
set_option maxHeartbeats 4000000 in
def wp_Dr_init (G : Gx) (l : Launch) (d w mc ms : Nat) (P : Hp → Prop) (q0 : Nat) (h : Hp) : Prop := ∃ N_3 : Nat, (480 = nI N_3 ∧ N_3 < 2147483648 ∧ N_3 * 4 ≤ 536870912) ∧ ((0 + 1 ≤ mc ∧ 0 + N_3 ≤ ms) ∧ (∀ q_1 : Nat, Fre h q_1 → (hS (pN h q_1 (0, N_3)) q0 = some (13, 0)) ∧ (((0 + 1) ≤ mc ∧ (0 + N_3) ≤ ms) ∧ (P (pR (pN h q_1 (0, N_3)) q0 0 (some q_1))))))
set_option maxRecDepth 100000 in
set_option maxHeartbeats 4000000 in
theorem ok_Dr_init {G : Gx} {l : Launch} {d w : Nat} {mc ms : Nat} {P : Hp → Prop} {q0 : Nat} {h : Hp} (H : wp_Dr_init G l d w mc ms P q0 h) : Cv G l M_Dr_init (d + 1) (w + 20) [.ref q0] h mc ms P := by
  unfold wp_Dr_init at H
  refine Ct.of (lv := [some (.ref q0)]) (by decide) (Nat.le_of_ble_eq_true rfl) rfl (fun p e s m args below meth c => ?_)
  refine g_aload_n d_Dr_init_0 rfl ?_
  refine g_objInit d_Dr_init_1 kx_Dr kx_n kx_c (catS_le (Nat.le_of_ble_eq_true rfl)) ⟨show 1 ≤ d + 1 by omega, show 20 ≤ w + 20 by omega⟩ ?_
  refine g_aload_n d_Dr_init_4 rfl ?_
  refine g_sipush (v := 480) d_Dr_init_5 (by decide) ?_
  obtain ⟨N_3, H⟩ := H
  obtain ⟨z_4, H⟩ := H
  obtain ⟨b_2, H⟩ := H
  refine g_newarr d_Dr_init_8 kA_i z_4.1 z_4.2.1 z_4.2.2 b_2.1 b_2.2 (Or.inl ⟨rfl, rfl⟩) (fun q_1 Fq_1 => ?_)
  replace H := H q_1 Fq_1
  have z_5 : hS (pN h q_1 (0, N_3)) q_1 = some (0, N_3) := Fre.new
  obtain ⟨z_6, H⟩ := H
  refine g_putR (x := (some q_1)) (ty := .array .int) d_Dr_init_10 f_Dr_9 ⟨_, rfl, Or.inr ⟨rfl, rfl, rfl⟩⟩ z_6 (by decide) (by decide +kernel) (Or.inr ⟨_, rfl⟩) ?_
  obtain ⟨b_7, H⟩ := H
  exact g_return d_Dr_init_13 rfl b_7.1 b_7.2 ⟨rfl, H⟩
set_option maxRecDepth 100000 in
set_option maxHeartbeats 4000000 in
def wp_Dr_room (G : Gx) (l : Launch) (d w : Nat) (P : Int32 → Hp → Prop) (q0 : Nat) (h : Hp) : Prop := (hS h q0 = some (13, 0)) ∧ (P (480 - (hI h q0 1)) h)
set_option maxRecDepth 100000 in
set_option maxHeartbeats 4000000 in
theorem ok_Dr_room {G : Gx} {l : Launch} {d w : Nat} {P : Int32 → Hp → Prop} {q0 : Nat} {h : Hp} (H : wp_Dr_room G l d w P q0 h) : Ci G l M_Dr_room (d + 0) (w + 0) [.ref q0] h 0 0 P := by
  unfold wp_Dr_room at H
  refine Ct.of (lv := [some (.ref q0)]) (by decide) (Nat.le_of_ble_eq_true rfl) rfl (fun p e s m args below meth c => ?_)
  refine g_sipush (v := 480) d_Dr_room_0 (by decide) ?_
  refine g_aload_n d_Dr_room_3 rfl ?_
  obtain ⟨z_1, H⟩ := H
  refine g_getI d_Dr_room_4 f_Dr_13 z_1 ?_
  refine g_isub d_Dr_room_7 ?_
  exact g_ireturn d_Dr_room_8 rfl (Nat.le_refl _) (Nat.le_refl _) ⟨_, rfl, H⟩
set_option maxRecDepth 100000 in
set_option maxHeartbeats 4000000 in
def wJ_Dr_append_43 (G : Gx) (l : Launch) (d w : Nat) (P : Hp → Prop) (q0 : Nat) (x1 : Int32) (x2 : Int32) (x3 : Int32) (h : Hp)  : Prop := P h
set_option maxRecDepth 100000 in
set_option maxHeartbeats 4000000 in
theorem okJ_Dr_append_43 {G : Gx} {l : Launch} {d w : Nat} {P : Hp → Prop} {p : Program} {e : Env} {s : State} {m : MethodId} {args : Array Value} {below : List Frame} {meth : Method} {c : Code} {q0 : Nat} {x1 : Int32} {x2 : Int32} {x3 : Int32} {h : Hp}  (H : wJ_Dr_append_43 G l d w P  q0 x1 x2 x3 h ) : Go M_Dr_append (mkX G (fun r h' => r = none ∧ P h') (d + 0) (w + 0) 0 0 p l e s m args below meth c) 43 [some (.ref q0), some (.int x1), some (.int x2), some (.int x3)] [] h 0 0 := by
  unfold wJ_Dr_append_43 at H
  exact g_return d_Dr_append_43 rfl (Nat.le_refl _) (Nat.le_refl _) ⟨rfl, H⟩
set_option maxRecDepth 100000 in
set_option maxHeartbeats 4000000 in
def wB_Dr_append_2 (G : Gx) (l : Launch) (d w : Nat) (P : Hp → Prop) (C2 : Int32 → Hp → Prop) (q0 : Nat) (x1 : Int32) (x2 : Int32) (x3 : Int32) (h : Hp)  : Prop := (x2 ≤ x3 → wJ_Dr_append_43 G l d w P q0 x1 x2 x3 h) ∧ (¬ x2 ≤ x3 → (hS h q0 = some (13, 0)) ∧ ((480 ≤ (hI h q0 1) → wJ_Dr_append_43 G l d w P q0 x1 x2 x3 h) ∧ (¬ 480 ≤ (hI h q0 1) → ∃ q_4 : Nat, (hR h q0 0) = some q_4 ∧ (∃ N_6 : Nat, ∃ j_7 : Nat, (hS h q_4 = some (0, N_6) ∧ (hI h q0 1) = nI j_7 ∧ j_7 < N_6 ∧ j_7 < 2147483648) ∧ (∀ x_9 : Int32, x_9 = x3 + 1 → C2 x_9 (pI (pI h q_4 j_7 x1) q0 1 ((hI (pI h q_4 j_7 x1) q0 1) + 1)))))))
set_option maxRecDepth 100000 in
set_option maxHeartbeats 4000000 in
theorem okB_Dr_append_2 {G : Gx} {l : Launch} {d w : Nat} {P : Hp → Prop} {p : Program} {e : Env} {s : State} {m : MethodId} {args : Array Value} {below : List Frame} {meth : Method} {c : Code} {C2 : Int32 → Hp → Prop} {q0 : Nat} {x1 : Int32} {x2 : Int32} {x3 : Int32} (hC2 : ∀ (x3 : Int32) (h : Hp), C2 x3 h → Go M_Dr_append (mkX G (fun r h' => r = none ∧ P h') (d + 0) (w + 0) 0 0 p l e s m args below meth c) 2 [some (.ref q0), some (.int x1), some (.int x2), some (.int x3)] [] h 0 0) {h : Hp}  (H : wB_Dr_append_2 G l d w P C2 q0 x1 x2 x3 h ) : Go M_Dr_append (mkX G (fun r h' => r = none ∧ P h') (d + 0) (w + 0) 0 0 p l e s m args below meth c) 2 [some (.ref q0), some (.int x1), some (.int x2), some (.int x3)] [] h 0 0 := by
  unfold wB_Dr_append_2 at H
  refine g_iload_n d_Dr_append_2 rfl ?_
  refine g_iload_n d_Dr_append_3 rfl ?_
  obtain ⟨H1, H2⟩ := H
  refine g_icmp_ge (tgt := 43) d_Dr_append_4 (by decide) (fun c_1 => ?_) (fun c_1 => ?_)
  · have H := H1 c_1
    refine g_msk [true, true, true, true] ?_
    exact okJ_Dr_append_43 H
  · have H := H2 c_1
    refine g_aload_n d_Dr_append_7 rfl ?_
    obtain ⟨z_2, H⟩ := H
    refine g_getI d_Dr_append_8 f_Dr_13 z_2 ?_
    refine g_sipush (v := 480) d_Dr_append_11 (by decide) ?_
    obtain ⟨H1, H2⟩ := H
    refine g_icmp_ge (tgt := 43) d_Dr_append_14 (by decide) (fun c_3 => ?_) (fun c_3 => ?_)
    · have H := H1 c_3
      refine g_msk [true, true, true, true] ?_
      exact okJ_Dr_append_43 H
    · have H := H2 c_3
      refine g_aload_n d_Dr_append_17 rfl ?_
      refine g_getR d_Dr_append_18 f_Dr_9 z_2 (by decide) ?_
      refine g_aload_n d_Dr_append_21 rfl ?_
      refine g_getI d_Dr_append_22 f_Dr_13 z_2 ?_
      refine g_iload_n d_Dr_append_25 rfl ?_
      obtain ⟨q_4, e_5, H⟩ := H
      show Go _ _ _ [some (.ref q0), some (.int x1), some (.int x2), some (.int x3)] [.int x1, .int (hI h q0 1), va_rf (hR h q0 0)] _ _ _
      rw [show va_rf (hR h q0 0) = Value.ref q_4 from by rw [e_5]; rfl]
      obtain ⟨N_6, H⟩ := H
      obtain ⟨j_7, H⟩ := H
      obtain ⟨z_8, H⟩ := H
      refine g_iast d_Dr_append_26 z_8.1 z_8.2.1 z_8.2.2.1 z_8.2.2.2 ?_
      refine g_aload_n d_Dr_append_27 rfl ?_
      refine g_dup d_Dr_append_28 rfl ?_
      refine g_getI d_Dr_append_29 f_Dr_13 z_2 ?_
      refine g_iconst (v := 1) d_Dr_append_32 (by decide) ?_
      refine g_iadd d_Dr_append_33 ?_
      refine g_putI d_Dr_append_34 f_Dr_13 (fo_3_1 _) z_2 ?_
      obtain ⟨x_9, ex_9⟩ : ∃ z : Int32, z = x3 + 1 := ⟨_, rfl⟩
      replace H := H x_9 ex_9
      refine g_iinc (v := x_9) (lv' := [some (.ref q0), some (.int x1), some (.int x2), some (.int x_9)]) d_Dr_append_37 rfl (by decide) (by rw [ex_9]; rfl) rfl ?_
      refine g_goto (tgt := 2) d_Dr_append_40 (by decide) ?_
      refine g_msk [true, true, true, true] ?_
      exact hC2 _ _ H
set_option maxRecDepth 100000 in
set_option maxHeartbeats 4000000 in
def wL_Dr_append_2 (G : Gx) (l : Launch) (d w : Nat) (P : Hp → Prop) (q0 : Nat) (x1 : Int32) (x2 : Int32) (x3 : Int32) (h : Hp)  : Prop := ∃ (I : Int32 → Hp → Prop) (μ : Int32 → Hp → Nat), I x3 h ∧ ∀ (x3' : Int32) (h' : Hp), I x3' h' → wB_Dr_append_2 G l d w P (fun x3_ h_ => I x3_ h_ ∧ μ x3_ h_ < μ x3' h') q0 x1 x2 x3' h'
set_option maxRecDepth 100000 in
set_option maxHeartbeats 4000000 in
theorem okL_Dr_append_2 {G : Gx} {l : Launch} {d w : Nat} {P : Hp → Prop} {p : Program} {e : Env} {s : State} {m : MethodId} {args : Array Value} {below : List Frame} {meth : Method} {c : Code} {q0 : Nat} {x1 : Int32} {x2 : Int32} {x3 : Int32} {h : Hp}  (H : wL_Dr_append_2 G l d w P  q0 x1 x2 x3 h ) : Go M_Dr_append (mkX G (fun r h' => r = none ∧ P h') (d + 0) (w + 0) 0 0 p l e s m args below meth c) 2 [some (.ref q0), some (.int x1), some (.int x2), some (.int x3)] [] h 0 0 := by
  obtain ⟨I, μ, h0, hs⟩ := H
  have key : ∀ (N : Nat) (x3 : Int32) (h : Hp), I x3 h → μ x3 h < N → Go M_Dr_append (mkX G (fun r h' => r = none ∧ P h') (d + 0) (w + 0) 0 0 p l e s m args below meth c) 2 [some (.ref q0), some (.int x1), some (.int x2), some (.int x3)] [] h 0 0 := by
    intro N
    induction N with
    | zero => intro x3 h _ hN; exact absurd hN (Nat.not_lt_zero _)
    | succ N ih =>
      intro x3 h hI hN
      exact okB_Dr_append_2 (fun x3_ h_ hh => ih x3_ h_ hh.1 (Nat.lt_of_lt_of_le hh.2 (Nat.le_of_lt_succ hN))) (hs x3 h hI)
  exact key _ _ _ h0 (Nat.lt_succ_self _)
set_option maxRecDepth 100000 in
set_option maxHeartbeats 4000000 in
def wp_Dr_append (G : Gx) (l : Launch) (d w : Nat) (P : Hp → Prop) (q0 : Nat) (x1 : Int32) (x2 : Int32) (h : Hp) : Prop := wL_Dr_append_2 G l d w P q0 x1 x2 0 h
set_option maxRecDepth 100000 in
set_option maxHeartbeats 4000000 in
theorem ok_Dr_append {G : Gx} {l : Launch} {d w : Nat} {P : Hp → Prop} {q0 : Nat} {x1 : Int32} {x2 : Int32} {h : Hp} (H : wp_Dr_append G l d w P q0 x1 x2 h) : Cv G l M_Dr_append (d + 0) (w + 0) [.ref q0, .int x1, .int x2] h 0 0 P := by
  unfold wp_Dr_append at H
  refine Ct.of (lv := [some (.ref q0), some (.int x1), some (.int x2), none]) (by decide) (Nat.le_of_ble_eq_true rfl) rfl (fun p e s m args below meth c => ?_)
  refine g_iconst (v := 0) d_Dr_append_0 (by decide) ?_
  refine g_istore_n (lv' := [some (.ref q0), some (.int x1), some (.int x2), some (.int 0)]) d_Dr_append_1 (by decide) rfl ?_
  refine g_msk [true, true, true, true] ?_
  exact okL_Dr_append_2 H
set_option maxRecDepth 100000 in
set_option maxHeartbeats 4000000 in
def wB_Dr_hasAlien_2 (G : Gx) (l : Launch) (d w : Nat) (P : Int32 → Hp → Prop) (C2 : Int32 → Hp → Prop) (q0 : Nat) (x1 : Int32) (h : Hp)  : Prop := (hS h q0 = some (13, 0)) ∧ (((hI h q0 1) ≤ x1 → P 0 h) ∧ (¬ (hI h q0 1) ≤ x1 → ∃ q_3 : Nat, (hR h q0 0) = some q_3 ∧ (∃ N_5 : Nat, ∃ j_6 : Nat, (hS h q_3 = some (0, N_5) ∧ x1 = nI j_6 ∧ j_6 < N_5 ∧ j_6 < 2147483648) ∧ ((¬ (hI h q_3 j_6) = (-1) → ∀ x_9 : Int32, x_9 = x1 + 1 → C2 x_9 h) ∧ ((hI h q_3 j_6) = (-1) → P 1 h)))))
set_option maxRecDepth 100000 in
set_option maxHeartbeats 4000000 in
theorem okB_Dr_hasAlien_2 {G : Gx} {l : Launch} {d w : Nat} {P : Int32 → Hp → Prop} {p : Program} {e : Env} {s : State} {m : MethodId} {args : Array Value} {below : List Frame} {meth : Method} {c : Code} {C2 : Int32 → Hp → Prop} {q0 : Nat} {x1 : Int32} (hC2 : ∀ (x1 : Int32) (h : Hp), C2 x1 h → Go M_Dr_hasAlien (mkX G (fun r h' => ∃ x, r = some (.int x) ∧ P x h') (d + 0) (w + 0) 0 0 p l e s m args below meth c) 2 [some (.ref q0), some (.int x1)] [] h 0 0) {h : Hp}  (H : wB_Dr_hasAlien_2 G l d w P C2 q0 x1 h ) : Go M_Dr_hasAlien (mkX G (fun r h' => ∃ x, r = some (.int x) ∧ P x h') (d + 0) (w + 0) 0 0 p l e s m args below meth c) 2 [some (.ref q0), some (.int x1)] [] h 0 0 := by
  unfold wB_Dr_hasAlien_2 at H
  refine g_iload_n d_Dr_hasAlien_2 rfl ?_
  refine g_aload_n d_Dr_hasAlien_3 rfl ?_
  obtain ⟨z_1, H⟩ := H
  refine g_getI d_Dr_hasAlien_4 f_Dr_13 z_1 ?_
  obtain ⟨H1, H2⟩ := H
  refine g_icmp_ge (tgt := 28) d_Dr_hasAlien_7 (by decide) (fun c_2 => ?_) (fun c_2 => ?_)
  · have H := H1 c_2
    refine g_iconst (v := 0) d_Dr_hasAlien_28 (by decide) ?_
    exact g_zreturn d_Dr_hasAlien_29 rfl (by decide) (Nat.le_refl _) (Nat.le_refl _) ⟨_, rfl, H⟩
  · have H := H2 c_2
    refine g_aload_n d_Dr_hasAlien_10 rfl ?_
    refine g_getR d_Dr_hasAlien_11 f_Dr_9 z_1 (by decide) ?_
    refine g_iload_n d_Dr_hasAlien_14 rfl ?_
    obtain ⟨q_3, e_4, H⟩ := H
    show Go _ _ _ [some (.ref q0), some (.int x1)] [.int x1, va_rf (hR h q0 0)] _ _ _
    rw [show va_rf (hR h q0 0) = Value.ref q_3 from by rw [e_4]; rfl]
    obtain ⟨N_5, H⟩ := H
    obtain ⟨j_6, H⟩ := H
    obtain ⟨z_7, H⟩ := H
    refine g_iald d_Dr_hasAlien_15 z_7.1 z_7.2.1 z_7.2.2.1 z_7.2.2.2 ?_
    refine g_iconst (v := (-1)) d_Dr_hasAlien_16 (by decide) ?_
    obtain ⟨H1, H2⟩ := H
    refine g_icmp_ne (tgt := 22) d_Dr_hasAlien_17 (by decide) (fun c_8 => ?_) (fun c_8 => ?_)
    · have H := H1 c_8
      obtain ⟨x_9, ex_9⟩ : ∃ z : Int32, z = x1 + 1 := ⟨_, rfl⟩
      replace H := H x_9 ex_9
      refine g_iinc (v := x_9) (lv' := [some (.ref q0), some (.int x_9)]) d_Dr_hasAlien_22 rfl (by decide) (by rw [ex_9]; rfl) rfl ?_
      refine g_goto (tgt := 2) d_Dr_hasAlien_25 (by decide) ?_
      refine g_msk [true, true] ?_
      exact hC2 _ _ H
    · have H := H2 c_8
      refine g_iconst (v := 1) d_Dr_hasAlien_20 (by decide) ?_
      exact g_zreturn d_Dr_hasAlien_21 rfl (by decide) (Nat.le_refl _) (Nat.le_refl _) ⟨_, rfl, H⟩
set_option maxRecDepth 100000 in
set_option maxHeartbeats 4000000 in
def wL_Dr_hasAlien_2 (G : Gx) (l : Launch) (d w : Nat) (P : Int32 → Hp → Prop) (q0 : Nat) (x1 : Int32) (h : Hp)  : Prop := ∃ (I : Int32 → Hp → Prop) (μ : Int32 → Hp → Nat), I x1 h ∧ ∀ (x1' : Int32) (h' : Hp), I x1' h' → wB_Dr_hasAlien_2 G l d w P (fun x1_ h_ => I x1_ h_ ∧ μ x1_ h_ < μ x1' h') q0 x1' h'
set_option maxRecDepth 100000 in
set_option maxHeartbeats 4000000 in
theorem okL_Dr_hasAlien_2 {G : Gx} {l : Launch} {d w : Nat} {P : Int32 → Hp → Prop} {p : Program} {e : Env} {s : State} {m : MethodId} {args : Array Value} {below : List Frame} {meth : Method} {c : Code} {q0 : Nat} {x1 : Int32} {h : Hp}  (H : wL_Dr_hasAlien_2 G l d w P  q0 x1 h ) : Go M_Dr_hasAlien (mkX G (fun r h' => ∃ x, r = some (.int x) ∧ P x h') (d + 0) (w + 0) 0 0 p l e s m args below meth c) 2 [some (.ref q0), some (.int x1)] [] h 0 0 := by
  obtain ⟨I, μ, h0, hs⟩ := H
  have key : ∀ (N : Nat) (x1 : Int32) (h : Hp), I x1 h → μ x1 h < N → Go M_Dr_hasAlien (mkX G (fun r h' => ∃ x, r = some (.int x) ∧ P x h') (d + 0) (w + 0) 0 0 p l e s m args below meth c) 2 [some (.ref q0), some (.int x1)] [] h 0 0 := by
    intro N
    induction N with
    | zero => intro x1 h _ hN; exact absurd hN (Nat.not_lt_zero _)
    | succ N ih =>
      intro x1 h hI hN
      exact okB_Dr_hasAlien_2 (fun x1_ h_ hh => ih x1_ h_ hh.1 (Nat.lt_of_lt_of_le hh.2 (Nat.le_of_lt_succ hN))) (hs x1 h hI)
  exact key _ _ _ h0 (Nat.lt_succ_self _)
set_option maxRecDepth 100000 in
set_option maxHeartbeats 4000000 in
def wp_Dr_hasAlien (G : Gx) (l : Launch) (d w : Nat) (P : Int32 → Hp → Prop) (q0 : Nat) (h : Hp) : Prop := wL_Dr_hasAlien_2 G l d w P q0 0 h
set_option maxRecDepth 100000 in
set_option maxHeartbeats 4000000 in
theorem ok_Dr_hasAlien {G : Gx} {l : Launch} {d w : Nat} {P : Int32 → Hp → Prop} {q0 : Nat} {h : Hp} (H : wp_Dr_hasAlien G l d w P q0 h) : Ci G l M_Dr_hasAlien (d + 0) (w + 0) [.ref q0] h 0 0 P := by
  unfold wp_Dr_hasAlien at H
  refine Ct.of (lv := [some (.ref q0), none]) (by decide) (Nat.le_of_ble_eq_true rfl) rfl (fun p e s m args below meth c => ?_)
  refine g_iconst (v := 0) d_Dr_hasAlien_0 (by decide) ?_
  refine g_istore_n (lv' := [some (.ref q0), some (.int 0)]) d_Dr_hasAlien_1 (by decide) rfl ?_
  refine g_msk [true, true] ?_
  exact okL_Dr_hasAlien_2 H
set_option maxRecDepth 100000 in
set_option maxHeartbeats 4000000 in
def wB_Dr_septets_5 (G : Gx) (l : Launch) (d w : Nat) (P : Int32 → Hp → Prop) (C5 : Int32 → Int32 → Hp → Prop) (q0 : Nat) (x1 : Int32) (x2 : Int32) (x3 : Int32) (x4 : Int32) (h : Hp)  : Prop := (x2 ≤ x4 → P x3 h) ∧ (¬ x2 ≤ x4 → (hS h q0 = some (13, 0)) ∧ (∃ q_3 : Nat, (hR h q0 0) = some q_3 ∧ (∃ N_5 : Nat, ∃ j_6 : Nat, (hS h q_3 = some (0, N_5) ∧ x4 = nI j_6 ∧ j_6 < N_5 ∧ j_6 < 2147483648) ∧ (∃ P_8 : Int32 → Hp → Prop, (Ci G l M_Al_septetsOf (d + 0) (w + 0) [.int (hI h q_3 j_6)] h 0 0 P_8) ∧ (∀ (x_12 : Int32) (h_10 : Hp), P_8 x_12 h_10 → ∀ x_15 : Int32, x_15 = (x3 + x_12) → ∀ x_16 : Int32, x_16 = x4 + 1 → C5 x_15 x_16 h_10)))))
set_option maxRecDepth 100000 in
set_option maxHeartbeats 4000000 in
theorem okB_Dr_septets_5 {G : Gx} {l : Launch} {d w : Nat} {P : Int32 → Hp → Prop} {p : Program} {e : Env} {s : State} {m : MethodId} {args : Array Value} {below : List Frame} {meth : Method} {c : Code} {C5 : Int32 → Int32 → Hp → Prop} {q0 : Nat} {x1 : Int32} {x2 : Int32} {x3 : Int32} {x4 : Int32} (hC5 : ∀ (x3 : Int32) (x4 : Int32) (h : Hp), C5 x3 x4 h → Go M_Dr_septets (mkX G (fun r h' => ∃ x, r = some (.int x) ∧ P x h') (d + 1) (w + 20) 0 0 p l e s m args below meth c) 5 [some (.ref q0), some (.int x1), some (.int x2), some (.int x3), some (.int x4)] [] h 0 0) {h : Hp}  (H : wB_Dr_septets_5 G l d w P C5 q0 x1 x2 x3 x4 h ) : Go M_Dr_septets (mkX G (fun r h' => ∃ x, r = some (.int x) ∧ P x h') (d + 1) (w + 20) 0 0 p l e s m args below meth c) 5 [some (.ref q0), some (.int x1), some (.int x2), some (.int x3), some (.int x4)] [] h 0 0 := by
  unfold wB_Dr_septets_5 at H
  refine g_iload d_Dr_septets_5 rfl ?_
  refine g_iload_n d_Dr_septets_7 rfl ?_
  obtain ⟨H1, H2⟩ := H
  refine g_icmp_ge (tgt := 30) d_Dr_septets_8 (by decide) (fun c_1 => ?_) (fun c_1 => ?_)
  · have H := H1 c_1
    refine g_iload_n d_Dr_septets_30 rfl ?_
    exact g_ireturn d_Dr_septets_31 rfl (Nat.le_refl _) (Nat.le_refl _) ⟨_, rfl, H⟩
  · have H := H2 c_1
    refine g_iload_n d_Dr_septets_11 rfl ?_
    refine g_aload_n d_Dr_septets_12 rfl ?_
    obtain ⟨z_2, H⟩ := H
    refine g_getR d_Dr_septets_13 f_Dr_9 z_2 (by decide) ?_
    refine g_iload d_Dr_septets_16 rfl ?_
    obtain ⟨q_3, e_4, H⟩ := H
    show Go _ _ _ [some (.ref q0), some (.int x1), some (.int x2), some (.int x3), some (.int x4)] [.int x4, va_rf (hR h q0 0), .int x3] _ _ _
    rw [show va_rf (hR h q0 0) = Value.ref q_3 from by rw [e_4]; rfl]
    obtain ⟨N_5, H⟩ := H
    obtain ⟨j_6, H⟩ := H
    obtain ⟨z_7, H⟩ := H
    refine g_iald d_Dr_septets_18 z_7.1 z_7.2.1 z_7.2.2.1 z_7.2.2.2 ?_
    obtain ⟨P_8, C_9, H⟩ := H
    refine q_S (As := [.int (hI h q_3 j_6)]) (st := [.int x3]) (nl := 1) d_Dr_septets_19 v_Dr_19 C_9 rfl (catS_le (Nat.le_of_ble_eq_true rfl)) rfl ⟨by omega, by omega, Nat.le_refl _, Nat.le_refl _⟩ (fun r_14 h_10 p_11 => ?_)
    obtain ⟨x_12, rfl, p_11⟩ := p_11
    replace H := H x_12 h_10 p_11
    show Go _ _ _ _ [.int x_12, .int x3] _ _ _
    refine g_iadd d_Dr_septets_22 ?_
    refine g_topi (fun x_15 ex_15 => ?_)
    replace H := H x_15 ex_15
    refine g_istore_n (lv' := [some (.ref q0), some (.int x1), some (.int x2), some (.int x_15), some (.int x4)]) d_Dr_septets_23 (by decide) rfl ?_
    obtain ⟨x_16, ex_16⟩ : ∃ z : Int32, z = x4 + 1 := ⟨_, rfl⟩
    replace H := H x_16 ex_16
    refine g_iinc (v := x_16) (lv' := [some (.ref q0), some (.int x1), some (.int x2), some (.int x_15), some (.int x_16)]) d_Dr_septets_24 rfl (by decide) (by rw [ex_16]; rfl) rfl ?_
    refine g_goto (tgt := 5) d_Dr_septets_27 (by decide) ?_
    refine g_msk [true, true, true, true, true] ?_
    exact hC5 _ _ _ H
set_option maxRecDepth 100000 in
set_option maxHeartbeats 4000000 in
def wL_Dr_septets_5 (G : Gx) (l : Launch) (d w : Nat) (P : Int32 → Hp → Prop) (q0 : Nat) (x1 : Int32) (x2 : Int32) (x3 : Int32) (x4 : Int32) (h : Hp)  : Prop := ∃ (I : Int32 → Int32 → Hp → Prop) (μ : Int32 → Int32 → Hp → Nat), I x3 x4 h ∧ ∀ (x3' : Int32) (x4' : Int32) (h' : Hp), I x3' x4' h' → wB_Dr_septets_5 G l d w P (fun x3_ x4_ h_ => I x3_ x4_ h_ ∧ μ x3_ x4_ h_ < μ x3' x4' h') q0 x1 x2 x3' x4' h'
set_option maxRecDepth 100000 in
set_option maxHeartbeats 4000000 in
theorem okL_Dr_septets_5 {G : Gx} {l : Launch} {d w : Nat} {P : Int32 → Hp → Prop} {p : Program} {e : Env} {s : State} {m : MethodId} {args : Array Value} {below : List Frame} {meth : Method} {c : Code} {q0 : Nat} {x1 : Int32} {x2 : Int32} {x3 : Int32} {x4 : Int32} {h : Hp}  (H : wL_Dr_septets_5 G l d w P  q0 x1 x2 x3 x4 h ) : Go M_Dr_septets (mkX G (fun r h' => ∃ x, r = some (.int x) ∧ P x h') (d + 1) (w + 20) 0 0 p l e s m args below meth c) 5 [some (.ref q0), some (.int x1), some (.int x2), some (.int x3), some (.int x4)] [] h 0 0 := by
  obtain ⟨I, μ, h0, hs⟩ := H
  have key : ∀ (N : Nat) (x3 : Int32) (x4 : Int32) (h : Hp), I x3 x4 h → μ x3 x4 h < N → Go M_Dr_septets (mkX G (fun r h' => ∃ x, r = some (.int x) ∧ P x h') (d + 1) (w + 20) 0 0 p l e s m args below meth c) 5 [some (.ref q0), some (.int x1), some (.int x2), some (.int x3), some (.int x4)] [] h 0 0 := by
    intro N
    induction N with
    | zero => intro x3 x4 h _ hN; exact absurd hN (Nat.not_lt_zero _)
    | succ N ih =>
      intro x3 x4 h hI hN
      exact okB_Dr_septets_5 (fun x3_ x4_ h_ hh => ih x3_ x4_ h_ hh.1 (Nat.lt_of_lt_of_le hh.2 (Nat.le_of_lt_succ hN))) (hs x3 x4 h hI)
  exact key _ _ _ _ h0 (Nat.lt_succ_self _)
set_option maxRecDepth 100000 in
set_option maxHeartbeats 4000000 in
def wp_Dr_septets (G : Gx) (l : Launch) (d w : Nat) (P : Int32 → Hp → Prop) (q0 : Nat) (x1 : Int32) (x2 : Int32) (h : Hp) : Prop := wL_Dr_septets_5 G l d w P q0 x1 x2 0 x1 h
set_option maxRecDepth 100000 in
set_option maxHeartbeats 4000000 in
theorem ok_Dr_septets {G : Gx} {l : Launch} {d w : Nat} {P : Int32 → Hp → Prop} {q0 : Nat} {x1 : Int32} {x2 : Int32} {h : Hp} (H : wp_Dr_septets G l d w P q0 x1 x2 h) : Ci G l M_Dr_septets (d + 1) (w + 20) [.ref q0, .int x1, .int x2] h 0 0 P := by
  unfold wp_Dr_septets at H
  refine Ct.of (lv := [some (.ref q0), some (.int x1), some (.int x2), none, none]) (by decide) (Nat.le_of_ble_eq_true rfl) rfl (fun p e s m args below meth c => ?_)
  refine g_iconst (v := 0) d_Dr_septets_0 (by decide) ?_
  refine g_istore_n (lv' := [some (.ref q0), some (.int x1), some (.int x2), some (.int 0), none]) d_Dr_septets_1 (by decide) rfl ?_
  refine g_iload_n d_Dr_septets_2 rfl ?_
  refine g_istore (lv' := [some (.ref q0), some (.int x1), some (.int x2), some (.int 0), some (.int x1)]) d_Dr_septets_3 (by decide) rfl ?_
  refine g_msk [true, true, true, true, true] ?_
  exact okL_Dr_septets_5 H
set_option maxRecDepth 100000 in
set_option maxHeartbeats 4000000 in
def wJ_Dr_partCount_57 (G : Gx) (l : Launch) (d w : Nat) (P : Int32 → Hp → Prop) (C23 : Int32 → Int32 → Int32 → Hp → Prop) (q0 : Nat) (x1 : Int32) (x2 : Int32) (x3 : Int32) (x4 : Int32) (h : Hp)  : Prop := ∀ x_1 : Int32, x_1 = (x2 + x4) → ∀ x_2 : Int32, x_2 = x3 + 1 → C23 x1 x_1 x_2 h
set_option maxRecDepth 100000 in
set_option maxHeartbeats 4000000 in
theorem okJ_Dr_partCount_57 {G : Gx} {l : Launch} {d w : Nat} {P : Int32 → Hp → Prop} {p : Program} {e : Env} {s : State} {m : MethodId} {args : Array Value} {below : List Frame} {meth : Method} {c : Code} {C23 : Int32 → Int32 → Int32 → Hp → Prop} {q0 : Nat} {x1 : Int32} {x2 : Int32} {x3 : Int32} {x4 : Int32} (hC23 : ∀ (x1 : Int32) (x2 : Int32) (x3 : Int32) (h : Hp), C23 x1 x2 x3 h → Go M_Dr_partCount (mkX G (fun r h' => ∃ x, r = some (.int x) ∧ P x h') (d + 2) (w + 44) 0 0 p l e s m args below meth c) 23 [some (.ref q0), some (.int x1), some (.int x2), some (.int x3), none] [] h 0 0) {h : Hp}  (H : wJ_Dr_partCount_57 G l d w P C23 q0 x1 x2 x3 x4 h ) : Go M_Dr_partCount (mkX G (fun r h' => ∃ x, r = some (.int x) ∧ P x h') (d + 2) (w + 44) 0 0 p l e s m args below meth c) 57 [some (.ref q0), some (.int x1), some (.int x2), some (.int x3), some (.int x4)] [] h 0 0 := by
  unfold wJ_Dr_partCount_57 at H
  refine g_iload_n d_Dr_partCount_57 rfl ?_
  refine g_iload d_Dr_partCount_58 rfl ?_
  refine g_iadd d_Dr_partCount_60 ?_
  refine g_topi (fun x_1 ex_1 => ?_)
  replace H := H x_1 ex_1
  refine g_istore_n (lv' := [some (.ref q0), some (.int x1), some (.int x_1), some (.int x3), some (.int x4)]) d_Dr_partCount_61 (by decide) rfl ?_
  obtain ⟨x_2, ex_2⟩ : ∃ z : Int32, z = x3 + 1 := ⟨_, rfl⟩
  replace H := H x_2 ex_2
  refine g_iinc (v := x_2) (lv' := [some (.ref q0), some (.int x1), some (.int x_1), some (.int x_2), some (.int x4)]) d_Dr_partCount_62 rfl (by decide) (by rw [ex_2]; rfl) rfl ?_
  refine g_goto (tgt := 23) d_Dr_partCount_65 (by decide) ?_
  refine g_msk [true, true, true, true, false] ?_
  exact hC23 _ _ _ _ H
set_option maxRecDepth 100000 in
set_option maxHeartbeats 4000000 in
def wB_Dr_partCount_23 (G : Gx) (l : Launch) (d w : Nat) (P : Int32 → Hp → Prop) (C23 : Int32 → Int32 → Int32 → Hp → Prop) (q0 : Nat) (x1 : Int32) (x2 : Int32) (x3 : Int32) (h : Hp)  : Prop := (hS h q0 = some (13, 0)) ∧ (((hI h q0 1) ≤ x3 → P x1 h) ∧ (¬ (hI h q0 1) ≤ x3 → ∃ q_5 : Nat, (hR h q0 0) = some q_5 ∧ (∃ N_7 : Nat, ∃ j_8 : Nat, (hS h q_5 = some (0, N_7) ∧ x3 = nI j_8 ∧ j_8 < N_7 ∧ j_8 < 2147483648) ∧ (∃ P_10 : Int32 → Hp → Prop, (Ci G l M_Al_septetsOf (d + 0) (w + 0) [.int (hI h q_5 j_8)] h 0 0 P_10) ∧ (∀ (x_14 : Int32) (h_12 : Hp), P_10 x_14 h_12 → ((x2 + x_14) ≤ 153 → wJ_Dr_partCount_57 G l d w P C23 q0 x1 x2 x3 x_14 h_12) ∧ (¬ (x2 + x_14) ≤ 153 → ∀ x_18 : Int32, x_18 = x1 + 1 → wJ_Dr_partCount_57 G l d w P C23 q0 x_18 0 x3 x_14 h_12))))))
set_option maxRecDepth 100000 in
set_option maxHeartbeats 4000000 in
theorem okB_Dr_partCount_23 {G : Gx} {l : Launch} {d w : Nat} {P : Int32 → Hp → Prop} {p : Program} {e : Env} {s : State} {m : MethodId} {args : Array Value} {below : List Frame} {meth : Method} {c : Code} {C23 : Int32 → Int32 → Int32 → Hp → Prop} {q0 : Nat} {x1 : Int32} {x2 : Int32} {x3 : Int32} (hC23 : ∀ (x1 : Int32) (x2 : Int32) (x3 : Int32) (h : Hp), C23 x1 x2 x3 h → Go M_Dr_partCount (mkX G (fun r h' => ∃ x, r = some (.int x) ∧ P x h') (d + 2) (w + 44) 0 0 p l e s m args below meth c) 23 [some (.ref q0), some (.int x1), some (.int x2), some (.int x3), none] [] h 0 0) {h : Hp}  (H : wB_Dr_partCount_23 G l d w P C23 q0 x1 x2 x3 h ) : Go M_Dr_partCount (mkX G (fun r h' => ∃ x, r = some (.int x) ∧ P x h') (d + 2) (w + 44) 0 0 p l e s m args below meth c) 23 [some (.ref q0), some (.int x1), some (.int x2), some (.int x3), none] [] h 0 0 := by
  unfold wB_Dr_partCount_23 at H
  refine g_iload_n d_Dr_partCount_23 rfl ?_
  refine g_aload_n d_Dr_partCount_24 rfl ?_
  obtain ⟨z_3, H⟩ := H
  refine g_getI d_Dr_partCount_25 f_Dr_13 z_3 ?_
  obtain ⟨H1, H2⟩ := H
  refine g_icmp_ge (tgt := 68) d_Dr_partCount_28 (by decide) (fun c_4 => ?_) (fun c_4 => ?_)
  · have H := H1 c_4
    refine g_iload_n d_Dr_partCount_68 rfl ?_
    exact g_ireturn d_Dr_partCount_69 rfl (Nat.le_refl _) (Nat.le_refl _) ⟨_, rfl, H⟩
  · have H := H2 c_4
    refine g_aload_n d_Dr_partCount_31 rfl ?_
    refine g_getR d_Dr_partCount_32 f_Dr_9 z_3 (by decide) ?_
    refine g_iload_n d_Dr_partCount_35 rfl ?_
    obtain ⟨q_5, e_6, H⟩ := H
    show Go _ _ _ [some (.ref q0), some (.int x1), some (.int x2), some (.int x3), none] [.int x3, va_rf (hR h q0 0)] _ _ _
    rw [show va_rf (hR h q0 0) = Value.ref q_5 from by rw [e_6]; rfl]
    obtain ⟨N_7, H⟩ := H
    obtain ⟨j_8, H⟩ := H
    obtain ⟨z_9, H⟩ := H
    refine g_iald d_Dr_partCount_36 z_9.1 z_9.2.1 z_9.2.2.1 z_9.2.2.2 ?_
    obtain ⟨P_10, C_11, H⟩ := H
    refine q_S (As := [.int (hI h q_5 j_8)]) (st := []) (nl := 1) d_Dr_partCount_37 v_Dr_19 C_11 rfl (catS_le (Nat.le_of_ble_eq_true rfl)) rfl ⟨by omega, by omega, Nat.le_refl _, Nat.le_refl _⟩ (fun r_16 h_12 p_13 => ?_)
    obtain ⟨x_14, rfl, p_13⟩ := p_13
    replace H := H x_14 h_12 p_13
    show Go _ _ _ _ [.int x_14] _ _ _
    refine g_istore (lv' := [some (.ref q0), some (.int x1), some (.int x2), some (.int x3), some (.int x_14)]) d_Dr_partCount_40 (by decide) rfl ?_
    refine g_iload_n d_Dr_partCount_42 rfl ?_
    refine g_iload d_Dr_partCount_43 rfl ?_
    refine g_iadd d_Dr_partCount_45 ?_
    refine g_sipush (v := 153) d_Dr_partCount_46 (by decide) ?_
    obtain ⟨H1, H2⟩ := H
    refine g_icmp_le (tgt := 57) d_Dr_partCount_49 (by decide) (fun c_17 => ?_) (fun c_17 => ?_)
    · have H := H1 c_17
      refine g_msk [true, true, true, true, true] ?_
      exact okJ_Dr_partCount_57 hC23 H
    · have H := H2 c_17
      obtain ⟨x_18, ex_18⟩ : ∃ z : Int32, z = x1 + 1 := ⟨_, rfl⟩
      replace H := H x_18 ex_18
      refine g_iinc (v := x_18) (lv' := [some (.ref q0), some (.int x_18), some (.int x2), some (.int x3), some (.int x_14)]) d_Dr_partCount_52 rfl (by decide) (by rw [ex_18]; rfl) rfl ?_
      refine g_iconst (v := 0) d_Dr_partCount_55 (by decide) ?_
      refine g_istore_n (lv' := [some (.ref q0), some (.int x_18), some (.int 0), some (.int x3), some (.int x_14)]) d_Dr_partCount_56 (by decide) rfl ?_
      refine g_msk [true, true, true, true, true] ?_
      exact okJ_Dr_partCount_57 hC23 H
set_option maxRecDepth 100000 in
set_option maxHeartbeats 4000000 in
def wL_Dr_partCount_23 (G : Gx) (l : Launch) (d w : Nat) (P : Int32 → Hp → Prop) (q0 : Nat) (x1 : Int32) (x2 : Int32) (x3 : Int32) (h : Hp)  : Prop := ∃ (I : Int32 → Int32 → Int32 → Hp → Prop) (μ : Int32 → Int32 → Int32 → Hp → Nat), I x1 x2 x3 h ∧ ∀ (x1' : Int32) (x2' : Int32) (x3' : Int32) (h' : Hp), I x1' x2' x3' h' → wB_Dr_partCount_23 G l d w P (fun x1_ x2_ x3_ h_ => I x1_ x2_ x3_ h_ ∧ μ x1_ x2_ x3_ h_ < μ x1' x2' x3' h') q0 x1' x2' x3' h'
set_option maxRecDepth 100000 in
set_option maxHeartbeats 4000000 in
theorem okL_Dr_partCount_23 {G : Gx} {l : Launch} {d w : Nat} {P : Int32 → Hp → Prop} {p : Program} {e : Env} {s : State} {m : MethodId} {args : Array Value} {below : List Frame} {meth : Method} {c : Code} {q0 : Nat} {x1 : Int32} {x2 : Int32} {x3 : Int32} {h : Hp}  (H : wL_Dr_partCount_23 G l d w P  q0 x1 x2 x3 h ) : Go M_Dr_partCount (mkX G (fun r h' => ∃ x, r = some (.int x) ∧ P x h') (d + 2) (w + 44) 0 0 p l e s m args below meth c) 23 [some (.ref q0), some (.int x1), some (.int x2), some (.int x3), none] [] h 0 0 := by
  obtain ⟨I, μ, h0, hs⟩ := H
  have key : ∀ (N : Nat) (x1 : Int32) (x2 : Int32) (x3 : Int32) (h : Hp), I x1 x2 x3 h → μ x1 x2 x3 h < N → Go M_Dr_partCount (mkX G (fun r h' => ∃ x, r = some (.int x) ∧ P x h') (d + 2) (w + 44) 0 0 p l e s m args below meth c) 23 [some (.ref q0), some (.int x1), some (.int x2), some (.int x3), none] [] h 0 0 := by
    intro N
    induction N with
    | zero => intro x1 x2 x3 h _ hN; exact absurd hN (Nat.not_lt_zero _)
    | succ N ih =>
      intro x1 x2 x3 h hI hN
      exact okB_Dr_partCount_23 (fun x1_ x2_ x3_ h_ hh => ih x1_ x2_ x3_ h_ hh.1 (Nat.lt_of_lt_of_le hh.2 (Nat.le_of_lt_succ hN))) (hs x1 x2 x3 h hI)
  exact key _ _ _ _ _ h0 (Nat.lt_succ_self _)
set_option maxRecDepth 100000 in
set_option maxHeartbeats 4000000 in
def wp_Dr_partCount (G : Gx) (l : Launch) (d w : Nat) (P : Int32 → Hp → Prop) (q0 : Nat) (h : Hp) : Prop := (hS h q0 = some (13, 0)) ∧ (∃ P_20 : Int32 → Hp → Prop, (Ci G l M_Dr_septets (d + 1) (w + 20) [.ref q0, .int 0, .int (hI h q0 1)] h 0 0 P_20) ∧ (∀ (x_24 : Int32) (h_22 : Hp), P_20 x_24 h_22 → (160 < x_24 → wL_Dr_partCount_23 G l d w P q0 1 0 0 h_22) ∧ (¬ 160 < x_24 → P 1 h_22)))
set_option maxRecDepth 100000 in
set_option maxHeartbeats 4000000 in
theorem ok_Dr_partCount {G : Gx} {l : Launch} {d w : Nat} {P : Int32 → Hp → Prop} {q0 : Nat} {h : Hp} (H : wp_Dr_partCount G l d w P q0 h) : Ci G l M_Dr_partCount (d + 2) (w + 44) [.ref q0] h 0 0 P := by
  unfold wp_Dr_partCount at H
  refine Ct.of (lv := [some (.ref q0), none, none, none, none]) (by decide) (Nat.le_of_ble_eq_true rfl) rfl (fun p e s m args below meth c => ?_)
  refine g_aload_n d_Dr_partCount_0 rfl ?_
  refine g_iconst (v := 0) d_Dr_partCount_1 (by decide) ?_
  refine g_aload_n d_Dr_partCount_2 rfl ?_
  obtain ⟨z_19, H⟩ := H
  refine g_getI d_Dr_partCount_3 f_Dr_13 z_19 ?_
  obtain ⟨P_20, C_21, H⟩ := H
  refine q_V (As := [.int 0, .int (hI h q0 1)]) (st := []) (nl := 5) d_Dr_partCount_6 v_Dr_23 C_21 z_19 rfl (catS_le (Nat.le_of_ble_eq_true rfl)) rfl ⟨by omega, by omega, Nat.le_refl _, Nat.le_refl _⟩ (fun r_26 h_22 p_23 => ?_)
  obtain ⟨x_24, rfl, p_23⟩ := p_23
  replace H := H x_24 h_22 p_23
  show Go _ _ _ _ [.int x_24] _ _ _
  refine g_sipush (v := 160) d_Dr_partCount_9 (by decide) ?_
  obtain ⟨H1, H2⟩ := H
  refine g_icmp_gt (tgt := 17) d_Dr_partCount_12 (by decide) (fun c_27 => ?_) (fun c_27 => ?_)
  · have H := H1 c_27
    refine g_iconst (v := 1) d_Dr_partCount_17 (by decide) ?_
    refine g_istore_n (lv' := [some (.ref q0), some (.int 1), none, none, none]) d_Dr_partCount_18 (by decide) rfl ?_
    refine g_iconst (v := 0) d_Dr_partCount_19 (by decide) ?_
    refine g_istore_n (lv' := [some (.ref q0), some (.int 1), some (.int 0), none, none]) d_Dr_partCount_20 (by decide) rfl ?_
    refine g_iconst (v := 0) d_Dr_partCount_21 (by decide) ?_
    refine g_istore_n (lv' := [some (.ref q0), some (.int 1), some (.int 0), some (.int 0), none]) d_Dr_partCount_22 (by decide) rfl ?_
    refine g_msk [true, true, true, true, false] ?_
    exact okL_Dr_partCount_23 H
  · have H := H2 c_27
    refine g_iconst (v := 1) d_Dr_partCount_15 (by decide) ?_
    exact g_ireturn d_Dr_partCount_16 rfl (Nat.le_refl _) (Nat.le_refl _) ⟨_, rfl, H⟩
set_option maxRecDepth 100000 in
set_option maxHeartbeats 4000000 in
def wB_Dr_partEnd_4 (G : Gx) (l : Launch) (d w : Nat) (P : Int32 → Hp → Prop) (C4 : Int32 → Int32 → Hp → Prop) (q0 : Nat) (x1 : Int32) (x2 : Int32) (x3 : Int32) (h : Hp)  : Prop := (hS h q0 = some (13, 0)) ∧ (((hI h q0 1) ≤ x3 → P (hI h q0 1) h) ∧ (¬ (hI h q0 1) ≤ x3 → ∃ q_3 : Nat, (hR h q0 0) = some q_3 ∧ (∃ N_5 : Nat, ∃ j_6 : Nat, (hS h q_3 = some (0, N_5) ∧ x3 = nI j_6 ∧ j_6 < N_5 ∧ j_6 < 2147483648) ∧ (∃ P_8 : Int32 → Hp → Prop, (Ci G l M_Al_septetsOf (d + 0) (w + 0) [.int (hI h q_3 j_6)] h 0 0 P_8) ∧ (∀ (x_12 : Int32) (h_10 : Hp), P_8 x_12 h_10 → ∀ x_15 : Int32, x_15 = (x2 + x_12) → (x_15 ≤ 153 → ∀ x_17 : Int32, x_17 = x3 + 1 → C4 x_15 x_17 h_10) ∧ (¬ x_15 ≤ 153 → P x3 h_10))))))
set_option maxRecDepth 100000 in
set_option maxHeartbeats 4000000 in
theorem okB_Dr_partEnd_4 {G : Gx} {l : Launch} {d w : Nat} {P : Int32 → Hp → Prop} {p : Program} {e : Env} {s : State} {m : MethodId} {args : Array Value} {below : List Frame} {meth : Method} {c : Code} {C4 : Int32 → Int32 → Hp → Prop} {q0 : Nat} {x1 : Int32} {x2 : Int32} {x3 : Int32} (hC4 : ∀ (x2 : Int32) (x3 : Int32) (h : Hp), C4 x2 x3 h → Go M_Dr_partEnd (mkX G (fun r h' => ∃ x, r = some (.int x) ∧ P x h') (d + 1) (w + 20) 0 0 p l e s m args below meth c) 4 [some (.ref q0), some (.int x1), some (.int x2), some (.int x3)] [] h 0 0) {h : Hp}  (H : wB_Dr_partEnd_4 G l d w P C4 q0 x1 x2 x3 h ) : Go M_Dr_partEnd (mkX G (fun r h' => ∃ x, r = some (.int x) ∧ P x h') (d + 1) (w + 20) 0 0 p l e s m args below meth c) 4 [some (.ref q0), some (.int x1), some (.int x2), some (.int x3)] [] h 0 0 := by
  unfold wB_Dr_partEnd_4 at H
  refine g_iload_n d_Dr_partEnd_4 rfl ?_
  refine g_aload_n d_Dr_partEnd_5 rfl ?_
  obtain ⟨z_1, H⟩ := H
  refine g_getI d_Dr_partEnd_6 f_Dr_13 z_1 ?_
  obtain ⟨H1, H2⟩ := H
  refine g_icmp_ge (tgt := 39) d_Dr_partEnd_9 (by decide) (fun c_2 => ?_) (fun c_2 => ?_)
  · have H := H1 c_2
    refine g_aload_n d_Dr_partEnd_39 rfl ?_
    refine g_getI d_Dr_partEnd_40 f_Dr_13 z_1 ?_
    exact g_ireturn d_Dr_partEnd_43 rfl (Nat.le_refl _) (Nat.le_refl _) ⟨_, rfl, H⟩
  · have H := H2 c_2
    refine g_iload_n d_Dr_partEnd_12 rfl ?_
    refine g_aload_n d_Dr_partEnd_13 rfl ?_
    refine g_getR d_Dr_partEnd_14 f_Dr_9 z_1 (by decide) ?_
    refine g_iload_n d_Dr_partEnd_17 rfl ?_
    obtain ⟨q_3, e_4, H⟩ := H
    show Go _ _ _ [some (.ref q0), some (.int x1), some (.int x2), some (.int x3)] [.int x3, va_rf (hR h q0 0), .int x2] _ _ _
    rw [show va_rf (hR h q0 0) = Value.ref q_3 from by rw [e_4]; rfl]
    obtain ⟨N_5, H⟩ := H
    obtain ⟨j_6, H⟩ := H
    obtain ⟨z_7, H⟩ := H
    refine g_iald d_Dr_partEnd_18 z_7.1 z_7.2.1 z_7.2.2.1 z_7.2.2.2 ?_
    obtain ⟨P_8, C_9, H⟩ := H
    refine q_S (As := [.int (hI h q_3 j_6)]) (st := [.int x2]) (nl := 1) d_Dr_partEnd_19 v_Dr_19 C_9 rfl (catS_le (Nat.le_of_ble_eq_true rfl)) rfl ⟨by omega, by omega, Nat.le_refl _, Nat.le_refl _⟩ (fun r_14 h_10 p_11 => ?_)
    obtain ⟨x_12, rfl, p_11⟩ := p_11
    replace H := H x_12 h_10 p_11
    show Go _ _ _ _ [.int x_12, .int x2] _ _ _
    refine g_iadd d_Dr_partEnd_22 ?_
    refine g_topi (fun x_15 ex_15 => ?_)
    replace H := H x_15 ex_15
    refine g_istore_n (lv' := [some (.ref q0), some (.int x1), some (.int x_15), some (.int x3)]) d_Dr_partEnd_23 (by decide) rfl ?_
    refine g_iload_n d_Dr_partEnd_24 rfl ?_
    refine g_sipush (v := 153) d_Dr_partEnd_25 (by decide) ?_
    obtain ⟨H1, H2⟩ := H
    refine g_icmp_le (tgt := 33) d_Dr_partEnd_28 (by decide) (fun c_16 => ?_) (fun c_16 => ?_)
    · have H := H1 c_16
      obtain ⟨x_17, ex_17⟩ : ∃ z : Int32, z = x3 + 1 := ⟨_, rfl⟩
      replace H := H x_17 ex_17
      refine g_iinc (v := x_17) (lv' := [some (.ref q0), some (.int x1), some (.int x_15), some (.int x_17)]) d_Dr_partEnd_33 rfl (by decide) (by rw [ex_17]; rfl) rfl ?_
      refine g_goto (tgt := 4) d_Dr_partEnd_36 (by decide) ?_
      refine g_msk [true, true, true, true] ?_
      exact hC4 _ _ _ H
    · have H := H2 c_16
      refine g_iload_n d_Dr_partEnd_31 rfl ?_
      exact g_ireturn d_Dr_partEnd_32 rfl (Nat.le_refl _) (Nat.le_refl _) ⟨_, rfl, H⟩
set_option maxRecDepth 100000 in
set_option maxHeartbeats 4000000 in
def wL_Dr_partEnd_4 (G : Gx) (l : Launch) (d w : Nat) (P : Int32 → Hp → Prop) (q0 : Nat) (x1 : Int32) (x2 : Int32) (x3 : Int32) (h : Hp)  : Prop := ∃ (I : Int32 → Int32 → Hp → Prop) (μ : Int32 → Int32 → Hp → Nat), I x2 x3 h ∧ ∀ (x2' : Int32) (x3' : Int32) (h' : Hp), I x2' x3' h' → wB_Dr_partEnd_4 G l d w P (fun x2_ x3_ h_ => I x2_ x3_ h_ ∧ μ x2_ x3_ h_ < μ x2' x3' h') q0 x1 x2' x3' h'
set_option maxRecDepth 100000 in
set_option maxHeartbeats 4000000 in
theorem okL_Dr_partEnd_4 {G : Gx} {l : Launch} {d w : Nat} {P : Int32 → Hp → Prop} {p : Program} {e : Env} {s : State} {m : MethodId} {args : Array Value} {below : List Frame} {meth : Method} {c : Code} {q0 : Nat} {x1 : Int32} {x2 : Int32} {x3 : Int32} {h : Hp}  (H : wL_Dr_partEnd_4 G l d w P  q0 x1 x2 x3 h ) : Go M_Dr_partEnd (mkX G (fun r h' => ∃ x, r = some (.int x) ∧ P x h') (d + 1) (w + 20) 0 0 p l e s m args below meth c) 4 [some (.ref q0), some (.int x1), some (.int x2), some (.int x3)] [] h 0 0 := by
  obtain ⟨I, μ, h0, hs⟩ := H
  have key : ∀ (N : Nat) (x2 : Int32) (x3 : Int32) (h : Hp), I x2 x3 h → μ x2 x3 h < N → Go M_Dr_partEnd (mkX G (fun r h' => ∃ x, r = some (.int x) ∧ P x h') (d + 1) (w + 20) 0 0 p l e s m args below meth c) 4 [some (.ref q0), some (.int x1), some (.int x2), some (.int x3)] [] h 0 0 := by
    intro N
    induction N with
    | zero => intro x2 x3 h _ hN; exact absurd hN (Nat.not_lt_zero _)
    | succ N ih =>
      intro x2 x3 h hI hN
      exact okB_Dr_partEnd_4 (fun x2_ x3_ h_ hh => ih x2_ x3_ h_ hh.1 (Nat.lt_of_lt_of_le hh.2 (Nat.le_of_lt_succ hN))) (hs x2 x3 h hI)
  exact key _ _ _ _ h0 (Nat.lt_succ_self _)
set_option maxRecDepth 100000 in
set_option maxHeartbeats 4000000 in
def wp_Dr_partEnd (G : Gx) (l : Launch) (d w : Nat) (P : Int32 → Hp → Prop) (q0 : Nat) (x1 : Int32) (h : Hp) : Prop := wL_Dr_partEnd_4 G l d w P q0 x1 0 x1 h
set_option maxRecDepth 100000 in
set_option maxHeartbeats 4000000 in
theorem ok_Dr_partEnd {G : Gx} {l : Launch} {d w : Nat} {P : Int32 → Hp → Prop} {q0 : Nat} {x1 : Int32} {h : Hp} (H : wp_Dr_partEnd G l d w P q0 x1 h) : Ci G l M_Dr_partEnd (d + 1) (w + 20) [.ref q0, .int x1] h 0 0 P := by
  unfold wp_Dr_partEnd at H
  refine Ct.of (lv := [some (.ref q0), some (.int x1), none, none]) (by decide) (Nat.le_of_ble_eq_true rfl) rfl (fun p e s m args below meth c => ?_)
  refine g_iconst (v := 0) d_Dr_partEnd_0 (by decide) ?_
  refine g_istore_n (lv' := [some (.ref q0), some (.int x1), some (.int 0), none]) d_Dr_partEnd_1 (by decide) rfl ?_
  refine g_iload_n d_Dr_partEnd_2 rfl ?_
  refine g_istore_n (lv' := [some (.ref q0), some (.int x1), some (.int 0), some (.int x1)]) d_Dr_partEnd_3 (by decide) rfl ?_
  refine g_msk [true, true, true, true] ?_
  exact okL_Dr_partEnd_4 H
set_option maxRecDepth 100000 in
set_option maxHeartbeats 4000000 in
def wJ_Dr_pack_53 (G : Gx) (l : Launch) (d w : Nat) (P : Hp → Prop) (C17 : Int32 → Int32 → Hp → Prop) (q0 : Nat) (x1 : Int32) (x2 : Int32) (q3 : Nat) (x4 : Int32) (x5 : Int32) (x6 : Int32) (x7 : Int32) (h : Hp)  : Prop := (hS h q3 = some (15, 0)) ∧ (∃ P_2 : Hp → Prop, (Cv G l M_Ro_mergeSeptet (d + 2) (w + 43) [.ref q3, .int x4, .int x5, .int (x7 &&& 127)] h 0 0 P_2) ∧ (∀ h_4 : Hp, P_2 h_4 → ∀ x_9 : Int32, x_9 = x5 + 7 → ∀ x_10 : Int32, x_10 = x6 + 1 → C17 x_9 x_10 h_4))
set_option maxRecDepth 100000 in
set_option maxHeartbeats 4000000 in
theorem okJ_Dr_pack_53 {G : Gx} {l : Launch} {d w : Nat} {P : Hp → Prop} {p : Program} {e : Env} {s : State} {m : MethodId} {args : Array Value} {below : List Frame} {meth : Method} {c : Code} {C17 : Int32 → Int32 → Hp → Prop} {q0 : Nat} {x1 : Int32} {x2 : Int32} {q3 : Nat} {x4 : Int32} {x5 : Int32} {x6 : Int32} {x7 : Int32} (hC17 : ∀ (x5 : Int32) (x6 : Int32) (h : Hp), C17 x5 x6 h → Go M_Dr_pack (mkX G (fun r h' => r = none ∧ P h') (d + 4) (w + 82) 0 0 p l e s m args below meth c) 17 [some (.ref q0), some (.int x1), some (.int x2), some (.ref q3), some (.int x4), some (.int x5), some (.int x6), none] [] h 0 0) {h : Hp}  (H : wJ_Dr_pack_53 G l d w P C17 q0 x1 x2 q3 x4 x5 x6 x7 h ) : Go M_Dr_pack (mkX G (fun r h' => r = none ∧ P h') (d + 4) (w + 82) 0 0 p l e s m args below meth c) 53 [some (.ref q0), some (.int x1), some (.int x2), some (.ref q3), some (.int x4), some (.int x5), some (.int x6), some (.int x7)] [] h 0 0 := by
  unfold wJ_Dr_pack_53 at H
  refine g_aload_n d_Dr_pack_53 rfl ?_
  refine g_iload d_Dr_pack_54 rfl ?_
  refine g_iload d_Dr_pack_56 rfl ?_
  refine g_iload d_Dr_pack_58 rfl ?_
  refine g_bipush (v := 127) d_Dr_pack_60 (by decide) ?_
  refine g_iand d_Dr_pack_62 ?_
  obtain ⟨z_1, H⟩ := H
  obtain ⟨P_2, C_3, H⟩ := H
  refine q_V (As := [.int x4, .int x5, .int (x7 &&& 127)]) (st := []) (nl := 6) d_Dr_pack_63 v_Dr_36 C_3 z_1 rfl (catS_le (Nat.le_of_ble_eq_true rfl)) rfl ⟨by omega, by omega, Nat.le_refl _, Nat.le_refl _⟩ (fun r_8 h_4 p_5 => ?_)
  obtain ⟨rfl, p_5⟩ := p_5
  replace H := H h_4 p_5
  show Go _ _ _ _ [] _ _ _
  obtain ⟨x_9, ex_9⟩ : ∃ z : Int32, z = x5 + 7 := ⟨_, rfl⟩
  replace H := H x_9 ex_9
  refine g_iinc (v := x_9) (lv' := [some (.ref q0), some (.int x1), some (.int x2), some (.ref q3), some (.int x4), some (.int x_9), some (.int x6), some (.int x7)]) d_Dr_pack_66 rfl (by decide) (by rw [ex_9]; rfl) rfl ?_
  obtain ⟨x_10, ex_10⟩ : ∃ z : Int32, z = x6 + 1 := ⟨_, rfl⟩
  replace H := H x_10 ex_10
  refine g_iinc (v := x_10) (lv' := [some (.ref q0), some (.int x1), some (.int x2), some (.ref q3), some (.int x4), some (.int x_9), some (.int x_10), some (.int x7)]) d_Dr_pack_69 rfl (by decide) (by rw [ex_10]; rfl) rfl ?_
  refine g_goto (tgt := 17) d_Dr_pack_72 (by decide) ?_
  refine g_msk [true, true, true, true, true, true, true, false] ?_
  exact hC17 _ _ _ H
set_option maxRecDepth 100000 in
set_option maxHeartbeats 4000000 in
def wB_Dr_pack_17 (G : Gx) (l : Launch) (d w : Nat) (P : Hp → Prop) (C17 : Int32 → Int32 → Hp → Prop) (q0 : Nat) (x1 : Int32) (x2 : Int32) (q3 : Nat) (x4 : Int32) (x5 : Int32) (x6 : Int32) (h : Hp)  : Prop := (x2 ≤ x6 → P h) ∧ (¬ x2 ≤ x6 → (hS h q0 = some (13, 0)) ∧ (∃ q_13 : Nat, (hR h q0 0) = some q_13 ∧ (∃ N_15 : Nat, ∃ j_16 : Nat, (hS h q_13 = some (0, N_15) ∧ x6 = nI j_16 ∧ j_16 < N_15 ∧ j_16 < 2147483648) ∧ (∀ x_18 : Int32, x_18 = (hI h q_13 j_16) → (x_18 < 128 → wJ_Dr_pack_53 G l d w P C17 q0 x1 x2 q3 x4 x5 x6 x_18 h) ∧ (¬ x_18 < 128 → (hS h q3 = some (15, 0)) ∧ (∃ P_21 : Hp → Prop, (Cv G l M_Ro_mergeSeptet (d + 2) (w + 43) [.ref q3, .int x4, .int x5, .int 27] h 0 0 P_21) ∧ (∀ h_23 : Hp, P_21 h_23 → ∀ x_28 : Int32, x_28 = x5 + 7 → wJ_Dr_pack_53 G l d w P C17 q0 x1 x2 q3 x4 x_28 x6 x_18 h_23)))))))
set_option maxRecDepth 100000 in
set_option maxHeartbeats 4000000 in
theorem okB_Dr_pack_17 {G : Gx} {l : Launch} {d w : Nat} {P : Hp → Prop} {p : Program} {e : Env} {s : State} {m : MethodId} {args : Array Value} {below : List Frame} {meth : Method} {c : Code} {C17 : Int32 → Int32 → Hp → Prop} {q0 : Nat} {x1 : Int32} {x2 : Int32} {q3 : Nat} {x4 : Int32} {x5 : Int32} {x6 : Int32} (hC17 : ∀ (x5 : Int32) (x6 : Int32) (h : Hp), C17 x5 x6 h → Go M_Dr_pack (mkX G (fun r h' => r = none ∧ P h') (d + 4) (w + 82) 0 0 p l e s m args below meth c) 17 [some (.ref q0), some (.int x1), some (.int x2), some (.ref q3), some (.int x4), some (.int x5), some (.int x6), none] [] h 0 0) {h : Hp}  (H : wB_Dr_pack_17 G l d w P C17 q0 x1 x2 q3 x4 x5 x6 h ) : Go M_Dr_pack (mkX G (fun r h' => r = none ∧ P h') (d + 4) (w + 82) 0 0 p l e s m args below meth c) 17 [some (.ref q0), some (.int x1), some (.int x2), some (.ref q3), some (.int x4), some (.int x5), some (.int x6), none] [] h 0 0 := by
  unfold wB_Dr_pack_17 at H
  refine g_iload d_Dr_pack_17 rfl ?_
  refine g_iload_n d_Dr_pack_19 rfl ?_
  obtain ⟨H1, H2⟩ := H
  refine g_icmp_ge (tgt := 75) d_Dr_pack_20 (by decide) (fun c_11 => ?_) (fun c_11 => ?_)
  · have H := H1 c_11
    exact g_return d_Dr_pack_75 rfl (Nat.le_refl _) (Nat.le_refl _) ⟨rfl, H⟩
  · have H := H2 c_11
    refine g_aload_n d_Dr_pack_23 rfl ?_
    obtain ⟨z_12, H⟩ := H
    refine g_getR d_Dr_pack_24 f_Dr_9 z_12 (by decide) ?_
    refine g_iload d_Dr_pack_27 rfl ?_
    obtain ⟨q_13, e_14, H⟩ := H
    show Go _ _ _ [some (.ref q0), some (.int x1), some (.int x2), some (.ref q3), some (.int x4), some (.int x5), some (.int x6), none] [.int x6, va_rf (hR h q0 0)] _ _ _
    rw [show va_rf (hR h q0 0) = Value.ref q_13 from by rw [e_14]; rfl]
    obtain ⟨N_15, H⟩ := H
    obtain ⟨j_16, H⟩ := H
    obtain ⟨z_17, H⟩ := H
    refine g_iald d_Dr_pack_29 z_17.1 z_17.2.1 z_17.2.2.1 z_17.2.2.2 ?_
    refine g_topi (fun x_18 ex_18 => ?_)
    replace H := H x_18 ex_18
    refine g_istore (lv' := [some (.ref q0), some (.int x1), some (.int x2), some (.ref q3), some (.int x4), some (.int x5), some (.int x6), some (.int x_18)]) d_Dr_pack_30 (by decide) rfl ?_
    refine g_iload d_Dr_pack_32 rfl ?_
    refine g_sipush (v := 128) d_Dr_pack_34 (by decide) ?_
    obtain ⟨H1, H2⟩ := H
    refine g_icmp_lt (tgt := 53) d_Dr_pack_37 (by decide) (fun c_19 => ?_) (fun c_19 => ?_)
    · have H := H1 c_19
      refine g_msk [true, true, true, true, true, true, true, true] ?_
      exact okJ_Dr_pack_53 hC17 H
    · have H := H2 c_19
      refine g_aload_n d_Dr_pack_40 rfl ?_
      refine g_iload d_Dr_pack_41 rfl ?_
      refine g_iload d_Dr_pack_43 rfl ?_
      refine g_bipush (v := 27) d_Dr_pack_45 (by decide) ?_
      obtain ⟨z_20, H⟩ := H
      obtain ⟨P_21, C_22, H⟩ := H
      refine q_V (As := [.int x4, .int x5, .int 27]) (st := []) (nl := 6) d_Dr_pack_47 v_Dr_36 C_22 z_20 rfl (catS_le (Nat.le_of_ble_eq_true rfl)) rfl ⟨by omega, by omega, Nat.le_refl _, Nat.le_refl _⟩ (fun r_27 h_23 p_24 => ?_)
      obtain ⟨rfl, p_24⟩ := p_24
      replace H := H h_23 p_24
      show Go _ _ _ _ [] _ _ _
      obtain ⟨x_28, ex_28⟩ : ∃ z : Int32, z = x5 + 7 := ⟨_, rfl⟩
      replace H := H x_28 ex_28
      refine g_iinc (v := x_28) (lv' := [some (.ref q0), some (.int x1), some (.int x2), some (.ref q3), some (.int x4), some (.int x_28), some (.int x6), some (.int x_18)]) d_Dr_pack_50 rfl (by decide) (by rw [ex_28]; rfl) rfl ?_
      refine g_msk [true, true, true, true, true, true, true, true] ?_
      exact okJ_Dr_pack_53 hC17 H
set_option maxRecDepth 100000 in
set_option maxHeartbeats 4000000 in
def wL_Dr_pack_17 (G : Gx) (l : Launch) (d w : Nat) (P : Hp → Prop) (q0 : Nat) (x1 : Int32) (x2 : Int32) (q3 : Nat) (x4 : Int32) (x5 : Int32) (x6 : Int32) (h : Hp)  : Prop := ∃ (I : Int32 → Int32 → Hp → Prop) (μ : Int32 → Int32 → Hp → Nat), I x5 x6 h ∧ ∀ (x5' : Int32) (x6' : Int32) (h' : Hp), I x5' x6' h' → wB_Dr_pack_17 G l d w P (fun x5_ x6_ h_ => I x5_ x6_ h_ ∧ μ x5_ x6_ h_ < μ x5' x6' h') q0 x1 x2 q3 x4 x5' x6' h'
set_option maxRecDepth 100000 in
set_option maxHeartbeats 4000000 in
theorem okL_Dr_pack_17 {G : Gx} {l : Launch} {d w : Nat} {P : Hp → Prop} {p : Program} {e : Env} {s : State} {m : MethodId} {args : Array Value} {below : List Frame} {meth : Method} {c : Code} {q0 : Nat} {x1 : Int32} {x2 : Int32} {q3 : Nat} {x4 : Int32} {x5 : Int32} {x6 : Int32} {h : Hp}  (H : wL_Dr_pack_17 G l d w P  q0 x1 x2 q3 x4 x5 x6 h ) : Go M_Dr_pack (mkX G (fun r h' => r = none ∧ P h') (d + 4) (w + 82) 0 0 p l e s m args below meth c) 17 [some (.ref q0), some (.int x1), some (.int x2), some (.ref q3), some (.int x4), some (.int x5), some (.int x6), none] [] h 0 0 := by
  obtain ⟨I, μ, h0, hs⟩ := H
  have key : ∀ (N : Nat) (x5 : Int32) (x6 : Int32) (h : Hp), I x5 x6 h → μ x5 x6 h < N → Go M_Dr_pack (mkX G (fun r h' => r = none ∧ P h') (d + 4) (w + 82) 0 0 p l e s m args below meth c) 17 [some (.ref q0), some (.int x1), some (.int x2), some (.ref q3), some (.int x4), some (.int x5), some (.int x6), none] [] h 0 0 := by
    intro N
    induction N with
    | zero => intro x5 x6 h _ hN; exact absurd hN (Nat.not_lt_zero _)
    | succ N ih =>
      intro x5 x6 h hI hN
      exact okB_Dr_pack_17 (fun x5_ x6_ h_ hh => ih x5_ x6_ h_ hh.1 (Nat.lt_of_lt_of_le hh.2 (Nat.le_of_lt_succ hN))) (hs x5 x6 h hI)
  exact key _ _ _ _ h0 (Nat.lt_succ_self _)
set_option maxRecDepth 100000 in
set_option maxHeartbeats 4000000 in
def wp_Dr_pack (G : Gx) (l : Launch) (d w : Nat) (P : Hp → Prop) (q0 : Nat) (x1 : Int32) (x2 : Int32) (q3 : Nat) (h : Hp) : Prop := (hS h q3 = some (15, 0)) ∧ (∃ P_30 : Int32 → Hp → Prop, (Ci G l M_Ro_submitDataAt (d + 2) (w + 42) [.ref q3] h 0 0 P_30) ∧ (∀ (x_34 : Int32) (h_32 : Hp), P_30 x_34 h_32 → ∀ x_37 : Int32, x_37 = (x_34 + 1) → (hS h_32 q3 = some (15, 0)) ∧ (∃ P_39 : Int32 → Hp → Prop, (Ci G l M_Ro_firstBit (d + 3) (w + 62) [.ref q3] h_32 0 0 P_39) ∧ (∀ (x_43 : Int32) (h_41 : Hp), P_39 x_43 h_41 → wL_Dr_pack_17 G l d w P q0 x1 x2 q3 x_37 x_43 x1 h_41))))
set_option maxRecDepth 100000 in
set_option maxHeartbeats 4000000 in
theorem ok_Dr_pack {G : Gx} {l : Launch} {d w : Nat} {P : Hp → Prop} {q0 : Nat} {x1 : Int32} {x2 : Int32} {q3 : Nat} {h : Hp} (H : wp_Dr_pack G l d w P q0 x1 x2 q3 h) : Cv G l M_Dr_pack (d + 4) (w + 82) [.ref q0, .int x1, .int x2, .ref q3] h 0 0 P := by
  unfold wp_Dr_pack at H
  refine Ct.of (lv := [some (.ref q0), some (.int x1), some (.int x2), some (.ref q3), none, none, none, none]) (by decide) (Nat.le_of_ble_eq_true rfl) rfl (fun p e s m args below meth c => ?_)
  refine g_aload_n d_Dr_pack_0 rfl ?_
  obtain ⟨z_29, H⟩ := H
  obtain ⟨P_30, C_31, H⟩ := H
  refine q_V (As := []) (st := []) (nl := 1) d_Dr_pack_1 v_Dr_27 C_31 z_29 rfl (catS_le (Nat.le_of_ble_eq_true rfl)) rfl ⟨by omega, by omega, Nat.le_refl _, Nat.le_refl _⟩ (fun r_36 h_32 p_33 => ?_)
  obtain ⟨x_34, rfl, p_33⟩ := p_33
  replace H := H x_34 h_32 p_33
  show Go _ _ _ _ [.int x_34] _ _ _
  refine g_iconst (v := 1) d_Dr_pack_4 (by decide) ?_
  refine g_iadd d_Dr_pack_5 ?_
  refine g_topi (fun x_37 ex_37 => ?_)
  replace H := H x_37 ex_37
  refine g_istore (lv' := [some (.ref q0), some (.int x1), some (.int x2), some (.ref q3), some (.int x_37), none, none, none]) d_Dr_pack_6 (by decide) rfl ?_
  refine g_aload_n d_Dr_pack_8 rfl ?_
  obtain ⟨z_38, H⟩ := H
  obtain ⟨P_39, C_40, H⟩ := H
  refine q_V (As := []) (st := []) (nl := 1) d_Dr_pack_9 v_Dr_33 C_40 z_38 rfl (catS_le (Nat.le_of_ble_eq_true rfl)) rfl ⟨by omega, by omega, Nat.le_refl _, Nat.le_refl _⟩ (fun r_45 h_41 p_42 => ?_)
  obtain ⟨x_43, rfl, p_42⟩ := p_42
  replace H := H x_43 h_41 p_42
  show Go _ _ _ _ [.int x_43] _ _ _
  refine g_istore (lv' := [some (.ref q0), some (.int x1), some (.int x2), some (.ref q3), some (.int x_37), some (.int x_43), none, none]) d_Dr_pack_12 (by decide) rfl ?_
  refine g_iload_n d_Dr_pack_14 rfl ?_
  refine g_istore (lv' := [some (.ref q0), some (.int x1), some (.int x2), some (.ref q3), some (.int x_37), some (.int x_43), some (.int x1), none]) d_Dr_pack_15 (by decide) rfl ?_
  refine g_msk [true, true, true, true, true, true, true, false] ?_
  exact okL_Dr_pack_17 H
set_option maxRecDepth 100000 in
set_option maxHeartbeats 4000000 in
def wp_Li_init (G : Gx) (l : Launch) (d w mc ms : Nat) (P : Hp → Prop) (q0 : Nat) (x1 : Int32) (h : Hp) : Prop := (0 + 1 ≤ mc ∧ 0 + 3 ≤ ms) ∧ (∀ q_1 : Nat, Fre h q_1 → ∃ P_4 : Hp → Prop, (Cv G l M_AL_init (d + 3) (w + 60) [.ref q_1] (pN h q_1 (12, 0)) 0 0 P_4) ∧ (((0 + 1) ≤ mc ∧ (0 + 3) ≤ ms) ∧ (∀ h_6 : Hp, P_4 h_6 → (hS h_6 q0 = some (11, 0)) ∧ (((0 + 1) ≤ mc ∧ (0 + 3) ≤ ms) ∧ (P (pI (pR h_6 q0 0 (some q_1)) q0 1 x1))))))
set_option maxRecDepth 100000 in
set_option maxHeartbeats 4000000 in
theorem ok_Li_init {G : Gx} {l : Launch} {d w : Nat} {mc ms : Nat} {P : Hp → Prop} {q0 : Nat} {x1 : Int32} {h : Hp} (H : wp_Li_init G l d w mc ms P q0 x1 h) : Cv G l M_Li_init (d + 4) (w + 80) [.ref q0, .int x1] h mc ms P := by
  unfold wp_Li_init at H
  refine Ct.of (lv := [some (.ref q0), some (.int x1)]) (by decide) (Nat.le_of_ble_eq_true rfl) rfl (fun p e s m args below meth c => ?_)
  refine g_aload_n d_Li_init_0 rfl ?_
  refine g_objInit d_Li_init_1 kx_Li kx_n kx_c (catS_le (Nat.le_of_ble_eq_true rfl)) ⟨show 1 ≤ d + 4 by omega, show 20 ≤ w + 80 by omega⟩ ?_
  refine g_aload_n d_Li_init_4 rfl ?_
  obtain ⟨b_2, H⟩ := H
  refine g_new d_Li_init_5 (ci := 2) rfl k_Li_7 kI_2 kJ_2 b_2.1 b_2.2 (fun q_1 Fq_1 => ?_)
  replace H := H q_1 Fq_1
  have z_3 : hS (pN h q_1 (12, 0)) q_1 = some (12, 0) := Fre.new
  refine g_dup d_Li_init_8 rfl ?_
  obtain ⟨P_4, C_5, H⟩ := H
  obtain ⟨b_9, H⟩ := H
  refine q_I (As := []) (st := [.ref q_1, .ref q0]) (nl := 1) d_Li_init_9 v_Li_9 C_5 rfl (catS_le (Nat.le_of_ble_eq_true rfl)) rfl ⟨by omega, by omega, b_9.1, b_9.2⟩ (fun r_10 h_6 p_7 => ?_)
  obtain ⟨rfl, p_7⟩ := p_7
  replace H := H h_6 p_7
  show Go _ _ _ _ [.ref q_1, .ref q0] _ _ _
  obtain ⟨z_11, H⟩ := H
  refine g_putR (x := (some q_1)) (ty := .object "java/util/ArrayList") d_Li_init_12 f_Li_10 ⟨_, rfl, Or.inr ⟨rfl, rfl, rfl⟩⟩ z_11 (by decide) (by decide +kernel) (Or.inl ⟨_, rfl⟩) ?_
  refine g_aload_n d_Li_init_15 rfl ?_
  refine g_iload_n d_Li_init_16 rfl ?_
  refine g_putI d_Li_init_17 f_Li_16 ⟨_, rfl, Or.inr ⟨rfl, rfl, rfl⟩⟩ z_11 ?_
  obtain ⟨b_12, H⟩ := H
  exact g_return d_Li_init_20 rfl b_12.1 b_12.2 ⟨rfl, H⟩
set_option maxRecDepth 100000 in
set_option maxHeartbeats 4000000 in
def wp_Li_size (G : Gx) (l : Launch) (d w : Nat) (P : Int32 → Hp → Prop) (q0 : Nat) (h : Hp) : Prop := (hS h q0 = some (11, 0)) ∧ (∃ q_2 : Nat, (hR h q0 0) = some q_2 ∧ ((hS h q_2 = some (12, 0)) ∧ (∃ P_5 : Int32 → Hp → Prop, (Ci G l M_AL_size (d + 0) (w + 0) [.ref q_2] h 0 0 P_5) ∧ (∀ (x_9 : Int32) (h_7 : Hp), P_5 x_9 h_7 → P x_9 h_7))))
set_option maxRecDepth 100000 in
set_option maxHeartbeats 4000000 in
theorem ok_Li_size {G : Gx} {l : Launch} {d w : Nat} {P : Int32 → Hp → Prop} {q0 : Nat} {h : Hp} (H : wp_Li_size G l d w P q0 h) : Ci G l M_Li_size (d + 1) (w + 20) [.ref q0] h 0 0 P := by
  unfold wp_Li_size at H
  refine Ct.of (lv := [some (.ref q0)]) (by decide) (Nat.le_of_ble_eq_true rfl) rfl (fun p e s m args below meth c => ?_)
  refine g_aload_n d_Li_size_0 rfl ?_
  obtain ⟨z_1, H⟩ := H
  refine g_getR d_Li_size_1 f_Li_10 z_1 (by decide) ?_
  obtain ⟨q_2, e_3, H⟩ := H
  refine g_eqr e_3 ?_
  obtain ⟨z_4, H⟩ := H
  obtain ⟨P_5, C_6, H⟩ := H
  refine q_V (As := []) (st := []) (nl := 1) d_Li_size_4 v_Li_20 C_6 z_4 rfl (catS_le (Nat.le_of_ble_eq_true rfl)) rfl ⟨by omega, by omega, Nat.le_refl _, Nat.le_refl _⟩ (fun r_11 h_7 p_8 => ?_)
  obtain ⟨x_9, rfl, p_8⟩ := p_8
  replace H := H x_9 h_7 p_8
  show Go _ _ _ _ [.int x_9] _ _ _
  exact g_ireturn d_Li_size_7 rfl (Nat.le_refl _) (Nat.le_refl _) ⟨_, rfl, H⟩
set_option maxRecDepth 100000 in
set_option maxHeartbeats 4000000 in
def wp_Li_room (G : Gx) (l : Launch) (d w : Nat) (P : Int32 → Hp → Prop) (q0 : Nat) (h : Hp) : Prop := (hS h q0 = some (11, 0)) ∧ (∃ q_2 : Nat, (hR h q0 0) = some q_2 ∧ ((hS h q_2 = some (12, 0)) ∧ (∃ P_5 : Int32 → Hp → Prop, (Ci G l M_AL_size (d + 0) (w + 0) [.ref q_2] h 0 0 P_5) ∧ (∀ (x_9 : Int32) (h_7 : Hp), P_5 x_9 h_7 → P ((hI h q0 1) - x_9) h_7))))
set_option maxRecDepth 100000 in
set_option maxHeartbeats 4000000 in
theorem ok_Li_room {G : Gx} {l : Launch} {d w : Nat} {P : Int32 → Hp → Prop} {q0 : Nat} {h : Hp} (H : wp_Li_room G l d w P q0 h) : Ci G l M_Li_room (d + 1) (w + 20) [.ref q0] h 0 0 P := by
  unfold wp_Li_room at H
  refine Ct.of (lv := [some (.ref q0)]) (by decide) (Nat.le_of_ble_eq_true rfl) rfl (fun p e s m args below meth c => ?_)
  refine g_aload_n d_Li_room_0 rfl ?_
  obtain ⟨z_1, H⟩ := H
  refine g_getI d_Li_room_1 f_Li_16 z_1 ?_
  refine g_aload_n d_Li_room_4 rfl ?_
  refine g_getR d_Li_room_5 f_Li_10 z_1 (by decide) ?_
  obtain ⟨q_2, e_3, H⟩ := H
  refine g_eqr e_3 ?_
  obtain ⟨z_4, H⟩ := H
  obtain ⟨P_5, C_6, H⟩ := H
  refine q_V (As := []) (st := [.int (hI h q0 1)]) (nl := 1) d_Li_room_8 v_Li_20 C_6 z_4 rfl (catS_le (Nat.le_of_ble_eq_true rfl)) rfl ⟨by omega, by omega, Nat.le_refl _, Nat.le_refl _⟩ (fun r_11 h_7 p_8 => ?_)
  obtain ⟨x_9, rfl, p_8⟩ := p_8
  replace H := H x_9 h_7 p_8
  show Go _ _ _ _ [.int x_9, .int (hI h q0 1)] _ _ _
  refine g_isub d_Li_room_11 ?_
  exact g_ireturn d_Li_room_12 rfl (Nat.le_refl _) (Nat.le_refl _) ⟨_, rfl, H⟩
set_option maxRecDepth 100000 in
set_option maxHeartbeats 4000000 in
def wJ_Li_append_23 (G : Gx) (l : Launch) (d w mc ms : Nat) (P : Hp → Prop) (q0 : Nat) (q1 : Nat) (h : Hp) (k n : Nat) : Prop := (k ≤ mc ∧ n ≤ ms) ∧ (P h)
set_option maxRecDepth 100000 in
set_option maxHeartbeats 4000000 in
theorem okJ_Li_append_23 {G : Gx} {l : Launch} {d w : Nat} {mc ms : Nat} {P : Hp → Prop} {p : Program} {e : Env} {s : State} {m : MethodId} {args : Array Value} {below : List Frame} {meth : Method} {c : Code} {q0 : Nat} {q1 : Nat} {h : Hp} {k n : Nat} (H : wJ_Li_append_23 G l d w mc ms P  q0 q1 h k n) : Go M_Li_append (mkX G (fun r h' => r = none ∧ P h') (d + 7) (w + 162) mc ms p l e s m args below meth c) 23 [some (.ref q0), some (.ref q1)] [] h k n := by
  unfold wJ_Li_append_23 at H
  obtain ⟨b_1, H⟩ := H
  exact g_return d_Li_append_23 rfl b_1.1 b_1.2 ⟨rfl, H⟩
set_option maxRecDepth 100000 in
set_option maxHeartbeats 4000000 in
def wp_Li_append (G : Gx) (l : Launch) (d w mc ms : Nat) (P : Hp → Prop) (q0 : Nat) (q1 : Nat) (h : Hp) : Prop := (hS h q0 = some (11, 0)) ∧ (∃ q_3 : Nat, (hR h q0 0) = some q_3 ∧ ((hS h q_3 = some (12, 0)) ∧ (∃ P_6 : Int32 → Hp → Prop, (Ci G l M_AL_size (d + 0) (w + 0) [.ref q_3] h 0 0 P_6) ∧ ((0 ≤ mc ∧ 0 ≤ ms) ∧ (∀ (x_10 : Int32) (h_8 : Hp), P_6 x_10 h_8 → (hS h_8 q0 = some (11, 0)) ∧ (((hI h_8 q0 1) ≤ x_10 → wJ_Li_append_23 G l d w mc ms P q0 q1 h_8 0 0) ∧ (¬ (hI h_8 q0 1) ≤ x_10 → ∃ q_15 : Nat, (hR h_8 q0 0) = some q_15 ∧ ((hS h_8 q_15 = some (12, 0)) ∧ (∃ mc_23 : Nat, ∃ ms_24 : Nat, ∃ P_18 : Int32 → Hp → Prop, (Ci G l M_AL_add (d + 6) (w + 141) [.ref q_15, .ref q1] h_8 mc_23 ms_24 P_18) ∧ ((0 + mc_23 ≤ mc ∧ 0 + ms_24 ≤ ms) ∧ (∀ (x_22 : Int32) (h_20 : Hp), P_18 x_22 h_20 → wJ_Li_append_23 G l d w mc ms P q0 q1 h_20 (0 + mc_23) (0 + ms_24))))))))))))
set_option maxRecDepth 100000 in
set_option maxHeartbeats 4000000 in
theorem ok_Li_append {G : Gx} {l : Launch} {d w : Nat} {mc ms : Nat} {P : Hp → Prop} {q0 : Nat} {q1 : Nat} {h : Hp} (H : wp_Li_append G l d w mc ms P q0 q1 h) : Cv G l M_Li_append (d + 7) (w + 162) [.ref q0, .ref q1] h mc ms P := by
  unfold wp_Li_append at H
  refine Ct.of (lv := [some (.ref q0), some (.ref q1)]) (by decide) (Nat.le_of_ble_eq_true rfl) rfl (fun p e s m args below meth c => ?_)
  refine g_aload_n d_Li_append_0 rfl ?_
  obtain ⟨z_2, H⟩ := H
  refine g_getR d_Li_append_1 f_Li_10 z_2 (by decide) ?_
  obtain ⟨q_3, e_4, H⟩ := H
  refine g_eqr e_4 ?_
  obtain ⟨z_5, H⟩ := H
  obtain ⟨P_6, C_7, H⟩ := H
  obtain ⟨b_11, H⟩ := H
  refine q_V (As := []) (st := []) (nl := 1) d_Li_append_4 v_Li_20 C_7 z_5 rfl (catS_le (Nat.le_of_ble_eq_true rfl)) rfl ⟨by omega, by omega, b_11.1, b_11.2⟩ (fun r_12 h_8 p_9 => ?_)
  obtain ⟨x_10, rfl, p_9⟩ := p_9
  replace H := H x_10 h_8 p_9
  show Go _ _ _ _ [.int x_10] _ _ _
  refine g_aload_n d_Li_append_7 rfl ?_
  obtain ⟨z_13, H⟩ := H
  refine g_getI d_Li_append_8 f_Li_16 z_13 ?_
  obtain ⟨H1, H2⟩ := H
  refine g_icmp_ge (tgt := 23) d_Li_append_11 (by decide) (fun c_14 => ?_) (fun c_14 => ?_)
  · have H := H1 c_14
    refine g_msk [true, true] ?_
    exact okJ_Li_append_23 H
  · have H := H2 c_14
    refine g_aload_n d_Li_append_14 rfl ?_
    refine g_getR d_Li_append_15 f_Li_10 z_13 (by decide) ?_
    refine g_aload_n d_Li_append_18 rfl ?_
    obtain ⟨q_15, e_16, H⟩ := H
    show Go _ _ _ [some (.ref q0), some (.ref q1)] [.ref q1, va_rf (hR h_8 q0 0)] _ _ _
    rw [show va_rf (hR h_8 q0 0) = Value.ref q_15 from by rw [e_16]; rfl]
    obtain ⟨z_17, H⟩ := H
    obtain ⟨mc_23, H⟩ := H
    obtain ⟨ms_24, H⟩ := H
    obtain ⟨P_18, C_19, H⟩ := H
    obtain ⟨b_25, H⟩ := H
    refine q_V (As := [.ref q1]) (st := []) (nl := 2) d_Li_append_19 v_Li_24 C_19 z_17 rfl (catS_le (Nat.le_of_ble_eq_true rfl)) rfl ⟨by omega, by omega, b_25.1, b_25.2⟩ (fun r_26 h_20 p_21 => ?_)
    obtain ⟨x_22, rfl, p_21⟩ := p_21
    replace H := H x_22 h_20 p_21
    show Go _ _ _ _ [.int x_22] _ _ _
    refine g_pop d_Li_append_22 rfl ?_
    refine g_msk [true, true] ?_
    exact okJ_Li_append_23 H
set_option maxRecDepth 100000 in
set_option maxHeartbeats 4000000 in
def wJ_Li_first_25 (G : Gx) (l : Launch) (d w : Nat) (P : Option Nat → Hp → Prop) (q0 : Nat) (so0 : Option Nat) (h : Hp)  : Prop := P so0 h
set_option maxRecDepth 100000 in
set_option maxHeartbeats 4000000 in
theorem okJ_Li_first_25 {G : Gx} {l : Launch} {d w : Nat} {P : Option Nat → Hp → Prop} {p : Program} {e : Env} {s : State} {m : MethodId} {args : Array Value} {below : List Frame} {meth : Method} {c : Code} {q0 : Nat} {so0 : Option Nat} {h : Hp}  (H : wJ_Li_first_25 G l d w P  q0 so0 h ) : Go M_Li_first (mkX G (fun r h' => ∃ x, r = some (va_rf x) ∧ P x h') (d + 4) (w + 94) 0 0 p l e s m args below meth c) 25 [some (.ref q0)] [va_rf so0] h 0 0 := by
  unfold wJ_Li_first_25 at H
  exact g_areturn (x := so0) d_Li_first_25 rfl (Or.inl ⟨_, rfl⟩) (Nat.le_refl _) (Nat.le_refl _) ⟨_, rfl, H⟩
set_option maxRecDepth 100000 in
set_option maxHeartbeats 4000000 in
def wp_Li_first (G : Gx) (l : Launch) (d w : Nat) (P : Option Nat → Hp → Prop) (q0 : Nat) (h : Hp) : Prop := (hS h q0 = some (11, 0)) ∧ (∃ q_2 : Nat, (hR h q0 0) = some q_2 ∧ ((hS h q_2 = some (12, 0)) ∧ (∃ P_5 : Int32 → Hp → Prop, (Ci G l M_AL_isEmpty (d + 0) (w + 0) [.ref q_2] h 0 0 P_5) ∧ (∀ (x_9 : Int32) (h_7 : Hp), P_5 x_9 h_7 → (x_9 = 0 → (hS h_7 q0 = some (11, 0)) ∧ (∃ q_14 : Nat, (hR h_7 q0 0) = some q_14 ∧ ((hS h_7 q_14 = some (12, 0)) ∧ (∃ P_17 : Option Nat → Hp → Prop, (Cr G l M_AL_get (d + 3) (w + 73) [.ref q_14, .int 0] h_7 0 0 P_17) ∧ (∀ (o_21 : Option Nat) (h_19 : Hp), P_17 o_21 h_19 → ∃ q_24 : Nat, o_21 = some q_24 ∧ ((hS h_19 q_24 = some (15, 0)) ∧ (wJ_Li_first_25 G l d w P q0 (some q_24) h_19))))))) ∧ (¬ x_9 = 0 → wJ_Li_first_25 G l d w P q0 none h_7)))))
set_option maxRecDepth 100000 in
set_option maxHeartbeats 4000000 in
theorem ok_Li_first {G : Gx} {l : Launch} {d w : Nat} {P : Option Nat → Hp → Prop} {q0 : Nat} {h : Hp} (H : wp_Li_first G l d w P q0 h) : Cr G l M_Li_first (d + 4) (w + 94) [.ref q0] h 0 0 P := by
  unfold wp_Li_first at H
  refine Ct.of (lv := [some (.ref q0)]) (by decide) (Nat.le_of_ble_eq_true rfl) rfl (fun p e s m args below meth c => ?_)
  refine g_aload_n d_Li_first_0 rfl ?_
  obtain ⟨z_1, H⟩ := H
  refine g_getR d_Li_first_1 f_Li_10 z_1 (by decide) ?_
  obtain ⟨q_2, e_3, H⟩ := H
  refine g_eqr e_3 ?_
  obtain ⟨z_4, H⟩ := H
  obtain ⟨P_5, C_6, H⟩ := H
  refine q_V (As := []) (st := []) (nl := 1) d_Li_first_4 v_Li_28 C_6 z_4 rfl (catS_le (Nat.le_of_ble_eq_true rfl)) rfl ⟨by omega, by omega, Nat.le_refl _, Nat.le_refl _⟩ (fun r_11 h_7 p_8 => ?_)
  obtain ⟨x_9, rfl, p_8⟩ := p_8
  replace H := H x_9 h_7 p_8
  show Go _ _ _ _ [.int x_9] _ _ _
  obtain ⟨H1, H2⟩ := H
  refine g_if_eq (tgt := 14) d_Li_first_7 (by decide) (fun c_12 => ?_) (fun c_12 => ?_)
  · have H := H1 c_12
    refine g_aload_n d_Li_first_14 rfl ?_
    obtain ⟨z_13, H⟩ := H
    refine g_getR d_Li_first_15 f_Li_10 z_13 (by decide) ?_
    refine g_iconst (v := 0) d_Li_first_18 (by decide) ?_
    obtain ⟨q_14, e_15, H⟩ := H
    show Go _ _ _ [some (.ref q0)] [.int 0, va_rf (hR h_7 q0 0)] _ _ _
    rw [show va_rf (hR h_7 q0 0) = Value.ref q_14 from by rw [e_15]; rfl]
    obtain ⟨z_16, H⟩ := H
    obtain ⟨P_17, C_18, H⟩ := H
    refine q_V (As := [.int 0]) (st := []) (nl := 2) d_Li_first_19 v_Li_32 C_18 z_16 rfl (catS_le (Nat.le_of_ble_eq_true rfl)) rfl ⟨by omega, by omega, Nat.le_refl _, Nat.le_refl _⟩ (fun r_23 h_19 p_20 => ?_)
    obtain ⟨o_21, rfl, p_20⟩ := p_20
    replace H := H o_21 h_19 p_20
    show Go _ _ _ _ [va_rf o_21] _ _ _
    obtain ⟨q_24, e_25, H⟩ := H
    refine g_eqr e_25 ?_
    obtain ⟨z_26, H⟩ := H
    refine g_cast d_Li_first_22 (ci := 5) rfl k_Li_36 kC_5 z_26 ?_
    refine g_msk [true] ?_
    exact okJ_Li_first_25 H
  · have H := H2 c_12
    refine g_null d_Li_first_10 ?_
    refine g_goto (tgt := 25) d_Li_first_11 (by decide) ?_
    refine g_msk [true] ?_
    exact okJ_Li_first_25 H
set_option maxRecDepth 100000 in
set_option maxHeartbeats 4000000 in
def wJ_Li_removeFirst_25 (G : Gx) (l : Launch) (d w : Nat) (P : Option Nat → Hp → Prop) (q0 : Nat) (so0 : Option Nat) (h : Hp)  : Prop := P so0 h
set_option maxRecDepth 100000 in
set_option maxHeartbeats 4000000 in
theorem okJ_Li_removeFirst_25 {G : Gx} {l : Launch} {d w : Nat} {P : Option Nat → Hp → Prop} {p : Program} {e : Env} {s : State} {m : MethodId} {args : Array Value} {below : List Frame} {meth : Method} {c : Code} {q0 : Nat} {so0 : Option Nat} {h : Hp}  (H : wJ_Li_removeFirst_25 G l d w P  q0 so0 h ) : Go M_Li_removeFirst (mkX G (fun r h' => ∃ x, r = some (va_rf x) ∧ P x h') (d + 4) (w + 96) 0 0 p l e s m args below meth c) 25 [some (.ref q0)] [va_rf so0] h 0 0 := by
  unfold wJ_Li_removeFirst_25 at H
  exact g_areturn (x := so0) d_Li_removeFirst_25 rfl (Or.inl ⟨_, rfl⟩) (Nat.le_refl _) (Nat.le_refl _) ⟨_, rfl, H⟩
set_option maxRecDepth 100000 in
set_option maxHeartbeats 4000000 in
def wp_Li_removeFirst (G : Gx) (l : Launch) (d w : Nat) (P : Option Nat → Hp → Prop) (q0 : Nat) (h : Hp) : Prop := (hS h q0 = some (11, 0)) ∧ (∃ q_2 : Nat, (hR h q0 0) = some q_2 ∧ ((hS h q_2 = some (12, 0)) ∧ (∃ P_5 : Int32 → Hp → Prop, (Ci G l M_AL_isEmpty (d + 0) (w + 0) [.ref q_2] h 0 0 P_5) ∧ (∀ (x_9 : Int32) (h_7 : Hp), P_5 x_9 h_7 → (x_9 = 0 → (hS h_7 q0 = some (11, 0)) ∧ (∃ q_14 : Nat, (hR h_7 q0 0) = some q_14 ∧ ((hS h_7 q_14 = some (12, 0)) ∧ (∃ P_17 : Option Nat → Hp → Prop, (Cr G l M_AL_remove (d + 3) (w + 73) [.ref q_14, .int 0] h_7 0 0 P_17) ∧ (∀ (o_21 : Option Nat) (h_19 : Hp), P_17 o_21 h_19 → ∃ q_24 : Nat, o_21 = some q_24 ∧ ((hS h_19 q_24 = some (15, 0)) ∧ (wJ_Li_removeFirst_25 G l d w P q0 (some q_24) h_19))))))) ∧ (¬ x_9 = 0 → wJ_Li_removeFirst_25 G l d w P q0 none h_7)))))
set_option maxRecDepth 100000 in
set_option maxHeartbeats 4000000 in
theorem ok_Li_removeFirst {G : Gx} {l : Launch} {d w : Nat} {P : Option Nat → Hp → Prop} {q0 : Nat} {h : Hp} (H : wp_Li_removeFirst G l d w P q0 h) : Cr G l M_Li_removeFirst (d + 4) (w + 96) [.ref q0] h 0 0 P := by
  unfold wp_Li_removeFirst at H
  refine Ct.of (lv := [some (.ref q0)]) (by decide) (Nat.le_of_ble_eq_true rfl) rfl (fun p e s m args below meth c => ?_)
  refine g_aload_n d_Li_removeFirst_0 rfl ?_
  obtain ⟨z_1, H⟩ := H
  refine g_getR d_Li_removeFirst_1 f_Li_10 z_1 (by decide) ?_
  obtain ⟨q_2, e_3, H⟩ := H
  refine g_eqr e_3 ?_
  obtain ⟨z_4, H⟩ := H
  obtain ⟨P_5, C_6, H⟩ := H
  refine q_V (As := []) (st := []) (nl := 1) d_Li_removeFirst_4 v_Li_28 C_6 z_4 rfl (catS_le (Nat.le_of_ble_eq_true rfl)) rfl ⟨by omega, by omega, Nat.le_refl _, Nat.le_refl _⟩ (fun r_11 h_7 p_8 => ?_)
  obtain ⟨x_9, rfl, p_8⟩ := p_8
  replace H := H x_9 h_7 p_8
  show Go _ _ _ _ [.int x_9] _ _ _
  obtain ⟨H1, H2⟩ := H
  refine g_if_eq (tgt := 14) d_Li_removeFirst_7 (by decide) (fun c_12 => ?_) (fun c_12 => ?_)
  · have H := H1 c_12
    refine g_aload_n d_Li_removeFirst_14 rfl ?_
    obtain ⟨z_13, H⟩ := H
    refine g_getR d_Li_removeFirst_15 f_Li_10 z_13 (by decide) ?_
    refine g_iconst (v := 0) d_Li_removeFirst_18 (by decide) ?_
    obtain ⟨q_14, e_15, H⟩ := H
    show Go _ _ _ [some (.ref q0)] [.int 0, va_rf (hR h_7 q0 0)] _ _ _
    rw [show va_rf (hR h_7 q0 0) = Value.ref q_14 from by rw [e_15]; rfl]
    obtain ⟨z_16, H⟩ := H
    obtain ⟨P_17, C_18, H⟩ := H
    refine q_V (As := [.int 0]) (st := []) (nl := 4) d_Li_removeFirst_19 v_Li_38 C_18 z_16 rfl (catS_le (Nat.le_of_ble_eq_true rfl)) rfl ⟨by omega, by omega, Nat.le_refl _, Nat.le_refl _⟩ (fun r_23 h_19 p_20 => ?_)
    obtain ⟨o_21, rfl, p_20⟩ := p_20
    replace H := H o_21 h_19 p_20
    show Go _ _ _ _ [va_rf o_21] _ _ _
    obtain ⟨q_24, e_25, H⟩ := H
    refine g_eqr e_25 ?_
    obtain ⟨z_26, H⟩ := H
    refine g_cast d_Li_removeFirst_22 (ci := 5) rfl k_Li_36 kC_5 z_26 ?_
    refine g_msk [true] ?_
    exact okJ_Li_removeFirst_25 H
  · have H := H2 c_12
    refine g_null d_Li_removeFirst_10 ?_
    refine g_goto (tgt := 25) d_Li_removeFirst_11 (by decide) ?_
    refine g_msk [true] ?_
    exact okJ_Li_removeFirst_25 H
set_option maxRecDepth 100000 in
set_option maxHeartbeats 4000000 in
def wp_Li_exchangeFirstTwo (G : Gx) (l : Launch) (d w : Nat) (P : Int32 → Hp → Prop) (q0 : Nat) (h : Hp) : Prop := (hS h q0 = some (11, 0)) ∧ (∃ q_2 : Nat, (hR h q0 0) = some q_2 ∧ ((hS h q_2 = some (12, 0)) ∧ (∃ P_5 : Int32 → Hp → Prop, (Ci G l M_AL_size (d + 0) (w + 0) [.ref q_2] h 0 0 P_5) ∧ (∀ (x_9 : Int32) (h_7 : Hp), P_5 x_9 h_7 → (2 ≤ x_9 → (hS h_7 q0 = some (11, 0)) ∧ (∃ q_14 : Nat, (hR h_7 q0 0) = some q_14 ∧ ((hS h_7 q_14 = some (12, 0)) ∧ (∃ P_17 : Option Nat → Hp → Prop, (Cr G l M_AL_get (d + 3) (w + 73) [.ref q_14, .int 0] h_7 0 0 P_17) ∧ (∀ (o_21 : Option Nat) (h_19 : Hp), P_17 o_21 h_19 → ∃ q_24 : Nat, o_21 = some q_24 ∧ ((hS h_19 q_24 = some (15, 0)) ∧ ((hS h_19 q0 = some (11, 0)) ∧ (∃ q_28 : Nat, (hR h_19 q0 0) = some q_28 ∧ ((hS h_19 q_28 = some (12, 0)) ∧ (∃ P_31 : Option Nat → Hp → Prop, (Cr G l M_AL_get (d + 3) (w + 73) [.ref q_28, .int 1] h_19 0 0 P_31) ∧ (∀ (o_35 : Option Nat) (h_33 : Hp), P_31 o_35 h_33 → ∃ q_38 : Nat, o_35 = some q_38 ∧ ((hS h_33 q_38 = some (15, 0)) ∧ ((hS h_33 q_28 = some (12, 0)) ∧ (∃ P_42 : Option Nat → Hp → Prop, (Cr G l M_AL_set (d + 3) (w + 73) [.ref q_28, .int 0, .ref q_38] h_33 0 0 P_42) ∧ (∀ (o_46 : Option Nat) (h_44 : Hp), P_42 o_46 h_44 → (hS h_44 q0 = some (11, 0)) ∧ (∃ q_50 : Nat, (hR h_44 q0 0) = some q_50 ∧ ((hS h_44 q_50 = some (12, 0)) ∧ (∃ P_53 : Option Nat → Hp → Prop, (Cr G l M_AL_set (d + 3) (w + 73) [.ref q_50, .int 1, .ref q_24] h_44 0 0 P_53) ∧ (∀ (o_57 : Option Nat) (h_55 : Hp), P_53 o_57 h_55 → P 1 h_55))))))))))))))))))) ∧ (¬ 2 ≤ x_9 → P 0 h_7)))))
set_option maxRecDepth 100000 in
set_option maxHeartbeats 4000000 in
theorem ok_Li_exchangeFirstTwo {G : Gx} {l : Launch} {d w : Nat} {P : Int32 → Hp → Prop} {q0 : Nat} {h : Hp} (H : wp_Li_exchangeFirstTwo G l d w P q0 h) : Ci G l M_Li_exchangeFirstTwo (d + 4) (w + 96) [.ref q0] h 0 0 P := by
  unfold wp_Li_exchangeFirstTwo at H
  refine Ct.of (lv := [some (.ref q0), none]) (by decide) (Nat.le_of_ble_eq_true rfl) rfl (fun p e s m args below meth c => ?_)
  refine g_aload_n d_Li_exchangeFirstTwo_0 rfl ?_
  obtain ⟨z_1, H⟩ := H
  refine g_getR d_Li_exchangeFirstTwo_1 f_Li_10 z_1 (by decide) ?_
  obtain ⟨q_2, e_3, H⟩ := H
  refine g_eqr e_3 ?_
  obtain ⟨z_4, H⟩ := H
  obtain ⟨P_5, C_6, H⟩ := H
  refine q_V (As := []) (st := []) (nl := 1) d_Li_exchangeFirstTwo_4 v_Li_20 C_6 z_4 rfl (catS_le (Nat.le_of_ble_eq_true rfl)) rfl ⟨by omega, by omega, Nat.le_refl _, Nat.le_refl _⟩ (fun r_11 h_7 p_8 => ?_)
  obtain ⟨x_9, rfl, p_8⟩ := p_8
  replace H := H x_9 h_7 p_8
  show Go _ _ _ _ [.int x_9] _ _ _
  refine g_iconst (v := 2) d_Li_exchangeFirstTwo_7 (by decide) ?_
  obtain ⟨H1, H2⟩ := H
  refine g_icmp_ge (tgt := 13) d_Li_exchangeFirstTwo_8 (by decide) (fun c_12 => ?_) (fun c_12 => ?_)
  · have H := H1 c_12
    refine g_aload_n d_Li_exchangeFirstTwo_13 rfl ?_
    obtain ⟨z_13, H⟩ := H
    refine g_getR d_Li_exchangeFirstTwo_14 f_Li_10 z_13 (by decide) ?_
    refine g_iconst (v := 0) d_Li_exchangeFirstTwo_17 (by decide) ?_
    obtain ⟨q_14, e_15, H⟩ := H
    show Go _ _ _ [some (.ref q0), none] [.int 0, va_rf (hR h_7 q0 0)] _ _ _
    rw [show va_rf (hR h_7 q0 0) = Value.ref q_14 from by rw [e_15]; rfl]
    obtain ⟨z_16, H⟩ := H
    obtain ⟨P_17, C_18, H⟩ := H
    refine q_V (As := [.int 0]) (st := []) (nl := 2) d_Li_exchangeFirstTwo_18 v_Li_32 C_18 z_16 rfl (catS_le (Nat.le_of_ble_eq_true rfl)) rfl ⟨by omega, by omega, Nat.le_refl _, Nat.le_refl _⟩ (fun r_23 h_19 p_20 => ?_)
    obtain ⟨o_21, rfl, p_20⟩ := p_20
    replace H := H o_21 h_19 p_20
    show Go _ _ _ _ [va_rf o_21] _ _ _
    obtain ⟨q_24, e_25, H⟩ := H
    refine g_eqr e_25 ?_
    obtain ⟨z_26, H⟩ := H
    refine g_cast d_Li_exchangeFirstTwo_21 (ci := 5) rfl k_Li_36 kC_5 z_26 ?_
    refine g_astore_n (lv' := [some (.ref q0), some (.ref q_24)]) d_Li_exchangeFirstTwo_24 (by decide) rfl ?_
    refine g_aload_n d_Li_exchangeFirstTwo_25 rfl ?_
    obtain ⟨z_27, H⟩ := H
    refine g_getR d_Li_exchangeFirstTwo_26 f_Li_10 z_27 (by decide) ?_
    refine g_iconst (v := 0) d_Li_exchangeFirstTwo_29 (by decide) ?_
    refine g_aload_n d_Li_exchangeFirstTwo_30 rfl ?_
    refine g_getR d_Li_exchangeFirstTwo_31 f_Li_10 z_27 (by decide) ?_
    refine g_iconst (v := 1) d_Li_exchangeFirstTwo_34 (by decide) ?_
    obtain ⟨q_28, e_29, H⟩ := H
    show Go _ _ _ [some (.ref q0), some (.ref q_24)] [.int 1, va_rf (hR h_19 q0 0), .int 0, va_rf (hR h_19 q0 0)] _ _ _
    rw [show va_rf (hR h_19 q0 0) = Value.ref q_28 from by rw [e_29]; rfl]
    obtain ⟨z_30, H⟩ := H
    obtain ⟨P_31, C_32, H⟩ := H
    refine q_V (As := [.int 1]) (st := [.int 0, .ref q_28]) (nl := 2) d_Li_exchangeFirstTwo_35 v_Li_32 C_32 z_30 rfl (catS_le (Nat.le_of_ble_eq_true rfl)) rfl ⟨by omega, by omega, Nat.le_refl _, Nat.le_refl _⟩ (fun r_37 h_33 p_34 => ?_)
    obtain ⟨o_35, rfl, p_34⟩ := p_34
    replace H := H o_35 h_33 p_34
    show Go _ _ _ _ [va_rf o_35, .int 0, .ref q_28] _ _ _
    obtain ⟨q_38, e_39, H⟩ := H
    refine g_eqr e_39 ?_
    obtain ⟨z_40, H⟩ := H
    refine g_cast d_Li_exchangeFirstTwo_38 (ci := 5) rfl k_Li_36 kC_5 z_40 ?_
    obtain ⟨z_41, H⟩ := H
    obtain ⟨P_42, C_43, H⟩ := H
    refine q_V (As := [.int 0, .ref q_38]) (st := []) (nl := 4) d_Li_exchangeFirstTwo_41 v_Li_41 C_43 z_41 rfl (catS_le (Nat.le_of_ble_eq_true rfl)) rfl ⟨by omega, by omega, Nat.le_refl _, Nat.le_refl _⟩ (fun r_48 h_44 p_45 => ?_)
    obtain ⟨o_46, rfl, p_45⟩ := p_45
    replace H := H o_46 h_44 p_45
    show Go _ _ _ _ [va_rf o_46] _ _ _
    refine g_pop d_Li_exchangeFirstTwo_44 (vcat _) ?_
    refine g_aload_n d_Li_exchangeFirstTwo_45 rfl ?_
    obtain ⟨z_49, H⟩ := H
    refine g_getR d_Li_exchangeFirstTwo_46 f_Li_10 z_49 (by decide) ?_
    refine g_iconst (v := 1) d_Li_exchangeFirstTwo_49 (by decide) ?_
    refine g_aload_n d_Li_exchangeFirstTwo_50 rfl ?_
    obtain ⟨q_50, e_51, H⟩ := H
    show Go _ _ _ [some (.ref q0), some (.ref q_24)] [.ref q_24, .int 1, va_rf (hR h_44 q0 0)] _ _ _
    rw [show va_rf (hR h_44 q0 0) = Value.ref q_50 from by rw [e_51]; rfl]
    obtain ⟨z_52, H⟩ := H
    obtain ⟨P_53, C_54, H⟩ := H
    refine q_V (As := [.int 1, .ref q_24]) (st := []) (nl := 4) d_Li_exchangeFirstTwo_51 v_Li_41 C_54 z_52 rfl (catS_le (Nat.le_of_ble_eq_true rfl)) rfl ⟨by omega, by omega, Nat.le_refl _, Nat.le_refl _⟩ (fun r_59 h_55 p_56 => ?_)
    obtain ⟨o_57, rfl, p_56⟩ := p_56
    replace H := H o_57 h_55 p_56
    show Go _ _ _ _ [va_rf o_57] _ _ _
    refine g_pop d_Li_exchangeFirstTwo_54 (vcat _) ?_
    refine g_iconst (v := 1) d_Li_exchangeFirstTwo_55 (by decide) ?_
    exact g_zreturn d_Li_exchangeFirstTwo_56 rfl (by decide) (Nat.le_refl _) (Nat.le_refl _) ⟨_, rfl, H⟩
  · have H := H2 c_12
    refine g_iconst (v := 0) d_Li_exchangeFirstTwo_11 (by decide) ?_
    exact g_zreturn d_Li_exchangeFirstTwo_12 rfl (by decide) (Nat.le_refl _) (Nat.le_refl _) ⟨_, rfl, H⟩
set_option maxRecDepth 100000 in
set_option maxHeartbeats 4000000 in
def wp_Me_init (G : Gx) (l : Launch) (d w : Nat) (P : Hp → Prop) (q0 : Nat) (q1 : Nat) (q2 : Nat) (x3 : Int32) (h : Hp) : Prop := (hS h q0 = some (16, 0)) ∧ ((hS h q2 = some (14, 0)) ∧ ((hS h q1 = some (15, 0)) ∧ (∃ P_4 : Int64 → Hp → Prop, (Cl G l M_Ro_numberAt (d + 3) (w + 65) [.ref q1, .int 2] (pI (pI (pL (pR (pR (pR h q0 8 (some (gK G 4))) q0 0 (some q1)) q0 1 (some q2)) q0 2 (hL h q2 0)) q0 3 x3) q0 4 x3) 0 0 P_4) ∧ (∀ (y_8 : Int64) (h_6 : Hp), P_4 y_8 h_6 → (hS h_6 q0 = some (16, 0)) ∧ ((hS h_6 q1 = some (15, 0)) ∧ (∃ P_13 : Int32 → Hp → Prop, (Ci G l M_Ro_submitDataAt (d + 2) (w + 42) [.ref q1] (pL h_6 q0 5 y_8) 0 0 P_13) ∧ (∀ (x_17 : Int32) (h_15 : Hp), P_13 x_17 h_15 → (hS h_15 q1 = some (15, 0)) ∧ (∃ P_21 : Int32 → Hp → Prop, (Ci G l M_Ro_at (d + 1) (w + 21) [.ref q1, .int (x_17 - 1)] h_15 0 0 P_21) ∧ (∀ (x_25 : Int32) (h_23 : Hp), P_21 x_25 h_23 → (hS h_23 q0 = some (16, 0)) ∧ (P (pI h_23 q0 6 (x3 + (5 * (x_25 + 1))))))))))))))
set_option maxRecDepth 100000 in
set_option maxHeartbeats 4000000 in
theorem ok_Me_init {G : Gx} {l : Launch} {d w : Nat} {P : Hp → Prop} {q0 : Nat} {q1 : Nat} {q2 : Nat} {x3 : Int32} {h : Hp} (H : wp_Me_init G l d w P q0 q1 q2 x3 h) : Cv G l M_Me_init (d + 4) (w + 90) [.ref q0, .ref q1, .ref q2, .int x3] h 0 0 P := by
  unfold wp_Me_init at H
  refine Ct.of (lv := [some (.ref q0), some (.ref q1), some (.ref q2), some (.int x3)]) (by decide) (Nat.le_of_ble_eq_true rfl) rfl (fun p e s m args below meth c => ?_)
  refine g_aload_n d_Me_init_0 rfl ?_
  refine g_objInit d_Me_init_1 kx_Me kx_n kx_c (catS_le (Nat.le_of_ble_eq_true rfl)) ⟨show 1 ≤ d + 4 by omega, show 20 ≤ w + 90 by omega⟩ ?_
  refine g_aload_n d_Me_init_4 rfl ?_
  refine g_gets (t := 4) d_Me_init_5 f_Me_7 (fun hz => hz.2.1.1) ?_
  obtain ⟨z_1, H⟩ := H
  refine g_putR (x := (some (gK G 4))) (ty := .object "SeptetCentre$Fate") d_Me_init_8 f_Me_13 (fo_6_8 _) z_1 (by decide) (by decide +kernel) (Or.inl ⟨_, rfl⟩) ?_
  refine g_aload_n d_Me_init_11 rfl ?_
  refine g_aload_n d_Me_init_12 rfl ?_
  refine g_putR (x := (some q1)) (ty := .object "SeptetCentre$Row") d_Me_init_13 f_Me_18 ⟨_, rfl, Or.inr ⟨rfl, rfl, rfl⟩⟩ z_1 (by decide) (by decide +kernel) (Or.inl ⟨_, rfl⟩) ?_
  refine g_aload_n d_Me_init_16 rfl ?_
  refine g_aload_n d_Me_init_17 rfl ?_
  refine g_putR (x := (some q2)) (ty := .object "SeptetCentre$Device") d_Me_init_18 f_Me_22 ⟨_, rfl, Or.inr ⟨rfl, rfl, rfl⟩⟩ z_1 (by decide) (by decide +kernel) (Or.inl ⟨_, rfl⟩) ?_
  refine g_aload_n d_Me_init_21 rfl ?_
  refine g_aload_n d_Me_init_22 rfl ?_
  obtain ⟨z_2, H⟩ := H
  refine g_getJ d_Me_init_23 f_Me_26 z_2 ?_
  refine g_putJ d_Me_init_26 f_Me_32 ⟨_, rfl, Or.inr ⟨rfl, rfl, rfl⟩⟩ z_1 ?_
  refine g_aload_n d_Me_init_29 rfl ?_
  refine g_iload_n d_Me_init_30 rfl ?_
  refine g_putI d_Me_init_31 f_Me_35 ⟨_, rfl, Or.inr ⟨rfl, rfl, rfl⟩⟩ z_1 ?_
  refine g_aload_n d_Me_init_34 rfl ?_
  refine g_iload_n d_Me_init_35 rfl ?_
  refine g_putI d_Me_init_36 f_Me_39 (fo_6_4 _) z_1 ?_
  refine g_aload_n d_Me_init_39 rfl ?_
  refine g_aload_n d_Me_init_40 rfl ?_
  refine g_iconst (v := 2) d_Me_init_41 (by decide) ?_
  obtain ⟨z_3, H⟩ := H
  obtain ⟨P_4, C_5, H⟩ := H
  refine q_V (As := [.int 2]) (st := [.ref q0]) (nl := 6) d_Me_init_42 v_Me_44 C_5 z_3 rfl (catS_le (Nat.le_of_ble_eq_true rfl)) rfl ⟨by omega, by omega, Nat.le_refl _, Nat.le_refl _⟩ (fun r_10 h_6 p_7 => ?_)
  obtain ⟨y_8, rfl, p_7⟩ := p_7
  replace H := H y_8 h_6 p_7
  show Go _ _ _ _ [.long y_8, .ref q0] _ _ _
  obtain ⟨z_11, H⟩ := H
  refine g_putJ d_Me_init_45 f_Me_48 ⟨_, rfl, Or.inr ⟨rfl, rfl, rfl⟩⟩ z_11 ?_
  refine g_aload_n d_Me_init_48 rfl ?_
  refine g_iload_n d_Me_init_49 rfl ?_
  refine g_iconst (v := 5) d_Me_init_50 (by decide) ?_
  refine g_aload_n d_Me_init_51 rfl ?_
  refine g_aload_n d_Me_init_52 rfl ?_
  obtain ⟨z_12, H⟩ := H
  obtain ⟨P_13, C_14, H⟩ := H
  refine q_V (As := []) (st := [.ref q1, .int 5, .int x3, .ref q0]) (nl := 1) d_Me_init_53 v_Me_51 C_14 z_12 rfl (catS_le (Nat.le_of_ble_eq_true rfl)) rfl ⟨by omega, by omega, Nat.le_refl _, Nat.le_refl _⟩ (fun r_19 h_15 p_16 => ?_)
  obtain ⟨x_17, rfl, p_16⟩ := p_16
  replace H := H x_17 h_15 p_16
  show Go _ _ _ _ [.int x_17, .ref q1, .int 5, .int x3, .ref q0] _ _ _
  refine g_iconst (v := 1) d_Me_init_56 (by decide) ?_
  refine g_isub d_Me_init_57 ?_
  obtain ⟨z_20, H⟩ := H
  obtain ⟨P_21, C_22, H⟩ := H
  refine q_V (As := [.int (x_17 - 1)]) (st := [.int 5, .int x3, .ref q0]) (nl := 2) d_Me_init_58 v_Me_55 C_22 z_20 rfl (catS_le (Nat.le_of_ble_eq_true rfl)) rfl ⟨by omega, by omega, Nat.le_refl _, Nat.le_refl _⟩ (fun r_27 h_23 p_24 => ?_)
  obtain ⟨x_25, rfl, p_24⟩ := p_24
  replace H := H x_25 h_23 p_24
  show Go _ _ _ _ [.int x_25, .int 5, .int x3, .ref q0] _ _ _
  refine g_iconst (v := 1) d_Me_init_61 (by decide) ?_
  refine g_iadd d_Me_init_62 ?_
  refine g_imul d_Me_init_63 ?_
  refine g_iadd d_Me_init_64 ?_
  obtain ⟨z_28, H⟩ := H
  refine g_putI d_Me_init_65 f_Me_59 ⟨_, rfl, Or.inr ⟨rfl, rfl, rfl⟩⟩ z_28 ?_
  exact g_return d_Me_init_68 rfl (Nat.le_refl _) (Nat.le_refl _) ⟨rfl, H⟩
set_option maxRecDepth 100000 in
set_option maxHeartbeats 4000000 in
def wp_Me_moment (G : Gx) (l : Launch) (d w : Nat) (P : Int32 → Hp → Prop) (q0 : Nat) (h : Hp) : Prop := (hS h q0 = some (16, 0)) ∧ (P (if (hI h q0 6) < (hI h q0 4) then (hI h q0 6) else (hI h q0 4)) h)
set_option maxRecDepth 100000 in
set_option maxHeartbeats 4000000 in
theorem ok_Me_moment {G : Gx} {l : Launch} {d w : Nat} {P : Int32 → Hp → Prop} {q0 : Nat} {h : Hp} (H : wp_Me_moment G l d w P q0 h) : Ci G l M_Me_moment (d + 1) (w + 21) [.ref q0] h 0 0 P := by
  unfold wp_Me_moment at H
  refine Ct.of (lv := [some (.ref q0)]) (by decide) (Nat.le_of_ble_eq_true rfl) rfl (fun p e s m args below meth c => ?_)
  refine g_aload_n d_Me_moment_0 rfl ?_
  obtain ⟨z_1, H⟩ := H
  refine g_getI d_Me_moment_1 f_Me_39 z_1 ?_
  refine g_aload_n d_Me_moment_4 rfl ?_
  refine g_getI d_Me_moment_5 f_Me_59 z_1 ?_
  refine g_min d_Me_moment_8 kz_Me_62 (catS_le (Nat.le_of_ble_eq_true rfl)) ⟨show 1 ≤ d + 1 by omega, show 21 ≤ w + 21 by omega, Nat.le_refl _, Nat.le_refl _⟩ kz_sm kz_im kz_cm ?_
  exact g_ireturn d_Me_moment_11 rfl (Nat.le_refl _) (Nat.le_refl _) ⟨_, rfl, H⟩
set_option maxRecDepth 100000 in
set_option maxHeartbeats 4000000 in
def wJ_Me_putOff_44 (G : Gx) (l : Launch) (d w : Nat) (P : Hp → Prop) (q0 : Nat) (x1 : Int32) (h : Hp)  : Prop := P h
set_option maxRecDepth 100000 in
set_option maxHeartbeats 4000000 in
theorem okJ_Me_putOff_44 {G : Gx} {l : Launch} {d w : Nat} {P : Hp → Prop} {p : Program} {e : Env} {s : State} {m : MethodId} {args : Array Value} {below : List Frame} {meth : Method} {c : Code} {q0 : Nat} {x1 : Int32} {h : Hp}  (H : wJ_Me_putOff_44 G l d w P  q0 x1 h ) : Go M_Me_putOff (mkX G (fun r h' => r = none ∧ P h') (d + 0) (w + 0) 0 0 p l e s m args below meth c) 44 [some (.ref q0), some (.int x1)] [] h 0 0 := by
  unfold wJ_Me_putOff_44 at H
  exact g_return d_Me_putOff_44 rfl (Nat.le_refl _) (Nat.le_refl _) ⟨rfl, H⟩
set_option maxRecDepth 100000 in
set_option maxHeartbeats 4000000 in
def wp_Me_putOff (G : Gx) (l : Launch) (d w : Nat) (P : Hp → Prop) (q0 : Nat) (x1 : Int32) (h : Hp) : Prop := (hS h q0 = some (16, 0)) ∧ ((¬ (hI h q0 7) = 1 → (¬ (hI h q0 7) = 2 → wJ_Me_putOff_44 G l d w P q0 x1 (pI h q0 4 (x1 + 16))) ∧ ((hI h q0 7) = 2 → wJ_Me_putOff_44 G l d w P q0 x1 (pI h q0 4 (x1 + 4)))) ∧ ((hI h q0 7) = 1 → wJ_Me_putOff_44 G l d w P q0 x1 (pI h q0 4 (x1 + 1))))
set_option maxRecDepth 100000 in
set_option maxHeartbeats 4000000 in
theorem ok_Me_putOff {G : Gx} {l : Launch} {d w : Nat} {P : Hp → Prop} {q0 : Nat} {x1 : Int32} {h : Hp} (H : wp_Me_putOff G l d w P q0 x1 h) : Cv G l M_Me_putOff (d + 0) (w + 0) [.ref q0, .int x1] h 0 0 P := by
  unfold wp_Me_putOff at H
  refine Ct.of (lv := [some (.ref q0), some (.int x1)]) (by decide) (Nat.le_of_ble_eq_true rfl) rfl (fun p e s m args below meth c => ?_)
  refine g_aload_n d_Me_putOff_0 rfl ?_
  obtain ⟨z_1, H⟩ := H
  refine g_getI d_Me_putOff_1 f_Me_68 z_1 ?_
  refine g_iconst (v := 1) d_Me_putOff_4 (by decide) ?_
  obtain ⟨H1, H2⟩ := H
  refine g_icmp_ne (tgt := 18) d_Me_putOff_5 (by decide) (fun c_2 => ?_) (fun c_2 => ?_)
  · have H := H1 c_2
    refine g_aload_n d_Me_putOff_18 rfl ?_
    refine g_getI d_Me_putOff_19 f_Me_68 z_1 ?_
    refine g_iconst (v := 2) d_Me_putOff_22 (by decide) ?_
    obtain ⟨H1, H2⟩ := H
    refine g_icmp_ne (tgt := 36) d_Me_putOff_23 (by decide) (fun c_3 => ?_) (fun c_3 => ?_)
    · have H := H1 c_3
      refine g_aload_n d_Me_putOff_36 rfl ?_
      refine g_iload_n d_Me_putOff_37 rfl ?_
      refine g_bipush (v := 16) d_Me_putOff_38 (by decide) ?_
      refine g_iadd d_Me_putOff_40 ?_
      refine g_putI d_Me_putOff_41 f_Me_39 (fo_6_4 _) z_1 ?_
      refine g_msk [true, true] ?_
      exact okJ_Me_putOff_44 H
    · have H := H2 c_3
      refine g_aload_n d_Me_putOff_26 rfl ?_
      refine g_iload_n d_Me_putOff_27 rfl ?_
      refine g_iconst (v := 4) d_Me_putOff_28 (by decide) ?_
      refine g_iadd d_Me_putOff_29 ?_
      refine g_putI d_Me_putOff_30 f_Me_39 (fo_6_4 _) z_1 ?_
      refine g_goto (tgt := 44) d_Me_putOff_33 (by decide) ?_
      refine g_msk [true, true] ?_
      exact okJ_Me_putOff_44 H
  · have H := H2 c_2
    refine g_aload_n d_Me_putOff_8 rfl ?_
    refine g_iload_n d_Me_putOff_9 rfl ?_
    refine g_iconst (v := 1) d_Me_putOff_10 (by decide) ?_
    refine g_iadd d_Me_putOff_11 ?_
    refine g_putI d_Me_putOff_12 f_Me_39 (fo_6_4 _) z_1 ?_
    refine g_goto (tgt := 44) d_Me_putOff_15 (by decide) ?_
    refine g_msk [true, true] ?_
    exact okJ_Me_putOff_44 H
set_option maxRecDepth 100000 in
set_option maxHeartbeats 4000000 in
def wJ_Me_asDeliver_51 (G : Gx) (l : Launch) (d w mc ms : Nat) (P : Option Nat → Hp → Prop) (q0 : Nat) (x1 : Int32) (q2 : Nat) (sx0 : Int32) (sx1 : Int32) (sq2 : Nat) (h : Hp) (k n : Nat) : Prop := (hS h sq2 = some (15, 0)) ∧ (∃ P_2 : Hp → Prop, (Cv G l M_Ro_put (d + 1) (w + 21) [.ref sq2, .int (sx1 + sx0)] h 0 0 P_2) ∧ ((k ≤ mc ∧ n ≤ ms) ∧ (∀ h_4 : Hp, P_2 h_4 → (hS h_4 q0 = some (16, 0)) ∧ ((hS h_4 q2 = some (15, 0)) ∧ (∃ P_11 : Hp → Prop, (Cv G l M_Ro_putAddress (d + 3) (w + 70) [.ref q2, .long (hL h_4 q0 2)] h_4 0 0 P_11) ∧ ((k ≤ mc ∧ n ≤ ms) ∧ (∀ h_13 : Hp, P_11 h_13 → (hS h_13 q2 = some (15, 0)) ∧ (∃ P_19 : Hp → Prop, (Cv G l M_Ro_put (d + 1) (w + 21) [.ref q2, .int 0] h_13 0 0 P_19) ∧ ((k ≤ mc ∧ n ≤ ms) ∧ (∀ h_21 : Hp, P_19 h_21 → (hS h_21 q2 = some (15, 0)) ∧ (∃ P_27 : Hp → Prop, (Cv G l M_Ro_put (d + 1) (w + 21) [.ref q2, .int 0] h_21 0 0 P_27) ∧ ((k ≤ mc ∧ n ≤ ms) ∧ (∀ h_29 : Hp, P_27 h_29 → (hS h_29 q0 = some (16, 0)) ∧ ((hS h_29 q2 = some (15, 0)) ∧ (∃ P_36 : Hp → Prop, (Cv G l M_Ro_putTime (d + 3) (w + 70) [.ref q2, .int (hI h_29 q0 3)] h_29 0 0 P_36) ∧ ((k ≤ mc ∧ n ≤ ms) ∧ (∀ h_38 : Hp, P_36 h_38 → (hS h_38 q0 = some (16, 0)) ∧ (∃ q_44 : Nat, (hR h_38 q0 0) = some q_44 ∧ ((hS h_38 q2 = some (15, 0)) ∧ (∃ P_47 : Hp → Prop, (Cv G l M_Ro_putRest (d + 2) (w + 42) [.ref q2, .ref q_44, .int x1] h_38 0 0 P_47) ∧ ((k ≤ mc ∧ n ≤ ms) ∧ (∀ h_49 : Hp, P_47 h_49 → (k ≤ mc ∧ n ≤ ms) ∧ (P (some q2) h_49)))))))))))))))))))))))
set_option maxRecDepth 100000 in
set_option maxHeartbeats 4000000 in
theorem okJ_Me_asDeliver_51 {G : Gx} {l : Launch} {d w : Nat} {mc ms : Nat} {P : Option Nat → Hp → Prop} {p : Program} {e : Env} {s : State} {m : MethodId} {args : Array Value} {below : List Frame} {meth : Method} {c : Code} {q0 : Nat} {x1 : Int32} {q2 : Nat} {sx0 : Int32} {sx1 : Int32} {sq2 : Nat} {h : Hp} {k n : Nat} (H : wJ_Me_asDeliver_51 G l d w mc ms P  q0 x1 q2 sx0 sx1 sq2 h k n) : Go M_Me_asDeliver (mkX G (fun r h' => ∃ x, r = some (va_rf x) ∧ P x h') (d + 4) (w + 93) mc ms p l e s m args below meth c) 51 [some (.ref q0), some (.int x1), some (.ref q2)] [.int sx0, .int sx1, .ref sq2] h k n := by
  unfold wJ_Me_asDeliver_51 at H
  refine g_iadd d_Me_asDeliver_51 ?_
  obtain ⟨z_1, H⟩ := H
  obtain ⟨P_2, C_3, H⟩ := H
  obtain ⟨b_7, H⟩ := H
  refine q_V (As := [.int (sx1 + sx0)]) (st := []) (nl := 2) d_Me_asDeliver_52 v_Me_85 C_3 z_1 rfl (catS_le (Nat.le_of_ble_eq_true rfl)) rfl ⟨by omega, by omega, b_7.1, b_7.2⟩ (fun r_8 h_4 p_5 => ?_)
  obtain ⟨rfl, p_5⟩ := p_5
  replace H := H h_4 p_5
  show Go _ _ _ _ [] _ _ _
  refine g_aload_n d_Me_asDeliver_55 rfl ?_
  refine g_aload_n d_Me_asDeliver_56 rfl ?_
  obtain ⟨z_9, H⟩ := H
  refine g_getJ d_Me_asDeliver_57 f_Me_32 z_9 ?_
  obtain ⟨z_10, H⟩ := H
  obtain ⟨P_11, C_12, H⟩ := H
  obtain ⟨b_16, H⟩ := H
  refine q_V (As := [.long (hL h_4 q0 2)]) (st := []) (nl := 4) d_Me_asDeliver_60 v_Me_89 C_12 z_10 rfl (catS_le (Nat.le_of_ble_eq_true rfl)) rfl ⟨by omega, by omega, b_16.1, b_16.2⟩ (fun r_17 h_13 p_14 => ?_)
  obtain ⟨rfl, p_14⟩ := p_14
  replace H := H h_13 p_14
  show Go _ _ _ _ [] _ _ _
  refine g_aload_n d_Me_asDeliver_63 rfl ?_
  refine g_iconst (v := 0) d_Me_asDeliver_64 (by decide) ?_
  obtain ⟨z_18, H⟩ := H
  obtain ⟨P_19, C_20, H⟩ := H
  obtain ⟨b_24, H⟩ := H
  refine q_V (As := [.int 0]) (st := []) (nl := 2) d_Me_asDeliver_65 v_Me_85 C_20 z_18 rfl (catS_le (Nat.le_of_ble_eq_true rfl)) rfl ⟨by omega, by omega, b_24.1, b_24.2⟩ (fun r_25 h_21 p_22 => ?_)
  obtain ⟨rfl, p_22⟩ := p_22
  replace H := H h_21 p_22
  show Go _ _ _ _ [] _ _ _
  refine g_aload_n d_Me_asDeliver_68 rfl ?_
  refine g_iconst (v := 0) d_Me_asDeliver_69 (by decide) ?_
  obtain ⟨z_26, H⟩ := H
  obtain ⟨P_27, C_28, H⟩ := H
  obtain ⟨b_32, H⟩ := H
  refine q_V (As := [.int 0]) (st := []) (nl := 2) d_Me_asDeliver_70 v_Me_85 C_28 z_26 rfl (catS_le (Nat.le_of_ble_eq_true rfl)) rfl ⟨by omega, by omega, b_32.1, b_32.2⟩ (fun r_33 h_29 p_30 => ?_)
  obtain ⟨rfl, p_30⟩ := p_30
  replace H := H h_29 p_30
  show Go _ _ _ _ [] _ _ _
  refine g_aload_n d_Me_asDeliver_73 rfl ?_
  refine g_aload_n d_Me_asDeliver_74 rfl ?_
  obtain ⟨z_34, H⟩ := H
  refine g_getI d_Me_asDeliver_75 f_Me_35 z_34 ?_
  obtain ⟨z_35, H⟩ := H
  obtain ⟨P_36, C_37, H⟩ := H
  obtain ⟨b_41, H⟩ := H
  refine q_V (As := [.int (hI h_29 q0 3)]) (st := []) (nl := 2) d_Me_asDeliver_78 v_Me_93 C_37 z_35 rfl (catS_le (Nat.le_of_ble_eq_true rfl)) rfl ⟨by omega, by omega, b_41.1, b_41.2⟩ (fun r_42 h_38 p_39 => ?_)
  obtain ⟨rfl, p_39⟩ := p_39
  replace H := H h_38 p_39
  show Go _ _ _ _ [] _ _ _
  refine g_aload_n d_Me_asDeliver_81 rfl ?_
  refine g_aload_n d_Me_asDeliver_82 rfl ?_
  obtain ⟨z_43, H⟩ := H
  refine g_getR d_Me_asDeliver_83 f_Me_18 z_43 (by decide) ?_
  refine g_iload_n d_Me_asDeliver_86 rfl ?_
  obtain ⟨q_44, e_45, H⟩ := H
  show Go _ _ _ [some (.ref q0), some (.int x1), some (.ref q2)] [.int x1, va_rf (hR h_38 q0 0), .ref q2] _ _ _
  rw [show va_rf (hR h_38 q0 0) = Value.ref q_44 from by rw [e_45]; rfl]
  obtain ⟨z_46, H⟩ := H
  obtain ⟨P_47, C_48, H⟩ := H
  obtain ⟨b_52, H⟩ := H
  refine q_V (As := [.ref q_44, .int x1]) (st := []) (nl := 4) d_Me_asDeliver_87 v_Me_96 C_48 z_46 rfl (catS_le (Nat.le_of_ble_eq_true rfl)) rfl ⟨by omega, by omega, b_52.1, b_52.2⟩ (fun r_53 h_49 p_50 => ?_)
  obtain ⟨rfl, p_50⟩ := p_50
  replace H := H h_49 p_50
  show Go _ _ _ _ [] _ _ _
  refine g_aload_n d_Me_asDeliver_90 rfl ?_
  obtain ⟨b_54, H⟩ := H
  exact g_areturn (x := (some q2)) d_Me_asDeliver_91 rfl (Or.inl ⟨_, rfl⟩) b_54.1 b_54.2 ⟨_, rfl, H⟩
set_option maxRecDepth 100000 in
set_option maxHeartbeats 4000000 in
def wp_Me_asDeliver (G : Gx) (l : Launch) (d w mc ms : Nat) (P : Option Nat → Hp → Prop) (q0 : Nat) (h : Hp) : Prop := (hS h q0 = some (16, 0)) ∧ (∃ q_56 : Nat, (hR h q0 0) = some q_56 ∧ ((hS h q_56 = some (15, 0)) ∧ (∃ P_59 : Int32 → Hp → Prop, (Ci G l M_Ro_submitDataAt (d + 2) (w + 42) [.ref q_56] h 0 0 P_59) ∧ ((0 ≤ mc ∧ 0 ≤ ms) ∧ (∀ (x_63 : Int32) (h_61 : Hp), P_59 x_63 h_61 → (0 + 1 ≤ mc ∧ 0 + 3 ≤ ms) ∧ (∀ q_66 : Nat, Fre h_61 q_66 → (hS (pN h_61 q_66 (15, 0)) q0 = some (16, 0)) ∧ (∃ q_70 : Nat, (hR h_61 q0 0) = some q_70 ∧ ((hS (pN h_61 q_66 (15, 0)) q_70 = some (15, 0)) ∧ (∃ P_73 : Int32 → Hp → Prop, (Ci G l M_Ro_size (d + 0) (w + 0) [.ref q_70] (pN h_61 q_66 (15, 0)) 0 0 P_73) ∧ (((0 + 1) ≤ mc ∧ (0 + 3) ≤ ms) ∧ (∀ (x_77 : Int32) (h_75 : Hp), P_73 x_77 h_75 → ∃ P_80 : Int32 → Hp → Prop, (Ci G l M_Ro_deliverSize (d + 1) (w + 24) [.long (hL h_61 q0 2), .int (x_77 - x_63)] h_75 0 0 P_80) ∧ (((0 + 1) ≤ mc ∧ (0 + 3) ≤ ms) ∧ (∀ (x_84 : Int32) (h_82 : Hp), P_80 x_84 h_82 → ∃ mc_92 : Nat, ∃ ms_93 : Nat, ∃ P_87 : Hp → Prop, (Cv G l M_Ro_init (d + 1) (w + 20) [.ref q_66, .int x_84, .null] h_82 mc_92 ms_93 P_87) ∧ (((0 + 1) + mc_92 ≤ mc ∧ (0 + 3) + ms_93 ≤ ms) ∧ (∀ h_89 : Hp, P_87 h_89 → (hS h_89 q0 = some (16, 0)) ∧ (∃ q_97 : Nat, (hR h_89 q0 0) = some q_97 ∧ ((hS h_89 q_97 = some (15, 0)) ∧ (∃ P_100 : Int32 → Hp → Prop, (Ci G l M_Ro_hasHeader (d + 2) (w + 42) [.ref q_97] h_89 0 0 P_100) ∧ ((((0 + 1) + mc_92) ≤ mc ∧ ((0 + 3) + ms_93) ≤ ms) ∧ (∀ (x_104 : Int32) (h_102 : Hp), P_100 x_104 h_102 → (x_104 = 0 → wJ_Me_asDeliver_51 G l d w mc ms P q0 x_63 q_66 0 4 q_66 h_102 ((0 + 1) + mc_92) ((0 + 3) + ms_93)) ∧ (¬ x_104 = 0 → wJ_Me_asDeliver_51 G l d w mc ms P q0 x_63 q_66 64 4 q_66 h_102 ((0 + 1) + mc_92) ((0 + 3) + ms_93))))))))))))))))))))))
set_option maxRecDepth 100000 in
set_option maxHeartbeats 4000000 in
theorem ok_Me_asDeliver {G : Gx} {l : Launch} {d w : Nat} {mc ms : Nat} {P : Option Nat → Hp → Prop} {q0 : Nat} {h : Hp} (H : wp_Me_asDeliver G l d w mc ms P q0 h) : Cr G l M_Me_asDeliver (d + 4) (w + 93) [.ref q0] h mc ms P := by
  unfold wp_Me_asDeliver at H
  refine Ct.of (lv := [some (.ref q0), none, none]) (by decide) (Nat.le_of_ble_eq_true rfl) rfl (fun p e s m args below meth c => ?_)
  refine g_aload_n d_Me_asDeliver_0 rfl ?_
  obtain ⟨z_55, H⟩ := H
  refine g_getR d_Me_asDeliver_1 f_Me_18 z_55 (by decide) ?_
  obtain ⟨q_56, e_57, H⟩ := H
  refine g_eqr e_57 ?_
  obtain ⟨z_58, H⟩ := H
  obtain ⟨P_59, C_60, H⟩ := H
  obtain ⟨b_64, H⟩ := H
  refine q_V (As := []) (st := []) (nl := 1) d_Me_asDeliver_4 v_Me_51 C_60 z_58 rfl (catS_le (Nat.le_of_ble_eq_true rfl)) rfl ⟨by omega, by omega, b_64.1, b_64.2⟩ (fun r_65 h_61 p_62 => ?_)
  obtain ⟨x_63, rfl, p_62⟩ := p_62
  replace H := H x_63 h_61 p_62
  show Go _ _ _ _ [.int x_63] _ _ _
  refine g_istore_n (lv' := [some (.ref q0), some (.int x_63), none]) d_Me_asDeliver_7 (by decide) rfl ?_
  obtain ⟨b_67, H⟩ := H
  refine g_new d_Me_asDeliver_8 (ci := 5) rfl k_Me_42 kI_5 kJ_5 b_67.1 b_67.2 (fun q_66 Fq_66 => ?_)
  replace H := H q_66 Fq_66
  have z_68 : hS (pN h_61 q_66 (15, 0)) q_66 = some (15, 0) := Fre.new
  refine g_dup d_Me_asDeliver_11 rfl ?_
  refine g_aload_n d_Me_asDeliver_12 rfl ?_
  obtain ⟨z_69, H⟩ := H
  refine g_getJ d_Me_asDeliver_13 f_Me_32 z_69 ?_
  refine g_aload_n d_Me_asDeliver_16 rfl ?_
  refine g_getR d_Me_asDeliver_17 f_Me_18 z_69 (by decide) ?_
  obtain ⟨q_70, e_71, H⟩ := H
  refine g_eqr e_71 ?_
  obtain ⟨z_72, H⟩ := H
  obtain ⟨P_73, C_74, H⟩ := H
  obtain ⟨b_78, H⟩ := H
  refine q_V (As := []) (st := [.long (hL h_61 q0 2), .ref q_66, .ref q_66]) (nl := 1) d_Me_asDeliver_20 v_Me_71 C_74 z_72 rfl (catS_le (Nat.le_of_ble_eq_true rfl)) rfl ⟨by omega, by omega, b_78.1, b_78.2⟩ (fun r_79 h_75 p_76 => ?_)
  obtain ⟨x_77, rfl, p_76⟩ := p_76
  replace H := H x_77 h_75 p_76
  show Go _ _ _ _ [.int x_77, .long (hL h_61 q0 2), .ref q_66, .ref q_66] _ _ _
  refine g_iload_n d_Me_asDeliver_23 rfl ?_
  refine g_isub d_Me_asDeliver_24 ?_
  obtain ⟨P_80, C_81, H⟩ := H
  obtain ⟨b_85, H⟩ := H
  refine q_S (As := [.long (hL h_61 q0 2), .int (x_77 - x_63)]) (st := [.ref q_66, .ref q_66]) (nl := 3) d_Me_asDeliver_25 v_Me_74 C_81 rfl (catS_le (Nat.le_of_ble_eq_true rfl)) rfl ⟨by omega, by omega, b_85.1, b_85.2⟩ (fun r_86 h_82 p_83 => ?_)
  obtain ⟨x_84, rfl, p_83⟩ := p_83
  replace H := H x_84 h_82 p_83
  show Go _ _ _ _ [.int x_84, .ref q_66, .ref q_66] _ _ _
  refine g_null d_Me_asDeliver_28 ?_
  obtain ⟨mc_92, H⟩ := H
  obtain ⟨ms_93, H⟩ := H
  obtain ⟨P_87, C_88, H⟩ := H
  obtain ⟨b_94, H⟩ := H
  refine q_I (As := [.int x_84, .null]) (st := [.ref q_66]) (nl := 3) d_Me_asDeliver_29 v_Me_78 C_88 rfl (catS_le (Nat.le_of_ble_eq_true rfl)) rfl ⟨by omega, by omega, b_94.1, b_94.2⟩ (fun r_95 h_89 p_90 => ?_)
  obtain ⟨rfl, p_90⟩ := p_90
  replace H := H h_89 p_90
  show Go _ _ _ _ [.ref q_66] _ _ _
  refine g_astore_n (lv' := [some (.ref q0), some (.int x_63), some (.ref q_66)]) d_Me_asDeliver_32 (by decide) rfl ?_
  refine g_aload_n d_Me_asDeliver_33 rfl ?_
  refine g_iconst (v := 4) d_Me_asDeliver_34 (by decide) ?_
  refine g_aload_n d_Me_asDeliver_35 rfl ?_
  obtain ⟨z_96, H⟩ := H
  refine g_getR d_Me_asDeliver_36 f_Me_18 z_96 (by decide) ?_
  obtain ⟨q_97, e_98, H⟩ := H
  refine g_eqr e_98 ?_
  obtain ⟨z_99, H⟩ := H
  obtain ⟨P_100, C_101, H⟩ := H
  obtain ⟨b_105, H⟩ := H
  refine q_V (As := []) (st := [.int 4, .ref q_66]) (nl := 1) d_Me_asDeliver_39 v_Me_81 C_101 z_99 rfl (catS_le (Nat.le_of_ble_eq_true rfl)) rfl ⟨by omega, by omega, b_105.1, b_105.2⟩ (fun r_106 h_102 p_103 => ?_)
  obtain ⟨x_104, rfl, p_103⟩ := p_103
  replace H := H x_104 h_102 p_103
  show Go _ _ _ _ [.int x_104, .int 4, .ref q_66] _ _ _
  obtain ⟨H1, H2⟩ := H
  refine g_if_eq (tgt := 50) d_Me_asDeliver_42 (by decide) (fun c_107 => ?_) (fun c_107 => ?_)
  · have H := H1 c_107
    refine g_iconst (v := 0) d_Me_asDeliver_50 (by decide) ?_
    refine g_msk [true, true, true] ?_
    exact okJ_Me_asDeliver_51 H
  · have H := H2 c_107
    refine g_bipush (v := 64) d_Me_asDeliver_45 (by decide) ?_
    refine g_goto (tgt := 51) d_Me_asDeliver_47 (by decide) ?_
    refine g_msk [true, true, true] ?_
    exact okJ_Me_asDeliver_51 H
set_option maxRecDepth 100000 in
set_option maxHeartbeats 4000000 in
def wJ_Me_fileReport_27 (G : Gx) (l : Launch) (d w mc ms : Nat) (P : Hp → Prop) (q0 : Nat) (x1 : Int32) (h : Hp) (k n : Nat) : Prop := (k ≤ mc ∧ n ≤ ms) ∧ (P h)
set_option maxRecDepth 100000 in
set_option maxHeartbeats 4000000 in
theorem okJ_Me_fileReport_27 {G : Gx} {l : Launch} {d w : Nat} {mc ms : Nat} {P : Hp → Prop} {p : Program} {e : Env} {s : State} {m : MethodId} {args : Array Value} {below : List Frame} {meth : Method} {c : Code} {q0 : Nat} {x1 : Int32} {h : Hp} {k n : Nat} (H : wJ_Me_fileReport_27 G l d w mc ms P  q0 x1 h k n) : Go M_Me_fileReport (mkX G (fun r h' => r = none ∧ P h') (d + 8) (w + 183) mc ms p l e s m args below meth c) 27 [some (.ref q0), some (.int x1), none] [] h k n := by
  unfold wJ_Me_fileReport_27 at H
  obtain ⟨b_1, H⟩ := H
  exact g_return d_Me_fileReport_27 rfl b_1.1 b_1.2 ⟨rfl, H⟩
set_option maxRecDepth 100000 in
set_option maxHeartbeats 4000000 in
def wp_Me_fileReport (G : Gx) (l : Launch) (d w mc ms : Nat) (P : Hp → Prop) (q0 : Nat) (x1 : Int32) (h : Hp) : Prop := (hS h q0 = some (16, 0)) ∧ (∃ q_3 : Nat, (hR h q0 0) = some q_3 ∧ ((hS h q_3 = some (15, 0)) ∧ (∃ P_6 : Int32 → Hp → Prop, (Ci G l M_Ro_at (d + 1) (w + 21) [.ref q_3, .int 0] h 0 0 P_6) ∧ ((0 ≤ mc ∧ 0 ≤ ms) ∧ (∀ (x_10 : Int32) (h_8 : Hp), P_6 x_10 h_8 → ((x_10 &&& 32) = 0 → wJ_Me_fileReport_27 G l d w mc ms P q0 x1 h_8 0 0) ∧ (¬ (x_10 &&& 32) = 0 → (hS h_8 q0 = some (16, 0)) ∧ (∃ q_15 : Nat, (hR h_8 q0 1) = some q_15 ∧ ((hS h_8 q_15 = some (14, 0)) ∧ (∃ q_18 : Nat, (hR h_8 q_15 3) = some q_18 ∧ ((hS h_8 q_18 = some (11, 0)) ∧ (∃ P_21 : Int32 → Hp → Prop, (Ci G l M_Li_room (d + 1) (w + 20) [.ref q_18] h_8 0 0 P_21) ∧ ((0 ≤ mc ∧ 0 ≤ ms) ∧ (∀ (x_25 : Int32) (h_23 : Hp), P_21 x_25 h_23 → (¬ x_25 = 0 → (0 + 1 ≤ mc ∧ 0 + 3 ≤ ms) ∧ (∀ q_29 : Nat, Fre h_23 q_29 → (hS (pN h_23 q_29 (15, 0)) q0 = some (16, 0)) ∧ (∃ P_33 : Int32 → Hp → Prop, (Ci G l M_Ro_reportSize (d + 1) (w + 24) [.long (hL h_23 q0 5)] (pN h_23 q_29 (15, 0)) 0 0 P_33) ∧ (((0 + 1) ≤ mc ∧ (0 + 3) ≤ ms) ∧ (∀ (x_37 : Int32) (h_35 : Hp), P_33 x_37 h_35 → ∃ mc_45 : Nat, ∃ ms_46 : Nat, ∃ P_40 : Hp → Prop, (Cv G l M_Ro_init (d + 1) (w + 20) [.ref q_29, .int x_37, .null] h_35 mc_45 ms_46 P_40) ∧ (((0 + 1) + mc_45 ≤ mc ∧ (0 + 3) + ms_46 ≤ ms) ∧ (∀ h_42 : Hp, P_40 h_42 → (hS h_42 q_29 = some (15, 0)) ∧ (∃ P_50 : Hp → Prop, (Cv G l M_Ro_put (d + 1) (w + 21) [.ref q_29, .int 2] h_42 0 0 P_50) ∧ ((((0 + 1) + mc_45) ≤ mc ∧ ((0 + 3) + ms_46) ≤ ms) ∧ (∀ h_52 : Hp, P_50 h_52 → (hS h_52 q0 = some (16, 0)) ∧ (∃ q_58 : Nat, (hR h_52 q0 0) = some q_58 ∧ ((hS h_52 q_58 = some (15, 0)) ∧ (∃ P_61 : Int32 → Hp → Prop, (Ci G l M_Ro_at (d + 1) (w + 21) [.ref q_58, .int 1] h_52 0 0 P_61) ∧ ((((0 + 1) + mc_45) ≤ mc ∧ ((0 + 3) + ms_46) ≤ ms) ∧ (∀ (x_65 : Int32) (h_63 : Hp), P_61 x_65 h_63 → (hS h_63 q_29 = some (15, 0)) ∧ (∃ P_69 : Hp → Prop, (Cv G l M_Ro_put (d + 1) (w + 21) [.ref q_29, .int x_65] h_63 0 0 P_69) ∧ ((((0 + 1) + mc_45) ≤ mc ∧ ((0 + 3) + ms_46) ≤ ms) ∧ (∀ h_71 : Hp, P_69 h_71 → (hS h_71 q0 = some (16, 0)) ∧ ((hS h_71 q_29 = some (15, 0)) ∧ (∃ P_78 : Hp → Prop, (Cv G l M_Ro_putAddress (d + 3) (w + 70) [.ref q_29, .long (hL h_71 q0 5)] h_71 0 0 P_78) ∧ ((((0 + 1) + mc_45) ≤ mc ∧ ((0 + 3) + ms_46) ≤ ms) ∧ (∀ h_80 : Hp, P_78 h_80 → (hS h_80 q0 = some (16, 0)) ∧ ((hS h_80 q_29 = some (15, 0)) ∧ (∃ P_87 : Hp → Prop, (Cv G l M_Ro_putTime (d + 3) (w + 70) [.ref q_29, .int (hI h_80 q0 3)] h_80 0 0 P_87) ∧ ((((0 + 1) + mc_45) ≤ mc ∧ ((0 + 3) + ms_46) ≤ ms) ∧ (∀ h_89 : Hp, P_87 h_89 → (hS h_89 q_29 = some (15, 0)) ∧ (∃ P_95 : Hp → Prop, (Cv G l M_Ro_putTime (d + 3) (w + 70) [.ref q_29, .int x1] h_89 0 0 P_95) ∧ ((((0 + 1) + mc_45) ≤ mc ∧ ((0 + 3) + ms_46) ≤ ms) ∧ (∀ h_97 : Hp, P_95 h_97 → (hS h_97 q0 = some (16, 0)) ∧ (∃ t_103 : Nat, ((hR h_97 q0 8) = some (gK G t_103) ∧ 4 ≤ t_103 ∧ t_103 ≤ 7) ∧ ((hS h_97 q_29 = some (15, 0)) ∧ (∃ P_106 : Hp → Prop, (Cv G l M_Ro_put (d + 1) (w + 21) [.ref q_29, .int (fateR t_103)] h_97 0 0 P_106) ∧ ((((0 + 1) + mc_45) ≤ mc ∧ ((0 + 3) + ms_46) ≤ ms) ∧ (∀ h_108 : Hp, P_106 h_108 → (hS h_108 q0 = some (16, 0)) ∧ (∃ q_114 : Nat, (hR h_108 q0 1) = some q_114 ∧ ((hS h_108 q_114 = some (14, 0)) ∧ (∃ q_117 : Nat, (hR h_108 q_114 3) = some q_117 ∧ ((hS h_108 q_117 = some (11, 0)) ∧ (∃ mc_125 : Nat, ∃ ms_126 : Nat, ∃ P_120 : Hp → Prop, (Cv G l M_Li_append (d + 7) (w + 162) [.ref q_117, .ref q_29] h_108 mc_125 ms_126 P_120) ∧ ((((0 + 1) + mc_45) + mc_125 ≤ mc ∧ ((0 + 3) + ms_46) + ms_126 ≤ ms) ∧ (∀ h_122 : Hp, P_120 h_122 → ((((0 + 1) + mc_45) + mc_125) ≤ mc ∧ (((0 + 3) + ms_46) + ms_126) ≤ ms) ∧ (P h_122)))))))))))))))))))))))))))))))))))))))))) ∧ (x_25 = 0 → wJ_Me_fileReport_27 G l d w mc ms P q0 x1 h_23 0 0))))))))))))))
set_option maxRecDepth 100000 in
set_option maxHeartbeats 4000000 in
theorem ok_Me_fileReport {G : Gx} {l : Launch} {d w : Nat} {mc ms : Nat} {P : Hp → Prop} {q0 : Nat} {x1 : Int32} {h : Hp} (H : wp_Me_fileReport G l d w mc ms P q0 x1 h) : Cv G l M_Me_fileReport (d + 8) (w + 183) [.ref q0, .int x1] h mc ms P := by
  unfold wp_Me_fileReport at H
  refine Ct.of (lv := [some (.ref q0), some (.int x1), none]) (by decide) (Nat.le_of_ble_eq_true rfl) rfl (fun p e s m args below meth c => ?_)
  refine g_aload_n d_Me_fileReport_0 rfl ?_
  obtain ⟨z_2, H⟩ := H
  refine g_getR d_Me_fileReport_1 f_Me_18 z_2 (by decide) ?_
  refine g_iconst (v := 0) d_Me_fileReport_4 (by decide) ?_
  obtain ⟨q_3, e_4, H⟩ := H
  show Go _ _ _ [some (.ref q0), some (.int x1), none] [.int 0, va_rf (hR h q0 0)] _ _ _
  rw [show va_rf (hR h q0 0) = Value.ref q_3 from by rw [e_4]; rfl]
  obtain ⟨z_5, H⟩ := H
  obtain ⟨P_6, C_7, H⟩ := H
  obtain ⟨b_11, H⟩ := H
  refine q_V (As := [.int 0]) (st := []) (nl := 2) d_Me_fileReport_5 v_Me_55 C_7 z_5 rfl (catS_le (Nat.le_of_ble_eq_true rfl)) rfl ⟨by omega, by omega, b_11.1, b_11.2⟩ (fun r_12 h_8 p_9 => ?_)
  obtain ⟨x_10, rfl, p_9⟩ := p_9
  replace H := H x_10 h_8 p_9
  show Go _ _ _ _ [.int x_10] _ _ _
  refine g_bipush (v := 32) d_Me_fileReport_8 (by decide) ?_
  refine g_iand d_Me_fileReport_10 ?_
  obtain ⟨H1, H2⟩ := H
  refine g_if_eq (tgt := 27) d_Me_fileReport_11 (by decide) (fun c_13 => ?_) (fun c_13 => ?_)
  · have H := H1 c_13
    refine g_msk [true, true, false] ?_
    exact okJ_Me_fileReport_27 H
  · have H := H2 c_13
    refine g_aload_n d_Me_fileReport_14 rfl ?_
    obtain ⟨z_14, H⟩ := H
    refine g_getR d_Me_fileReport_15 f_Me_22 z_14 (by decide) ?_
    obtain ⟨q_15, e_16, H⟩ := H
    refine g_eqr e_16 ?_
    obtain ⟨z_17, H⟩ := H
    refine g_getR d_Me_fileReport_18 f_Me_100 z_17 (by decide) ?_
    obtain ⟨q_18, e_19, H⟩ := H
    refine g_eqr e_19 ?_
    obtain ⟨z_20, H⟩ := H
    obtain ⟨P_21, C_22, H⟩ := H
    obtain ⟨b_26, H⟩ := H
    refine q_V (As := []) (st := []) (nl := 1) d_Me_fileReport_21 v_Me_104 C_22 z_20 rfl (catS_le (Nat.le_of_ble_eq_true rfl)) rfl ⟨by omega, by omega, b_26.1, b_26.2⟩ (fun r_27 h_23 p_24 => ?_)
    obtain ⟨x_25, rfl, p_24⟩ := p_24
    replace H := H x_25 h_23 p_24
    show Go _ _ _ _ [.int x_25] _ _ _
    obtain ⟨H1, H2⟩ := H
    refine g_if_ne (tgt := 28) d_Me_fileReport_24 (by decide) (fun c_28 => ?_) (fun c_28 => ?_)
    · have H := H1 c_28
      obtain ⟨b_30, H⟩ := H
      refine g_new d_Me_fileReport_28 (ci := 5) rfl k_Me_42 kI_5 kJ_5 b_30.1 b_30.2 (fun q_29 Fq_29 => ?_)
      replace H := H q_29 Fq_29
      have z_31 : hS (pN h_23 q_29 (15, 0)) q_29 = some (15, 0) := Fre.new
      refine g_dup d_Me_fileReport_31 rfl ?_
      refine g_aload_n d_Me_fileReport_32 rfl ?_
      obtain ⟨z_32, H⟩ := H
      refine g_getJ d_Me_fileReport_33 f_Me_48 z_32 ?_
      obtain ⟨P_33, C_34, H⟩ := H
      obtain ⟨b_38, H⟩ := H
      refine q_S (As := [.long (hL h_23 q0 5)]) (st := [.ref q_29, .ref q_29]) (nl := 2) d_Me_fileReport_36 v_Me_109 C_34 rfl (catS_le (Nat.le_of_ble_eq_true rfl)) rfl ⟨by omega, by omega, b_38.1, b_38.2⟩ (fun r_39 h_35 p_36 => ?_)
      obtain ⟨x_37, rfl, p_36⟩ := p_36
      replace H := H x_37 h_35 p_36
      show Go _ _ _ _ [.int x_37, .ref q_29, .ref q_29] _ _ _
      refine g_null d_Me_fileReport_39 ?_
      obtain ⟨mc_45, H⟩ := H
      obtain ⟨ms_46, H⟩ := H
      obtain ⟨P_40, C_41, H⟩ := H
      obtain ⟨b_47, H⟩ := H
      refine q_I (As := [.int x_37, .null]) (st := [.ref q_29]) (nl := 3) d_Me_fileReport_40 v_Me_78 C_41 rfl (catS_le (Nat.le_of_ble_eq_true rfl)) rfl ⟨by omega, by omega, b_47.1, b_47.2⟩ (fun r_48 h_42 p_43 => ?_)
      obtain ⟨rfl, p_43⟩ := p_43
      replace H := H h_42 p_43
      show Go _ _ _ _ [.ref q_29] _ _ _
      refine g_astore_n (lv' := [some (.ref q0), some (.int x1), some (.ref q_29)]) d_Me_fileReport_43 (by decide) rfl ?_
      refine g_aload_n d_Me_fileReport_44 rfl ?_
      refine g_iconst (v := 2) d_Me_fileReport_45 (by decide) ?_
      obtain ⟨z_49, H⟩ := H
      obtain ⟨P_50, C_51, H⟩ := H
      obtain ⟨b_55, H⟩ := H
      refine q_V (As := [.int 2]) (st := []) (nl := 2) d_Me_fileReport_46 v_Me_85 C_51 z_49 rfl (catS_le (Nat.le_of_ble_eq_true rfl)) rfl ⟨by omega, by omega, b_55.1, b_55.2⟩ (fun r_56 h_52 p_53 => ?_)
      obtain ⟨rfl, p_53⟩ := p_53
      replace H := H h_52 p_53
      show Go _ _ _ _ [] _ _ _
      refine g_aload_n d_Me_fileReport_49 rfl ?_
      refine g_aload_n d_Me_fileReport_50 rfl ?_
      obtain ⟨z_57, H⟩ := H
      refine g_getR d_Me_fileReport_51 f_Me_18 z_57 (by decide) ?_
      refine g_iconst (v := 1) d_Me_fileReport_54 (by decide) ?_
      obtain ⟨q_58, e_59, H⟩ := H
      show Go _ _ _ [some (.ref q0), some (.int x1), some (.ref q_29)] [.int 1, va_rf (hR h_52 q0 0), .ref q_29] _ _ _
      rw [show va_rf (hR h_52 q0 0) = Value.ref q_58 from by rw [e_59]; rfl]
      obtain ⟨z_60, H⟩ := H
      obtain ⟨P_61, C_62, H⟩ := H
      obtain ⟨b_66, H⟩ := H
      refine q_V (As := [.int 1]) (st := [.ref q_29]) (nl := 2) d_Me_fileReport_55 v_Me_55 C_62 z_60 rfl (catS_le (Nat.le_of_ble_eq_true rfl)) rfl ⟨by omega, by omega, b_66.1, b_66.2⟩ (fun r_67 h_63 p_64 => ?_)
      obtain ⟨x_65, rfl, p_64⟩ := p_64
      replace H := H x_65 h_63 p_64
      show Go _ _ _ _ [.int x_65, .ref q_29] _ _ _
      obtain ⟨z_68, H⟩ := H
      obtain ⟨P_69, C_70, H⟩ := H
      obtain ⟨b_74, H⟩ := H
      refine q_V (As := [.int x_65]) (st := []) (nl := 2) d_Me_fileReport_58 v_Me_85 C_70 z_68 rfl (catS_le (Nat.le_of_ble_eq_true rfl)) rfl ⟨by omega, by omega, b_74.1, b_74.2⟩ (fun r_75 h_71 p_72 => ?_)
      obtain ⟨rfl, p_72⟩ := p_72
      replace H := H h_71 p_72
      show Go _ _ _ _ [] _ _ _
      refine g_aload_n d_Me_fileReport_61 rfl ?_
      refine g_aload_n d_Me_fileReport_62 rfl ?_
      obtain ⟨z_76, H⟩ := H
      refine g_getJ d_Me_fileReport_63 f_Me_48 z_76 ?_
      obtain ⟨z_77, H⟩ := H
      obtain ⟨P_78, C_79, H⟩ := H
      obtain ⟨b_83, H⟩ := H
      refine q_V (As := [.long (hL h_71 q0 5)]) (st := []) (nl := 4) d_Me_fileReport_66 v_Me_89 C_79 z_77 rfl (catS_le (Nat.le_of_ble_eq_true rfl)) rfl ⟨by omega, by omega, b_83.1, b_83.2⟩ (fun r_84 h_80 p_81 => ?_)
      obtain ⟨rfl, p_81⟩ := p_81
      replace H := H h_80 p_81
      show Go _ _ _ _ [] _ _ _
      refine g_aload_n d_Me_fileReport_69 rfl ?_
      refine g_aload_n d_Me_fileReport_70 rfl ?_
      obtain ⟨z_85, H⟩ := H
      refine g_getI d_Me_fileReport_71 f_Me_35 z_85 ?_
      obtain ⟨z_86, H⟩ := H
      obtain ⟨P_87, C_88, H⟩ := H
      obtain ⟨b_92, H⟩ := H
      refine q_V (As := [.int (hI h_80 q0 3)]) (st := []) (nl := 2) d_Me_fileReport_74 v_Me_93 C_88 z_86 rfl (catS_le (Nat.le_of_ble_eq_true rfl)) rfl ⟨by omega, by omega, b_92.1, b_92.2⟩ (fun r_93 h_89 p_90 => ?_)
      obtain ⟨rfl, p_90⟩ := p_90
      replace H := H h_89 p_90
      show Go _ _ _ _ [] _ _ _
      refine g_aload_n d_Me_fileReport_77 rfl ?_
      refine g_iload_n d_Me_fileReport_78 rfl ?_
      obtain ⟨z_94, H⟩ := H
      obtain ⟨P_95, C_96, H⟩ := H
      obtain ⟨b_100, H⟩ := H
      refine q_V (As := [.int x1]) (st := []) (nl := 2) d_Me_fileReport_79 v_Me_93 C_96 z_94 rfl (catS_le (Nat.le_of_ble_eq_true rfl)) rfl ⟨by omega, by omega, b_100.1, b_100.2⟩ (fun r_101 h_97 p_98 => ?_)
      obtain ⟨rfl, p_98⟩ := p_98
      replace H := H h_97 p_98
      show Go _ _ _ _ [] _ _ _
      refine g_aload_n d_Me_fileReport_82 rfl ?_
      refine g_aload_n d_Me_fileReport_83 rfl ?_
      obtain ⟨z_102, H⟩ := H
      refine g_getR d_Me_fileReport_84 f_Me_13 z_102 (by decide) ?_
      obtain ⟨t_103, e_104, H⟩ := H
      refine g_eqr e_104.1 ?_
      refine g_fateR (t := t_103) d_Me_fileReport_87 f_Me_113 e_104.2 ?_
      obtain ⟨z_105, H⟩ := H
      obtain ⟨P_106, C_107, H⟩ := H
      obtain ⟨b_111, H⟩ := H
      refine q_V (As := [.int (fateR t_103)]) (st := []) (nl := 2) d_Me_fileReport_90 v_Me_85 C_107 z_105 rfl (catS_le (Nat.le_of_ble_eq_true rfl)) rfl ⟨by omega, by omega, b_111.1, b_111.2⟩ (fun r_112 h_108 p_109 => ?_)
      obtain ⟨rfl, p_109⟩ := p_109
      replace H := H h_108 p_109
      show Go _ _ _ _ [] _ _ _
      refine g_aload_n d_Me_fileReport_93 rfl ?_
      obtain ⟨z_113, H⟩ := H
      refine g_getR d_Me_fileReport_94 f_Me_22 z_113 (by decide) ?_
      obtain ⟨q_114, e_115, H⟩ := H
      refine g_eqr e_115 ?_
      obtain ⟨z_116, H⟩ := H
      refine g_getR d_Me_fileReport_97 f_Me_100 z_116 (by decide) ?_
      refine g_aload_n d_Me_fileReport_100 rfl ?_
      obtain ⟨q_117, e_118, H⟩ := H
      show Go _ _ _ [some (.ref q0), some (.int x1), some (.ref q_29)] [.ref q_29, va_rf (hR h_108 q_114 3)] _ _ _
      rw [show va_rf (hR h_108 q_114 3) = Value.ref q_117 from by rw [e_118]; rfl]
      obtain ⟨z_119, H⟩ := H
      obtain ⟨mc_125, H⟩ := H
      obtain ⟨ms_126, H⟩ := H
      obtain ⟨P_120, C_121, H⟩ := H
      obtain ⟨b_127, H⟩ := H
      refine q_V (As := [.ref q_29]) (st := []) (nl := 2) d_Me_fileReport_101 v_Me_116 C_121 z_119 rfl (catS_le (Nat.le_of_ble_eq_true rfl)) rfl ⟨by omega, by omega, b_127.1, b_127.2⟩ (fun r_128 h_122 p_123 => ?_)
      obtain ⟨rfl, p_123⟩ := p_123
      replace H := H h_122 p_123
      show Go _ _ _ _ [] _ _ _
      obtain ⟨b_129, H⟩ := H
      exact g_return d_Me_fileReport_104 rfl b_129.1 b_129.2 ⟨rfl, H⟩
    · have H := H2 c_28
      refine g_msk [true, true, false] ?_
      exact okJ_Me_fileReport_27 H
set_option maxRecDepth 100000 in
set_option maxHeartbeats 4000000 in
def wp_Pi_init (G : Gx) (l : Launch) (d w mc ms : Nat) (P : Hp → Prop) (q0 : Nat) (y1 : Int64) (x3 : Int32) (x4 : Int32) (h : Hp) : Prop := (hS h q0 = some (17, 0)) ∧ (∃ N_4 : Nat, (x4 = nI N_4 ∧ N_4 * 4 ≤ 536870912) ∧ ((0 + 1 ≤ mc ∧ 0 + N_4 ≤ ms) ∧ (∀ q_2 : Nat, Fre (pI (pL h q0 0 y1) q0 1 x3) q_2 → ((0 + 1) ≤ mc ∧ (0 + N_4) ≤ ms) ∧ (P (pI (pR (pN (pI (pL h q0 0 y1) q0 1 x3) q_2 (4, N_4)) q0 2 (some q_2)) q0 3 x4)))))
set_option maxRecDepth 100000 in
set_option maxHeartbeats 4000000 in
theorem ok_Pi_init {G : Gx} {l : Launch} {d w : Nat} {mc ms : Nat} {P : Hp → Prop} {q0 : Nat} {y1 : Int64} {x3 : Int32} {x4 : Int32} {h : Hp} (H : wp_Pi_init G l d w mc ms P q0 y1 x3 x4 h) : Cv G l M_Pi_init (d + 1) (w + 20) [.ref q0, .long y1, .int x3, .int x4] h mc ms P := by
  unfold wp_Pi_init at H
  refine Ct.of (lv := [some (.ref q0), some (.long y1), none, some (.int x3), some (.int x4)]) (by decide) (Nat.le_of_ble_eq_true rfl) rfl (fun p e s m args below meth c => ?_)
  refine g_aload_n d_Pi_init_0 rfl ?_
  refine g_objInit d_Pi_init_1 kx_Pi kx_n kx_c (catS_le (Nat.le_of_ble_eq_true rfl)) ⟨show 1 ≤ d + 1 by omega, show 20 ≤ w + 20 by omega⟩ ?_
  refine g_aload_n d_Pi_init_4 rfl ?_
  refine g_lload_n d_Pi_init_5 rfl ?_
  obtain ⟨z_1, H⟩ := H
  refine g_putJ d_Pi_init_6 f_Pi_7 ⟨_, rfl, Or.inr ⟨rfl, rfl, rfl⟩⟩ z_1 ?_
  refine g_aload_n d_Pi_init_9 rfl ?_
  refine g_iload_n d_Pi_init_10 rfl ?_
  refine g_putI d_Pi_init_11 f_Pi_13 ⟨_, rfl, Or.inr ⟨rfl, rfl, rfl⟩⟩ z_1 ?_
  refine g_aload_n d_Pi_init_14 rfl ?_
  refine g_iload d_Pi_init_15 rfl ?_
  obtain ⟨N_4, H⟩ := H
  obtain ⟨z_5, H⟩ := H
  obtain ⟨b_3, H⟩ := H
  refine g_anew (t := 4) d_Pi_init_17 (by decide) k_Pi_17 kO_4 z_5.1 z_5.2 b_3.1 b_3.2 (fun q_2 Fq_2 => ?_)
  replace H := H q_2 Fq_2
  have z_6 := Fre.old (kd := (4, N_4)) Fq_2 z_1
  have z_7 : hS (pN (pI (pL h q0 0 y1) q0 1 x3) q_2 (4, N_4)) q_2 = some (4, N_4) := Fre.new
  refine g_putR (x := (some q_2)) (ty := .array (.object "SeptetCentre$Row")) d_Pi_init_20 f_Pi_19 ⟨_, rfl, Or.inr ⟨rfl, rfl, rfl⟩⟩ z_6 (by decide) (by decide +kernel) (Or.inr ⟨_, rfl⟩) ?_
  refine g_aload_n d_Pi_init_23 rfl ?_
  refine g_iload d_Pi_init_24 rfl ?_
  refine g_putI d_Pi_init_26 f_Pi_23 (fo_7_3 _) z_6 ?_
  obtain ⟨b_8, H⟩ := H
  exact g_return d_Pi_init_29 rfl b_8.1 b_8.2 ⟨rfl, H⟩
set_option maxRecDepth 100000 in
set_option maxHeartbeats 4000000 in
def wJ_Pi_gathers_32 (G : Gx) (l : Launch) (d w : Nat) (P : Int32 → Hp → Prop) (q0 : Nat) (y1 : Int64) (x3 : Int32) (x4 : Int32) (sx0 : Int32) (h : Hp)  : Prop := (sx0 = 0 ∨ sx0 = 1) ∧ (P sx0 h)
set_option maxRecDepth 100000 in
set_option maxHeartbeats 4000000 in
theorem okJ_Pi_gathers_32 {G : Gx} {l : Launch} {d w : Nat} {P : Int32 → Hp → Prop} {p : Program} {e : Env} {s : State} {m : MethodId} {args : Array Value} {below : List Frame} {meth : Method} {c : Code} {q0 : Nat} {y1 : Int64} {x3 : Int32} {x4 : Int32} {sx0 : Int32} {h : Hp}  (H : wJ_Pi_gathers_32 G l d w P  q0 y1 x3 x4 sx0 h ) : Go M_Pi_gathers (mkX G (fun r h' => ∃ x, r = some (.int x) ∧ P x h') (d + 0) (w + 0) 0 0 p l e s m args below meth c) 32 [some (.ref q0), some (.long y1), none, some (.int x3), some (.int x4)] [.int sx0] h 0 0 := by
  unfold wJ_Pi_gathers_32 at H
  obtain ⟨z_1, H⟩ := H
  exact g_zreturn d_Pi_gathers_32 rfl z_1 (Nat.le_refl _) (Nat.le_refl _) ⟨_, rfl, H⟩
set_option maxRecDepth 100000 in
set_option maxHeartbeats 4000000 in
def wJ_Pi_gathers_31 (G : Gx) (l : Launch) (d w : Nat) (P : Int32 → Hp → Prop) (q0 : Nat) (y1 : Int64) (x3 : Int32) (x4 : Int32) (h : Hp)  : Prop := wJ_Pi_gathers_32 G l d w P q0 y1 x3 x4 0 h
set_option maxRecDepth 100000 in
set_option maxHeartbeats 4000000 in
theorem okJ_Pi_gathers_31 {G : Gx} {l : Launch} {d w : Nat} {P : Int32 → Hp → Prop} {p : Program} {e : Env} {s : State} {m : MethodId} {args : Array Value} {below : List Frame} {meth : Method} {c : Code} {q0 : Nat} {y1 : Int64} {x3 : Int32} {x4 : Int32} {h : Hp}  (H : wJ_Pi_gathers_31 G l d w P  q0 y1 x3 x4 h ) : Go M_Pi_gathers (mkX G (fun r h' => ∃ x, r = some (.int x) ∧ P x h') (d + 0) (w + 0) 0 0 p l e s m args below meth c) 31 [some (.ref q0), some (.long y1), none, some (.int x3), some (.int x4)] [] h 0 0 := by
  unfold wJ_Pi_gathers_31 at H
  refine g_iconst (v := 0) d_Pi_gathers_31 (by decide) ?_
  refine g_msk [true, true, false, true, true] ?_
  exact okJ_Pi_gathers_32 H
set_option maxRecDepth 100000 in
set_option maxHeartbeats 4000000 in
def wp_Pi_gathers (G : Gx) (l : Launch) (d w : Nat) (P : Int32 → Hp → Prop) (q0 : Nat) (y1 : Int64) (x3 : Int32) (x4 : Int32) (h : Hp) : Prop := (hS h q0 = some (17, 0)) ∧ ((¬ (lg_cmp (hL h q0 0) y1) = 0 → wJ_Pi_gathers_31 G l d w P q0 y1 x3 x4 h) ∧ ((lg_cmp (hL h q0 0) y1) = 0 → (¬ (hI h q0 1) = x3 → wJ_Pi_gathers_31 G l d w P q0 y1 x3 x4 h) ∧ ((hI h q0 1) = x3 → ∃ q_5 : Nat, (hR h q0 2) = some q_5 ∧ (∃ N_7 : Nat, (hS h q_5 = some (4, N_7)) ∧ ((¬ (nI N_7) = x4 → wJ_Pi_gathers_31 G l d w P q0 y1 x3 x4 h) ∧ ((nI N_7) = x4 → wJ_Pi_gathers_32 G l d w P q0 y1 x3 x4 1 h))))))
set_option maxRecDepth 100000 in
set_option maxHeartbeats 4000000 in
theorem ok_Pi_gathers {G : Gx} {l : Launch} {d w : Nat} {P : Int32 → Hp → Prop} {q0 : Nat} {y1 : Int64} {x3 : Int32} {x4 : Int32} {h : Hp} (H : wp_Pi_gathers G l d w P q0 y1 x3 x4 h) : Ci G l M_Pi_gathers (d + 0) (w + 0) [.ref q0, .long y1, .int x3, .int x4] h 0 0 P := by
  unfold wp_Pi_gathers at H
  refine Ct.of (lv := [some (.ref q0), some (.long y1), none, some (.int x3), some (.int x4)]) (by decide) (Nat.le_of_ble_eq_true rfl) rfl (fun p e s m args below meth c => ?_)
  refine g_aload_n d_Pi_gathers_0 rfl ?_
  obtain ⟨z_2, H⟩ := H
  refine g_getJ d_Pi_gathers_1 f_Pi_7 z_2 ?_
  refine g_lload_n d_Pi_gathers_4 rfl ?_
  refine g_lcmp d_Pi_gathers_5 ?_
  obtain ⟨H1, H2⟩ := H
  refine g_if_ne (tgt := 31) d_Pi_gathers_6 (by decide) (fun c_3 => ?_) (fun c_3 => ?_)
  · have H := H1 c_3
    refine g_msk [true, true, false, true, true] ?_
    exact okJ_Pi_gathers_31 H
  · have H := H2 c_3
    refine g_aload_n d_Pi_gathers_9 rfl ?_
    refine g_getI d_Pi_gathers_10 f_Pi_13 z_2 ?_
    refine g_iload_n d_Pi_gathers_13 rfl ?_
    obtain ⟨H1, H2⟩ := H
    refine g_icmp_ne (tgt := 31) d_Pi_gathers_14 (by decide) (fun c_4 => ?_) (fun c_4 => ?_)
    · have H := H1 c_4
      refine g_msk [true, true, false, true, true] ?_
      exact okJ_Pi_gathers_31 H
    · have H := H2 c_4
      refine g_aload_n d_Pi_gathers_17 rfl ?_
      refine g_getR d_Pi_gathers_18 f_Pi_19 z_2 (by decide) ?_
      obtain ⟨q_5, e_6, H⟩ := H
      refine g_eqr e_6 ?_
      obtain ⟨N_7, H⟩ := H
      obtain ⟨z_8, H⟩ := H
      refine g_alen d_Pi_gathers_21 z_8 (by decide) ?_
      refine g_iload d_Pi_gathers_22 rfl ?_
      obtain ⟨H1, H2⟩ := H
      refine g_icmp_ne (tgt := 31) d_Pi_gathers_24 (by decide) (fun c_9 => ?_) (fun c_9 => ?_)
      · have H := H1 c_9
        refine g_msk [true, true, false, true, true] ?_
        exact okJ_Pi_gathers_31 H
      · have H := H2 c_9
        refine g_iconst (v := 1) d_Pi_gathers_27 (by decide) ?_
        refine g_goto (tgt := 32) d_Pi_gathers_28 (by decide) ?_
        refine g_msk [true, true, false, true, true] ?_
        exact okJ_Pi_gathers_32 H
set_option maxRecDepth 100000 in
set_option maxHeartbeats 4000000 in
def wJ_Pi_keep_43 (G : Gx) (l : Launch) (d w : Nat) (P : Hp → Prop) (q0 : Nat) (x1 : Int32) (q2 : Nat) (x3 : Int32) (h : Hp)  : Prop := P h
set_option maxRecDepth 100000 in
set_option maxHeartbeats 4000000 in
theorem okJ_Pi_keep_43 {G : Gx} {l : Launch} {d w : Nat} {P : Hp → Prop} {p : Program} {e : Env} {s : State} {m : MethodId} {args : Array Value} {below : List Frame} {meth : Method} {c : Code} {q0 : Nat} {x1 : Int32} {q2 : Nat} {x3 : Int32} {h : Hp}  (H : wJ_Pi_keep_43 G l d w P  q0 x1 q2 x3 h ) : Go M_Pi_keep (mkX G (fun r h' => r = none ∧ P h') (d + 0) (w + 0) 0 0 p l e s m args below meth c) 43 [some (.ref q0), some (.int x1), some (.ref q2), some (.int x3)] [] h 0 0 := by
  unfold wJ_Pi_keep_43 at H
  exact g_return d_Pi_keep_43 rfl (Nat.le_refl _) (Nat.le_refl _) ⟨rfl, H⟩
set_option maxRecDepth 100000 in
set_option maxHeartbeats 4000000 in
def wp_Pi_keep (G : Gx) (l : Launch) (d w : Nat) (P : Hp → Prop) (q0 : Nat) (x1 : Int32) (q2 : Nat) (h : Hp) : Prop := ∀ x_1 : Int32, x_1 = (x1 - 1) → (x_1 < 0 → wJ_Pi_keep_43 G l d w P q0 x1 q2 x_1 h) ∧ (¬ x_1 < 0 → (hS h q0 = some (17, 0)) ∧ (∃ q_4 : Nat, (hR h q0 2) = some q_4 ∧ (∃ N_6 : Nat, (hS h q_4 = some (4, N_6)) ∧ (((nI N_6) ≤ x_1 → wJ_Pi_keep_43 G l d w P q0 x1 q2 x_1 h) ∧ (¬ (nI N_6) ≤ x_1 → ∃ q_9 : Nat, (hR h q0 2) = some q_9 ∧ (∃ N_11 : Nat, ∃ j_12 : Nat, (hS h q_9 = some (4, N_11) ∧ x_1 = nI j_12 ∧ j_12 < N_11 ∧ j_12 < 2147483648) ∧ (((hR h q_9 j_12) = none → ∃ q_16 : Nat, (hR h q0 2) = some q_16 ∧ (∃ N_18 : Nat, ∃ j_19 : Nat, (hS h q_16 = some (4, N_18) ∧ x_1 = nI j_19 ∧ j_19 < N_18 ∧ j_19 < 2147483648) ∧ ((ObjA G h q2 4) ∧ (wJ_Pi_keep_43 G l d w P q0 x1 q2 x_1 (pI (pR h q_16 j_19 (some q2)) q0 3 ((hI h q0 3) - 1)))))) ∧ (∀ q_15 : Nat, (hR h q_9 j_12) = some q_15 → wJ_Pi_keep_43 G l d w P q0 x1 q2 x_1 h))))))))
set_option maxRecDepth 100000 in
set_option maxHeartbeats 4000000 in
theorem ok_Pi_keep {G : Gx} {l : Launch} {d w : Nat} {P : Hp → Prop} {q0 : Nat} {x1 : Int32} {q2 : Nat} {h : Hp} (H : wp_Pi_keep G l d w P q0 x1 q2 h) : Cv G l M_Pi_keep (d + 0) (w + 0) [.ref q0, .int x1, .ref q2] h 0 0 P := by
  unfold wp_Pi_keep at H
  refine Ct.of (lv := [some (.ref q0), some (.int x1), some (.ref q2), none]) (by decide) (Nat.le_of_ble_eq_true rfl) rfl (fun p e s m args below meth c => ?_)
  refine g_iload_n d_Pi_keep_0 rfl ?_
  refine g_iconst (v := 1) d_Pi_keep_1 (by decide) ?_
  refine g_isub d_Pi_keep_2 ?_
  refine g_topi (fun x_1 ex_1 => ?_)
  replace H := H x_1 ex_1
  refine g_istore_n (lv' := [some (.ref q0), some (.int x1), some (.ref q2), some (.int x_1)]) d_Pi_keep_3 (by decide) rfl ?_
  refine g_iload_n d_Pi_keep_4 rfl ?_
  obtain ⟨H1, H2⟩ := H
  refine g_if_lt (tgt := 43) d_Pi_keep_5 (by decide) (fun c_2 => ?_) (fun c_2 => ?_)
  · have H := H1 c_2
    refine g_msk [true, true, true, true] ?_
    exact okJ_Pi_keep_43 H
  · have H := H2 c_2
    refine g_iload_n d_Pi_keep_8 rfl ?_
    refine g_aload_n d_Pi_keep_9 rfl ?_
    obtain ⟨z_3, H⟩ := H
    refine g_getR d_Pi_keep_10 f_Pi_19 z_3 (by decide) ?_
    obtain ⟨q_4, e_5, H⟩ := H
    refine g_eqr e_5 ?_
    obtain ⟨N_6, H⟩ := H
    obtain ⟨z_7, H⟩ := H
    refine g_alen d_Pi_keep_13 z_7 (by decide) ?_
    obtain ⟨H1, H2⟩ := H
    refine g_icmp_ge (tgt := 43) d_Pi_keep_14 (by decide) (fun c_8 => ?_) (fun c_8 => ?_)
    · have H := H1 c_8
      refine g_msk [true, true, true, true] ?_
      exact okJ_Pi_keep_43 H
    · have H := H2 c_8
      refine g_aload_n d_Pi_keep_17 rfl ?_
      refine g_getR d_Pi_keep_18 f_Pi_19 z_3 (by decide) ?_
      refine g_iload_n d_Pi_keep_21 rfl ?_
      obtain ⟨q_9, e_10, H⟩ := H
      show Go _ _ _ [some (.ref q0), some (.int x1), some (.ref q2), some (.int x_1)] [.int x_1, va_rf (hR h q0 2)] _ _ _
      rw [show va_rf (hR h q0 2) = Value.ref q_9 from by rw [e_10]; rfl]
      obtain ⟨N_11, H⟩ := H
      obtain ⟨j_12, H⟩ := H
      obtain ⟨z_13, H⟩ := H
      refine g_aald d_Pi_keep_22 z_13.1 (by decide) z_13.2.1 z_13.2.2.1 z_13.2.2.2 ?_
      obtain ⟨H1, H2⟩ := H
      refine g_ifnonnull (tgt := 43) d_Pi_keep_23 (by decide) (fun q_15 c_14 => ?_) (fun c_14 => ?_)
      · replace H2 := H2 q_15 c_14
        have H := H2
        refine g_msk [true, true, true, true] ?_
        exact okJ_Pi_keep_43 H
      · replace H1 := H1 c_14
        have H := H1
        refine g_aload_n d_Pi_keep_26 rfl ?_
        refine g_getR d_Pi_keep_27 f_Pi_19 z_3 (by decide) ?_
        refine g_iload_n d_Pi_keep_30 rfl ?_
        refine g_aload_n d_Pi_keep_31 rfl ?_
        obtain ⟨q_16, e_17, H⟩ := H
        show Go _ _ _ [some (.ref q0), some (.int x1), some (.ref q2), some (.int x_1)] [.ref q2, .int x_1, va_rf (hR h q0 2)] _ _ _
        rw [show va_rf (hR h q0 2) = Value.ref q_16 from by rw [e_17]; rfl]
        obtain ⟨N_18, H⟩ := H
        obtain ⟨j_19, H⟩ := H
        obtain ⟨z_20, H⟩ := H
        obtain ⟨u_21, H⟩ := H
        obtain ⟨u_21a, u_21b, u_21c, u_21d, u_21e⟩ := u_21
        refine g_aast d_Pi_keep_32 z_20.1 (by decide) u_21c u_21d u_21e z_20.2.1 z_20.2.2.1 z_20.2.2.2 ?_
        refine g_aload_n d_Pi_keep_33 rfl ?_
        refine g_dup d_Pi_keep_34 rfl ?_
        refine g_getI d_Pi_keep_35 f_Pi_23 z_3 ?_
        refine g_iconst (v := 1) d_Pi_keep_38 (by decide) ?_
        refine g_isub d_Pi_keep_39 ?_
        refine g_putI d_Pi_keep_40 f_Pi_23 (fo_7_3 _) z_3 ?_
        refine g_msk [true, true, true, true] ?_
        exact okJ_Pi_keep_43 H
set_option maxRecDepth 100000 in
set_option maxHeartbeats 4000000 in
def wp_Pi_lacking (G : Gx) (l : Launch) (d w : Nat) (P : Int32 → Hp → Prop) (q0 : Nat) (h : Hp) : Prop := (hS h q0 = some (17, 0)) ∧ (P (hI h q0 3) h)
set_option maxRecDepth 100000 in
set_option maxHeartbeats 4000000 in
theorem ok_Pi_lacking {G : Gx} {l : Launch} {d w : Nat} {P : Int32 → Hp → Prop} {q0 : Nat} {h : Hp} (H : wp_Pi_lacking G l d w P q0 h) : Ci G l M_Pi_lacking (d + 0) (w + 0) [.ref q0] h 0 0 P := by
  unfold wp_Pi_lacking at H
  refine Ct.of (lv := [some (.ref q0)]) (by decide) (Nat.le_of_ble_eq_true rfl) rfl (fun p e s m args below meth c => ?_)
  refine g_aload_n d_Pi_lacking_0 rfl ?_
  obtain ⟨z_1, H⟩ := H
  refine g_getI d_Pi_lacking_1 f_Pi_23 z_1 ?_
  exact g_ireturn d_Pi_lacking_4 rfl (Nat.le_refl _) (Nat.le_refl _) ⟨_, rfl, H⟩
set_option maxRecDepth 100000 in
set_option maxHeartbeats 4000000 in
def wJ_Pi_readText_34 (G : Gx) (l : Launch) (d w : Nat) (P : Int32 → Hp → Prop) (C4 : Int32 → Int32 → Hp → Prop) (q0 : Nat) (q1 : Nat) (x2 : Int32) (x3 : Int32) (h : Hp)  : Prop := ∀ x_1 : Int32, x_1 = x3 + 1 → C4 x2 x_1 h
set_option maxRecDepth 100000 in
set_option maxHeartbeats 4000000 in
theorem okJ_Pi_readText_34 {G : Gx} {l : Launch} {d w : Nat} {P : Int32 → Hp → Prop} {p : Program} {e : Env} {s : State} {m : MethodId} {args : Array Value} {below : List Frame} {meth : Method} {c : Code} {C4 : Int32 → Int32 → Hp → Prop} {q0 : Nat} {q1 : Nat} {x2 : Int32} {x3 : Int32} (hC4 : ∀ (x2 : Int32) (x3 : Int32) (h : Hp), C4 x2 x3 h → Go M_Pi_readText (mkX G (fun r h' => ∃ x, r = some (.int x) ∧ P x h') (d + 5) (w + 110) 0 0 p l e s m args below meth c) 4 [some (.ref q0), some (.ref q1), some (.int x2), some (.int x3)] [] h 0 0) {h : Hp}  (H : wJ_Pi_readText_34 G l d w P C4 q0 q1 x2 x3 h ) : Go M_Pi_readText (mkX G (fun r h' => ∃ x, r = some (.int x) ∧ P x h') (d + 5) (w + 110) 0 0 p l e s m args below meth c) 34 [some (.ref q0), some (.ref q1), some (.int x2), some (.int x3)] [] h 0 0 := by
  unfold wJ_Pi_readText_34 at H
  obtain ⟨x_1, ex_1⟩ : ∃ z : Int32, z = x3 + 1 := ⟨_, rfl⟩
  replace H := H x_1 ex_1
  refine g_iinc (v := x_1) (lv' := [some (.ref q0), some (.ref q1), some (.int x2), some (.int x_1)]) d_Pi_readText_34 rfl (by decide) (by rw [ex_1]; rfl) rfl ?_
  refine g_goto (tgt := 4) d_Pi_readText_37 (by decide) ?_
  refine g_msk [true, true, true, true] ?_
  exact hC4 _ _ _ H
set_option maxRecDepth 100000 in
set_option maxHeartbeats 4000000 in
def wB_Pi_readText_4 (G : Gx) (l : Launch) (d w : Nat) (P : Int32 → Hp → Prop) (C4 : Int32 → Int32 → Hp → Prop) (q0 : Nat) (q1 : Nat) (x2 : Int32) (x3 : Int32) (h : Hp)  : Prop := (hS h q0 = some (17, 0)) ∧ (∃ q_3 : Nat, (hR h q0 2) = some q_3 ∧ (∃ N_5 : Nat, (hS h q_3 = some (4, N_5)) ∧ (((nI N_5) ≤ x3 → P x2 h) ∧ (¬ (nI N_5) ≤ x3 → ∃ q_8 : Nat, (hR h q0 2) = some q_8 ∧ (∃ N_10 : Nat, ∃ j_11 : Nat, (hS h q_8 = some (4, N_10) ∧ x3 = nI j_11 ∧ j_11 < N_10 ∧ j_11 < 2147483648) ∧ (((hR h q_8 j_11) = none → wJ_Pi_readText_34 G l d w P C4 q0 q1 x2 x3 h) ∧ (∀ q_14 : Nat, (hR h q_8 j_11) = some q_14 → ∃ q_15 : Nat, (hR h q0 2) = some q_15 ∧ (∃ N_17 : Nat, ∃ j_18 : Nat, (hS h q_15 = some (4, N_17) ∧ x3 = nI j_18 ∧ j_18 < N_17 ∧ j_18 < 2147483648) ∧ (∃ q_20 : Nat, (hR h q_15 j_18) = some q_20 ∧ ((hS h q_20 = some (15, 0)) ∧ (∃ P_23 : Int32 → Hp → Prop, (Ci G l M_Ro_readText (d + 4) (w + 82) [.ref q_20, .ref q1, .int x2] h 0 0 P_23) ∧ (∀ (x_27 : Int32) (h_25 : Hp), P_23 x_27 h_25 → wJ_Pi_readText_34 G l d w P C4 q0 q1 x_27 x3 h_25))))))))))))
set_option maxRecDepth 100000 in
set_option maxHeartbeats 4000000 in
theorem okB_Pi_readText_4 {G : Gx} {l : Launch} {d w : Nat} {P : Int32 → Hp → Prop} {p : Program} {e : Env} {s : State} {m : MethodId} {args : Array Value} {below : List Frame} {meth : Method} {c : Code} {C4 : Int32 → Int32 → Hp → Prop} {q0 : Nat} {q1 : Nat} {x2 : Int32} {x3 : Int32} (hC4 : ∀ (x2 : Int32) (x3 : Int32) (h : Hp), C4 x2 x3 h → Go M_Pi_readText (mkX G (fun r h' => ∃ x, r = some (.int x) ∧ P x h') (d + 5) (w + 110) 0 0 p l e s m args below meth c) 4 [some (.ref q0), some (.ref q1), some (.int x2), some (.int x3)] [] h 0 0) {h : Hp}  (H : wB_Pi_readText_4 G l d w P C4 q0 q1 x2 x3 h ) : Go M_Pi_readText (mkX G (fun r h' => ∃ x, r = some (.int x) ∧ P x h') (d + 5) (w + 110) 0 0 p l e s m args below meth c) 4 [some (.ref q0), some (.ref q1), some (.int x2), some (.int x3)] [] h 0 0 := by
  unfold wB_Pi_readText_4 at H
  refine g_iload_n d_Pi_readText_4 rfl ?_
  refine g_aload_n d_Pi_readText_5 rfl ?_
  obtain ⟨z_2, H⟩ := H
  refine g_getR d_Pi_readText_6 f_Pi_19 z_2 (by decide) ?_
  obtain ⟨q_3, e_4, H⟩ := H
  refine g_eqr e_4 ?_
  obtain ⟨N_5, H⟩ := H
  obtain ⟨z_6, H⟩ := H
  refine g_alen d_Pi_readText_9 z_6 (by decide) ?_
  obtain ⟨H1, H2⟩ := H
  refine g_icmp_ge (tgt := 40) d_Pi_readText_10 (by decide) (fun c_7 => ?_) (fun c_7 => ?_)
  · have H := H1 c_7
    refine g_iload_n d_Pi_readText_40 rfl ?_
    exact g_ireturn d_Pi_readText_41 rfl (Nat.le_refl _) (Nat.le_refl _) ⟨_, rfl, H⟩
  · have H := H2 c_7
    refine g_aload_n d_Pi_readText_13 rfl ?_
    refine g_getR d_Pi_readText_14 f_Pi_19 z_2 (by decide) ?_
    refine g_iload_n d_Pi_readText_17 rfl ?_
    obtain ⟨q_8, e_9, H⟩ := H
    show Go _ _ _ [some (.ref q0), some (.ref q1), some (.int x2), some (.int x3)] [.int x3, va_rf (hR h q0 2)] _ _ _
    rw [show va_rf (hR h q0 2) = Value.ref q_8 from by rw [e_9]; rfl]
    obtain ⟨N_10, H⟩ := H
    obtain ⟨j_11, H⟩ := H
    obtain ⟨z_12, H⟩ := H
    refine g_aald d_Pi_readText_18 z_12.1 (by decide) z_12.2.1 z_12.2.2.1 z_12.2.2.2 ?_
    obtain ⟨H1, H2⟩ := H
    refine g_ifnull (tgt := 34) d_Pi_readText_19 (by decide) (fun c_13 => ?_) (fun q_14 c_13 => ?_)
    · replace H1 := H1 c_13
      have H := H1
      refine g_msk [true, true, true, true] ?_
      exact okJ_Pi_readText_34 hC4 H
    · replace H2 := H2 q_14 c_13
      have H := H2
      refine g_aload_n d_Pi_readText_22 rfl ?_
      refine g_getR d_Pi_readText_23 f_Pi_19 z_2 (by decide) ?_
      refine g_iload_n d_Pi_readText_26 rfl ?_
      obtain ⟨q_15, e_16, H⟩ := H
      show Go _ _ _ [some (.ref q0), some (.ref q1), some (.int x2), some (.int x3)] [.int x3, va_rf (hR h q0 2)] _ _ _
      rw [show va_rf (hR h q0 2) = Value.ref q_15 from by rw [e_16]; rfl]
      obtain ⟨N_17, H⟩ := H
      obtain ⟨j_18, H⟩ := H
      obtain ⟨z_19, H⟩ := H
      refine g_aald d_Pi_readText_27 z_19.1 (by decide) z_19.2.1 z_19.2.2.1 z_19.2.2.2 ?_
      refine g_aload_n d_Pi_readText_28 rfl ?_
      refine g_iload_n d_Pi_readText_29 rfl ?_
      obtain ⟨q_20, e_21, H⟩ := H
      show Go _ _ _ [some (.ref q0), some (.ref q1), some (.int x2), some (.int x3)] [.int x2, .ref q1, va_rf (hR h q_15 j_18)] _ _ _
      rw [show va_rf (hR h q_15 j_18) = Value.ref q_20 from by rw [e_21]; rfl]
      obtain ⟨z_22, H⟩ := H
      obtain ⟨P_23, C_24, H⟩ := H
      refine q_V (As := [.ref q1, .int x2]) (st := []) (nl := 9) d_Pi_readText_30 v_Pi_26 C_24 z_22 rfl (catS_le (Nat.le_of_ble_eq_true rfl)) rfl ⟨by omega, by omega, Nat.le_refl _, Nat.le_refl _⟩ (fun r_29 h_25 p_26 => ?_)
      obtain ⟨x_27, rfl, p_26⟩ := p_26
      replace H := H x_27 h_25 p_26
      show Go _ _ _ _ [.int x_27] _ _ _
      refine g_istore_n (lv' := [some (.ref q0), some (.ref q1), some (.int x_27), some (.int x3)]) d_Pi_readText_33 (by decide) rfl ?_
      refine g_msk [true, true, true, true] ?_
      exact okJ_Pi_readText_34 hC4 H
set_option maxRecDepth 100000 in
set_option maxHeartbeats 4000000 in
def wL_Pi_readText_4 (G : Gx) (l : Launch) (d w : Nat) (P : Int32 → Hp → Prop) (q0 : Nat) (q1 : Nat) (x2 : Int32) (x3 : Int32) (h : Hp)  : Prop := ∃ (I : Int32 → Int32 → Hp → Prop) (μ : Int32 → Int32 → Hp → Nat), I x2 x3 h ∧ ∀ (x2' : Int32) (x3' : Int32) (h' : Hp), I x2' x3' h' → wB_Pi_readText_4 G l d w P (fun x2_ x3_ h_ => I x2_ x3_ h_ ∧ μ x2_ x3_ h_ < μ x2' x3' h') q0 q1 x2' x3' h'
set_option maxRecDepth 100000 in
set_option maxHeartbeats 4000000 in
theorem okL_Pi_readText_4 {G : Gx} {l : Launch} {d w : Nat} {P : Int32 → Hp → Prop} {p : Program} {e : Env} {s : State} {m : MethodId} {args : Array Value} {below : List Frame} {meth : Method} {c : Code} {q0 : Nat} {q1 : Nat} {x2 : Int32} {x3 : Int32} {h : Hp}  (H : wL_Pi_readText_4 G l d w P  q0 q1 x2 x3 h ) : Go M_Pi_readText (mkX G (fun r h' => ∃ x, r = some (.int x) ∧ P x h') (d + 5) (w + 110) 0 0 p l e s m args below meth c) 4 [some (.ref q0), some (.ref q1), some (.int x2), some (.int x3)] [] h 0 0 := by
  obtain ⟨I, μ, h0, hs⟩ := H
  have key : ∀ (N : Nat) (x2 : Int32) (x3 : Int32) (h : Hp), I x2 x3 h → μ x2 x3 h < N → Go M_Pi_readText (mkX G (fun r h' => ∃ x, r = some (.int x) ∧ P x h') (d + 5) (w + 110) 0 0 p l e s m args below meth c) 4 [some (.ref q0), some (.ref q1), some (.int x2), some (.int x3)] [] h 0 0 := by
    intro N
    induction N with
    | zero => intro x2 x3 h _ hN; exact absurd hN (Nat.not_lt_zero _)
    | succ N ih =>
      intro x2 x3 h hI hN
      exact okB_Pi_readText_4 (fun x2_ x3_ h_ hh => ih x2_ x3_ h_ hh.1 (Nat.lt_of_lt_of_le hh.2 (Nat.le_of_lt_succ hN))) (hs x2 x3 h hI)
  exact key _ _ _ _ h0 (Nat.lt_succ_self _)
set_option maxRecDepth 100000 in
set_option maxHeartbeats 4000000 in
def wp_Pi_readText (G : Gx) (l : Launch) (d w : Nat) (P : Int32 → Hp → Prop) (q0 : Nat) (q1 : Nat) (h : Hp) : Prop := wL_Pi_readText_4 G l d w P q0 q1 0 0 h
set_option maxRecDepth 100000 in
set_option maxHeartbeats 4000000 in
theorem ok_Pi_readText {G : Gx} {l : Launch} {d w : Nat} {P : Int32 → Hp → Prop} {q0 : Nat} {q1 : Nat} {h : Hp} (H : wp_Pi_readText G l d w P q0 q1 h) : Ci G l M_Pi_readText (d + 5) (w + 110) [.ref q0, .ref q1] h 0 0 P := by
  unfold wp_Pi_readText at H
  refine Ct.of (lv := [some (.ref q0), some (.ref q1), none, none]) (by decide) (Nat.le_of_ble_eq_true rfl) rfl (fun p e s m args below meth c => ?_)
  refine g_iconst (v := 0) d_Pi_readText_0 (by decide) ?_
  refine g_istore_n (lv' := [some (.ref q0), some (.ref q1), some (.int 0), none]) d_Pi_readText_1 (by decide) rfl ?_
  refine g_iconst (v := 0) d_Pi_readText_2 (by decide) ?_
  refine g_istore_n (lv' := [some (.ref q0), some (.ref q1), some (.int 0), some (.int 0)]) d_Pi_readText_3 (by decide) rfl ?_
  refine g_msk [true, true, true, true] ?_
  exact okL_Pi_readText_4 H
set_option maxRecDepth 100000 in
set_option maxHeartbeats 4000000 in
def wJ_Su_areKept_23 (G : Gx) (l : Launch) (d w : Nat) (P : Int32 → Hp → Prop) (q0 : Nat) (x1 : Int32) (h : Hp)  : Prop := P 0 h
set_option maxRecDepth 100000 in
set_option maxHeartbeats 4000000 in
theorem okJ_Su_areKept_23 {G : Gx} {l : Launch} {d w : Nat} {P : Int32 → Hp → Prop} {p : Program} {e : Env} {s : State} {m : MethodId} {args : Array Value} {below : List Frame} {meth : Method} {c : Code} {q0 : Nat} {x1 : Int32} {h : Hp}  (H : wJ_Su_areKept_23 G l d w P  q0 x1 h ) : Go M_Su_areKept (mkX G (fun r h' => ∃ x, r = some (.int x) ∧ P x h') (d + 6) (w + 130) 0 0 p l e s m args below meth c) 23 [some (.ref q0), some (.int x1), none, none] [] h 0 0 := by
  unfold wJ_Su_areKept_23 at H
  refine g_iconst (v := 0) d_Su_areKept_23 (by decide) ?_
  exact g_zreturn d_Su_areKept_24 rfl (by decide) (Nat.le_refl _) (Nat.le_refl _) ⟨_, rfl, H⟩
set_option maxRecDepth 100000 in
set_option maxHeartbeats 4000000 in
def wJ_Su_areKept_82 (G : Gx) (l : Launch) (d w : Nat) (P : Int32 → Hp → Prop) (q0 : Nat) (x1 : Int32) (x2 : Int32) (x3 : Int32) (sx0 : Int32) (h : Hp)  : Prop := (sx0 = 0 ∨ sx0 = 1) ∧ (P sx0 h)
set_option maxRecDepth 100000 in
set_option maxHeartbeats 4000000 in
theorem okJ_Su_areKept_82 {G : Gx} {l : Launch} {d w : Nat} {P : Int32 → Hp → Prop} {p : Program} {e : Env} {s : State} {m : MethodId} {args : Array Value} {below : List Frame} {meth : Method} {c : Code} {q0 : Nat} {x1 : Int32} {x2 : Int32} {x3 : Int32} {sx0 : Int32} {h : Hp}  (H : wJ_Su_areKept_82 G l d w P  q0 x1 x2 x3 sx0 h ) : Go M_Su_areKept (mkX G (fun r h' => ∃ x, r = some (.int x) ∧ P x h') (d + 6) (w + 130) 0 0 p l e s m args below meth c) 82 [some (.ref q0), some (.int x1), some (.int x2), some (.int x3)] [.int sx0] h 0 0 := by
  unfold wJ_Su_areKept_82 at H
  obtain ⟨z_1, H⟩ := H
  exact g_zreturn d_Su_areKept_82 rfl z_1 (Nat.le_refl _) (Nat.le_refl _) ⟨_, rfl, H⟩
set_option maxRecDepth 100000 in
set_option maxHeartbeats 4000000 in
def wJ_Su_areKept_81 (G : Gx) (l : Launch) (d w : Nat) (P : Int32 → Hp → Prop) (q0 : Nat) (x1 : Int32) (x2 : Int32) (x3 : Int32) (h : Hp)  : Prop := wJ_Su_areKept_82 G l d w P q0 x1 x2 x3 0 h
set_option maxRecDepth 100000 in
set_option maxHeartbeats 4000000 in
theorem okJ_Su_areKept_81 {G : Gx} {l : Launch} {d w : Nat} {P : Int32 → Hp → Prop} {p : Program} {e : Env} {s : State} {m : MethodId} {args : Array Value} {below : List Frame} {meth : Method} {c : Code} {q0 : Nat} {x1 : Int32} {x2 : Int32} {x3 : Int32} {h : Hp}  (H : wJ_Su_areKept_81 G l d w P  q0 x1 x2 x3 h ) : Go M_Su_areKept (mkX G (fun r h' => ∃ x, r = some (.int x) ∧ P x h') (d + 6) (w + 130) 0 0 p l e s m args below meth c) 81 [some (.ref q0), some (.int x1), some (.int x2), some (.int x3)] [] h 0 0 := by
  unfold wJ_Su_areKept_81 at H
  refine g_iconst (v := 0) d_Su_areKept_81 (by decide) ?_
  refine g_msk [true, true, true, true] ?_
  exact okJ_Su_areKept_82 H
set_option maxRecDepth 100000 in
set_option maxHeartbeats 4000000 in
def wp_Su_areKept (G : Gx) (l : Launch) (d w : Nat) (P : Int32 → Hp → Prop) (q0 : Nat) (h : Hp) : Prop := (hS h q0 = some (15, 0)) ∧ (∃ P_3 : Int32 → Hp → Prop, (Ci G l M_Ro_at (d + 1) (w + 21) [.ref q0, .int 0] h 0 0 P_3) ∧ (∀ (x_7 : Int32) (h_5 : Hp), P_3 x_7 h_5 → ∀ x_10 : Int32, x_10 = (x_7 &&& (-97)) → (¬ x_10 = 17 → wJ_Su_areKept_23 G l d w P q0 x_10 h_5) ∧ (x_10 = 17 → ∃ P_12 : Int32 → Hp → Prop, (Ci G l M_Su_isAddress (d + 3) (w + 65) [.ref q0, .int 2] h_5 0 0 P_12) ∧ (∀ (x_16 : Int32) (h_14 : Hp), P_12 x_16 h_14 → (¬ x_16 = 0 → (hS h_14 q0 = some (15, 0)) ∧ (∃ P_21 : Int32 → Hp → Prop, (Ci G l M_Ro_submitDataAt (d + 2) (w + 42) [.ref q0] h_14 0 0 P_21) ∧ (∀ (x_25 : Int32) (h_23 : Hp), P_21 x_25 h_23 → (hS h_23 q0 = some (15, 0)) ∧ (∃ P_29 : Int32 → Hp → Prop, (Ci G l M_Ro_at (d + 1) (w + 21) [.ref q0, .int (x_25 - 1)] h_23 0 0 P_29) ∧ (∀ (x_33 : Int32) (h_31 : Hp), P_29 x_33 h_31 → (hS h_31 q0 = some (15, 0)) ∧ (∃ P_37 : Int32 → Hp → Prop, (Ci G l M_Ro_at (d + 1) (w + 21) [.ref q0, .int (x_25 - 3)] h_31 0 0 P_37) ∧ (∀ (x_41 : Int32) (h_39 : Hp), P_37 x_41 h_39 → (¬ x_41 = 0 → wJ_Su_areKept_81 G l d w P q0 x_10 x_25 x_33 h_39) ∧ (x_41 = 0 → (hS h_39 q0 = some (15, 0)) ∧ (∃ P_46 : Int32 → Hp → Prop, (Ci G l M_Ro_at (d + 1) (w + 21) [.ref q0, .int (x_25 - 2)] h_39 0 0 P_46) ∧ (∀ (x_50 : Int32) (h_48 : Hp), P_46 x_50 h_48 → (¬ x_50 = 0 → wJ_Su_areKept_81 G l d w P q0 x_10 x_25 x_33 h_48) ∧ (x_50 = 0 → (x_33 < 0 → wJ_Su_areKept_81 G l d w P q0 x_10 x_25 x_33 h_48) ∧ (¬ x_33 < 0 → (143 < x_33 → wJ_Su_areKept_81 G l d w P q0 x_10 x_25 x_33 h_48) ∧ (¬ 143 < x_33 → ∃ P_56 : Int32 → Hp → Prop, (Ci G l M_Su_isUserData (d + 5) (w + 107) [.ref q0, .int x_25] h_48 0 0 P_56) ∧ (∀ (x_60 : Int32) (h_58 : Hp), P_56 x_60 h_58 → (x_60 = 0 → wJ_Su_areKept_81 G l d w P q0 x_10 x_25 x_33 h_58) ∧ (¬ x_60 = 0 → wJ_Su_areKept_82 G l d w P q0 x_10 x_25 x_33 1 h_58))))))))))))))) ∧ (x_16 = 0 → wJ_Su_areKept_23 G l d w P q0 x_10 h_14)))))
set_option maxRecDepth 100000 in
set_option maxHeartbeats 4000000 in
theorem ok_Su_areKept {G : Gx} {l : Launch} {d w : Nat} {P : Int32 → Hp → Prop} {q0 : Nat} {h : Hp} (H : wp_Su_areKept G l d w P q0 h) : Ci G l M_Su_areKept (d + 6) (w + 130) [.ref q0] h 0 0 P := by
  unfold wp_Su_areKept at H
  refine Ct.of (lv := [some (.ref q0), none, none, none]) (by decide) (Nat.le_of_ble_eq_true rfl) rfl (fun p e s m args below meth c => ?_)
  refine g_aload_n d_Su_areKept_0 rfl ?_
  refine g_iconst (v := 0) d_Su_areKept_1 (by decide) ?_
  obtain ⟨z_2, H⟩ := H
  obtain ⟨P_3, C_4, H⟩ := H
  refine q_V (As := [.int 0]) (st := []) (nl := 2) d_Su_areKept_2 v_Su_9 C_4 z_2 rfl (catS_le (Nat.le_of_ble_eq_true rfl)) rfl ⟨by omega, by omega, Nat.le_refl _, Nat.le_refl _⟩ (fun r_9 h_5 p_6 => ?_)
  obtain ⟨x_7, rfl, p_6⟩ := p_6
  replace H := H x_7 h_5 p_6
  show Go _ _ _ _ [.int x_7] _ _ _
  refine g_bipush (v := (-97)) d_Su_areKept_5 (by decide) ?_
  refine g_iand d_Su_areKept_7 ?_
  refine g_topi (fun x_10 ex_10 => ?_)
  replace H := H x_10 ex_10
  refine g_istore_n (lv' := [some (.ref q0), some (.int x_10), none, none]) d_Su_areKept_8 (by decide) rfl ?_
  refine g_iload_n d_Su_areKept_9 rfl ?_
  refine g_bipush (v := 17) d_Su_areKept_10 (by decide) ?_
  obtain ⟨H1, H2⟩ := H
  refine g_icmp_ne (tgt := 23) d_Su_areKept_12 (by decide) (fun c_11 => ?_) (fun c_11 => ?_)
  · have H := H1 c_11
    refine g_msk [true, true, false, false] ?_
    exact okJ_Su_areKept_23 H
  · have H := H2 c_11
    refine g_aload_n d_Su_areKept_15 rfl ?_
    refine g_iconst (v := 2) d_Su_areKept_16 (by decide) ?_
    obtain ⟨P_12, C_13, H⟩ := H
    refine q_S (As := [.ref q0, .int 2]) (st := []) (nl := 5) d_Su_areKept_17 v_Su_15 C_13 rfl (catS_le (Nat.le_of_ble_eq_true rfl)) rfl ⟨by omega, by omega, Nat.le_refl _, Nat.le_refl _⟩ (fun r_18 h_14 p_15 => ?_)
    obtain ⟨x_16, rfl, p_15⟩ := p_15
    replace H := H x_16 h_14 p_15
    show Go _ _ _ _ [.int x_16] _ _ _
    obtain ⟨H1, H2⟩ := H
    refine g_if_ne (tgt := 25) d_Su_areKept_20 (by decide) (fun c_19 => ?_) (fun c_19 => ?_)
    · have H := H1 c_19
      refine g_aload_n d_Su_areKept_25 rfl ?_
      obtain ⟨z_20, H⟩ := H
      obtain ⟨P_21, C_22, H⟩ := H
      refine q_V (As := []) (st := []) (nl := 1) d_Su_areKept_26 v_Su_21 C_22 z_20 rfl (catS_le (Nat.le_of_ble_eq_true rfl)) rfl ⟨by omega, by omega, Nat.le_refl _, Nat.le_refl _⟩ (fun r_27 h_23 p_24 => ?_)
      obtain ⟨x_25, rfl, p_24⟩ := p_24
      replace H := H x_25 h_23 p_24
      show Go _ _ _ _ [.int x_25] _ _ _
      refine g_istore_n (lv' := [some (.ref q0), some (.int x_10), some (.int x_25), none]) d_Su_areKept_29 (by decide) rfl ?_
      refine g_aload_n d_Su_areKept_30 rfl ?_
      refine g_iload_n d_Su_areKept_31 rfl ?_
      refine g_iconst (v := 1) d_Su_areKept_32 (by decide) ?_
      refine g_isub d_Su_areKept_33 ?_
      obtain ⟨z_28, H⟩ := H
      obtain ⟨P_29, C_30, H⟩ := H
      refine q_V (As := [.int (x_25 - 1)]) (st := []) (nl := 2) d_Su_areKept_34 v_Su_9 C_30 z_28 rfl (catS_le (Nat.le_of_ble_eq_true rfl)) rfl ⟨by omega, by omega, Nat.le_refl _, Nat.le_refl _⟩ (fun r_35 h_31 p_32 => ?_)
      obtain ⟨x_33, rfl, p_32⟩ := p_32
      replace H := H x_33 h_31 p_32
      show Go _ _ _ _ [.int x_33] _ _ _
      refine g_istore_n (lv' := [some (.ref q0), some (.int x_10), some (.int x_25), some (.int x_33)]) d_Su_areKept_37 (by decide) rfl ?_
      refine g_aload_n d_Su_areKept_38 rfl ?_
      refine g_iload_n d_Su_areKept_39 rfl ?_
      refine g_iconst (v := 3) d_Su_areKept_40 (by decide) ?_
      refine g_isub d_Su_areKept_41 ?_
      obtain ⟨z_36, H⟩ := H
      obtain ⟨P_37, C_38, H⟩ := H
      refine q_V (As := [.int (x_25 - 3)]) (st := []) (nl := 2) d_Su_areKept_42 v_Su_9 C_38 z_36 rfl (catS_le (Nat.le_of_ble_eq_true rfl)) rfl ⟨by omega, by omega, Nat.le_refl _, Nat.le_refl _⟩ (fun r_43 h_39 p_40 => ?_)
      obtain ⟨x_41, rfl, p_40⟩ := p_40
      replace H := H x_41 h_39 p_40
      show Go _ _ _ _ [.int x_41] _ _ _
      obtain ⟨H1, H2⟩ := H
      refine g_if_ne (tgt := 81) d_Su_areKept_45 (by decide) (fun c_44 => ?_) (fun c_44 => ?_)
      · have H := H1 c_44
        refine g_msk [true, true, true, true] ?_
        exact okJ_Su_areKept_81 H
      · have H := H2 c_44
        refine g_aload_n d_Su_areKept_48 rfl ?_
        refine g_iload_n d_Su_areKept_49 rfl ?_
        refine g_iconst (v := 2) d_Su_areKept_50 (by decide) ?_
        refine g_isub d_Su_areKept_51 ?_
        obtain ⟨z_45, H⟩ := H
        obtain ⟨P_46, C_47, H⟩ := H
        refine q_V (As := [.int (x_25 - 2)]) (st := []) (nl := 2) d_Su_areKept_52 v_Su_9 C_47 z_45 rfl (catS_le (Nat.le_of_ble_eq_true rfl)) rfl ⟨by omega, by omega, Nat.le_refl _, Nat.le_refl _⟩ (fun r_52 h_48 p_49 => ?_)
        obtain ⟨x_50, rfl, p_49⟩ := p_49
        replace H := H x_50 h_48 p_49
        show Go _ _ _ _ [.int x_50] _ _ _
        obtain ⟨H1, H2⟩ := H
        refine g_if_ne (tgt := 81) d_Su_areKept_55 (by decide) (fun c_53 => ?_) (fun c_53 => ?_)
        · have H := H1 c_53
          refine g_msk [true, true, true, true] ?_
          exact okJ_Su_areKept_81 H
        · have H := H2 c_53
          refine g_iload_n d_Su_areKept_58 rfl ?_
          obtain ⟨H1, H2⟩ := H
          refine g_if_lt (tgt := 81) d_Su_areKept_59 (by decide) (fun c_54 => ?_) (fun c_54 => ?_)
          · have H := H1 c_54
            refine g_msk [true, true, true, true] ?_
            exact okJ_Su_areKept_81 H
          · have H := H2 c_54
            refine g_iload_n d_Su_areKept_62 rfl ?_
            refine g_sipush (v := 143) d_Su_areKept_63 (by decide) ?_
            obtain ⟨H1, H2⟩ := H
            refine g_icmp_gt (tgt := 81) d_Su_areKept_66 (by decide) (fun c_55 => ?_) (fun c_55 => ?_)
            · have H := H1 c_55
              refine g_msk [true, true, true, true] ?_
              exact okJ_Su_areKept_81 H
            · have H := H2 c_55
              refine g_aload_n d_Su_areKept_69 rfl ?_
              refine g_iload_n d_Su_areKept_70 rfl ?_
              obtain ⟨P_56, C_57, H⟩ := H
              refine q_S (As := [.ref q0, .int x_25]) (st := []) (nl := 4) d_Su_areKept_71 v_Su_25 C_57 rfl (catS_le (Nat.le_of_ble_eq_true rfl)) rfl ⟨by omega, by omega, Nat.le_refl _, Nat.le_refl _⟩ (fun r_62 h_58 p_59 => ?_)
              obtain ⟨x_60, rfl, p_59⟩ := p_59
              replace H := H x_60 h_58 p_59
              show Go _ _ _ _ [.int x_60] _ _ _
              obtain ⟨H1, H2⟩ := H
              refine g_if_eq (tgt := 81) d_Su_areKept_74 (by decide) (fun c_63 => ?_) (fun c_63 => ?_)
              · have H := H1 c_63
                refine g_msk [true, true, true, true] ?_
                exact okJ_Su_areKept_81 H
              · have H := H2 c_63
                refine g_iconst (v := 1) d_Su_areKept_77 (by decide) ?_
                refine g_goto (tgt := 82) d_Su_areKept_78 (by decide) ?_
                refine g_msk [true, true, true, true] ?_
                exact okJ_Su_areKept_82 H
    · have H := H2 c_19
      refine g_msk [true, true, false, false] ?_
      exact okJ_Su_areKept_23 H
set_option maxRecDepth 100000 in
set_option maxHeartbeats 4000000 in
def wJ_Su_isAddress_30 (G : Gx) (l : Launch) (d w : Nat) (P : Int32 → Hp → Prop) (q0 : Nat) (x1 : Int32) (x2 : Int32) (h : Hp)  : Prop := P 0 h
set_option maxRecDepth 100000 in
set_option maxHeartbeats 4000000 in
theorem okJ_Su_isAddress_30 {G : Gx} {l : Launch} {d w : Nat} {P : Int32 → Hp → Prop} {p : Program} {e : Env} {s : State} {m : MethodId} {args : Array Value} {below : List Frame} {meth : Method} {c : Code} {q0 : Nat} {x1 : Int32} {x2 : Int32} {h : Hp}  (H : wJ_Su_isAddress_30 G l d w P  q0 x1 x2 h ) : Go M_Su_isAddress (mkX G (fun r h' => ∃ x, r = some (.int x) ∧ P x h') (d + 3) (w + 65) 0 0 p l e s m args below meth c) 30 [some (.ref q0), some (.int x1), some (.int x2), none, none] [] h 0 0 := by
  unfold wJ_Su_isAddress_30 at H
  refine g_iconst (v := 0) d_Su_isAddress_30 (by decide) ?_
  exact g_zreturn d_Su_isAddress_31 rfl (by decide) (Nat.le_refl _) (Nat.le_refl _) ⟨_, rfl, H⟩
set_option maxRecDepth 100000 in
set_option maxHeartbeats 4000000 in
def wJ_Su_isAddress_102 (G : Gx) (l : Launch) (d w : Nat) (P : Int32 → Hp → Prop) (q0 : Nat) (x1 : Int32) (x2 : Int32) (x3 : Int32) (sx0 : Int32) (h : Hp)  : Prop := (sx0 = 0 ∨ sx0 = 1) ∧ (P sx0 h)
set_option maxRecDepth 100000 in
set_option maxHeartbeats 4000000 in
theorem okJ_Su_isAddress_102 {G : Gx} {l : Launch} {d w : Nat} {P : Int32 → Hp → Prop} {p : Program} {e : Env} {s : State} {m : MethodId} {args : Array Value} {below : List Frame} {meth : Method} {c : Code} {q0 : Nat} {x1 : Int32} {x2 : Int32} {x3 : Int32} {sx0 : Int32} {h : Hp}  (H : wJ_Su_isAddress_102 G l d w P  q0 x1 x2 x3 sx0 h ) : Go M_Su_isAddress (mkX G (fun r h' => ∃ x, r = some (.int x) ∧ P x h') (d + 3) (w + 65) 0 0 p l e s m args below meth c) 102 [some (.ref q0), some (.int x1), some (.int x2), some (.int x3), none] [.int sx0] h 0 0 := by
  unfold wJ_Su_isAddress_102 at H
  obtain ⟨z_1, H⟩ := H
  exact g_zreturn d_Su_isAddress_102 rfl z_1 (Nat.le_refl _) (Nat.le_refl _) ⟨_, rfl, H⟩
set_option maxRecDepth 100000 in
set_option maxHeartbeats 4000000 in
def wJ_Su_isAddress_97 (G : Gx) (l : Launch) (d w : Nat) (P : Int32 → Hp → Prop) (q0 : Nat) (x1 : Int32) (x2 : Int32) (x3 : Int32) (h : Hp)  : Prop := wJ_Su_isAddress_102 G l d w P q0 x1 x2 x3 1 h
set_option maxRecDepth 100000 in
set_option maxHeartbeats 4000000 in
theorem okJ_Su_isAddress_97 {G : Gx} {l : Launch} {d w : Nat} {P : Int32 → Hp → Prop} {p : Program} {e : Env} {s : State} {m : MethodId} {args : Array Value} {below : List Frame} {meth : Method} {c : Code} {q0 : Nat} {x1 : Int32} {x2 : Int32} {x3 : Int32} {h : Hp}  (H : wJ_Su_isAddress_97 G l d w P  q0 x1 x2 x3 h ) : Go M_Su_isAddress (mkX G (fun r h' => ∃ x, r = some (.int x) ∧ P x h') (d + 3) (w + 65) 0 0 p l e s m args below meth c) 97 [some (.ref q0), some (.int x1), some (.int x2), some (.int x3), none] [] h 0 0 := by
  unfold wJ_Su_isAddress_97 at H
  refine g_iconst (v := 1) d_Su_isAddress_97 (by decide) ?_
  refine g_goto (tgt := 102) d_Su_isAddress_98 (by decide) ?_
  refine g_msk [true, true, true, true, false] ?_
  exact okJ_Su_isAddress_102 H
set_option maxRecDepth 100000 in
set_option maxHeartbeats 4000000 in
def wJ_Su_isAddress_70 (G : Gx) (l : Launch) (d w : Nat) (P : Int32 → Hp → Prop) (q0 : Nat) (x1 : Int32) (x2 : Int32) (x3 : Int32) (x4 : Int32) (h : Hp)  : Prop := P 0 h
set_option maxRecDepth 100000 in
set_option maxHeartbeats 4000000 in
theorem okJ_Su_isAddress_70 {G : Gx} {l : Launch} {d w : Nat} {P : Int32 → Hp → Prop} {p : Program} {e : Env} {s : State} {m : MethodId} {args : Array Value} {below : List Frame} {meth : Method} {c : Code} {q0 : Nat} {x1 : Int32} {x2 : Int32} {x3 : Int32} {x4 : Int32} {h : Hp}  (H : wJ_Su_isAddress_70 G l d w P  q0 x1 x2 x3 x4 h ) : Go M_Su_isAddress (mkX G (fun r h' => ∃ x, r = some (.int x) ∧ P x h') (d + 3) (w + 65) 0 0 p l e s m args below meth c) 70 [some (.ref q0), some (.int x1), some (.int x2), some (.int x3), some (.int x4)] [] h 0 0 := by
  unfold wJ_Su_isAddress_70 at H
  refine g_iconst (v := 0) d_Su_isAddress_70 (by decide) ?_
  exact g_zreturn d_Su_isAddress_71 rfl (by decide) (Nat.le_refl _) (Nat.le_refl _) ⟨_, rfl, H⟩
set_option maxRecDepth 100000 in
set_option maxHeartbeats 4000000 in
def wJ_Su_isAddress_60 (G : Gx) (l : Launch) (d w : Nat) (P : Int32 → Hp → Prop) (C34 : Int32 → Hp → Prop) (q0 : Nat) (x1 : Int32) (x2 : Int32) (x3 : Int32) (x4 : Int32) (sx0 : Int32) (sx1 : Int32) (h : Hp)  : Prop := (sx1 < sx0 → wJ_Su_isAddress_70 G l d w P q0 x1 x2 x3 x4 h) ∧ (¬ sx1 < sx0 → (x4 ≤ 9 → ∀ x_4 : Int32, x_4 = x3 + 1 → C34 x_4 h) ∧ (¬ x4 ≤ 9 → wJ_Su_isAddress_70 G l d w P q0 x1 x2 x3 x4 h))
set_option maxRecDepth 100000 in
set_option maxHeartbeats 4000000 in
theorem okJ_Su_isAddress_60 {G : Gx} {l : Launch} {d w : Nat} {P : Int32 → Hp → Prop} {p : Program} {e : Env} {s : State} {m : MethodId} {args : Array Value} {below : List Frame} {meth : Method} {c : Code} {C34 : Int32 → Hp → Prop} {q0 : Nat} {x1 : Int32} {x2 : Int32} {x3 : Int32} {x4 : Int32} {sx0 : Int32} {sx1 : Int32} (hC34 : ∀ (x3 : Int32) (h : Hp), C34 x3 h → Go M_Su_isAddress (mkX G (fun r h' => ∃ x, r = some (.int x) ∧ P x h') (d + 3) (w + 65) 0 0 p l e s m args below meth c) 34 [some (.ref q0), some (.int x1), some (.int x2), some (.int x3), none] [] h 0 0) {h : Hp}  (H : wJ_Su_isAddress_60 G l d w P C34 q0 x1 x2 x3 x4 sx0 sx1 h ) : Go M_Su_isAddress (mkX G (fun r h' => ∃ x, r = some (.int x) ∧ P x h') (d + 3) (w + 65) 0 0 p l e s m args below meth c) 60 [some (.ref q0), some (.int x1), some (.int x2), some (.int x3), some (.int x4)] [.int sx0, .int sx1] h 0 0 := by
  unfold wJ_Su_isAddress_60 at H
  obtain ⟨H1, H2⟩ := H
  refine g_icmp_lt (tgt := 70) d_Su_isAddress_60 (by decide) (fun c_2 => ?_) (fun c_2 => ?_)
  · have H := H1 c_2
    refine g_msk [true, true, true, true, true] ?_
    exact okJ_Su_isAddress_70 H
  · have H := H2 c_2
    refine g_iload d_Su_isAddress_63 rfl ?_
    refine g_bipush (v := 9) d_Su_isAddress_65 (by decide) ?_
    obtain ⟨H1, H2⟩ := H
    refine g_icmp_le (tgt := 72) d_Su_isAddress_67 (by decide) (fun c_3 => ?_) (fun c_3 => ?_)
    · have H := H1 c_3
      obtain ⟨x_4, ex_4⟩ : ∃ z : Int32, z = x3 + 1 := ⟨_, rfl⟩
      replace H := H x_4 ex_4
      refine g_iinc (v := x_4) (lv' := [some (.ref q0), some (.int x1), some (.int x2), some (.int x_4), some (.int x4)]) d_Su_isAddress_72 rfl (by decide) (by rw [ex_4]; rfl) rfl ?_
      refine g_goto (tgt := 34) d_Su_isAddress_75 (by decide) ?_
      refine g_msk [true, true, true, true, false] ?_
      exact hC34 _ _ H
    · have H := H2 c_3
      refine g_msk [true, true, true, true, true] ?_
      exact okJ_Su_isAddress_70 H
set_option maxRecDepth 100000 in
set_option maxHeartbeats 4000000 in
def wB_Su_isAddress_34 (G : Gx) (l : Launch) (d w : Nat) (P : Int32 → Hp → Prop) (C34 : Int32 → Hp → Prop) (q0 : Nat) (x1 : Int32) (x2 : Int32) (x3 : Int32) (h : Hp)  : Prop := (x2 ≤ x3 → ((x2 - x2 / 2 * 2) = 0 → wJ_Su_isAddress_97 G l d w P q0 x1 x2 x3 h) ∧ (¬ (x2 - x2 / 2 * 2) = 0 → (hS h q0 = some (15, 0)) ∧ (∃ P_8 : Int32 → Hp → Prop, (Ci G l M_Ro_digitAt (d + 2) (w + 42) [.ref q0, .int (x1 + 2), .int x2] h 0 0 P_8) ∧ (∀ (x_12 : Int32) (h_10 : Hp), P_8 x_12 h_10 → (¬ x_12 = 15 → wJ_Su_isAddress_102 G l d w P q0 x1 x2 x3 0 h_10) ∧ (x_12 = 15 → wJ_Su_isAddress_97 G l d w P q0 x1 x2 x3 h_10))))) ∧ (¬ x2 ≤ x3 → (hS h q0 = some (15, 0)) ∧ (∃ P_17 : Int32 → Hp → Prop, (Ci G l M_Ro_digitAt (d + 2) (w + 42) [.ref q0, .int (x1 + 2), .int x3] h 0 0 P_17) ∧ (∀ (x_21 : Int32) (h_19 : Hp), P_17 x_21 h_19 → (¬ x3 = 0 → wJ_Su_isAddress_60 G l d w P C34 q0 x1 x2 x3 x_21 0 x_21 h_19) ∧ (x3 = 0 → wJ_Su_isAddress_60 G l d w P C34 q0 x1 x2 x3 x_21 1 x_21 h_19))))
set_option maxRecDepth 100000 in
set_option maxHeartbeats 4000000 in
theorem okB_Su_isAddress_34 {G : Gx} {l : Launch} {d w : Nat} {P : Int32 → Hp → Prop} {p : Program} {e : Env} {s : State} {m : MethodId} {args : Array Value} {below : List Frame} {meth : Method} {c : Code} {C34 : Int32 → Hp → Prop} {q0 : Nat} {x1 : Int32} {x2 : Int32} {x3 : Int32} (hC34 : ∀ (x3 : Int32) (h : Hp), C34 x3 h → Go M_Su_isAddress (mkX G (fun r h' => ∃ x, r = some (.int x) ∧ P x h') (d + 3) (w + 65) 0 0 p l e s m args below meth c) 34 [some (.ref q0), some (.int x1), some (.int x2), some (.int x3), none] [] h 0 0) {h : Hp}  (H : wB_Su_isAddress_34 G l d w P C34 q0 x1 x2 x3 h ) : Go M_Su_isAddress (mkX G (fun r h' => ∃ x, r = some (.int x) ∧ P x h') (d + 3) (w + 65) 0 0 p l e s m args below meth c) 34 [some (.ref q0), some (.int x1), some (.int x2), some (.int x3), none] [] h 0 0 := by
  unfold wB_Su_isAddress_34 at H
  refine g_iload_n d_Su_isAddress_34 rfl ?_
  refine g_iload_n d_Su_isAddress_35 rfl ?_
  obtain ⟨H1, H2⟩ := H
  refine g_icmp_ge (tgt := 78) d_Su_isAddress_36 (by decide) (fun c_5 => ?_) (fun c_5 => ?_)
  · have H := H1 c_5
    refine g_iload_n d_Su_isAddress_78 rfl ?_
    refine g_iconst (v := 2) d_Su_isAddress_79 (by decide) ?_
    refine g_irem d_Su_isAddress_80 (by decide) ?_
    obtain ⟨H1, H2⟩ := H
    refine g_if_eq (tgt := 97) d_Su_isAddress_81 (by decide) (fun c_6 => ?_) (fun c_6 => ?_)
    · have H := H1 c_6
      refine g_msk [true, true, true, true, false] ?_
      exact okJ_Su_isAddress_97 H
    · have H := H2 c_6
      refine g_aload_n d_Su_isAddress_84 rfl ?_
      refine g_iload_n d_Su_isAddress_85 rfl ?_
      refine g_iconst (v := 2) d_Su_isAddress_86 (by decide) ?_
      refine g_iadd d_Su_isAddress_87 ?_
      refine g_iload_n d_Su_isAddress_88 rfl ?_
      obtain ⟨z_7, H⟩ := H
      obtain ⟨P_8, C_9, H⟩ := H
      refine q_V (As := [.int (x1 + 2), .int x2]) (st := []) (nl := 4) d_Su_isAddress_89 v_Su_28 C_9 z_7 rfl (catS_le (Nat.le_of_ble_eq_true rfl)) rfl ⟨by omega, by omega, Nat.le_refl _, Nat.le_refl _⟩ (fun r_14 h_10 p_11 => ?_)
      obtain ⟨x_12, rfl, p_11⟩ := p_11
      replace H := H x_12 h_10 p_11
      show Go _ _ _ _ [.int x_12] _ _ _
      refine g_bipush (v := 15) d_Su_isAddress_92 (by decide) ?_
      obtain ⟨H1, H2⟩ := H
      refine g_icmp_ne (tgt := 101) d_Su_isAddress_94 (by decide) (fun c_15 => ?_) (fun c_15 => ?_)
      · have H := H1 c_15
        refine g_iconst (v := 0) d_Su_isAddress_101 (by decide) ?_
        refine g_msk [true, true, true, true, false] ?_
        exact okJ_Su_isAddress_102 H
      · have H := H2 c_15
        refine g_msk [true, true, true, true, false] ?_
        exact okJ_Su_isAddress_97 H
  · have H := H2 c_5
    refine g_aload_n d_Su_isAddress_39 rfl ?_
    refine g_iload_n d_Su_isAddress_40 rfl ?_
    refine g_iconst (v := 2) d_Su_isAddress_41 (by decide) ?_
    refine g_iadd d_Su_isAddress_42 ?_
    refine g_iload_n d_Su_isAddress_43 rfl ?_
    obtain ⟨z_16, H⟩ := H
    obtain ⟨P_17, C_18, H⟩ := H
    refine q_V (As := [.int (x1 + 2), .int x3]) (st := []) (nl := 4) d_Su_isAddress_44 v_Su_28 C_18 z_16 rfl (catS_le (Nat.le_of_ble_eq_true rfl)) rfl ⟨by omega, by omega, Nat.le_refl _, Nat.le_refl _⟩ (fun r_23 h_19 p_20 => ?_)
    obtain ⟨x_21, rfl, p_20⟩ := p_20
    replace H := H x_21 h_19 p_20
    show Go _ _ _ _ [.int x_21] _ _ _
    refine g_istore (lv' := [some (.ref q0), some (.int x1), some (.int x2), some (.int x3), some (.int x_21)]) d_Su_isAddress_47 (by decide) rfl ?_
    refine g_iload d_Su_isAddress_49 rfl ?_
    refine g_iload_n d_Su_isAddress_51 rfl ?_
    obtain ⟨H1, H2⟩ := H
    refine g_if_ne (tgt := 59) d_Su_isAddress_52 (by decide) (fun c_24 => ?_) (fun c_24 => ?_)
    · have H := H1 c_24
      refine g_iconst (v := 0) d_Su_isAddress_59 (by decide) ?_
      refine g_msk [true, true, true, true, true] ?_
      exact okJ_Su_isAddress_60 hC34 H
    · have H := H2 c_24
      refine g_iconst (v := 1) d_Su_isAddress_55 (by decide) ?_
      refine g_goto (tgt := 60) d_Su_isAddress_56 (by decide) ?_
      refine g_msk [true, true, true, true, true] ?_
      exact okJ_Su_isAddress_60 hC34 H
set_option maxRecDepth 100000 in
set_option maxHeartbeats 4000000 in
def wL_Su_isAddress_34 (G : Gx) (l : Launch) (d w : Nat) (P : Int32 → Hp → Prop) (q0 : Nat) (x1 : Int32) (x2 : Int32) (x3 : Int32) (h : Hp)  : Prop := ∃ (I : Int32 → Hp → Prop) (μ : Int32 → Hp → Nat), I x3 h ∧ ∀ (x3' : Int32) (h' : Hp), I x3' h' → wB_Su_isAddress_34 G l d w P (fun x3_ h_ => I x3_ h_ ∧ μ x3_ h_ < μ x3' h') q0 x1 x2 x3' h'
set_option maxRecDepth 100000 in
set_option maxHeartbeats 4000000 in
theorem okL_Su_isAddress_34 {G : Gx} {l : Launch} {d w : Nat} {P : Int32 → Hp → Prop} {p : Program} {e : Env} {s : State} {m : MethodId} {args : Array Value} {below : List Frame} {meth : Method} {c : Code} {q0 : Nat} {x1 : Int32} {x2 : Int32} {x3 : Int32} {h : Hp}  (H : wL_Su_isAddress_34 G l d w P  q0 x1 x2 x3 h ) : Go M_Su_isAddress (mkX G (fun r h' => ∃ x, r = some (.int x) ∧ P x h') (d + 3) (w + 65) 0 0 p l e s m args below meth c) 34 [some (.ref q0), some (.int x1), some (.int x2), some (.int x3), none] [] h 0 0 := by
  obtain ⟨I, μ, h0, hs⟩ := H
  have key : ∀ (N : Nat) (x3 : Int32) (h : Hp), I x3 h → μ x3 h < N → Go M_Su_isAddress (mkX G (fun r h' => ∃ x, r = some (.int x) ∧ P x h') (d + 3) (w + 65) 0 0 p l e s m args below meth c) 34 [some (.ref q0), some (.int x1), some (.int x2), some (.int x3), none] [] h 0 0 := by
    intro N
    induction N with
    | zero => intro x3 h _ hN; exact absurd hN (Nat.not_lt_zero _)
    | succ N ih =>
      intro x3 h hI hN
      exact okB_Su_isAddress_34 (fun x3_ h_ hh => ih x3_ h_ hh.1 (Nat.lt_of_lt_of_le hh.2 (Nat.le_of_lt_succ hN))) (hs x3 h hI)
  exact key _ _ _ h0 (Nat.lt_succ_self _)
set_option maxRecDepth 100000 in
set_option maxHeartbeats 4000000 in
def wp_Su_isAddress (G : Gx) (l : Launch) (d w : Nat) (P : Int32 → Hp → Prop) (q0 : Nat) (x1 : Int32) (h : Hp) : Prop := (hS h q0 = some (15, 0)) ∧ (∃ P_26 : Int32 → Hp → Prop, (Ci G l M_Ro_at (d + 1) (w + 21) [.ref q0, .int x1] h 0 0 P_26) ∧ (∀ (x_30 : Int32) (h_28 : Hp), P_26 x_30 h_28 → (x_30 < 1 → wJ_Su_isAddress_30 G l d w P q0 x1 x_30 h_28) ∧ (¬ x_30 < 1 → (12 < x_30 → wJ_Su_isAddress_30 G l d w P q0 x1 x_30 h_28) ∧ (¬ 12 < x_30 → (hS h_28 q0 = some (15, 0)) ∧ (∃ P_36 : Int32 → Hp → Prop, (Ci G l M_Ro_at (d + 1) (w + 21) [.ref q0, .int (x1 + 1)] h_28 0 0 P_36) ∧ (∀ (x_40 : Int32) (h_38 : Hp), P_36 x_40 h_38 → (x_40 = 145 → wL_Su_isAddress_34 G l d w P q0 x1 x_30 0 h_38) ∧ (¬ x_40 = 145 → wJ_Su_isAddress_30 G l d w P q0 x1 x_30 h_38)))))))
set_option maxRecDepth 100000 in
set_option maxHeartbeats 4000000 in
theorem ok_Su_isAddress {G : Gx} {l : Launch} {d w : Nat} {P : Int32 → Hp → Prop} {q0 : Nat} {x1 : Int32} {h : Hp} (H : wp_Su_isAddress G l d w P q0 x1 h) : Ci G l M_Su_isAddress (d + 3) (w + 65) [.ref q0, .int x1] h 0 0 P := by
  unfold wp_Su_isAddress at H
  refine Ct.of (lv := [some (.ref q0), some (.int x1), none, none, none]) (by decide) (Nat.le_of_ble_eq_true rfl) rfl (fun p e s m args below meth c => ?_)
  refine g_aload_n d_Su_isAddress_0 rfl ?_
  refine g_iload_n d_Su_isAddress_1 rfl ?_
  obtain ⟨z_25, H⟩ := H
  obtain ⟨P_26, C_27, H⟩ := H
  refine q_V (As := [.int x1]) (st := []) (nl := 2) d_Su_isAddress_2 v_Su_9 C_27 z_25 rfl (catS_le (Nat.le_of_ble_eq_true rfl)) rfl ⟨by omega, by omega, Nat.le_refl _, Nat.le_refl _⟩ (fun r_32 h_28 p_29 => ?_)
  obtain ⟨x_30, rfl, p_29⟩ := p_29
  replace H := H x_30 h_28 p_29
  show Go _ _ _ _ [.int x_30] _ _ _
  refine g_istore_n (lv' := [some (.ref q0), some (.int x1), some (.int x_30), none, none]) d_Su_isAddress_5 (by decide) rfl ?_
  refine g_iload_n d_Su_isAddress_6 rfl ?_
  refine g_iconst (v := 1) d_Su_isAddress_7 (by decide) ?_
  obtain ⟨H1, H2⟩ := H
  refine g_icmp_lt (tgt := 30) d_Su_isAddress_8 (by decide) (fun c_33 => ?_) (fun c_33 => ?_)
  · have H := H1 c_33
    refine g_msk [true, true, true, false, false] ?_
    exact okJ_Su_isAddress_30 H
  · have H := H2 c_33
    refine g_iload_n d_Su_isAddress_11 rfl ?_
    refine g_bipush (v := 12) d_Su_isAddress_12 (by decide) ?_
    obtain ⟨H1, H2⟩ := H
    refine g_icmp_gt (tgt := 30) d_Su_isAddress_14 (by decide) (fun c_34 => ?_) (fun c_34 => ?_)
    · have H := H1 c_34
      refine g_msk [true, true, true, false, false] ?_
      exact okJ_Su_isAddress_30 H
    · have H := H2 c_34
      refine g_aload_n d_Su_isAddress_17 rfl ?_
      refine g_iload_n d_Su_isAddress_18 rfl ?_
      refine g_iconst (v := 1) d_Su_isAddress_19 (by decide) ?_
      refine g_iadd d_Su_isAddress_20 ?_
      obtain ⟨z_35, H⟩ := H
      obtain ⟨P_36, C_37, H⟩ := H
      refine q_V (As := [.int (x1 + 1)]) (st := []) (nl := 2) d_Su_isAddress_21 v_Su_9 C_37 z_35 rfl (catS_le (Nat.le_of_ble_eq_true rfl)) rfl ⟨by omega, by omega, Nat.le_refl _, Nat.le_refl _⟩ (fun r_42 h_38 p_39 => ?_)
      obtain ⟨x_40, rfl, p_39⟩ := p_39
      replace H := H x_40 h_38 p_39
      show Go _ _ _ _ [.int x_40] _ _ _
      refine g_sipush (v := 145) d_Su_isAddress_24 (by decide) ?_
      obtain ⟨H1, H2⟩ := H
      refine g_icmp_eq (tgt := 32) d_Su_isAddress_27 (by decide) (fun c_43 => ?_) (fun c_43 => ?_)
      · have H := H1 c_43
        refine g_iconst (v := 0) d_Su_isAddress_32 (by decide) ?_
        refine g_istore_n (lv' := [some (.ref q0), some (.int x1), some (.int x_30), some (.int 0), none]) d_Su_isAddress_33 (by decide) rfl ?_
        refine g_msk [true, true, true, true, false] ?_
        exact okL_Su_isAddress_34 H
      · have H := H2 c_43
        refine g_msk [true, true, true, false, false] ?_
        exact okJ_Su_isAddress_30 H
set_option maxRecDepth 100000 in
set_option maxHeartbeats 4000000 in
def wJ_Su_isUserData_30 (G : Gx) (l : Launch) (d w : Nat) (P : Int32 → Hp → Prop) (q0 : Nat) (x1 : Int32) (x2 : Int32) (h : Hp)  : Prop := P 0 h
set_option maxRecDepth 100000 in
set_option maxHeartbeats 4000000 in
theorem okJ_Su_isUserData_30 {G : Gx} {l : Launch} {d w : Nat} {P : Int32 → Hp → Prop} {p : Program} {e : Env} {s : State} {m : MethodId} {args : Array Value} {below : List Frame} {meth : Method} {c : Code} {q0 : Nat} {x1 : Int32} {x2 : Int32} {h : Hp}  (H : wJ_Su_isUserData_30 G l d w P  q0 x1 x2 h ) : Go M_Su_isUserData (mkX G (fun r h' => ∃ x, r = some (.int x) ∧ P x h') (d + 5) (w + 107) 0 0 p l e s m args below meth c) 30 [some (.ref q0), some (.int x1), some (.int x2), none] [] h 0 0 := by
  unfold wJ_Su_isUserData_30 at H
  refine g_iconst (v := 0) d_Su_isUserData_30 (by decide) ?_
  exact g_zreturn d_Su_isUserData_31 rfl (by decide) (Nat.le_refl _) (Nat.le_refl _) ⟨_, rfl, H⟩
set_option maxRecDepth 100000 in
set_option maxHeartbeats 4000000 in
def wJ_Su_isUserData_86 (G : Gx) (l : Launch) (d w : Nat) (P : Int32 → Hp → Prop) (q0 : Nat) (x1 : Int32) (x2 : Int32) (x3 : Int32) (h : Hp)  : Prop := ∃ P_1 : Int32 → Hp → Prop, (Ci G l M_Su_isText (d + 4) (w + 82) [.ref q0, .int x1] h 0 0 P_1) ∧ (∀ (x_5 : Int32) (h_3 : Hp), P_1 x_5 h_3 → (x_5 = 0 ∨ x_5 = 1) ∧ (P x_5 h_3))
set_option maxRecDepth 100000 in
set_option maxHeartbeats 4000000 in
theorem okJ_Su_isUserData_86 {G : Gx} {l : Launch} {d w : Nat} {P : Int32 → Hp → Prop} {p : Program} {e : Env} {s : State} {m : MethodId} {args : Array Value} {below : List Frame} {meth : Method} {c : Code} {q0 : Nat} {x1 : Int32} {x2 : Int32} {x3 : Int32} {h : Hp}  (H : wJ_Su_isUserData_86 G l d w P  q0 x1 x2 x3 h ) : Go M_Su_isUserData (mkX G (fun r h' => ∃ x, r = some (.int x) ∧ P x h') (d + 5) (w + 107) 0 0 p l e s m args below meth c) 86 [some (.ref q0), some (.int x1), some (.int x2), some (.int x3)] [] h 0 0 := by
  unfold wJ_Su_isUserData_86 at H
  refine g_aload_n d_Su_isUserData_86 rfl ?_
  refine g_iload_n d_Su_isUserData_87 rfl ?_
  obtain ⟨P_1, C_2, H⟩ := H
  refine q_S (As := [.ref q0, .int x1]) (st := []) (nl := 6) d_Su_isUserData_88 v_Su_45 C_2 rfl (catS_le (Nat.le_of_ble_eq_true rfl)) rfl ⟨by omega, by omega, Nat.le_refl _, Nat.le_refl _⟩ (fun r_7 h_3 p_4 => ?_)
  obtain ⟨x_5, rfl, p_4⟩ := p_4
  replace H := H x_5 h_3 p_4
  show Go _ _ _ _ [.int x_5] _ _ _
  obtain ⟨z_8, H⟩ := H
  exact g_zreturn d_Su_isUserData_91 rfl z_8 (Nat.le_refl _) (Nat.le_refl _) ⟨_, rfl, H⟩
set_option maxRecDepth 100000 in
set_option maxHeartbeats 4000000 in
def wJ_Su_isUserData_57 (G : Gx) (l : Launch) (d w : Nat) (P : Int32 → Hp → Prop) (q0 : Nat) (x1 : Int32) (x2 : Int32) (h : Hp)  : Prop := ∀ x_9 : Int32, x_9 = ((7 * x2) - (7 * x2) / 8 * 8) → (x_9 = 0 → wJ_Su_isUserData_86 G l d w P q0 x1 x2 x_9 h) ∧ (¬ x_9 = 0 → (hS h q0 = some (15, 0)) ∧ (∃ P_12 : Int32 → Hp → Prop, (Ci G l M_Ro_size (d + 0) (w + 0) [.ref q0] h 0 0 P_12) ∧ (∀ (x_16 : Int32) (h_14 : Hp), P_12 x_16 h_14 → (hS h_14 q0 = some (15, 0)) ∧ (∃ P_20 : Int32 → Hp → Prop, (Ci G l M_Ro_at (d + 1) (w + 21) [.ref q0, .int (x_16 - 1)] h_14 0 0 P_20) ∧ (∀ (x_24 : Int32) (h_22 : Hp), P_20 x_24 h_22 → ((x_24 >>> (x_9 &&& 31)) = 0 → wJ_Su_isUserData_86 G l d w P q0 x1 x2 x_9 h_22) ∧ (¬ (x_24 >>> (x_9 &&& 31)) = 0 → P 0 h_22))))))
set_option maxRecDepth 100000 in
set_option maxHeartbeats 4000000 in
theorem okJ_Su_isUserData_57 {G : Gx} {l : Launch} {d w : Nat} {P : Int32 → Hp → Prop} {p : Program} {e : Env} {s : State} {m : MethodId} {args : Array Value} {below : List Frame} {meth : Method} {c : Code} {q0 : Nat} {x1 : Int32} {x2 : Int32} {h : Hp}  (H : wJ_Su_isUserData_57 G l d w P  q0 x1 x2 h ) : Go M_Su_isUserData (mkX G (fun r h' => ∃ x, r = some (.int x) ∧ P x h') (d + 5) (w + 107) 0 0 p l e s m args below meth c) 57 [some (.ref q0), some (.int x1), some (.int x2), none] [] h 0 0 := by
  unfold wJ_Su_isUserData_57 at H
  refine g_bipush (v := 7) d_Su_isUserData_57 (by decide) ?_
  refine g_iload_n d_Su_isUserData_59 rfl ?_
  refine g_imul d_Su_isUserData_60 ?_
  refine g_bipush (v := 8) d_Su_isUserData_61 (by decide) ?_
  refine g_irem d_Su_isUserData_63 (by decide) ?_
  refine g_topi (fun x_9 ex_9 => ?_)
  replace H := H x_9 ex_9
  refine g_istore_n (lv' := [some (.ref q0), some (.int x1), some (.int x2), some (.int x_9)]) d_Su_isUserData_64 (by decide) rfl ?_
  refine g_iload_n d_Su_isUserData_65 rfl ?_
  obtain ⟨H1, H2⟩ := H
  refine g_if_eq (tgt := 86) d_Su_isUserData_66 (by decide) (fun c_10 => ?_) (fun c_10 => ?_)
  · have H := H1 c_10
    refine g_msk [true, true, true, true] ?_
    exact okJ_Su_isUserData_86 H
  · have H := H2 c_10
    refine g_aload_n d_Su_isUserData_69 rfl ?_
    refine g_aload_n d_Su_isUserData_70 rfl ?_
    obtain ⟨z_11, H⟩ := H
    obtain ⟨P_12, C_13, H⟩ := H
    refine q_V (As := []) (st := [.ref q0]) (nl := 1) d_Su_isUserData_71 v_Su_32 C_13 z_11 rfl (catS_le (Nat.le_of_ble_eq_true rfl)) rfl ⟨by omega, by omega, Nat.le_refl _, Nat.le_refl _⟩ (fun r_18 h_14 p_15 => ?_)
    obtain ⟨x_16, rfl, p_15⟩ := p_15
    replace H := H x_16 h_14 p_15
    show Go _ _ _ _ [.int x_16, .ref q0] _ _ _
    refine g_iconst (v := 1) d_Su_isUserData_74 (by decide) ?_
    refine g_isub d_Su_isUserData_75 ?_
    obtain ⟨z_19, H⟩ := H
    obtain ⟨P_20, C_21, H⟩ := H
    refine q_V (As := [.int (x_16 - 1)]) (st := []) (nl := 2) d_Su_isUserData_76 v_Su_9 C_21 z_19 rfl (catS_le (Nat.le_of_ble_eq_true rfl)) rfl ⟨by omega, by omega, Nat.le_refl _, Nat.le_refl _⟩ (fun r_26 h_22 p_23 => ?_)
    obtain ⟨x_24, rfl, p_23⟩ := p_23
    replace H := H x_24 h_22 p_23
    show Go _ _ _ _ [.int x_24] _ _ _
    refine g_iload_n d_Su_isUserData_79 rfl ?_
    refine g_ishr d_Su_isUserData_80 ?_
    obtain ⟨H1, H2⟩ := H
    refine g_if_eq (tgt := 86) d_Su_isUserData_81 (by decide) (fun c_27 => ?_) (fun c_27 => ?_)
    · have H := H1 c_27
      refine g_msk [true, true, true, true] ?_
      exact okJ_Su_isUserData_86 H
    · have H := H2 c_27
      refine g_iconst (v := 0) d_Su_isUserData_84 (by decide) ?_
      exact g_zreturn d_Su_isUserData_85 rfl (by decide) (Nat.le_refl _) (Nat.le_refl _) ⟨_, rfl, H⟩
set_option maxRecDepth 100000 in
set_option maxHeartbeats 4000000 in
def wJ_Su_isUserData_55 (G : Gx) (l : Launch) (d w : Nat) (P : Int32 → Hp → Prop) (q0 : Nat) (x1 : Int32) (x2 : Int32) (h : Hp)  : Prop := P 0 h
set_option maxRecDepth 100000 in
set_option maxHeartbeats 4000000 in
theorem okJ_Su_isUserData_55 {G : Gx} {l : Launch} {d w : Nat} {P : Int32 → Hp → Prop} {p : Program} {e : Env} {s : State} {m : MethodId} {args : Array Value} {below : List Frame} {meth : Method} {c : Code} {q0 : Nat} {x1 : Int32} {x2 : Int32} {h : Hp}  (H : wJ_Su_isUserData_55 G l d w P  q0 x1 x2 h ) : Go M_Su_isUserData (mkX G (fun r h' => ∃ x, r = some (.int x) ∧ P x h') (d + 5) (w + 107) 0 0 p l e s m args below meth c) 55 [some (.ref q0), some (.int x1), some (.int x2), none] [] h 0 0 := by
  unfold wJ_Su_isUserData_55 at H
  refine g_iconst (v := 0) d_Su_isUserData_55 (by decide) ?_
  exact g_zreturn d_Su_isUserData_56 rfl (by decide) (Nat.le_refl _) (Nat.le_refl _) ⟨_, rfl, H⟩
set_option maxRecDepth 100000 in
set_option maxHeartbeats 4000000 in
def wp_Su_isUserData (G : Gx) (l : Launch) (d w : Nat) (P : Int32 → Hp → Prop) (q0 : Nat) (x1 : Int32) (h : Hp) : Prop := (hS h q0 = some (15, 0)) ∧ (∃ P_29 : Int32 → Hp → Prop, (Ci G l M_Ro_at (d + 1) (w + 21) [.ref q0, .int x1] h 0 0 P_29) ∧ (∀ (x_33 : Int32) (h_31 : Hp), P_29 x_33 h_31 → (x_33 < 0 → wJ_Su_isUserData_30 G l d w P q0 x1 x_33 h_31) ∧ (¬ x_33 < 0 → (160 < x_33 → wJ_Su_isUserData_30 G l d w P q0 x1 x_33 h_31) ∧ (¬ 160 < x_33 → (hS h_31 q0 = some (15, 0)) ∧ (∃ P_39 : Int32 → Hp → Prop, (Ci G l M_Ro_size (d + 0) (w + 0) [.ref q0] h_31 0 0 P_39) ∧ (∀ (x_43 : Int32) (h_41 : Hp), P_39 x_43 h_41 → ∃ P_46 : Int32 → Hp → Prop, (Ci G l M_Ro_dataSize (d + 0) (w + 0) [.int x_33] h_41 0 0 P_46) ∧ (∀ (x_50 : Int32) (h_48 : Hp), P_46 x_50 h_48 → (x_43 = (x1 + x_50) → (hS h_48 q0 = some (15, 0)) ∧ (∃ P_55 : Int32 → Hp → Prop, (Ci G l M_Ro_hasHeader (d + 2) (w + 42) [.ref q0] h_48 0 0 P_55) ∧ (∀ (x_59 : Int32) (h_57 : Hp), P_55 x_59 h_57 → (x_59 = 0 → wJ_Su_isUserData_57 G l d w P q0 x1 x_33 h_57) ∧ (¬ x_59 = 0 → (x_33 < 7 → wJ_Su_isUserData_55 G l d w P q0 x1 x_33 h_57) ∧ (¬ x_33 < 7 → ∃ P_64 : Int32 → Hp → Prop, (Ci G l M_Su_isHeader (d + 2) (w + 42) [.ref q0, .int (x1 + 1)] h_57 0 0 P_64) ∧ (∀ (x_68 : Int32) (h_66 : Hp), P_64 x_68 h_66 → (¬ x_68 = 0 → wJ_Su_isUserData_57 G l d w P q0 x1 x_33 h_66) ∧ (x_68 = 0 → wJ_Su_isUserData_55 G l d w P q0 x1 x_33 h_66))))))) ∧ (¬ x_43 = (x1 + x_50) → wJ_Su_isUserData_30 G l d w P q0 x1 x_33 h_48))))))))
set_option maxRecDepth 100000 in
set_option maxHeartbeats 4000000 in
theorem ok_Su_isUserData {G : Gx} {l : Launch} {d w : Nat} {P : Int32 → Hp → Prop} {q0 : Nat} {x1 : Int32} {h : Hp} (H : wp_Su_isUserData G l d w P q0 x1 h) : Ci G l M_Su_isUserData (d + 5) (w + 107) [.ref q0, .int x1] h 0 0 P := by
  unfold wp_Su_isUserData at H
  refine Ct.of (lv := [some (.ref q0), some (.int x1), none, none]) (by decide) (Nat.le_of_ble_eq_true rfl) rfl (fun p e s m args below meth c => ?_)
  refine g_aload_n d_Su_isUserData_0 rfl ?_
  refine g_iload_n d_Su_isUserData_1 rfl ?_
  obtain ⟨z_28, H⟩ := H
  obtain ⟨P_29, C_30, H⟩ := H
  refine q_V (As := [.int x1]) (st := []) (nl := 2) d_Su_isUserData_2 v_Su_9 C_30 z_28 rfl (catS_le (Nat.le_of_ble_eq_true rfl)) rfl ⟨by omega, by omega, Nat.le_refl _, Nat.le_refl _⟩ (fun r_35 h_31 p_32 => ?_)
  obtain ⟨x_33, rfl, p_32⟩ := p_32
  replace H := H x_33 h_31 p_32
  show Go _ _ _ _ [.int x_33] _ _ _
  refine g_istore_n (lv' := [some (.ref q0), some (.int x1), some (.int x_33), none]) d_Su_isUserData_5 (by decide) rfl ?_
  refine g_iload_n d_Su_isUserData_6 rfl ?_
  obtain ⟨H1, H2⟩ := H
  refine g_if_lt (tgt := 30) d_Su_isUserData_7 (by decide) (fun c_36 => ?_) (fun c_36 => ?_)
  · have H := H1 c_36
    refine g_msk [true, true, true, false] ?_
    exact okJ_Su_isUserData_30 H
  · have H := H2 c_36
    refine g_iload_n d_Su_isUserData_10 rfl ?_
    refine g_sipush (v := 160) d_Su_isUserData_11 (by decide) ?_
    obtain ⟨H1, H2⟩ := H
    refine g_icmp_gt (tgt := 30) d_Su_isUserData_14 (by decide) (fun c_37 => ?_) (fun c_37 => ?_)
    · have H := H1 c_37
      refine g_msk [true, true, true, false] ?_
      exact okJ_Su_isUserData_30 H
    · have H := H2 c_37
      refine g_aload_n d_Su_isUserData_17 rfl ?_
      obtain ⟨z_38, H⟩ := H
      obtain ⟨P_39, C_40, H⟩ := H
      refine q_V (As := []) (st := []) (nl := 1) d_Su_isUserData_18 v_Su_32 C_40 z_38 rfl (catS_le (Nat.le_of_ble_eq_true rfl)) rfl ⟨by omega, by omega, Nat.le_refl _, Nat.le_refl _⟩ (fun r_45 h_41 p_42 => ?_)
      obtain ⟨x_43, rfl, p_42⟩ := p_42
      replace H := H x_43 h_41 p_42
      show Go _ _ _ _ [.int x_43] _ _ _
      refine g_iload_n d_Su_isUserData_21 rfl ?_
      refine g_iload_n d_Su_isUserData_22 rfl ?_
      obtain ⟨P_46, C_47, H⟩ := H
      refine q_S (As := [.int x_33]) (st := [.int x1, .int x_43]) (nl := 1) d_Su_isUserData_23 v_Su_35 C_47 rfl (catS_le (Nat.le_of_ble_eq_true rfl)) rfl ⟨by omega, by omega, Nat.le_refl _, Nat.le_refl _⟩ (fun r_52 h_48 p_49 => ?_)
      obtain ⟨x_50, rfl, p_49⟩ := p_49
      replace H := H x_50 h_48 p_49
      show Go _ _ _ _ [.int x_50, .int x1, .int x_43] _ _ _
      refine g_iadd d_Su_isUserData_26 ?_
      obtain ⟨H1, H2⟩ := H
      refine g_icmp_eq (tgt := 32) d_Su_isUserData_27 (by decide) (fun c_53 => ?_) (fun c_53 => ?_)
      · have H := H1 c_53
        refine g_aload_n d_Su_isUserData_32 rfl ?_
        obtain ⟨z_54, H⟩ := H
        obtain ⟨P_55, C_56, H⟩ := H
        refine q_V (As := []) (st := []) (nl := 1) d_Su_isUserData_33 v_Su_38 C_56 z_54 rfl (catS_le (Nat.le_of_ble_eq_true rfl)) rfl ⟨by omega, by omega, Nat.le_refl _, Nat.le_refl _⟩ (fun r_61 h_57 p_58 => ?_)
        obtain ⟨x_59, rfl, p_58⟩ := p_58
        replace H := H x_59 h_57 p_58
        show Go _ _ _ _ [.int x_59] _ _ _
        obtain ⟨H1, H2⟩ := H
        refine g_if_eq (tgt := 57) d_Su_isUserData_36 (by decide) (fun c_62 => ?_) (fun c_62 => ?_)
        · have H := H1 c_62
          refine g_msk [true, true, true, false] ?_
          exact okJ_Su_isUserData_57 H
        · have H := H2 c_62
          refine g_iload_n d_Su_isUserData_39 rfl ?_
          refine g_bipush (v := 7) d_Su_isUserData_40 (by decide) ?_
          obtain ⟨H1, H2⟩ := H
          refine g_icmp_lt (tgt := 55) d_Su_isUserData_42 (by decide) (fun c_63 => ?_) (fun c_63 => ?_)
          · have H := H1 c_63
            refine g_msk [true, true, true, false] ?_
            exact okJ_Su_isUserData_55 H
          · have H := H2 c_63
            refine g_aload_n d_Su_isUserData_45 rfl ?_
            refine g_iload_n d_Su_isUserData_46 rfl ?_
            refine g_iconst (v := 1) d_Su_isUserData_47 (by decide) ?_
            refine g_iadd d_Su_isUserData_48 ?_
            obtain ⟨P_64, C_65, H⟩ := H
            refine q_S (As := [.ref q0, .int (x1 + 1)]) (st := []) (nl := 5) d_Su_isUserData_49 v_Su_42 C_65 rfl (catS_le (Nat.le_of_ble_eq_true rfl)) rfl ⟨by omega, by omega, Nat.le_refl _, Nat.le_refl _⟩ (fun r_70 h_66 p_67 => ?_)
            obtain ⟨x_68, rfl, p_67⟩ := p_67
            replace H := H x_68 h_66 p_67
            show Go _ _ _ _ [.int x_68] _ _ _
            obtain ⟨H1, H2⟩ := H
            refine g_if_ne (tgt := 57) d_Su_isUserData_52 (by decide) (fun c_71 => ?_) (fun c_71 => ?_)
            · have H := H1 c_71
              refine g_msk [true, true, true, false] ?_
              exact okJ_Su_isUserData_57 H
            · have H := H2 c_71
              refine g_msk [true, true, true, false] ?_
              exact okJ_Su_isUserData_55 H
      · have H := H2 c_53
        refine g_msk [true, true, true, false] ?_
        exact okJ_Su_isUserData_30 H
set_option maxRecDepth 100000 in
set_option maxHeartbeats 4000000 in
def wJ_Su_isHeader_96 (G : Gx) (l : Launch) (d w : Nat) (P : Int32 → Hp → Prop) (q0 : Nat) (x1 : Int32) (x2 : Int32) (x3 : Int32) (x4 : Int32) (sx0 : Int32) (h : Hp)  : Prop := (sx0 = 0 ∨ sx0 = 1) ∧ (P sx0 h)
set_option maxRecDepth 100000 in
set_option maxHeartbeats 4000000 in
theorem okJ_Su_isHeader_96 {G : Gx} {l : Launch} {d w : Nat} {P : Int32 → Hp → Prop} {p : Program} {e : Env} {s : State} {m : MethodId} {args : Array Value} {below : List Frame} {meth : Method} {c : Code} {q0 : Nat} {x1 : Int32} {x2 : Int32} {x3 : Int32} {x4 : Int32} {sx0 : Int32} {h : Hp}  (H : wJ_Su_isHeader_96 G l d w P  q0 x1 x2 x3 x4 sx0 h ) : Go M_Su_isHeader (mkX G (fun r h' => ∃ x, r = some (.int x) ∧ P x h') (d + 2) (w + 42) 0 0 p l e s m args below meth c) 96 [some (.ref q0), some (.int x1), some (.int x2), some (.int x3), some (.int x4)] [.int sx0] h 0 0 := by
  unfold wJ_Su_isHeader_96 at H
  obtain ⟨z_1, H⟩ := H
  exact g_zreturn d_Su_isHeader_96 rfl z_1 (Nat.le_refl _) (Nat.le_refl _) ⟨_, rfl, H⟩
set_option maxRecDepth 100000 in
set_option maxHeartbeats 4000000 in
def wJ_Su_isHeader_95 (G : Gx) (l : Launch) (d w : Nat) (P : Int32 → Hp → Prop) (q0 : Nat) (x1 : Int32) (x2 : Int32) (x3 : Int32) (x4 : Int32) (h : Hp)  : Prop := wJ_Su_isHeader_96 G l d w P q0 x1 x2 x3 x4 0 h
set_option maxRecDepth 100000 in
set_option maxHeartbeats 4000000 in
theorem okJ_Su_isHeader_95 {G : Gx} {l : Launch} {d w : Nat} {P : Int32 → Hp → Prop} {p : Program} {e : Env} {s : State} {m : MethodId} {args : Array Value} {below : List Frame} {meth : Method} {c : Code} {q0 : Nat} {x1 : Int32} {x2 : Int32} {x3 : Int32} {x4 : Int32} {h : Hp}  (H : wJ_Su_isHeader_95 G l d w P  q0 x1 x2 x3 x4 h ) : Go M_Su_isHeader (mkX G (fun r h' => ∃ x, r = some (.int x) ∧ P x h') (d + 2) (w + 42) 0 0 p l e s m args below meth c) 95 [some (.ref q0), some (.int x1), some (.int x2), some (.int x3), some (.int x4)] [] h 0 0 := by
  unfold wJ_Su_isHeader_95 at H
  refine g_iconst (v := 0) d_Su_isHeader_95 (by decide) ?_
  refine g_msk [true, true, true, true, true] ?_
  exact okJ_Su_isHeader_96 H
set_option maxRecDepth 100000 in
set_option maxHeartbeats 4000000 in
def wJ_Su_isHeader_34 (G : Gx) (l : Launch) (d w : Nat) (P : Int32 → Hp → Prop) (q0 : Nat) (x1 : Int32) (x2 : Int32) (x3 : Int32) (sx0 : Int32) (h : Hp)  : Prop := (hS h q0 = some (15, 0)) ∧ (∃ P_3 : Int32 → Hp → Prop, (Ci G l M_Ro_at (d + 1) (w + 21) [.ref q0, .int x1] h 0 0 P_3) ∧ (∀ (x_7 : Int32) (h_5 : Hp), P_3 x_7 h_5 → (¬ x_7 = 5 → wJ_Su_isHeader_95 G l d w P q0 x1 x2 x3 sx0 h_5) ∧ (x_7 = 5 → (hS h_5 q0 = some (15, 0)) ∧ (∃ P_12 : Int32 → Hp → Prop, (Ci G l M_Ro_at (d + 1) (w + 21) [.ref q0, .int (x1 + 1)] h_5 0 0 P_12) ∧ (∀ (x_16 : Int32) (h_14 : Hp), P_12 x_16 h_14 → (¬ x_16 = 0 → wJ_Su_isHeader_95 G l d w P q0 x1 x2 x3 sx0 h_14) ∧ (x_16 = 0 → (hS h_14 q0 = some (15, 0)) ∧ (∃ P_21 : Int32 → Hp → Prop, (Ci G l M_Ro_at (d + 1) (w + 21) [.ref q0, .int (x1 + 2)] h_14 0 0 P_21) ∧ (∀ (x_25 : Int32) (h_23 : Hp), P_21 x_25 h_23 → (¬ x_25 = 3 → wJ_Su_isHeader_95 G l d w P q0 x1 x2 x3 sx0 h_23) ∧ (x_25 = 3 → (x2 < 1 → wJ_Su_isHeader_95 G l d w P q0 x1 x2 x3 sx0 h_23) ∧ (¬ x2 < 1 → (3 < x2 → wJ_Su_isHeader_95 G l d w P q0 x1 x2 x3 sx0 h_23) ∧ (¬ 3 < x2 → (x3 < 1 → wJ_Su_isHeader_95 G l d w P q0 x1 x2 x3 sx0 h_23) ∧ (¬ x3 < 1 → (x2 < x3 → wJ_Su_isHeader_95 G l d w P q0 x1 x2 x3 sx0 h_23) ∧ (¬ x2 < x3 → (sx0 = 0 → wJ_Su_isHeader_95 G l d w P q0 x1 x2 x3 sx0 h_23) ∧ (¬ sx0 = 0 → wJ_Su_isHeader_96 G l d w P q0 x1 x2 x3 sx0 1 h_23))))))))))))))
set_option maxRecDepth 100000 in
set_option maxHeartbeats 4000000 in
theorem okJ_Su_isHeader_34 {G : Gx} {l : Launch} {d w : Nat} {P : Int32 → Hp → Prop} {p : Program} {e : Env} {s : State} {m : MethodId} {args : Array Value} {below : List Frame} {meth : Method} {c : Code} {q0 : Nat} {x1 : Int32} {x2 : Int32} {x3 : Int32} {sx0 : Int32} {h : Hp}  (H : wJ_Su_isHeader_34 G l d w P  q0 x1 x2 x3 sx0 h ) : Go M_Su_isHeader (mkX G (fun r h' => ∃ x, r = some (.int x) ∧ P x h') (d + 2) (w + 42) 0 0 p l e s m args below meth c) 34 [some (.ref q0), some (.int x1), some (.int x2), some (.int x3), none] [.int sx0] h 0 0 := by
  unfold wJ_Su_isHeader_34 at H
  refine g_istore (lv' := [some (.ref q0), some (.int x1), some (.int x2), some (.int x3), some (.int sx0)]) d_Su_isHeader_34 (by decide) rfl ?_
  refine g_aload_n d_Su_isHeader_36 rfl ?_
  refine g_iload_n d_Su_isHeader_37 rfl ?_
  obtain ⟨z_2, H⟩ := H
  obtain ⟨P_3, C_4, H⟩ := H
  refine q_V (As := [.int x1]) (st := []) (nl := 2) d_Su_isHeader_38 v_Su_9 C_4 z_2 rfl (catS_le (Nat.le_of_ble_eq_true rfl)) rfl ⟨by omega, by omega, Nat.le_refl _, Nat.le_refl _⟩ (fun r_9 h_5 p_6 => ?_)
  obtain ⟨x_7, rfl, p_6⟩ := p_6
  replace H := H x_7 h_5 p_6
  show Go _ _ _ _ [.int x_7] _ _ _
  refine g_iconst (v := 5) d_Su_isHeader_41 (by decide) ?_
  obtain ⟨H1, H2⟩ := H
  refine g_icmp_ne (tgt := 95) d_Su_isHeader_42 (by decide) (fun c_10 => ?_) (fun c_10 => ?_)
  · have H := H1 c_10
    refine g_msk [true, true, true, true, true] ?_
    exact okJ_Su_isHeader_95 H
  · have H := H2 c_10
    refine g_aload_n d_Su_isHeader_45 rfl ?_
    refine g_iload_n d_Su_isHeader_46 rfl ?_
    refine g_iconst (v := 1) d_Su_isHeader_47 (by decide) ?_
    refine g_iadd d_Su_isHeader_48 ?_
    obtain ⟨z_11, H⟩ := H
    obtain ⟨P_12, C_13, H⟩ := H
    refine q_V (As := [.int (x1 + 1)]) (st := []) (nl := 2) d_Su_isHeader_49 v_Su_9 C_13 z_11 rfl (catS_le (Nat.le_of_ble_eq_true rfl)) rfl ⟨by omega, by omega, Nat.le_refl _, Nat.le_refl _⟩ (fun r_18 h_14 p_15 => ?_)
    obtain ⟨x_16, rfl, p_15⟩ := p_15
    replace H := H x_16 h_14 p_15
    show Go _ _ _ _ [.int x_16] _ _ _
    obtain ⟨H1, H2⟩ := H
    refine g_if_ne (tgt := 95) d_Su_isHeader_52 (by decide) (fun c_19 => ?_) (fun c_19 => ?_)
    · have H := H1 c_19
      refine g_msk [true, true, true, true, true] ?_
      exact okJ_Su_isHeader_95 H
    · have H := H2 c_19
      refine g_aload_n d_Su_isHeader_55 rfl ?_
      refine g_iload_n d_Su_isHeader_56 rfl ?_
      refine g_iconst (v := 2) d_Su_isHeader_57 (by decide) ?_
      refine g_iadd d_Su_isHeader_58 ?_
      obtain ⟨z_20, H⟩ := H
      obtain ⟨P_21, C_22, H⟩ := H
      refine q_V (As := [.int (x1 + 2)]) (st := []) (nl := 2) d_Su_isHeader_59 v_Su_9 C_22 z_20 rfl (catS_le (Nat.le_of_ble_eq_true rfl)) rfl ⟨by omega, by omega, Nat.le_refl _, Nat.le_refl _⟩ (fun r_27 h_23 p_24 => ?_)
      obtain ⟨x_25, rfl, p_24⟩ := p_24
      replace H := H x_25 h_23 p_24
      show Go _ _ _ _ [.int x_25] _ _ _
      refine g_iconst (v := 3) d_Su_isHeader_62 (by decide) ?_
      obtain ⟨H1, H2⟩ := H
      refine g_icmp_ne (tgt := 95) d_Su_isHeader_63 (by decide) (fun c_28 => ?_) (fun c_28 => ?_)
      · have H := H1 c_28
        refine g_msk [true, true, true, true, true] ?_
        exact okJ_Su_isHeader_95 H
      · have H := H2 c_28
        refine g_iload_n d_Su_isHeader_66 rfl ?_
        refine g_iconst (v := 1) d_Su_isHeader_67 (by decide) ?_
        obtain ⟨H1, H2⟩ := H
        refine g_icmp_lt (tgt := 95) d_Su_isHeader_68 (by decide) (fun c_29 => ?_) (fun c_29 => ?_)
        · have H := H1 c_29
          refine g_msk [true, true, true, true, true] ?_
          exact okJ_Su_isHeader_95 H
        · have H := H2 c_29
          refine g_iload_n d_Su_isHeader_71 rfl ?_
          refine g_iconst (v := 3) d_Su_isHeader_72 (by decide) ?_
          obtain ⟨H1, H2⟩ := H
          refine g_icmp_gt (tgt := 95) d_Su_isHeader_73 (by decide) (fun c_30 => ?_) (fun c_30 => ?_)
          · have H := H1 c_30
            refine g_msk [true, true, true, true, true] ?_
            exact okJ_Su_isHeader_95 H
          · have H := H2 c_30
            refine g_iload_n d_Su_isHeader_76 rfl ?_
            refine g_iconst (v := 1) d_Su_isHeader_77 (by decide) ?_
            obtain ⟨H1, H2⟩ := H
            refine g_icmp_lt (tgt := 95) d_Su_isHeader_78 (by decide) (fun c_31 => ?_) (fun c_31 => ?_)
            · have H := H1 c_31
              refine g_msk [true, true, true, true, true] ?_
              exact okJ_Su_isHeader_95 H
            · have H := H2 c_31
              refine g_iload_n d_Su_isHeader_81 rfl ?_
              refine g_iload_n d_Su_isHeader_82 rfl ?_
              obtain ⟨H1, H2⟩ := H
              refine g_icmp_gt (tgt := 95) d_Su_isHeader_83 (by decide) (fun c_32 => ?_) (fun c_32 => ?_)
              · have H := H1 c_32
                refine g_msk [true, true, true, true, true] ?_
                exact okJ_Su_isHeader_95 H
              · have H := H2 c_32
                refine g_iload d_Su_isHeader_86 rfl ?_
                obtain ⟨H1, H2⟩ := H
                refine g_if_eq (tgt := 95) d_Su_isHeader_88 (by decide) (fun c_33 => ?_) (fun c_33 => ?_)
                · have H := H1 c_33
                  refine g_msk [true, true, true, true, true] ?_
                  exact okJ_Su_isHeader_95 H
                · have H := H2 c_33
                  refine g_iconst (v := 1) d_Su_isHeader_91 (by decide) ?_
                  refine g_goto (tgt := 96) d_Su_isHeader_92 (by decide) ?_
                  refine g_msk [true, true, true, true, true] ?_
                  exact okJ_Su_isHeader_96 H
set_option maxRecDepth 100000 in
set_option maxHeartbeats 4000000 in
def wp_Su_isHeader (G : Gx) (l : Launch) (d w : Nat) (P : Int32 → Hp → Prop) (q0 : Nat) (x1 : Int32) (h : Hp) : Prop := (hS h q0 = some (15, 0)) ∧ (∃ P_35 : Int32 → Hp → Prop, (Ci G l M_Ro_at (d + 1) (w + 21) [.ref q0, .int (x1 + 4)] h 0 0 P_35) ∧ (∀ (x_39 : Int32) (h_37 : Hp), P_35 x_39 h_37 → (hS h_37 q0 = some (15, 0)) ∧ (∃ P_43 : Int32 → Hp → Prop, (Ci G l M_Ro_at (d + 1) (w + 21) [.ref q0, .int (x1 + 5)] h_37 0 0 P_43) ∧ (∀ (x_47 : Int32) (h_45 : Hp), P_43 x_47 h_45 → (hS h_45 q0 = some (15, 0)) ∧ (∃ P_51 : Int32 → Hp → Prop, (Ci G l M_Ro_at (d + 1) (w + 21) [.ref q0, .int (x1 + 6)] h_45 0 0 P_51) ∧ (∀ (x_55 : Int32) (h_53 : Hp), P_51 x_55 h_53 → (¬ (x_55 &&& 1) = 0 → wJ_Su_isHeader_34 G l d w P q0 x1 x_39 x_47 0 h_53) ∧ ((x_55 &&& 1) = 0 → wJ_Su_isHeader_34 G l d w P q0 x1 x_39 x_47 1 h_53)))))))
set_option maxRecDepth 100000 in
set_option maxHeartbeats 4000000 in
theorem ok_Su_isHeader {G : Gx} {l : Launch} {d w : Nat} {P : Int32 → Hp → Prop} {q0 : Nat} {x1 : Int32} {h : Hp} (H : wp_Su_isHeader G l d w P q0 x1 h) : Ci G l M_Su_isHeader (d + 2) (w + 42) [.ref q0, .int x1] h 0 0 P := by
  unfold wp_Su_isHeader at H
  refine Ct.of (lv := [some (.ref q0), some (.int x1), none, none, none]) (by decide) (Nat.le_of_ble_eq_true rfl) rfl (fun p e s m args below meth c => ?_)
  refine g_aload_n d_Su_isHeader_0 rfl ?_
  refine g_iload_n d_Su_isHeader_1 rfl ?_
  refine g_iconst (v := 4) d_Su_isHeader_2 (by decide) ?_
  refine g_iadd d_Su_isHeader_3 ?_
  obtain ⟨z_34, H⟩ := H
  obtain ⟨P_35, C_36, H⟩ := H
  refine q_V (As := [.int (x1 + 4)]) (st := []) (nl := 2) d_Su_isHeader_4 v_Su_9 C_36 z_34 rfl (catS_le (Nat.le_of_ble_eq_true rfl)) rfl ⟨by omega, by omega, Nat.le_refl _, Nat.le_refl _⟩ (fun r_41 h_37 p_38 => ?_)
  obtain ⟨x_39, rfl, p_38⟩ := p_38
  replace H := H x_39 h_37 p_38
  show Go _ _ _ _ [.int x_39] _ _ _
  refine g_istore_n (lv' := [some (.ref q0), some (.int x1), some (.int x_39), none, none]) d_Su_isHeader_7 (by decide) rfl ?_
  refine g_aload_n d_Su_isHeader_8 rfl ?_
  refine g_iload_n d_Su_isHeader_9 rfl ?_
  refine g_iconst (v := 5) d_Su_isHeader_10 (by decide) ?_
  refine g_iadd d_Su_isHeader_11 ?_
  obtain ⟨z_42, H⟩ := H
  obtain ⟨P_43, C_44, H⟩ := H
  refine q_V (As := [.int (x1 + 5)]) (st := []) (nl := 2) d_Su_isHeader_12 v_Su_9 C_44 z_42 rfl (catS_le (Nat.le_of_ble_eq_true rfl)) rfl ⟨by omega, by omega, Nat.le_refl _, Nat.le_refl _⟩ (fun r_49 h_45 p_46 => ?_)
  obtain ⟨x_47, rfl, p_46⟩ := p_46
  replace H := H x_47 h_45 p_46
  show Go _ _ _ _ [.int x_47] _ _ _
  refine g_istore_n (lv' := [some (.ref q0), some (.int x1), some (.int x_39), some (.int x_47), none]) d_Su_isHeader_15 (by decide) rfl ?_
  refine g_aload_n d_Su_isHeader_16 rfl ?_
  refine g_iload_n d_Su_isHeader_17 rfl ?_
  refine g_bipush (v := 6) d_Su_isHeader_18 (by decide) ?_
  refine g_iadd d_Su_isHeader_20 ?_
  obtain ⟨z_50, H⟩ := H
  obtain ⟨P_51, C_52, H⟩ := H
  refine q_V (As := [.int (x1 + 6)]) (st := []) (nl := 2) d_Su_isHeader_21 v_Su_9 C_52 z_50 rfl (catS_le (Nat.le_of_ble_eq_true rfl)) rfl ⟨by omega, by omega, Nat.le_refl _, Nat.le_refl _⟩ (fun r_57 h_53 p_54 => ?_)
  obtain ⟨x_55, rfl, p_54⟩ := p_54
  replace H := H x_55 h_53 p_54
  show Go _ _ _ _ [.int x_55] _ _ _
  refine g_iconst (v := 1) d_Su_isHeader_24 (by decide) ?_
  refine g_iand d_Su_isHeader_25 ?_
  obtain ⟨H1, H2⟩ := H
  refine g_if_ne (tgt := 33) d_Su_isHeader_26 (by decide) (fun c_58 => ?_) (fun c_58 => ?_)
  · have H := H1 c_58
    refine g_iconst (v := 0) d_Su_isHeader_33 (by decide) ?_
    refine g_msk [true, true, true, true, false] ?_
    exact okJ_Su_isHeader_34 H
  · have H := H2 c_58
    refine g_iconst (v := 1) d_Su_isHeader_29 (by decide) ?_
    refine g_goto (tgt := 34) d_Su_isHeader_30 (by decide) ?_
    refine g_msk [true, true, true, true, false] ?_
    exact okJ_Su_isHeader_34 H
set_option maxRecDepth 100000 in
set_option maxHeartbeats 4000000 in
def wJ_Su_isText_81 (G : Gx) (l : Launch) (d w : Nat) (P : Int32 → Hp → Prop) (q0 : Nat) (x1 : Int32) (x2 : Int32) (x3 : Int32) (x4 : Int32) (sx0 : Int32) (h : Hp)  : Prop := (sx0 = 0 ∨ sx0 = 1) ∧ (P sx0 h)
set_option maxRecDepth 100000 in
set_option maxHeartbeats 4000000 in
theorem okJ_Su_isText_81 {G : Gx} {l : Launch} {d w : Nat} {P : Int32 → Hp → Prop} {p : Program} {e : Env} {s : State} {m : MethodId} {args : Array Value} {below : List Frame} {meth : Method} {c : Code} {q0 : Nat} {x1 : Int32} {x2 : Int32} {x3 : Int32} {x4 : Int32} {sx0 : Int32} {h : Hp}  (H : wJ_Su_isText_81 G l d w P  q0 x1 x2 x3 x4 sx0 h ) : Go M_Su_isText (mkX G (fun r h' => ∃ x, r = some (.int x) ∧ P x h') (d + 4) (w + 82) 0 0 p l e s m args below meth c) 81 [some (.ref q0), some (.int x1), some (.int x2), some (.int x3), some (.int x4), none] [.int sx0] h 0 0 := by
  unfold wJ_Su_isText_81 at H
  obtain ⟨z_1, H⟩ := H
  exact g_zreturn d_Su_isText_81 rfl z_1 (Nat.le_refl _) (Nat.le_refl _) ⟨_, rfl, H⟩
set_option maxRecDepth 100000 in
set_option maxHeartbeats 4000000 in
def wJ_Su_isText_66 (G : Gx) (l : Launch) (d w : Nat) (P : Int32 → Hp → Prop) (C17 : Int32 → Int32 → Hp → Prop) (q0 : Nat) (x1 : Int32) (x2 : Int32) (x3 : Int32) (x4 : Int32) (x5 : Int32) (h : Hp)  : Prop := ∀ x_2 : Int32, x_2 = x4 + 7 → C17 x3 x_2 h
set_option maxRecDepth 100000 in
set_option maxHeartbeats 4000000 in
theorem okJ_Su_isText_66 {G : Gx} {l : Launch} {d w : Nat} {P : Int32 → Hp → Prop} {p : Program} {e : Env} {s : State} {m : MethodId} {args : Array Value} {below : List Frame} {meth : Method} {c : Code} {C17 : Int32 → Int32 → Hp → Prop} {q0 : Nat} {x1 : Int32} {x2 : Int32} {x3 : Int32} {x4 : Int32} {x5 : Int32} (hC17 : ∀ (x3 : Int32) (x4 : Int32) (h : Hp), C17 x3 x4 h → Go M_Su_isText (mkX G (fun r h' => ∃ x, r = some (.int x) ∧ P x h') (d + 4) (w + 82) 0 0 p l e s m args below meth c) 17 [some (.ref q0), some (.int x1), some (.int x2), some (.int x3), some (.int x4), none] [] h 0 0) {h : Hp}  (H : wJ_Su_isText_66 G l d w P C17 q0 x1 x2 x3 x4 x5 h ) : Go M_Su_isText (mkX G (fun r h' => ∃ x, r = some (.int x) ∧ P x h') (d + 4) (w + 82) 0 0 p l e s m args below meth c) 66 [some (.ref q0), some (.int x1), some (.int x2), some (.int x3), some (.int x4), some (.int x5)] [] h 0 0 := by
  unfold wJ_Su_isText_66 at H
  obtain ⟨x_2, ex_2⟩ : ∃ z : Int32, z = x4 + 7 := ⟨_, rfl⟩
  replace H := H x_2 ex_2
  refine g_iinc (v := x_2) (lv' := [some (.ref q0), some (.int x1), some (.int x2), some (.int x3), some (.int x_2), some (.int x5)]) d_Su_isText_66 rfl (by decide) (by rw [ex_2]; rfl) rfl ?_
  refine g_goto (tgt := 17) d_Su_isText_69 (by decide) ?_
  refine g_msk [true, true, true, true, true, false] ?_
  exact hC17 _ _ _ H
set_option maxRecDepth 100000 in
set_option maxHeartbeats 4000000 in
def wJ_Su_isText_65 (G : Gx) (l : Launch) (d w : Nat) (P : Int32 → Hp → Prop) (C17 : Int32 → Int32 → Hp → Prop) (q0 : Nat) (x1 : Int32) (x2 : Int32) (x3 : Int32) (x4 : Int32) (x5 : Int32) (sx0 : Int32) (h : Hp)  : Prop := wJ_Su_isText_66 G l d w P C17 q0 x1 x2 sx0 x4 x5 h
set_option maxRecDepth 100000 in
set_option maxHeartbeats 4000000 in
theorem okJ_Su_isText_65 {G : Gx} {l : Launch} {d w : Nat} {P : Int32 → Hp → Prop} {p : Program} {e : Env} {s : State} {m : MethodId} {args : Array Value} {below : List Frame} {meth : Method} {c : Code} {C17 : Int32 → Int32 → Hp → Prop} {q0 : Nat} {x1 : Int32} {x2 : Int32} {x3 : Int32} {x4 : Int32} {x5 : Int32} {sx0 : Int32} (hC17 : ∀ (x3 : Int32) (x4 : Int32) (h : Hp), C17 x3 x4 h → Go M_Su_isText (mkX G (fun r h' => ∃ x, r = some (.int x) ∧ P x h') (d + 4) (w + 82) 0 0 p l e s m args below meth c) 17 [some (.ref q0), some (.int x1), some (.int x2), some (.int x3), some (.int x4), none] [] h 0 0) {h : Hp}  (H : wJ_Su_isText_65 G l d w P C17 q0 x1 x2 x3 x4 x5 sx0 h ) : Go M_Su_isText (mkX G (fun r h' => ∃ x, r = some (.int x) ∧ P x h') (d + 4) (w + 82) 0 0 p l e s m args below meth c) 65 [some (.ref q0), some (.int x1), some (.int x2), some (.int x3), some (.int x4), some (.int x5)] [.int sx0] h 0 0 := by
  unfold wJ_Su_isText_65 at H
  refine g_istore_n (lv' := [some (.ref q0), some (.int x1), some (.int x2), some (.int sx0), some (.int x4), some (.int x5)]) d_Su_isText_65 (by decide) rfl ?_
  refine g_msk [true, true, true, true, true, true] ?_
  exact okJ_Su_isText_66 hC17 H
set_option maxRecDepth 100000 in
set_option maxHeartbeats 4000000 in
def wB_Su_isText_17 (G : Gx) (l : Launch) (d w : Nat) (P : Int32 → Hp → Prop) (C17 : Int32 → Int32 → Hp → Prop) (q0 : Nat) (x1 : Int32) (x2 : Int32) (x3 : Int32) (x4 : Int32) (h : Hp)  : Prop := (x2 ≤ x4 → (¬ x3 = 0 → wJ_Su_isText_81 G l d w P q0 x1 x2 x3 x4 0 h) ∧ (x3 = 0 → wJ_Su_isText_81 G l d w P q0 x1 x2 x3 x4 1 h)) ∧ (¬ x2 ≤ x4 → (hS h q0 = some (15, 0)) ∧ (∃ P_6 : Int32 → Hp → Prop, (Ci G l M_Ro_septetAt (d + 1) (w + 21) [.ref q0, .int (x1 + 1), .int x4] h 0 0 P_6) ∧ (∀ (x_10 : Int32) (h_8 : Hp), P_6 x_10 h_8 → (x3 = 0 → (¬ x_10 = 27 → wJ_Su_isText_65 G l d w P C17 q0 x1 x2 x3 x4 x_10 0 h_8) ∧ (x_10 = 27 → wJ_Su_isText_65 G l d w P C17 q0 x1 x2 x3 x4 x_10 1 h_8)) ∧ (¬ x3 = 0 → ∃ P_15 : Int32 → Hp → Prop, (Ci G l M_Al_second (d + 0) (w + 0) [.int x_10] h_8 0 0 P_15) ∧ (∀ (x_19 : Int32) (h_17 : Hp), P_15 x_19 h_17 → (0 ≤ x_19 → wJ_Su_isText_66 G l d w P C17 q0 x1 x2 0 x4 x_10 h_17) ∧ (¬ 0 ≤ x_19 → P 0 h_17))))))
set_option maxRecDepth 100000 in
set_option maxHeartbeats 4000000 in
theorem okB_Su_isText_17 {G : Gx} {l : Launch} {d w : Nat} {P : Int32 → Hp → Prop} {p : Program} {e : Env} {s : State} {m : MethodId} {args : Array Value} {below : List Frame} {meth : Method} {c : Code} {C17 : Int32 → Int32 → Hp → Prop} {q0 : Nat} {x1 : Int32} {x2 : Int32} {x3 : Int32} {x4 : Int32} (hC17 : ∀ (x3 : Int32) (x4 : Int32) (h : Hp), C17 x3 x4 h → Go M_Su_isText (mkX G (fun r h' => ∃ x, r = some (.int x) ∧ P x h') (d + 4) (w + 82) 0 0 p l e s m args below meth c) 17 [some (.ref q0), some (.int x1), some (.int x2), some (.int x3), some (.int x4), none] [] h 0 0) {h : Hp}  (H : wB_Su_isText_17 G l d w P C17 q0 x1 x2 x3 x4 h ) : Go M_Su_isText (mkX G (fun r h' => ∃ x, r = some (.int x) ∧ P x h') (d + 4) (w + 82) 0 0 p l e s m args below meth c) 17 [some (.ref q0), some (.int x1), some (.int x2), some (.int x3), some (.int x4), none] [] h 0 0 := by
  unfold wB_Su_isText_17 at H
  refine g_iload d_Su_isText_17 rfl ?_
  refine g_iload_n d_Su_isText_19 rfl ?_
  obtain ⟨H1, H2⟩ := H
  refine g_icmp_ge (tgt := 72) d_Su_isText_20 (by decide) (fun c_3 => ?_) (fun c_3 => ?_)
  · have H := H1 c_3
    refine g_iload_n d_Su_isText_72 rfl ?_
    obtain ⟨H1, H2⟩ := H
    refine g_if_ne (tgt := 80) d_Su_isText_73 (by decide) (fun c_4 => ?_) (fun c_4 => ?_)
    · have H := H1 c_4
      refine g_iconst (v := 0) d_Su_isText_80 (by decide) ?_
      refine g_msk [true, true, true, true, true, false] ?_
      exact okJ_Su_isText_81 H
    · have H := H2 c_4
      refine g_iconst (v := 1) d_Su_isText_76 (by decide) ?_
      refine g_goto (tgt := 81) d_Su_isText_77 (by decide) ?_
      refine g_msk [true, true, true, true, true, false] ?_
      exact okJ_Su_isText_81 H
  · have H := H2 c_3
    refine g_aload_n d_Su_isText_23 rfl ?_
    refine g_iload_n d_Su_isText_24 rfl ?_
    refine g_iconst (v := 1) d_Su_isText_25 (by decide) ?_
    refine g_iadd d_Su_isText_26 ?_
    refine g_iload d_Su_isText_27 rfl ?_
    obtain ⟨z_5, H⟩ := H
    obtain ⟨P_6, C_7, H⟩ := H
    refine q_V (As := [.int (x1 + 1), .int x4]) (st := []) (nl := 6) d_Su_isText_29 v_Su_51 C_7 z_5 rfl (catS_le (Nat.le_of_ble_eq_true rfl)) rfl ⟨by omega, by omega, Nat.le_refl _, Nat.le_refl _⟩ (fun r_12 h_8 p_9 => ?_)
    obtain ⟨x_10, rfl, p_9⟩ := p_9
    replace H := H x_10 h_8 p_9
    show Go _ _ _ _ [.int x_10] _ _ _
    refine g_istore (lv' := [some (.ref q0), some (.int x1), some (.int x2), some (.int x3), some (.int x4), some (.int x_10)]) d_Su_isText_32 (by decide) rfl ?_
    refine g_iload_n d_Su_isText_34 rfl ?_
    obtain ⟨H1, H2⟩ := H
    refine g_if_eq (tgt := 53) d_Su_isText_35 (by decide) (fun c_13 => ?_) (fun c_13 => ?_)
    · have H := H1 c_13
      refine g_iload d_Su_isText_53 rfl ?_
      refine g_bipush (v := 27) d_Su_isText_55 (by decide) ?_
      obtain ⟨H1, H2⟩ := H
      refine g_icmp_ne (tgt := 64) d_Su_isText_57 (by decide) (fun c_14 => ?_) (fun c_14 => ?_)
      · have H := H1 c_14
        refine g_iconst (v := 0) d_Su_isText_64 (by decide) ?_
        refine g_msk [true, true, true, true, true, true] ?_
        exact okJ_Su_isText_65 hC17 H
      · have H := H2 c_14
        refine g_iconst (v := 1) d_Su_isText_60 (by decide) ?_
        refine g_goto (tgt := 65) d_Su_isText_61 (by decide) ?_
        refine g_msk [true, true, true, true, true, true] ?_
        exact okJ_Su_isText_65 hC17 H
    · have H := H2 c_13
      refine g_iload d_Su_isText_38 rfl ?_
      obtain ⟨P_15, C_16, H⟩ := H
      refine q_S (As := [.int x_10]) (st := []) (nl := 2) d_Su_isText_40 v_Su_54 C_16 rfl (catS_le (Nat.le_of_ble_eq_true rfl)) rfl ⟨by omega, by omega, Nat.le_refl _, Nat.le_refl _⟩ (fun r_21 h_17 p_18 => ?_)
      obtain ⟨x_19, rfl, p_18⟩ := p_18
      replace H := H x_19 h_17 p_18
      show Go _ _ _ _ [.int x_19] _ _ _
      obtain ⟨H1, H2⟩ := H
      refine g_if_ge (tgt := 48) d_Su_isText_43 (by decide) (fun c_22 => ?_) (fun c_22 => ?_)
      · have H := H1 c_22
        refine g_iconst (v := 0) d_Su_isText_48 (by decide) ?_
        refine g_istore_n (lv' := [some (.ref q0), some (.int x1), some (.int x2), some (.int 0), some (.int x4), some (.int x_10)]) d_Su_isText_49 (by decide) rfl ?_
        refine g_goto (tgt := 66) d_Su_isText_50 (by decide) ?_
        refine g_msk [true, true, true, true, true, true] ?_
        exact okJ_Su_isText_66 hC17 H
      · have H := H2 c_22
        refine g_iconst (v := 0) d_Su_isText_46 (by decide) ?_
        exact g_zreturn d_Su_isText_47 rfl (by decide) (Nat.le_refl _) (Nat.le_refl _) ⟨_, rfl, H⟩
set_option maxRecDepth 100000 in
set_option maxHeartbeats 4000000 in
def wL_Su_isText_17 (G : Gx) (l : Launch) (d w : Nat) (P : Int32 → Hp → Prop) (q0 : Nat) (x1 : Int32) (x2 : Int32) (x3 : Int32) (x4 : Int32) (h : Hp)  : Prop := ∃ (I : Int32 → Int32 → Hp → Prop) (μ : Int32 → Int32 → Hp → Nat), I x3 x4 h ∧ ∀ (x3' : Int32) (x4' : Int32) (h' : Hp), I x3' x4' h' → wB_Su_isText_17 G l d w P (fun x3_ x4_ h_ => I x3_ x4_ h_ ∧ μ x3_ x4_ h_ < μ x3' x4' h') q0 x1 x2 x3' x4' h'
set_option maxRecDepth 100000 in
set_option maxHeartbeats 4000000 in
theorem okL_Su_isText_17 {G : Gx} {l : Launch} {d w : Nat} {P : Int32 → Hp → Prop} {p : Program} {e : Env} {s : State} {m : MethodId} {args : Array Value} {below : List Frame} {meth : Method} {c : Code} {q0 : Nat} {x1 : Int32} {x2 : Int32} {x3 : Int32} {x4 : Int32} {h : Hp}  (H : wL_Su_isText_17 G l d w P  q0 x1 x2 x3 x4 h ) : Go M_Su_isText (mkX G (fun r h' => ∃ x, r = some (.int x) ∧ P x h') (d + 4) (w + 82) 0 0 p l e s m args below meth c) 17 [some (.ref q0), some (.int x1), some (.int x2), some (.int x3), some (.int x4), none] [] h 0 0 := by
  obtain ⟨I, μ, h0, hs⟩ := H
  have key : ∀ (N : Nat) (x3 : Int32) (x4 : Int32) (h : Hp), I x3 x4 h → μ x3 x4 h < N → Go M_Su_isText (mkX G (fun r h' => ∃ x, r = some (.int x) ∧ P x h') (d + 4) (w + 82) 0 0 p l e s m args below meth c) 17 [some (.ref q0), some (.int x1), some (.int x2), some (.int x3), some (.int x4), none] [] h 0 0 := by
    intro N
    induction N with
    | zero => intro x3 x4 h _ hN; exact absurd hN (Nat.not_lt_zero _)
    | succ N ih =>
      intro x3 x4 h hI hN
      exact okB_Su_isText_17 (fun x3_ x4_ h_ hh => ih x3_ x4_ h_ hh.1 (Nat.lt_of_lt_of_le hh.2 (Nat.le_of_lt_succ hN))) (hs x3 x4 h hI)
  exact key _ _ _ _ h0 (Nat.lt_succ_self _)
set_option maxRecDepth 100000 in
set_option maxHeartbeats 4000000 in
def wp_Su_isText (G : Gx) (l : Launch) (d w : Nat) (P : Int32 → Hp → Prop) (q0 : Nat) (x1 : Int32) (h : Hp) : Prop := (hS h q0 = some (15, 0)) ∧ (∃ P_24 : Int32 → Hp → Prop, (Ci G l M_Ro_at (d + 1) (w + 21) [.ref q0, .int x1] h 0 0 P_24) ∧ (∀ (x_28 : Int32) (h_26 : Hp), P_24 x_28 h_26 → ∀ x_31 : Int32, x_31 = (7 * x_28) → (hS h_26 q0 = some (15, 0)) ∧ (∃ P_33 : Int32 → Hp → Prop, (Ci G l M_Ro_firstBit (d + 3) (w + 62) [.ref q0] h_26 0 0 P_33) ∧ (∀ (x_37 : Int32) (h_35 : Hp), P_33 x_37 h_35 → wL_Su_isText_17 G l d w P q0 x1 x_31 0 x_37 h_35))))
set_option maxRecDepth 100000 in
set_option maxHeartbeats 4000000 in
theorem ok_Su_isText {G : Gx} {l : Launch} {d w : Nat} {P : Int32 → Hp → Prop} {q0 : Nat} {x1 : Int32} {h : Hp} (H : wp_Su_isText G l d w P q0 x1 h) : Ci G l M_Su_isText (d + 4) (w + 82) [.ref q0, .int x1] h 0 0 P := by
  unfold wp_Su_isText at H
  refine Ct.of (lv := [some (.ref q0), some (.int x1), none, none, none, none]) (by decide) (Nat.le_of_ble_eq_true rfl) rfl (fun p e s m args below meth c => ?_)
  refine g_bipush (v := 7) d_Su_isText_0 (by decide) ?_
  refine g_aload_n d_Su_isText_2 rfl ?_
  refine g_iload_n d_Su_isText_3 rfl ?_
  obtain ⟨z_23, H⟩ := H
  obtain ⟨P_24, C_25, H⟩ := H
  refine q_V (As := [.int x1]) (st := [.int 7]) (nl := 2) d_Su_isText_4 v_Su_9 C_25 z_23 rfl (catS_le (Nat.le_of_ble_eq_true rfl)) rfl ⟨by omega, by omega, Nat.le_refl _, Nat.le_refl _⟩ (fun r_30 h_26 p_27 => ?_)
  obtain ⟨x_28, rfl, p_27⟩ := p_27
  replace H := H x_28 h_26 p_27
  show Go _ _ _ _ [.int x_28, .int 7] _ _ _
  refine g_imul d_Su_isText_7 ?_
  refine g_topi (fun x_31 ex_31 => ?_)
  replace H := H x_31 ex_31
  refine g_istore_n (lv' := [some (.ref q0), some (.int x1), some (.int x_31), none, none, none]) d_Su_isText_8 (by decide) rfl ?_
  refine g_iconst (v := 0) d_Su_isText_9 (by decide) ?_
  refine g_istore_n (lv' := [some (.ref q0), some (.int x1), some (.int x_31), some (.int 0), none, none]) d_Su_isText_10 (by decide) rfl ?_
  refine g_aload_n d_Su_isText_11 rfl ?_
  obtain ⟨z_32, H⟩ := H
  obtain ⟨P_33, C_34, H⟩ := H
  refine q_V (As := []) (st := []) (nl := 1) d_Su_isText_12 v_Su_48 C_34 z_32 rfl (catS_le (Nat.le_of_ble_eq_true rfl)) rfl ⟨by omega, by omega, Nat.le_refl _, Nat.le_refl _⟩ (fun r_39 h_35 p_36 => ?_)
  obtain ⟨x_37, rfl, p_36⟩ := p_36
  replace H := H x_37 h_35 p_36
  show Go _ _ _ _ [.int x_37] _ _ _
  refine g_istore (lv' := [some (.ref q0), some (.int x1), some (.int x_31), some (.int 0), some (.int x_37), none]) d_Su_isText_15 (by decide) rfl ?_
  refine g_msk [true, true, true, true, true, false] ?_
  exact okL_Su_isText_17 H
