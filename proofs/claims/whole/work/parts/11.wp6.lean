set_option maxRecDepth 100000 in
set_option maxHeartbeats 4000000 in
def wp_MO_escaped (G : Gx) (l : Launch) (d w : Nat) (P : Int32 → Hp → Prop) (x0 : Int32) (h : Hp) : Prop := ∀ x_1 : Int32, x_1 = x0 → (x_1 = 10 → P 12 h) ∧ (x_1 = 20 → P 94 h) ∧ (x_1 = 40 → P 123 h) ∧ (x_1 = 41 → P 125 h) ∧ (x_1 = 47 → P 92 h) ∧ (x_1 = 60 → P 91 h) ∧ (x_1 = 61 → P 126 h) ∧ (x_1 = 62 → P 93 h) ∧ (x_1 = 64 → P 124 h) ∧ (x_1 = 101 → P 8364 h) ∧ (¬ x_1 = 10 → ¬ x_1 = 20 → ¬ x_1 = 40 → ¬ x_1 = 41 → ¬ x_1 = 47 → ¬ x_1 = 60 → ¬ x_1 = 61 → ¬ x_1 = 62 → ¬ x_1 = 64 → ¬ x_1 = 101 → P (-1) h)
set_option maxRecDepth 100000 in
set_option maxHeartbeats 4000000 in
theorem ok_MO_escaped {G : Gx} {l : Launch} {d w : Nat} {P : Int32 → Hp → Prop} {x0 : Int32} {h : Hp} (H : wp_MO_escaped G l d w P x0 h) : Ci G l M_MO_escaped (d + 0) (w + 0) [.int x0] h 0 0 P := by
  unfold wp_MO_escaped at H
  refine Ct.of (lv := [some (.int x0)]) (by decide) (Nat.le_of_ble_eq_true rfl) rfl (fun p e s m args below meth c => ?_)
  refine g_iload_n d_MO_escaped_0 rfl ?_
  refine g_topi (fun x_1 ex_1 => ?_)
  replace H := H x_1 ex_1
  obtain ⟨HA, H⟩ := H
  by_cases c0_x_1 : x_1 = 10
  · have H := HA c0_x_1
    refine g_lookup (off := 91) (tgt := 92) d_MO_escaped_1 (by decide) (by first | (rw [c0_x_1]; done) | (rw [c0_x_1]; decide)) (by decide) ?_
    refine g_bipush (v := 12) d_MO_escaped_92 (by decide) ?_
    exact g_ireturn d_MO_escaped_94 rfl (Nat.le_refl _) (Nat.le_refl _) ⟨_, rfl, H⟩
  obtain ⟨HA, H⟩ := H
  by_cases c1_x_1 : x_1 = 20
  · have H := HA c1_x_1
    refine g_lookup (off := 94) (tgt := 95) d_MO_escaped_1 (by decide) (by first | (rw [c1_x_1]; done) | (rw [c1_x_1]; decide)) (by decide) ?_
    refine g_bipush (v := 94) d_MO_escaped_95 (by decide) ?_
    exact g_ireturn d_MO_escaped_97 rfl (Nat.le_refl _) (Nat.le_refl _) ⟨_, rfl, H⟩
  obtain ⟨HA, H⟩ := H
  by_cases c2_x_1 : x_1 = 40
  · have H := HA c2_x_1
    refine g_lookup (off := 97) (tgt := 98) d_MO_escaped_1 (by decide) (by first | (rw [c2_x_1]; done) | (rw [c2_x_1]; decide)) (by decide) ?_
    refine g_bipush (v := 123) d_MO_escaped_98 (by decide) ?_
    exact g_ireturn d_MO_escaped_100 rfl (Nat.le_refl _) (Nat.le_refl _) ⟨_, rfl, H⟩
  obtain ⟨HA, H⟩ := H
  by_cases c3_x_1 : x_1 = 41
  · have H := HA c3_x_1
    refine g_lookup (off := 100) (tgt := 101) d_MO_escaped_1 (by decide) (by first | (rw [c3_x_1]; done) | (rw [c3_x_1]; decide)) (by decide) ?_
    refine g_bipush (v := 125) d_MO_escaped_101 (by decide) ?_
    exact g_ireturn d_MO_escaped_103 rfl (Nat.le_refl _) (Nat.le_refl _) ⟨_, rfl, H⟩
  obtain ⟨HA, H⟩ := H
  by_cases c4_x_1 : x_1 = 47
  · have H := HA c4_x_1
    refine g_lookup (off := 103) (tgt := 104) d_MO_escaped_1 (by decide) (by first | (rw [c4_x_1]; done) | (rw [c4_x_1]; decide)) (by decide) ?_
    refine g_bipush (v := 92) d_MO_escaped_104 (by decide) ?_
    exact g_ireturn d_MO_escaped_106 rfl (Nat.le_refl _) (Nat.le_refl _) ⟨_, rfl, H⟩
  obtain ⟨HA, H⟩ := H
  by_cases c5_x_1 : x_1 = 60
  · have H := HA c5_x_1
    refine g_lookup (off := 106) (tgt := 107) d_MO_escaped_1 (by decide) (by first | (rw [c5_x_1]; done) | (rw [c5_x_1]; decide)) (by decide) ?_
    refine g_bipush (v := 91) d_MO_escaped_107 (by decide) ?_
    exact g_ireturn d_MO_escaped_109 rfl (Nat.le_refl _) (Nat.le_refl _) ⟨_, rfl, H⟩
  obtain ⟨HA, H⟩ := H
  by_cases c6_x_1 : x_1 = 61
  · have H := HA c6_x_1
    refine g_lookup (off := 109) (tgt := 110) d_MO_escaped_1 (by decide) (by first | (rw [c6_x_1]; done) | (rw [c6_x_1]; decide)) (by decide) ?_
    refine g_bipush (v := 126) d_MO_escaped_110 (by decide) ?_
    exact g_ireturn d_MO_escaped_112 rfl (Nat.le_refl _) (Nat.le_refl _) ⟨_, rfl, H⟩
  obtain ⟨HA, H⟩ := H
  by_cases c7_x_1 : x_1 = 62
  · have H := HA c7_x_1
    refine g_lookup (off := 112) (tgt := 113) d_MO_escaped_1 (by decide) (by first | (rw [c7_x_1]; done) | (rw [c7_x_1]; decide)) (by decide) ?_
    refine g_bipush (v := 93) d_MO_escaped_113 (by decide) ?_
    exact g_ireturn d_MO_escaped_115 rfl (Nat.le_refl _) (Nat.le_refl _) ⟨_, rfl, H⟩
  obtain ⟨HA, H⟩ := H
  by_cases c8_x_1 : x_1 = 64
  · have H := HA c8_x_1
    refine g_lookup (off := 115) (tgt := 116) d_MO_escaped_1 (by decide) (by first | (rw [c8_x_1]; done) | (rw [c8_x_1]; decide)) (by decide) ?_
    refine g_bipush (v := 124) d_MO_escaped_116 (by decide) ?_
    exact g_ireturn d_MO_escaped_118 rfl (Nat.le_refl _) (Nat.le_refl _) ⟨_, rfl, H⟩
  obtain ⟨HA, H⟩ := H
  by_cases c9_x_1 : x_1 = 101
  · have H := HA c9_x_1
    refine g_lookup (off := 118) (tgt := 119) d_MO_escaped_1 (by decide) (by first | (rw [c9_x_1]; done) | (rw [c9_x_1]; decide)) (by decide) ?_
    refine g_sipush (v := 8364) d_MO_escaped_119 (by decide) ?_
    exact g_ireturn d_MO_escaped_122 rfl (Nat.le_refl _) (Nat.le_refl _) ⟨_, rfl, H⟩
  replace H := H c0_x_1 c1_x_1 c2_x_1 c3_x_1 c4_x_1 c5_x_1 c6_x_1 c7_x_1 c8_x_1 c9_x_1
  refine g_lookup (off := 122) (tgt := 123) d_MO_escaped_1 (by decide) (by first | (show Op.lookupswitch.offset _ _ _ = _; rw [lv_osw c0_x_1 (by decide), lv_osw c1_x_1 (by decide), lv_osw c2_x_1 (by decide), lv_osw c3_x_1 (by decide), lv_osw c4_x_1 (by decide), lv_osw c5_x_1 (by decide), lv_osw c6_x_1 (by decide), lv_osw c7_x_1 (by decide), lv_osw c8_x_1 (by decide), lv_osw c9_x_1 (by decide)]; done) | (show Op.lookupswitch.offset _ _ _ = _; rw [lv_osw c0_x_1 (by decide), lv_osw c1_x_1 (by decide), lv_osw c2_x_1 (by decide), lv_osw c3_x_1 (by decide), lv_osw c4_x_1 (by decide), lv_osw c5_x_1 (by decide), lv_osw c6_x_1 (by decide), lv_osw c7_x_1 (by decide), lv_osw c8_x_1 (by decide), lv_osw c9_x_1 (by decide)]; rfl)) (by decide) ?_
  refine g_iconst (v := (-1)) d_MO_escaped_123 (by decide) ?_
  exact g_ireturn d_MO_escaped_124 rfl (Nat.le_refl _) (Nat.le_refl _) ⟨_, rfl, H⟩
set_option maxRecDepth 100000 in
set_option maxHeartbeats 4000000 in
def wJ_MO_encode_45 (G : Gx) (l : Launch) (d w : Nat) (P : Int32 → Hp → Prop) (C2 : Int32 → Hp → Prop) (q0 : Nat) (x1 : Int32) (x2 : Int32) (h : Hp)  : Prop := ∃ P_1 : Int32 → Hp → Prop, (Ci G l M_MO_escaped (d + 0) (w + 0) [.int x2] h 0 0 P_1) ∧ (∀ (x_5 : Int32) (h_3 : Hp), P_1 x_5 h_3 → (¬ x_5 = x1 → ∀ x_9 : Int32, x_9 = x2 + 1 → C2 x_9 h_3) ∧ (x_5 = x1 → (hS h_3 q0 = some (18, 0)) ∧ (∃ q_11 : Nat, (hR h_3 q0 3) = some q_11 ∧ (∃ N_13 : Nat, ∃ j_14 : Nat, (hS h_3 q_11 = some (0, N_13) ∧ (hI h_3 q0 2) = nI j_14 ∧ j_14 < N_13 ∧ j_14 < 2147483648) ∧ (∃ q_16 : Nat, (hR h_3 q0 3) = some q_16 ∧ (∃ N_18 : Nat, ∃ j_19 : Nat, (hS h_3 q_16 = some (0, N_18) ∧ ((hI (pI h_3 q_11 j_14 27) q0 2) + 1) = nI j_19 ∧ j_19 < N_18 ∧ j_19 < 2147483648) ∧ (P 1 (pI (pI (pI h_3 q_11 j_14 27) q_16 j_19 x2) q0 2 ((hI (pI (pI h_3 q_11 j_14 27) q_16 j_19 x2) q0 2) + 2)))))))))
set_option maxRecDepth 100000 in
set_option maxHeartbeats 4000000 in
theorem okJ_MO_encode_45 {G : Gx} {l : Launch} {d w : Nat} {P : Int32 → Hp → Prop} {p : Program} {e : Env} {s : State} {m : MethodId} {args : Array Value} {below : List Frame} {meth : Method} {c : Code} {C2 : Int32 → Hp → Prop} {q0 : Nat} {x1 : Int32} {x2 : Int32} (hC2 : ∀ (x2 : Int32) (h : Hp), C2 x2 h → Go M_MO_encode (mkX G (fun r h' => ∃ x, r = some (.int x) ∧ P x h') (d + 2) (w + 40) 0 0 p l e s m args below meth c) 2 [some (.ref q0), some (.int x1), some (.int x2)] [] h 0 0) {h : Hp}  (H : wJ_MO_encode_45 G l d w P C2 q0 x1 x2 h ) : Go M_MO_encode (mkX G (fun r h' => ∃ x, r = some (.int x) ∧ P x h') (d + 2) (w + 40) 0 0 p l e s m args below meth c) 45 [some (.ref q0), some (.int x1), some (.int x2)] [] h 0 0 := by
  unfold wJ_MO_encode_45 at H
  refine g_iload_n d_MO_encode_45 rfl ?_
  obtain ⟨P_1, C_2, H⟩ := H
  refine q_S (As := [.int x2]) (st := []) (nl := 1) d_MO_encode_46 v_MO_128 C_2 rfl (catS_le (Nat.le_of_ble_eq_true rfl)) rfl ⟨by omega, by omega, Nat.le_refl _, Nat.le_refl _⟩ (fun r_7 h_3 p_4 => ?_)
  obtain ⟨x_5, rfl, p_4⟩ := p_4
  replace H := H x_5 h_3 p_4
  show Go _ _ _ _ [.int x_5] _ _ _
  refine g_iload_n d_MO_encode_49 rfl ?_
  obtain ⟨H1, H2⟩ := H
  refine g_icmp_ne (tgt := 88) d_MO_encode_50 (by decide) (fun c_8 => ?_) (fun c_8 => ?_)
  · have H := H1 c_8
    obtain ⟨x_9, ex_9⟩ : ∃ z : Int32, z = x2 + 1 := ⟨_, rfl⟩
    replace H := H x_9 ex_9
    refine g_iinc (v := x_9) (lv' := [some (.ref q0), some (.int x1), some (.int x_9)]) d_MO_encode_88 rfl (by decide) (by rw [ex_9]; rfl) rfl ?_
    refine g_goto (tgt := 2) d_MO_encode_91 (by decide) ?_
    refine g_msk [true, true, true] ?_
    exact hC2 _ _ H
  · have H := H2 c_8
    refine g_aload_n d_MO_encode_53 rfl ?_
    obtain ⟨z_10, H⟩ := H
    refine g_getR d_MO_encode_54 f_MO_13 z_10 (by decide) ?_
    refine g_aload_n d_MO_encode_57 rfl ?_
    refine g_getI d_MO_encode_58 f_MO_124 z_10 ?_
    refine g_bipush (v := 27) d_MO_encode_61 (by decide) ?_
    obtain ⟨q_11, e_12, H⟩ := H
    show Go _ _ _ [some (.ref q0), some (.int x1), some (.int x2)] [.int 27, .int (hI h_3 q0 2), va_rf (hR h_3 q0 3)] _ _ _
    rw [show va_rf (hR h_3 q0 3) = Value.ref q_11 from by rw [e_12]; rfl]
    obtain ⟨N_13, H⟩ := H
    obtain ⟨j_14, H⟩ := H
    obtain ⟨z_15, H⟩ := H
    refine g_iast d_MO_encode_63 z_15.1 z_15.2.1 z_15.2.2.1 z_15.2.2.2 ?_
    refine g_aload_n d_MO_encode_64 rfl ?_
    refine g_getR d_MO_encode_65 f_MO_13 z_10 (by decide) ?_
    refine g_aload_n d_MO_encode_68 rfl ?_
    refine g_getI d_MO_encode_69 f_MO_124 z_10 ?_
    refine g_iconst (v := 1) d_MO_encode_72 (by decide) ?_
    refine g_iadd d_MO_encode_73 ?_
    refine g_iload_n d_MO_encode_74 rfl ?_
    obtain ⟨q_16, e_17, H⟩ := H
    show Go _ _ _ [some (.ref q0), some (.int x1), some (.int x2)] [.int x2, .int ((hI (pI h_3 q_11 j_14 27) q0 2) + 1), va_rf (hR h_3 q0 3)] _ _ _
    rw [show va_rf (hR h_3 q0 3) = Value.ref q_16 from by rw [e_17]; rfl]
    obtain ⟨N_18, H⟩ := H
    obtain ⟨j_19, H⟩ := H
    obtain ⟨z_20, H⟩ := H
    refine g_iast d_MO_encode_75 z_20.1 z_20.2.1 z_20.2.2.1 z_20.2.2.2 ?_
    refine g_aload_n d_MO_encode_76 rfl ?_
    refine g_aload_n d_MO_encode_77 rfl ?_
    refine g_getI d_MO_encode_78 f_MO_124 z_10 ?_
    refine g_iconst (v := 2) d_MO_encode_81 (by decide) ?_
    refine g_iadd d_MO_encode_82 ?_
    refine g_putI d_MO_encode_83 f_MO_124 (fo_8_2 _) z_10 ?_
    refine g_iconst (v := 1) d_MO_encode_86 (by decide) ?_
    exact g_zreturn d_MO_encode_87 rfl (by decide) (Nat.le_refl _) (Nat.le_refl _) ⟨_, rfl, H⟩
set_option maxRecDepth 100000 in
set_option maxHeartbeats 4000000 in
def wB_MO_encode_2 (G : Gx) (l : Launch) (d w : Nat) (P : Int32 → Hp → Prop) (C2 : Int32 → Hp → Prop) (q0 : Nat) (x1 : Int32) (x2 : Int32) (h : Hp)  : Prop := (128 ≤ x2 → P 0 h) ∧ (¬ 128 ≤ x2 → (x2 = 27 → wJ_MO_encode_45 G l d w P C2 q0 x1 x2 h) ∧ (¬ x2 = 27 → ∃ P_23 : Int32 → Hp → Prop, (Ci G l M_MO_plain (d + 1) (w + 20) [.int x2] h 0 0 P_23) ∧ (∀ (x_27 : Int32) (h_25 : Hp), P_23 x_27 h_25 → (¬ x_27 = x1 → wJ_MO_encode_45 G l d w P C2 q0 x1 x2 h_25) ∧ (x_27 = x1 → (hS h_25 q0 = some (18, 0)) ∧ (∃ q_32 : Nat, (hR h_25 q0 3) = some q_32 ∧ (∃ N_34 : Nat, ∃ j_35 : Nat, (hS h_25 q_32 = some (0, N_34) ∧ (hI h_25 q0 2) = nI j_35 ∧ j_35 < N_34 ∧ j_35 < 2147483648) ∧ (P 1 (pI (pI h_25 q_32 j_35 x2) q0 2 ((hI (pI h_25 q_32 j_35 x2) q0 2) + 1)))))))))
set_option maxRecDepth 100000 in
set_option maxHeartbeats 4000000 in
theorem okB_MO_encode_2 {G : Gx} {l : Launch} {d w : Nat} {P : Int32 → Hp → Prop} {p : Program} {e : Env} {s : State} {m : MethodId} {args : Array Value} {below : List Frame} {meth : Method} {c : Code} {C2 : Int32 → Hp → Prop} {q0 : Nat} {x1 : Int32} {x2 : Int32} (hC2 : ∀ (x2 : Int32) (h : Hp), C2 x2 h → Go M_MO_encode (mkX G (fun r h' => ∃ x, r = some (.int x) ∧ P x h') (d + 2) (w + 40) 0 0 p l e s m args below meth c) 2 [some (.ref q0), some (.int x1), some (.int x2)] [] h 0 0) {h : Hp}  (H : wB_MO_encode_2 G l d w P C2 q0 x1 x2 h ) : Go M_MO_encode (mkX G (fun r h' => ∃ x, r = some (.int x) ∧ P x h') (d + 2) (w + 40) 0 0 p l e s m args below meth c) 2 [some (.ref q0), some (.int x1), some (.int x2)] [] h 0 0 := by
  unfold wB_MO_encode_2 at H
  refine g_iload_n d_MO_encode_2 rfl ?_
  refine g_sipush (v := 128) d_MO_encode_3 (by decide) ?_
  obtain ⟨H1, H2⟩ := H
  refine g_icmp_ge (tgt := 94) d_MO_encode_6 (by decide) (fun c_21 => ?_) (fun c_21 => ?_)
  · have H := H1 c_21
    refine g_iconst (v := 0) d_MO_encode_94 (by decide) ?_
    exact g_zreturn d_MO_encode_95 rfl (by decide) (Nat.le_refl _) (Nat.le_refl _) ⟨_, rfl, H⟩
  · have H := H2 c_21
    refine g_iload_n d_MO_encode_9 rfl ?_
    refine g_bipush (v := 27) d_MO_encode_10 (by decide) ?_
    obtain ⟨H1, H2⟩ := H
    refine g_icmp_eq (tgt := 45) d_MO_encode_12 (by decide) (fun c_22 => ?_) (fun c_22 => ?_)
    · have H := H1 c_22
      refine g_msk [true, true, true] ?_
      exact okJ_MO_encode_45 hC2 H
    · have H := H2 c_22
      refine g_iload_n d_MO_encode_15 rfl ?_
      obtain ⟨P_23, C_24, H⟩ := H
      refine q_S (As := [.int x2]) (st := []) (nl := 1) d_MO_encode_16 v_MO_121 C_24 rfl (catS_le (Nat.le_of_ble_eq_true rfl)) rfl ⟨by omega, by omega, Nat.le_refl _, Nat.le_refl _⟩ (fun r_29 h_25 p_26 => ?_)
      obtain ⟨x_27, rfl, p_26⟩ := p_26
      replace H := H x_27 h_25 p_26
      show Go _ _ _ _ [.int x_27] _ _ _
      refine g_iload_n d_MO_encode_19 rfl ?_
      obtain ⟨H1, H2⟩ := H
      refine g_icmp_ne (tgt := 45) d_MO_encode_20 (by decide) (fun c_30 => ?_) (fun c_30 => ?_)
      · have H := H1 c_30
        refine g_msk [true, true, true] ?_
        exact okJ_MO_encode_45 hC2 H
      · have H := H2 c_30
        refine g_aload_n d_MO_encode_23 rfl ?_
        obtain ⟨z_31, H⟩ := H
        refine g_getR d_MO_encode_24 f_MO_13 z_31 (by decide) ?_
        refine g_aload_n d_MO_encode_27 rfl ?_
        refine g_getI d_MO_encode_28 f_MO_124 z_31 ?_
        refine g_iload_n d_MO_encode_31 rfl ?_
        obtain ⟨q_32, e_33, H⟩ := H
        show Go _ _ _ [some (.ref q0), some (.int x1), some (.int x2)] [.int x2, .int (hI h_25 q0 2), va_rf (hR h_25 q0 3)] _ _ _
        rw [show va_rf (hR h_25 q0 3) = Value.ref q_32 from by rw [e_33]; rfl]
        obtain ⟨N_34, H⟩ := H
        obtain ⟨j_35, H⟩ := H
        obtain ⟨z_36, H⟩ := H
        refine g_iast d_MO_encode_32 z_36.1 z_36.2.1 z_36.2.2.1 z_36.2.2.2 ?_
        refine g_aload_n d_MO_encode_33 rfl ?_
        refine g_dup d_MO_encode_34 rfl ?_
        refine g_getI d_MO_encode_35 f_MO_124 z_31 ?_
        refine g_iconst (v := 1) d_MO_encode_38 (by decide) ?_
        refine g_iadd d_MO_encode_39 ?_
        refine g_putI d_MO_encode_40 f_MO_124 (fo_8_2 _) z_31 ?_
        refine g_iconst (v := 1) d_MO_encode_43 (by decide) ?_
        exact g_zreturn d_MO_encode_44 rfl (by decide) (Nat.le_refl _) (Nat.le_refl _) ⟨_, rfl, H⟩
set_option maxRecDepth 100000 in
set_option maxHeartbeats 4000000 in
def wL_MO_encode_2 (G : Gx) (l : Launch) (d w : Nat) (P : Int32 → Hp → Prop) (q0 : Nat) (x1 : Int32) (x2 : Int32) (h : Hp)  : Prop := ∃ (I : Int32 → Hp → Prop) (μ : Int32 → Hp → Nat), I x2 h ∧ ∀ (x2' : Int32) (h' : Hp), I x2' h' → wB_MO_encode_2 G l d w P (fun x2_ h_ => I x2_ h_ ∧ μ x2_ h_ < μ x2' h') q0 x1 x2' h'
set_option maxRecDepth 100000 in
set_option maxHeartbeats 4000000 in
theorem okL_MO_encode_2 {G : Gx} {l : Launch} {d w : Nat} {P : Int32 → Hp → Prop} {p : Program} {e : Env} {s : State} {m : MethodId} {args : Array Value} {below : List Frame} {meth : Method} {c : Code} {q0 : Nat} {x1 : Int32} {x2 : Int32} {h : Hp}  (H : wL_MO_encode_2 G l d w P  q0 x1 x2 h ) : Go M_MO_encode (mkX G (fun r h' => ∃ x, r = some (.int x) ∧ P x h') (d + 2) (w + 40) 0 0 p l e s m args below meth c) 2 [some (.ref q0), some (.int x1), some (.int x2)] [] h 0 0 := by
  obtain ⟨I, μ, h0, hs⟩ := H
  have key : ∀ (N : Nat) (x2 : Int32) (h : Hp), I x2 h → μ x2 h < N → Go M_MO_encode (mkX G (fun r h' => ∃ x, r = some (.int x) ∧ P x h') (d + 2) (w + 40) 0 0 p l e s m args below meth c) 2 [some (.ref q0), some (.int x1), some (.int x2)] [] h 0 0 := by
    intro N
    induction N with
    | zero => intro x2 h _ hN; exact absurd hN (Nat.not_lt_zero _)
    | succ N ih =>
      intro x2 h hI hN
      exact okB_MO_encode_2 (fun x2_ h_ hh => ih x2_ h_ hh.1 (Nat.lt_of_lt_of_le hh.2 (Nat.le_of_lt_succ hN))) (hs x2 h hI)
  exact key _ _ _ h0 (Nat.lt_succ_self _)
set_option maxRecDepth 100000 in
set_option maxHeartbeats 4000000 in
def wp_MO_encode (G : Gx) (l : Launch) (d w : Nat) (P : Int32 → Hp → Prop) (q0 : Nat) (x1 : Int32) (h : Hp) : Prop := wL_MO_encode_2 G l d w P q0 x1 0 h
set_option maxRecDepth 100000 in
set_option maxHeartbeats 4000000 in
theorem ok_MO_encode {G : Gx} {l : Launch} {d w : Nat} {P : Int32 → Hp → Prop} {q0 : Nat} {x1 : Int32} {h : Hp} (H : wp_MO_encode G l d w P q0 x1 h) : Ci G l M_MO_encode (d + 2) (w + 40) [.ref q0, .int x1] h 0 0 P := by
  unfold wp_MO_encode at H
  refine Ct.of (lv := [some (.ref q0), some (.int x1), none]) (by decide) (Nat.le_of_ble_eq_true rfl) rfl (fun p e s m args below meth c => ?_)
  refine g_iconst (v := 0) d_MO_encode_0 (by decide) ?_
  refine g_istore_n (lv' := [some (.ref q0), some (.int x1), some (.int 0)]) d_MO_encode_1 (by decide) rfl ?_
  refine g_msk [true, true, true] ?_
  exact okL_MO_encode_2 H
set_option maxRecDepth 100000 in
set_option maxHeartbeats 4000000 in
def wp_MO_put (G : Gx) (l : Launch) (d w : Nat) (P : Hp → Prop) (q0 : Nat) (x1 : Int32) (h : Hp) : Prop := (hS h q0 = some (18, 0)) ∧ (∃ q_2 : Nat, (hR h q0 12) = some q_2 ∧ (∃ N_4 : Nat, ∃ j_5 : Nat, (hS h q_2 = some (0, N_4) ∧ (hI h q0 11) = nI j_5 ∧ j_5 < N_4 ∧ j_5 < 2147483648) ∧ (P (pI (pI h q_2 j_5 x1) q0 11 ((hI (pI h q_2 j_5 x1) q0 11) + 1)))))
set_option maxRecDepth 100000 in
set_option maxHeartbeats 4000000 in
theorem ok_MO_put {G : Gx} {l : Launch} {d w : Nat} {P : Hp → Prop} {q0 : Nat} {x1 : Int32} {h : Hp} (H : wp_MO_put G l d w P q0 x1 h) : Cv G l M_MO_put (d + 0) (w + 0) [.ref q0, .int x1] h 0 0 P := by
  unfold wp_MO_put at H
  refine Ct.of (lv := [some (.ref q0), some (.int x1)]) (by decide) (Nat.le_of_ble_eq_true rfl) rfl (fun p e s m args below meth c => ?_)
  refine g_aload_n d_MO_put_0 rfl ?_
  obtain ⟨z_1, H⟩ := H
  refine g_getR d_MO_put_1 f_MO_39 z_1 (by decide) ?_
  refine g_aload_n d_MO_put_4 rfl ?_
  refine g_getI d_MO_put_5 f_MO_131 z_1 ?_
  refine g_iload_n d_MO_put_8 rfl ?_
  obtain ⟨q_2, e_3, H⟩ := H
  show Go _ _ _ [some (.ref q0), some (.int x1)] [.int x1, .int (hI h q0 11), va_rf (hR h q0 12)] _ _ _
  rw [show va_rf (hR h q0 12) = Value.ref q_2 from by rw [e_3]; rfl]
  obtain ⟨N_4, H⟩ := H
  obtain ⟨j_5, H⟩ := H
  obtain ⟨z_6, H⟩ := H
  refine g_iast d_MO_put_9 z_6.1 z_6.2.1 z_6.2.2.1 z_6.2.2.2 ?_
  refine g_aload_n d_MO_put_10 rfl ?_
  refine g_dup d_MO_put_11 rfl ?_
  refine g_getI d_MO_put_12 f_MO_131 z_1 ?_
  refine g_iconst (v := 1) d_MO_put_15 (by decide) ?_
  refine g_iadd d_MO_put_16 ?_
  refine g_putI d_MO_put_17 f_MO_131 (fo_8_11 _) z_1 ?_
  exact g_return d_MO_put_20 rfl (Nat.le_refl _) (Nat.le_refl _) ⟨rfl, H⟩
set_option maxRecDepth 100000 in
set_option maxHeartbeats 4000000 in
def wB_MO_power_4 (G : Gx) (l : Launch) (d w : Nat) (P : Int64 → Hp → Prop) (C4 : Int64 → Int32 → Hp → Prop) (x0 : Int32) (y1 : Int64) (x3 : Int32) (h : Hp)  : Prop := (x0 ≤ x3 → P y1 h) ∧ (¬ x0 ≤ x3 → ∀ y_2 : Int64, y_2 = (y1 * 10) → ∀ x_3 : Int32, x_3 = x3 + 1 → C4 y_2 x_3 h)
set_option maxRecDepth 100000 in
set_option maxHeartbeats 4000000 in
theorem okB_MO_power_4 {G : Gx} {l : Launch} {d w : Nat} {P : Int64 → Hp → Prop} {p : Program} {e : Env} {s : State} {m : MethodId} {args : Array Value} {below : List Frame} {meth : Method} {c : Code} {C4 : Int64 → Int32 → Hp → Prop} {x0 : Int32} {y1 : Int64} {x3 : Int32} (hC4 : ∀ (y1 : Int64) (x3 : Int32) (h : Hp), C4 y1 x3 h → Go M_MO_power (mkX G (fun r h' => ∃ x, r = some (.long x) ∧ P x h') (d + 0) (w + 0) 0 0 p l e s m args below meth c) 4 [some (.int x0), some (.long y1), none, some (.int x3)] [] h 0 0) {h : Hp}  (H : wB_MO_power_4 G l d w P C4 x0 y1 x3 h ) : Go M_MO_power (mkX G (fun r h' => ∃ x, r = some (.long x) ∧ P x h') (d + 0) (w + 0) 0 0 p l e s m args below meth c) 4 [some (.int x0), some (.long y1), none, some (.int x3)] [] h 0 0 := by
  unfold wB_MO_power_4 at H
  refine g_iload_n d_MO_power_4 rfl ?_
  refine g_iload_n d_MO_power_5 rfl ?_
  obtain ⟨H1, H2⟩ := H
  refine g_icmp_ge (tgt := 21) d_MO_power_6 (by decide) (fun c_1 => ?_) (fun c_1 => ?_)
  · have H := H1 c_1
    refine g_lload_n d_MO_power_21 rfl ?_
    exact g_lreturn d_MO_power_22 rfl (Nat.le_refl _) (Nat.le_refl _) ⟨_, rfl, H⟩
  · have H := H2 c_1
    refine g_lload_n d_MO_power_9 rfl ?_
    refine g_ldc2 d_MO_power_10 k_MO_134 ?_
    refine g_lmul d_MO_power_13 ?_
    refine g_topl (fun y_2 ey_2 => ?_)
    replace H := H y_2 ey_2
    refine g_lstore_n (lv' := [some (.int x0), some (.long y_2), none, some (.int x3)]) d_MO_power_14 (by decide) rfl ?_
    obtain ⟨x_3, ex_3⟩ : ∃ z : Int32, z = x3 + 1 := ⟨_, rfl⟩
    replace H := H x_3 ex_3
    refine g_iinc (v := x_3) (lv' := [some (.int x0), some (.long y_2), none, some (.int x_3)]) d_MO_power_15 rfl (by decide) (by rw [ex_3]; rfl) rfl ?_
    refine g_goto (tgt := 4) d_MO_power_18 (by decide) ?_
    refine g_msk [true, true, false, true] ?_
    exact hC4 _ _ _ H
set_option maxRecDepth 100000 in
set_option maxHeartbeats 4000000 in
def wL_MO_power_4 (G : Gx) (l : Launch) (d w : Nat) (P : Int64 → Hp → Prop) (x0 : Int32) (y1 : Int64) (x3 : Int32) (h : Hp)  : Prop := ∃ (I : Int64 → Int32 → Hp → Prop) (μ : Int64 → Int32 → Hp → Nat), I y1 x3 h ∧ ∀ (y1' : Int64) (x3' : Int32) (h' : Hp), I y1' x3' h' → wB_MO_power_4 G l d w P (fun y1_ x3_ h_ => I y1_ x3_ h_ ∧ μ y1_ x3_ h_ < μ y1' x3' h') x0 y1' x3' h'
set_option maxRecDepth 100000 in
set_option maxHeartbeats 4000000 in
theorem okL_MO_power_4 {G : Gx} {l : Launch} {d w : Nat} {P : Int64 → Hp → Prop} {p : Program} {e : Env} {s : State} {m : MethodId} {args : Array Value} {below : List Frame} {meth : Method} {c : Code} {x0 : Int32} {y1 : Int64} {x3 : Int32} {h : Hp}  (H : wL_MO_power_4 G l d w P  x0 y1 x3 h ) : Go M_MO_power (mkX G (fun r h' => ∃ x, r = some (.long x) ∧ P x h') (d + 0) (w + 0) 0 0 p l e s m args below meth c) 4 [some (.int x0), some (.long y1), none, some (.int x3)] [] h 0 0 := by
  obtain ⟨I, μ, h0, hs⟩ := H
  have key : ∀ (N : Nat) (y1 : Int64) (x3 : Int32) (h : Hp), I y1 x3 h → μ y1 x3 h < N → Go M_MO_power (mkX G (fun r h' => ∃ x, r = some (.long x) ∧ P x h') (d + 0) (w + 0) 0 0 p l e s m args below meth c) 4 [some (.int x0), some (.long y1), none, some (.int x3)] [] h 0 0 := by
    intro N
    induction N with
    | zero => intro y1 x3 h _ hN; exact absurd hN (Nat.not_lt_zero _)
    | succ N ih =>
      intro y1 x3 h hI hN
      exact okB_MO_power_4 (fun y1_ x3_ h_ hh => ih y1_ x3_ h_ hh.1 (Nat.lt_of_lt_of_le hh.2 (Nat.le_of_lt_succ hN))) (hs y1 x3 h hI)
  exact key _ _ _ _ h0 (Nat.lt_succ_self _)
set_option maxRecDepth 100000 in
set_option maxHeartbeats 4000000 in
def wp_MO_power (G : Gx) (l : Launch) (d w : Nat) (P : Int64 → Hp → Prop) (x0 : Int32) (h : Hp) : Prop := wL_MO_power_4 G l d w P x0 1 0 h
set_option maxRecDepth 100000 in
set_option maxHeartbeats 4000000 in
theorem ok_MO_power {G : Gx} {l : Launch} {d w : Nat} {P : Int64 → Hp → Prop} {x0 : Int32} {h : Hp} (H : wp_MO_power G l d w P x0 h) : Cl G l M_MO_power (d + 0) (w + 0) [.int x0] h 0 0 P := by
  unfold wp_MO_power at H
  refine Ct.of (lv := [some (.int x0), none, none, none]) (by decide) (Nat.le_of_ble_eq_true rfl) rfl (fun p e s m args below meth c => ?_)
  refine g_lconst (v := 1) d_MO_power_0 (by decide) ?_
  refine g_lstore_n (lv' := [some (.int x0), some (.long 1), none, none]) d_MO_power_1 (by decide) rfl ?_
  refine g_iconst (v := 0) d_MO_power_2 (by decide) ?_
  refine g_istore_n (lv' := [some (.int x0), some (.long 1), none, some (.int 0)]) d_MO_power_3 (by decide) rfl ?_
  refine g_msk [true, true, false, true] ?_
  exact okL_MO_power_4 H
set_option maxRecDepth 100000 in
set_option maxHeartbeats 4000000 in
def wJ_MO_putDigits_48 (G : Gx) (l : Launch) (d w : Nat) (P : Hp → Prop) (C5 : Int32 → Hp → Prop) (q0 : Nat) (y1 : Int64) (x3 : Int32) (x4 : Int32) (x5 : Int32) (sx0 : Int32) (h : Hp)  : Prop := (hS h q0 = some (18, 0)) ∧ (∃ P_2 : Hp → Prop, (Cv G l M_MO_put (d + 0) (w + 0) [.ref q0, .int (x5 + (16 * sx0))] h 0 0 P_2) ∧ (∀ h_4 : Hp, P_2 h_4 → ∀ x_9 : Int32, x_9 = (x4 - 2) → C5 x_9 h_4))
set_option maxRecDepth 100000 in
set_option maxHeartbeats 4000000 in
theorem okJ_MO_putDigits_48 {G : Gx} {l : Launch} {d w : Nat} {P : Hp → Prop} {p : Program} {e : Env} {s : State} {m : MethodId} {args : Array Value} {below : List Frame} {meth : Method} {c : Code} {C5 : Int32 → Hp → Prop} {q0 : Nat} {y1 : Int64} {x3 : Int32} {x4 : Int32} {x5 : Int32} {sx0 : Int32} (hC5 : ∀ (x4 : Int32) (h : Hp), C5 x4 h → Go M_MO_putDigits (mkX G (fun r h' => r = none ∧ P h') (d + 1) (w + 23) 0 0 p l e s m args below meth c) 5 [some (.ref q0), some (.long y1), none, some (.int x3), some (.int x4), none, none] [] h 0 0) {h : Hp}  (H : wJ_MO_putDigits_48 G l d w P C5 q0 y1 x3 x4 x5 sx0 h ) : Go M_MO_putDigits (mkX G (fun r h' => r = none ∧ P h') (d + 1) (w + 23) 0 0 p l e s m args below meth c) 48 [some (.ref q0), some (.long y1), none, some (.int x3), some (.int x4), some (.int x5), none] [.int sx0] h 0 0 := by
  unfold wJ_MO_putDigits_48 at H
  refine g_istore (lv' := [some (.ref q0), some (.long y1), none, some (.int x3), some (.int x4), some (.int x5), some (.int sx0)]) d_MO_putDigits_48 (by decide) rfl ?_
  refine g_aload_n d_MO_putDigits_50 rfl ?_
  refine g_iload d_MO_putDigits_51 rfl ?_
  refine g_bipush (v := 16) d_MO_putDigits_53 (by decide) ?_
  refine g_iload d_MO_putDigits_55 rfl ?_
  refine g_imul d_MO_putDigits_57 ?_
  refine g_iadd d_MO_putDigits_58 ?_
  obtain ⟨z_1, H⟩ := H
  obtain ⟨P_2, C_3, H⟩ := H
  refine q_V (As := [.int (x5 + (16 * sx0))]) (st := []) (nl := 2) d_MO_putDigits_59 v_MO_140 C_3 z_1 rfl (catS_le (Nat.le_of_ble_eq_true rfl)) rfl ⟨by omega, by omega, Nat.le_refl _, Nat.le_refl _⟩ (fun r_8 h_4 p_5 => ?_)
  obtain ⟨rfl, p_5⟩ := p_5
  replace H := H h_4 p_5
  show Go _ _ _ _ [] _ _ _
  refine g_iload d_MO_putDigits_62 rfl ?_
  refine g_iconst (v := 2) d_MO_putDigits_64 (by decide) ?_
  refine g_isub d_MO_putDigits_65 ?_
  refine g_topi (fun x_9 ex_9 => ?_)
  replace H := H x_9 ex_9
  refine g_istore (lv' := [some (.ref q0), some (.long y1), none, some (.int x3), some (.int x_9), some (.int x5), some (.int sx0)]) d_MO_putDigits_66 (by decide) rfl ?_
  refine g_goto (tgt := 5) d_MO_putDigits_68 (by decide) ?_
  refine g_msk [true, true, false, true, true, false, false] ?_
  exact hC5 _ _ H
set_option maxRecDepth 100000 in
set_option maxHeartbeats 4000000 in
def wB_MO_putDigits_5 (G : Gx) (l : Launch) (d w : Nat) (P : Hp → Prop) (C5 : Int32 → Hp → Prop) (q0 : Nat) (y1 : Int64) (x3 : Int32) (x4 : Int32) (h : Hp)  : Prop := (x4 < 0 → P h) ∧ (¬ x4 < 0 → ∃ P_11 : Int64 → Hp → Prop, (Cl G l M_MO_power (d + 0) (w + 0) [.int x4] h 0 0 P_11) ∧ (∀ (y_15 : Int64) (h_13 : Hp), P_11 y_15 h_13 → (¬ y_15 = 0) ∧ (∀ x_19 : Int32, x_19 = ((y1 / y_15) - (y1 / y_15) / 10 * 10).toInt32 → (¬ x4 = 0 → ∃ P_21 : Int64 → Hp → Prop, (Cl G l M_MO_power (d + 0) (w + 0) [.int (x4 - 1)] h_13 0 0 P_21) ∧ (∀ (y_25 : Int64) (h_23 : Hp), P_21 y_25 h_23 → (¬ y_25 = 0) ∧ (wJ_MO_putDigits_48 G l d w P C5 q0 y1 x3 x4 x_19 (((y1 / y_25) - (y1 / y_25) / 10 * 10).toInt32) h_23))) ∧ (x4 = 0 → wJ_MO_putDigits_48 G l d w P C5 q0 y1 x3 x4 x_19 15 h_13))))
set_option maxRecDepth 100000 in
set_option maxHeartbeats 4000000 in
theorem okB_MO_putDigits_5 {G : Gx} {l : Launch} {d w : Nat} {P : Hp → Prop} {p : Program} {e : Env} {s : State} {m : MethodId} {args : Array Value} {below : List Frame} {meth : Method} {c : Code} {C5 : Int32 → Hp → Prop} {q0 : Nat} {y1 : Int64} {x3 : Int32} {x4 : Int32} (hC5 : ∀ (x4 : Int32) (h : Hp), C5 x4 h → Go M_MO_putDigits (mkX G (fun r h' => r = none ∧ P h') (d + 1) (w + 23) 0 0 p l e s m args below meth c) 5 [some (.ref q0), some (.long y1), none, some (.int x3), some (.int x4), none, none] [] h 0 0) {h : Hp}  (H : wB_MO_putDigits_5 G l d w P C5 q0 y1 x3 x4 h ) : Go M_MO_putDigits (mkX G (fun r h' => r = none ∧ P h') (d + 1) (w + 23) 0 0 p l e s m args below meth c) 5 [some (.ref q0), some (.long y1), none, some (.int x3), some (.int x4), none, none] [] h 0 0 := by
  unfold wB_MO_putDigits_5 at H
  refine g_iload d_MO_putDigits_5 rfl ?_
  obtain ⟨H1, H2⟩ := H
  refine g_if_lt (tgt := 71) d_MO_putDigits_7 (by decide) (fun c_10 => ?_) (fun c_10 => ?_)
  · have H := H1 c_10
    exact g_return d_MO_putDigits_71 rfl (Nat.le_refl _) (Nat.le_refl _) ⟨rfl, H⟩
  · have H := H2 c_10
    refine g_lload_n d_MO_putDigits_10 rfl ?_
    refine g_iload d_MO_putDigits_11 rfl ?_
    obtain ⟨P_11, C_12, H⟩ := H
    refine q_S (As := [.int x4]) (st := [.long y1]) (nl := 4) d_MO_putDigits_13 v_MO_136 C_12 rfl (catS_le (Nat.le_of_ble_eq_true rfl)) rfl ⟨by omega, by omega, Nat.le_refl _, Nat.le_refl _⟩ (fun r_17 h_13 p_14 => ?_)
    obtain ⟨y_15, rfl, p_14⟩ := p_14
    replace H := H y_15 h_13 p_14
    show Go _ _ _ _ [.long y_15, .long y1] _ _ _
    obtain ⟨z_18, H⟩ := H
    refine g_ldiv d_MO_putDigits_16 z_18 ?_
    refine g_ldc2 d_MO_putDigits_17 k_MO_134 ?_
    refine g_lrem d_MO_putDigits_20 (by decide) ?_
    refine g_l2i d_MO_putDigits_21 ?_
    refine g_topi (fun x_19 ex_19 => ?_)
    replace H := H x_19 ex_19
    refine g_istore (lv' := [some (.ref q0), some (.long y1), none, some (.int x3), some (.int x4), some (.int x_19), none]) d_MO_putDigits_22 (by decide) rfl ?_
    refine g_iload d_MO_putDigits_24 rfl ?_
    obtain ⟨H1, H2⟩ := H
    refine g_if_ne (tgt := 34) d_MO_putDigits_26 (by decide) (fun c_20 => ?_) (fun c_20 => ?_)
    · have H := H1 c_20
      refine g_lload_n d_MO_putDigits_34 rfl ?_
      refine g_iload d_MO_putDigits_35 rfl ?_
      refine g_iconst (v := 1) d_MO_putDigits_37 (by decide) ?_
      refine g_isub d_MO_putDigits_38 ?_
      obtain ⟨P_21, C_22, H⟩ := H
      refine q_S (As := [.int (x4 - 1)]) (st := [.long y1]) (nl := 4) d_MO_putDigits_39 v_MO_136 C_22 rfl (catS_le (Nat.le_of_ble_eq_true rfl)) rfl ⟨by omega, by omega, Nat.le_refl _, Nat.le_refl _⟩ (fun r_27 h_23 p_24 => ?_)
      obtain ⟨y_25, rfl, p_24⟩ := p_24
      replace H := H y_25 h_23 p_24
      show Go _ _ _ _ [.long y_25, .long y1] _ _ _
      obtain ⟨z_28, H⟩ := H
      refine g_ldiv d_MO_putDigits_42 z_28 ?_
      refine g_ldc2 d_MO_putDigits_43 k_MO_134 ?_
      refine g_lrem d_MO_putDigits_46 (by decide) ?_
      refine g_l2i d_MO_putDigits_47 ?_
      refine g_msk [true, true, false, true, true, true, false] ?_
      exact okJ_MO_putDigits_48 hC5 H
    · have H := H2 c_20
      refine g_bipush (v := 15) d_MO_putDigits_29 (by decide) ?_
      refine g_goto (tgt := 48) d_MO_putDigits_31 (by decide) ?_
      refine g_msk [true, true, false, true, true, true, false] ?_
      exact okJ_MO_putDigits_48 hC5 H
set_option maxRecDepth 100000 in
set_option maxHeartbeats 4000000 in
def wL_MO_putDigits_5 (G : Gx) (l : Launch) (d w : Nat) (P : Hp → Prop) (q0 : Nat) (y1 : Int64) (x3 : Int32) (x4 : Int32) (h : Hp)  : Prop := ∃ (I : Int32 → Hp → Prop) (μ : Int32 → Hp → Nat), I x4 h ∧ ∀ (x4' : Int32) (h' : Hp), I x4' h' → wB_MO_putDigits_5 G l d w P (fun x4_ h_ => I x4_ h_ ∧ μ x4_ h_ < μ x4' h') q0 y1 x3 x4' h'
set_option maxRecDepth 100000 in
set_option maxHeartbeats 4000000 in
theorem okL_MO_putDigits_5 {G : Gx} {l : Launch} {d w : Nat} {P : Hp → Prop} {p : Program} {e : Env} {s : State} {m : MethodId} {args : Array Value} {below : List Frame} {meth : Method} {c : Code} {q0 : Nat} {y1 : Int64} {x3 : Int32} {x4 : Int32} {h : Hp}  (H : wL_MO_putDigits_5 G l d w P  q0 y1 x3 x4 h ) : Go M_MO_putDigits (mkX G (fun r h' => r = none ∧ P h') (d + 1) (w + 23) 0 0 p l e s m args below meth c) 5 [some (.ref q0), some (.long y1), none, some (.int x3), some (.int x4), none, none] [] h 0 0 := by
  obtain ⟨I, μ, h0, hs⟩ := H
  have key : ∀ (N : Nat) (x4 : Int32) (h : Hp), I x4 h → μ x4 h < N → Go M_MO_putDigits (mkX G (fun r h' => r = none ∧ P h') (d + 1) (w + 23) 0 0 p l e s m args below meth c) 5 [some (.ref q0), some (.long y1), none, some (.int x3), some (.int x4), none, none] [] h 0 0 := by
    intro N
    induction N with
    | zero => intro x4 h _ hN; exact absurd hN (Nat.not_lt_zero _)
    | succ N ih =>
      intro x4 h hI hN
      exact okB_MO_putDigits_5 (fun x4_ h_ hh => ih x4_ h_ hh.1 (Nat.lt_of_lt_of_le hh.2 (Nat.le_of_lt_succ hN))) (hs x4 h hI)
  exact key _ _ _ h0 (Nat.lt_succ_self _)
set_option maxRecDepth 100000 in
set_option maxHeartbeats 4000000 in
def wp_MO_putDigits (G : Gx) (l : Launch) (d w : Nat) (P : Hp → Prop) (q0 : Nat) (y1 : Int64) (x3 : Int32) (h : Hp) : Prop := ∀ x_29 : Int32, x_29 = (x3 - 1) → wL_MO_putDigits_5 G l d w P q0 y1 x3 x_29 h
set_option maxRecDepth 100000 in
set_option maxHeartbeats 4000000 in
theorem ok_MO_putDigits {G : Gx} {l : Launch} {d w : Nat} {P : Hp → Prop} {q0 : Nat} {y1 : Int64} {x3 : Int32} {h : Hp} (H : wp_MO_putDigits G l d w P q0 y1 x3 h) : Cv G l M_MO_putDigits (d + 1) (w + 23) [.ref q0, .long y1, .int x3] h 0 0 P := by
  unfold wp_MO_putDigits at H
  refine Ct.of (lv := [some (.ref q0), some (.long y1), none, some (.int x3), none, none, none]) (by decide) (Nat.le_of_ble_eq_true rfl) rfl (fun p e s m args below meth c => ?_)
  refine g_iload_n d_MO_putDigits_0 rfl ?_
  refine g_iconst (v := 1) d_MO_putDigits_1 (by decide) ?_
  refine g_isub d_MO_putDigits_2 ?_
  refine g_topi (fun x_29 ex_29 => ?_)
  replace H := H x_29 ex_29
  refine g_istore (lv' := [some (.ref q0), some (.long y1), none, some (.int x3), some (.int x_29), none, none]) d_MO_putDigits_3 (by decide) rfl ?_
  refine g_msk [true, true, false, true, true, false, false] ?_
  exact okL_MO_putDigits_5 H
set_option maxRecDepth 100000 in
set_option maxHeartbeats 4000000 in
def wJ_MO_putAddress_23 (G : Gx) (l : Launch) (d w : Nat) (P : Hp → Prop) (q0 : Nat) (y1 : Int64) (x3 : Int32) (h : Hp)  : Prop := (hS h q0 = some (18, 0)) ∧ (∃ P_2 : Hp → Prop, (Cv G l M_MO_put (d + 0) (w + 0) [.ref q0, .int x3] h 0 0 P_2) ∧ (∀ h_4 : Hp, P_2 h_4 → (hS h_4 q0 = some (18, 0)) ∧ (∃ P_10 : Hp → Prop, (Cv G l M_MO_put (d + 0) (w + 0) [.ref q0, .int 145] h_4 0 0 P_10) ∧ (∀ h_12 : Hp, P_10 h_12 → (hS h_12 q0 = some (18, 0)) ∧ (∃ P_18 : Hp → Prop, (Cv G l M_MO_putDigits (d + 1) (w + 23) [.ref q0, .long y1, .int x3] h_12 0 0 P_18) ∧ (∀ h_20 : Hp, P_18 h_20 → P h_20))))))
set_option maxRecDepth 100000 in
set_option maxHeartbeats 4000000 in
theorem okJ_MO_putAddress_23 {G : Gx} {l : Launch} {d w : Nat} {P : Hp → Prop} {p : Program} {e : Env} {s : State} {m : MethodId} {args : Array Value} {below : List Frame} {meth : Method} {c : Code} {q0 : Nat} {y1 : Int64} {x3 : Int32} {h : Hp}  (H : wJ_MO_putAddress_23 G l d w P  q0 y1 x3 h ) : Go M_MO_putAddress (mkX G (fun r h' => r = none ∧ P h') (d + 2) (w + 49) 0 0 p l e s m args below meth c) 23 [some (.ref q0), some (.long y1), none, some (.int x3)] [] h 0 0 := by
  unfold wJ_MO_putAddress_23 at H
  refine g_aload_n d_MO_putAddress_23 rfl ?_
  refine g_iload_n d_MO_putAddress_24 rfl ?_
  obtain ⟨z_1, H⟩ := H
  obtain ⟨P_2, C_3, H⟩ := H
  refine q_V (As := [.int x3]) (st := []) (nl := 2) d_MO_putAddress_25 v_MO_140 C_3 z_1 rfl (catS_le (Nat.le_of_ble_eq_true rfl)) rfl ⟨by omega, by omega, Nat.le_refl _, Nat.le_refl _⟩ (fun r_8 h_4 p_5 => ?_)
  obtain ⟨rfl, p_5⟩ := p_5
  replace H := H h_4 p_5
  show Go _ _ _ _ [] _ _ _
  refine g_aload_n d_MO_putAddress_28 rfl ?_
  refine g_sipush (v := 145) d_MO_putAddress_29 (by decide) ?_
  obtain ⟨z_9, H⟩ := H
  obtain ⟨P_10, C_11, H⟩ := H
  refine q_V (As := [.int 145]) (st := []) (nl := 2) d_MO_putAddress_32 v_MO_140 C_11 z_9 rfl (catS_le (Nat.le_of_ble_eq_true rfl)) rfl ⟨by omega, by omega, Nat.le_refl _, Nat.le_refl _⟩ (fun r_16 h_12 p_13 => ?_)
  obtain ⟨rfl, p_13⟩ := p_13
  replace H := H h_12 p_13
  show Go _ _ _ _ [] _ _ _
  refine g_aload_n d_MO_putAddress_35 rfl ?_
  refine g_lload_n d_MO_putAddress_36 rfl ?_
  refine g_iload_n d_MO_putAddress_37 rfl ?_
  obtain ⟨z_17, H⟩ := H
  obtain ⟨P_18, C_19, H⟩ := H
  refine q_V (As := [.long y1, .int x3]) (st := []) (nl := 7) d_MO_putAddress_38 v_MO_144 C_19 z_17 rfl (catS_le (Nat.le_of_ble_eq_true rfl)) rfl ⟨by omega, by omega, Nat.le_refl _, Nat.le_refl _⟩ (fun r_24 h_20 p_21 => ?_)
  obtain ⟨rfl, p_21⟩ := p_21
  replace H := H h_20 p_21
  show Go _ _ _ _ [] _ _ _
  exact g_return d_MO_putAddress_41 rfl (Nat.le_refl _) (Nat.le_refl _) ⟨rfl, H⟩
set_option maxRecDepth 100000 in
set_option maxHeartbeats 4000000 in
def wB_MO_putAddress_2 (G : Gx) (l : Launch) (d w : Nat) (P : Hp → Prop) (C2 : Int32 → Hp → Prop) (q0 : Nat) (y1 : Int64) (x3 : Int32) (h : Hp)  : Prop := (12 ≤ x3 → wJ_MO_putAddress_23 G l d w P q0 y1 x3 h) ∧ (¬ 12 ≤ x3 → ∃ P_26 : Int64 → Hp → Prop, (Cl G l M_MO_power (d + 0) (w + 0) [.int x3] h 0 0 P_26) ∧ (∀ (y_30 : Int64) (h_28 : Hp), P_26 y_30 h_28 → (0 < (lg_cmp y_30 y1) → wJ_MO_putAddress_23 G l d w P q0 y1 x3 h_28) ∧ (¬ 0 < (lg_cmp y_30 y1) → ∀ x_34 : Int32, x_34 = x3 + 1 → C2 x_34 h_28)))
set_option maxRecDepth 100000 in
set_option maxHeartbeats 4000000 in
theorem okB_MO_putAddress_2 {G : Gx} {l : Launch} {d w : Nat} {P : Hp → Prop} {p : Program} {e : Env} {s : State} {m : MethodId} {args : Array Value} {below : List Frame} {meth : Method} {c : Code} {C2 : Int32 → Hp → Prop} {q0 : Nat} {y1 : Int64} {x3 : Int32} (hC2 : ∀ (x3 : Int32) (h : Hp), C2 x3 h → Go M_MO_putAddress (mkX G (fun r h' => r = none ∧ P h') (d + 2) (w + 49) 0 0 p l e s m args below meth c) 2 [some (.ref q0), some (.long y1), none, some (.int x3)] [] h 0 0) {h : Hp}  (H : wB_MO_putAddress_2 G l d w P C2 q0 y1 x3 h ) : Go M_MO_putAddress (mkX G (fun r h' => r = none ∧ P h') (d + 2) (w + 49) 0 0 p l e s m args below meth c) 2 [some (.ref q0), some (.long y1), none, some (.int x3)] [] h 0 0 := by
  unfold wB_MO_putAddress_2 at H
  refine g_iload_n d_MO_putAddress_2 rfl ?_
  refine g_bipush (v := 12) d_MO_putAddress_3 (by decide) ?_
  obtain ⟨H1, H2⟩ := H
  refine g_icmp_ge (tgt := 23) d_MO_putAddress_5 (by decide) (fun c_25 => ?_) (fun c_25 => ?_)
  · have H := H1 c_25
    refine g_msk [true, true, false, true] ?_
    exact okJ_MO_putAddress_23 H
  · have H := H2 c_25
    refine g_iload_n d_MO_putAddress_8 rfl ?_
    obtain ⟨P_26, C_27, H⟩ := H
    refine q_S (As := [.int x3]) (st := []) (nl := 4) d_MO_putAddress_9 v_MO_136 C_27 rfl (catS_le (Nat.le_of_ble_eq_true rfl)) rfl ⟨by omega, by omega, Nat.le_refl _, Nat.le_refl _⟩ (fun r_32 h_28 p_29 => ?_)
    obtain ⟨y_30, rfl, p_29⟩ := p_29
    replace H := H y_30 h_28 p_29
    show Go _ _ _ _ [.long y_30] _ _ _
    refine g_lload_n d_MO_putAddress_12 rfl ?_
    refine g_lcmp d_MO_putAddress_13 ?_
    obtain ⟨H1, H2⟩ := H
    refine g_if_gt (tgt := 23) d_MO_putAddress_14 (by decide) (fun c_33 => ?_) (fun c_33 => ?_)
    · have H := H1 c_33
      refine g_msk [true, true, false, true] ?_
      exact okJ_MO_putAddress_23 H
    · have H := H2 c_33
      obtain ⟨x_34, ex_34⟩ : ∃ z : Int32, z = x3 + 1 := ⟨_, rfl⟩
      replace H := H x_34 ex_34
      refine g_iinc (v := x_34) (lv' := [some (.ref q0), some (.long y1), none, some (.int x_34)]) d_MO_putAddress_17 rfl (by decide) (by rw [ex_34]; rfl) rfl ?_
      refine g_goto (tgt := 2) d_MO_putAddress_20 (by decide) ?_
      refine g_msk [true, true, false, true] ?_
      exact hC2 _ _ H
set_option maxRecDepth 100000 in
set_option maxHeartbeats 4000000 in
def wL_MO_putAddress_2 (G : Gx) (l : Launch) (d w : Nat) (P : Hp → Prop) (q0 : Nat) (y1 : Int64) (x3 : Int32) (h : Hp)  : Prop := ∃ (I : Int32 → Hp → Prop) (μ : Int32 → Hp → Nat), I x3 h ∧ ∀ (x3' : Int32) (h' : Hp), I x3' h' → wB_MO_putAddress_2 G l d w P (fun x3_ h_ => I x3_ h_ ∧ μ x3_ h_ < μ x3' h') q0 y1 x3' h'
set_option maxRecDepth 100000 in
set_option maxHeartbeats 4000000 in
theorem okL_MO_putAddress_2 {G : Gx} {l : Launch} {d w : Nat} {P : Hp → Prop} {p : Program} {e : Env} {s : State} {m : MethodId} {args : Array Value} {below : List Frame} {meth : Method} {c : Code} {q0 : Nat} {y1 : Int64} {x3 : Int32} {h : Hp}  (H : wL_MO_putAddress_2 G l d w P  q0 y1 x3 h ) : Go M_MO_putAddress (mkX G (fun r h' => r = none ∧ P h') (d + 2) (w + 49) 0 0 p l e s m args below meth c) 2 [some (.ref q0), some (.long y1), none, some (.int x3)] [] h 0 0 := by
  obtain ⟨I, μ, h0, hs⟩ := H
  have key : ∀ (N : Nat) (x3 : Int32) (h : Hp), I x3 h → μ x3 h < N → Go M_MO_putAddress (mkX G (fun r h' => r = none ∧ P h') (d + 2) (w + 49) 0 0 p l e s m args below meth c) 2 [some (.ref q0), some (.long y1), none, some (.int x3)] [] h 0 0 := by
    intro N
    induction N with
    | zero => intro x3 h _ hN; exact absurd hN (Nat.not_lt_zero _)
    | succ N ih =>
      intro x3 h hI hN
      exact okB_MO_putAddress_2 (fun x3_ h_ hh => ih x3_ h_ hh.1 (Nat.lt_of_lt_of_le hh.2 (Nat.le_of_lt_succ hN))) (hs x3 h hI)
  exact key _ _ _ h0 (Nat.lt_succ_self _)
set_option maxRecDepth 100000 in
set_option maxHeartbeats 4000000 in
def wp_MO_putAddress (G : Gx) (l : Launch) (d w : Nat) (P : Hp → Prop) (q0 : Nat) (y1 : Int64) (h : Hp) : Prop := wL_MO_putAddress_2 G l d w P q0 y1 1 h
set_option maxRecDepth 100000 in
set_option maxHeartbeats 4000000 in
theorem ok_MO_putAddress {G : Gx} {l : Launch} {d w : Nat} {P : Hp → Prop} {q0 : Nat} {y1 : Int64} {h : Hp} (H : wp_MO_putAddress G l d w P q0 y1 h) : Cv G l M_MO_putAddress (d + 2) (w + 49) [.ref q0, .long y1] h 0 0 P := by
  unfold wp_MO_putAddress at H
  refine Ct.of (lv := [some (.ref q0), some (.long y1), none, none]) (by decide) (Nat.le_of_ble_eq_true rfl) rfl (fun p e s m args below meth c => ?_)
  refine g_iconst (v := 1) d_MO_putAddress_0 (by decide) ?_
  refine g_istore_n (lv' := [some (.ref q0), some (.long y1), none, some (.int 1)]) d_MO_putAddress_1 (by decide) rfl ?_
  refine g_msk [true, true, false, true] ?_
  exact okL_MO_putAddress_2 H
set_option maxRecDepth 100000 in
set_option maxHeartbeats 4000000 in
def wp_MO_bytesFor (G : Gx) (l : Launch) (d w : Nat) (P : Int32 → Hp → Prop) (x0 : Int32) (h : Hp) : Prop := P (((7 * x0) + 7) / 8) h
set_option maxRecDepth 100000 in
set_option maxHeartbeats 4000000 in
theorem ok_MO_bytesFor {G : Gx} {l : Launch} {d w : Nat} {P : Int32 → Hp → Prop} {x0 : Int32} {h : Hp} (H : wp_MO_bytesFor G l d w P x0 h) : Ci G l M_MO_bytesFor (d + 0) (w + 0) [.int x0] h 0 0 P := by
  unfold wp_MO_bytesFor at H
  refine Ct.of (lv := [some (.int x0)]) (by decide) (Nat.le_of_ble_eq_true rfl) rfl (fun p e s m args below meth c => ?_)
  refine g_bipush (v := 7) d_MO_bytesFor_0 (by decide) ?_
  refine g_iload_n d_MO_bytesFor_2 rfl ?_
  refine g_imul d_MO_bytesFor_3 ?_
  refine g_bipush (v := 7) d_MO_bytesFor_4 (by decide) ?_
  refine g_iadd d_MO_bytesFor_6 ?_
  refine g_bipush (v := 8) d_MO_bytesFor_7 (by decide) ?_
  refine g_idiv d_MO_bytesFor_9 (by decide) ?_
  exact g_ireturn d_MO_bytesFor_10 rfl (Nat.le_refl _) (Nat.le_refl _) ⟨_, rfl, H⟩
set_option maxRecDepth 100000 in
set_option maxHeartbeats 4000000 in
def wB_MO_putData_128 (G : Gx) (l : Launch) (d w : Nat) (P : Hp → Prop) (C119 : Int32 → Hp → Prop) (C128 : Int32 → Hp → Prop) (q0 : Nat) (x1 : Int32) (x2 : Int32) (x3 : Int32) (x4 : Int32) (x5 : Int32) (x6 : Int32) (x7 : Int32) (x8 : Int32) (x9 : Int32) (x10 : Int32) (h : Hp)  : Prop := (7 ≤ x10 → ∀ x_2 : Int32, x_2 = x9 + 1 → C119 x_2 h) ∧ (¬ 7 ≤ x10 → ∀ x_3 : Int32, x_3 = ((x8 + (7 * x9)) + x10) → (hS h q0 = some (18, 0)) ∧ (∃ q_5 : Nat, (hR h q0 12) = some q_5 ∧ (∃ N_7 : Nat, ∃ j_8 : Nat, (hS h q_5 = some (0, N_7) ∧ (x7 + (x_3 / 8)) = nI j_8 ∧ j_8 < N_7 ∧ j_8 < 2147483648) ∧ (∃ q_10 : Nat, (hR h q0 3) = some q_10 ∧ (∃ N_12 : Nat, ∃ j_13 : Nat, (hS h q_10 = some (0, N_12) ∧ (x1 + x9) = nI j_13 ∧ j_13 < N_12 ∧ j_13 < 2147483648) ∧ (∀ x_15 : Int32, x_15 = x10 + 1 → C128 x_15 (pI h q_5 j_8 ((hI h q_5 j_8) ||| ((((hI h q_10 j_13) >>> (x10 &&& 31)) &&& 1) <<< ((x_3 - x_3 / 8 * 8) &&& 31))))))))))
set_option maxRecDepth 100000 in
set_option maxHeartbeats 4000000 in
theorem okB_MO_putData_128 {G : Gx} {l : Launch} {d w : Nat} {P : Hp → Prop} {p : Program} {e : Env} {s : State} {m : MethodId} {args : Array Value} {below : List Frame} {meth : Method} {c : Code} {C119 : Int32 → Hp → Prop} {C128 : Int32 → Hp → Prop} {q0 : Nat} {x1 : Int32} {x2 : Int32} {x3 : Int32} {x4 : Int32} {x5 : Int32} {x6 : Int32} {x7 : Int32} {x8 : Int32} {x9 : Int32} {x10 : Int32} (hC119 : ∀ (x9 : Int32) (h : Hp), C119 x9 h → Go M_MO_putData (mkX G (fun r h' => r = none ∧ P h') (d + 1) (w + 21) 0 0 p l e s m args below meth c) 119 [some (.ref q0), some (.int x1), some (.int x2), some (.int x3), some (.int x4), some (.int x5), some (.int x6), some (.int x7), some (.int x8), some (.int x9), none, none] [] h 0 0) (hC128 : ∀ (x10 : Int32) (h : Hp), C128 x10 h → Go M_MO_putData (mkX G (fun r h' => r = none ∧ P h') (d + 1) (w + 21) 0 0 p l e s m args below meth c) 128 [some (.ref q0), some (.int x1), some (.int x2), some (.int x3), some (.int x4), some (.int x5), some (.int x6), some (.int x7), some (.int x8), some (.int x9), some (.int x10), none] [] h 0 0) {h : Hp}  (H : wB_MO_putData_128 G l d w P C119 C128 q0 x1 x2 x3 x4 x5 x6 x7 x8 x9 x10 h ) : Go M_MO_putData (mkX G (fun r h' => r = none ∧ P h') (d + 1) (w + 21) 0 0 p l e s m args below meth c) 128 [some (.ref q0), some (.int x1), some (.int x2), some (.int x3), some (.int x4), some (.int x5), some (.int x6), some (.int x7), some (.int x8), some (.int x9), some (.int x10), none] [] h 0 0 := by
  unfold wB_MO_putData_128 at H
  refine g_iload d_MO_putData_128 rfl ?_
  refine g_bipush (v := 7) d_MO_putData_130 (by decide) ?_
  obtain ⟨H1, H2⟩ := H
  refine g_icmp_ge (tgt := 201) d_MO_putData_132 (by decide) (fun c_1 => ?_) (fun c_1 => ?_)
  · have H := H1 c_1
    obtain ⟨x_2, ex_2⟩ : ∃ z : Int32, z = x9 + 1 := ⟨_, rfl⟩
    replace H := H x_2 ex_2
    refine g_iinc (v := x_2) (lv' := [some (.ref q0), some (.int x1), some (.int x2), some (.int x3), some (.int x4), some (.int x5), some (.int x6), some (.int x7), some (.int x8), some (.int x_2), some (.int x10), none]) d_MO_putData_201 rfl (by decide) (by rw [ex_2]; rfl) rfl ?_
    refine g_goto (tgt := 119) d_MO_putData_204 (by decide) ?_
    refine g_msk [true, true, true, true, true, true, true, true, true, true, false, false] ?_
    exact hC119 _ _ H
  · have H := H2 c_1
    refine g_iload d_MO_putData_135 rfl ?_
    refine g_bipush (v := 7) d_MO_putData_137 (by decide) ?_
    refine g_iload d_MO_putData_139 rfl ?_
    refine g_imul d_MO_putData_141 ?_
    refine g_iadd d_MO_putData_142 ?_
    refine g_iload d_MO_putData_143 rfl ?_
    refine g_iadd d_MO_putData_145 ?_
    refine g_topi (fun x_3 ex_3 => ?_)
    replace H := H x_3 ex_3
    refine g_istore (lv' := [some (.ref q0), some (.int x1), some (.int x2), some (.int x3), some (.int x4), some (.int x5), some (.int x6), some (.int x7), some (.int x8), some (.int x9), some (.int x10), some (.int x_3)]) d_MO_putData_146 (by decide) rfl ?_
    refine g_aload_n d_MO_putData_148 rfl ?_
    obtain ⟨z_4, H⟩ := H
    refine g_getR d_MO_putData_149 f_MO_39 z_4 (by decide) ?_
    refine g_iload d_MO_putData_152 rfl ?_
    refine g_iload d_MO_putData_154 rfl ?_
    refine g_bipush (v := 8) d_MO_putData_156 (by decide) ?_
    refine g_idiv d_MO_putData_158 (by decide) ?_
    refine g_iadd d_MO_putData_159 ?_
    refine g_aload_n d_MO_putData_160 rfl ?_
    refine g_getR d_MO_putData_161 f_MO_39 z_4 (by decide) ?_
    refine g_iload d_MO_putData_164 rfl ?_
    refine g_iload d_MO_putData_166 rfl ?_
    refine g_bipush (v := 8) d_MO_putData_168 (by decide) ?_
    refine g_idiv d_MO_putData_170 (by decide) ?_
    refine g_iadd d_MO_putData_171 ?_
    obtain ⟨q_5, e_6, H⟩ := H
    show Go _ _ _ [some (.ref q0), some (.int x1), some (.int x2), some (.int x3), some (.int x4), some (.int x5), some (.int x6), some (.int x7), some (.int x8), some (.int x9), some (.int x10), some (.int x_3)] [.int (x7 + (x_3 / 8)), va_rf (hR h q0 12), .int (x7 + (x_3 / 8)), va_rf (hR h q0 12)] _ _ _
    rw [show va_rf (hR h q0 12) = Value.ref q_5 from by rw [e_6]; rfl]
    obtain ⟨N_7, H⟩ := H
    obtain ⟨j_8, H⟩ := H
    obtain ⟨z_9, H⟩ := H
    refine g_iald d_MO_putData_172 z_9.1 z_9.2.1 z_9.2.2.1 z_9.2.2.2 ?_
    refine g_aload_n d_MO_putData_173 rfl ?_
    refine g_getR d_MO_putData_174 f_MO_13 z_4 (by decide) ?_
    refine g_iload_n d_MO_putData_177 rfl ?_
    refine g_iload d_MO_putData_178 rfl ?_
    refine g_iadd d_MO_putData_180 ?_
    obtain ⟨q_10, e_11, H⟩ := H
    show Go _ _ _ [some (.ref q0), some (.int x1), some (.int x2), some (.int x3), some (.int x4), some (.int x5), some (.int x6), some (.int x7), some (.int x8), some (.int x9), some (.int x10), some (.int x_3)] [.int (x1 + x9), va_rf (hR h q0 3), .int (hI h q_5 j_8), .int (x7 + (x_3 / 8)), .ref q_5] _ _ _
    rw [show va_rf (hR h q0 3) = Value.ref q_10 from by rw [e_11]; rfl]
    obtain ⟨N_12, H⟩ := H
    obtain ⟨j_13, H⟩ := H
    obtain ⟨z_14, H⟩ := H
    refine g_iald d_MO_putData_181 z_14.1 z_14.2.1 z_14.2.2.1 z_14.2.2.2 ?_
    refine g_iload d_MO_putData_182 rfl ?_
    refine g_ishr d_MO_putData_184 ?_
    refine g_iconst (v := 1) d_MO_putData_185 (by decide) ?_
    refine g_iand d_MO_putData_186 ?_
    refine g_iload d_MO_putData_187 rfl ?_
    refine g_bipush (v := 8) d_MO_putData_189 (by decide) ?_
    refine g_irem d_MO_putData_191 (by decide) ?_
    refine g_ishl d_MO_putData_192 ?_
    refine g_ior d_MO_putData_193 ?_
    refine g_iast d_MO_putData_194 z_9.1 z_9.2.1 z_9.2.2.1 z_9.2.2.2 ?_
    obtain ⟨x_15, ex_15⟩ : ∃ z : Int32, z = x10 + 1 := ⟨_, rfl⟩
    replace H := H x_15 ex_15
    refine g_iinc (v := x_15) (lv' := [some (.ref q0), some (.int x1), some (.int x2), some (.int x3), some (.int x4), some (.int x5), some (.int x6), some (.int x7), some (.int x8), some (.int x9), some (.int x_15), some (.int x_3)]) d_MO_putData_195 rfl (by decide) (by rw [ex_15]; rfl) rfl ?_
    refine g_goto (tgt := 128) d_MO_putData_198 (by decide) ?_
    refine g_msk [true, true, true, true, true, true, true, true, true, true, true, false] ?_
    exact hC128 _ _ H
set_option maxRecDepth 100000 in
set_option maxHeartbeats 4000000 in
def wL_MO_putData_128 (G : Gx) (l : Launch) (d w : Nat) (P : Hp → Prop) (C119 : Int32 → Hp → Prop) (q0 : Nat) (x1 : Int32) (x2 : Int32) (x3 : Int32) (x4 : Int32) (x5 : Int32) (x6 : Int32) (x7 : Int32) (x8 : Int32) (x9 : Int32) (x10 : Int32) (h : Hp)  : Prop := ∃ (I : Int32 → Hp → Prop) (μ : Int32 → Hp → Nat), I x10 h ∧ ∀ (x10' : Int32) (h' : Hp), I x10' h' → wB_MO_putData_128 G l d w P C119 (fun x10_ h_ => I x10_ h_ ∧ μ x10_ h_ < μ x10' h') q0 x1 x2 x3 x4 x5 x6 x7 x8 x9 x10' h'
set_option maxRecDepth 100000 in
set_option maxHeartbeats 4000000 in
theorem okL_MO_putData_128 {G : Gx} {l : Launch} {d w : Nat} {P : Hp → Prop} {p : Program} {e : Env} {s : State} {m : MethodId} {args : Array Value} {below : List Frame} {meth : Method} {c : Code} {C119 : Int32 → Hp → Prop} {q0 : Nat} {x1 : Int32} {x2 : Int32} {x3 : Int32} {x4 : Int32} {x5 : Int32} {x6 : Int32} {x7 : Int32} {x8 : Int32} {x9 : Int32} {x10 : Int32} (hC119 : ∀ (x9 : Int32) (h : Hp), C119 x9 h → Go M_MO_putData (mkX G (fun r h' => r = none ∧ P h') (d + 1) (w + 21) 0 0 p l e s m args below meth c) 119 [some (.ref q0), some (.int x1), some (.int x2), some (.int x3), some (.int x4), some (.int x5), some (.int x6), some (.int x7), some (.int x8), some (.int x9), none, none] [] h 0 0) {h : Hp}  (H : wL_MO_putData_128 G l d w P C119 q0 x1 x2 x3 x4 x5 x6 x7 x8 x9 x10 h ) : Go M_MO_putData (mkX G (fun r h' => r = none ∧ P h') (d + 1) (w + 21) 0 0 p l e s m args below meth c) 128 [some (.ref q0), some (.int x1), some (.int x2), some (.int x3), some (.int x4), some (.int x5), some (.int x6), some (.int x7), some (.int x8), some (.int x9), some (.int x10), none] [] h 0 0 := by
  obtain ⟨I, μ, h0, hs⟩ := H
  have key : ∀ (N : Nat) (x10 : Int32) (h : Hp), I x10 h → μ x10 h < N → Go M_MO_putData (mkX G (fun r h' => r = none ∧ P h') (d + 1) (w + 21) 0 0 p l e s m args below meth c) 128 [some (.ref q0), some (.int x1), some (.int x2), some (.int x3), some (.int x4), some (.int x5), some (.int x6), some (.int x7), some (.int x8), some (.int x9), some (.int x10), none] [] h 0 0 := by
    intro N
    induction N with
    | zero => intro x10 h _ hN; exact absurd hN (Nat.not_lt_zero _)
    | succ N ih =>
      intro x10 h hI hN
      exact okB_MO_putData_128 hC119 (fun x10_ h_ hh => ih x10_ h_ hh.1 (Nat.lt_of_lt_of_le hh.2 (Nat.le_of_lt_succ hN))) (hs x10 h hI)
  exact key _ _ _ h0 (Nat.lt_succ_self _)
set_option maxRecDepth 100000 in
set_option maxHeartbeats 4000000 in
def wB_MO_putData_119 (G : Gx) (l : Launch) (d w : Nat) (P : Hp → Prop) (C119 : Int32 → Hp → Prop) (q0 : Nat) (x1 : Int32) (x2 : Int32) (x3 : Int32) (x4 : Int32) (x5 : Int32) (x6 : Int32) (x7 : Int32) (x8 : Int32) (x9 : Int32) (h : Hp)  : Prop := (x2 ≤ x9 → P h) ∧ (¬ x2 ≤ x9 → wL_MO_putData_128 G l d w P C119 q0 x1 x2 x3 x4 x5 x6 x7 x8 x9 0 h)
set_option maxRecDepth 100000 in
set_option maxHeartbeats 4000000 in
theorem okB_MO_putData_119 {G : Gx} {l : Launch} {d w : Nat} {P : Hp → Prop} {p : Program} {e : Env} {s : State} {m : MethodId} {args : Array Value} {below : List Frame} {meth : Method} {c : Code} {C119 : Int32 → Hp → Prop} {q0 : Nat} {x1 : Int32} {x2 : Int32} {x3 : Int32} {x4 : Int32} {x5 : Int32} {x6 : Int32} {x7 : Int32} {x8 : Int32} {x9 : Int32} (hC119 : ∀ (x9 : Int32) (h : Hp), C119 x9 h → Go M_MO_putData (mkX G (fun r h' => r = none ∧ P h') (d + 1) (w + 21) 0 0 p l e s m args below meth c) 119 [some (.ref q0), some (.int x1), some (.int x2), some (.int x3), some (.int x4), some (.int x5), some (.int x6), some (.int x7), some (.int x8), some (.int x9), none, none] [] h 0 0) {h : Hp}  (H : wB_MO_putData_119 G l d w P C119 q0 x1 x2 x3 x4 x5 x6 x7 x8 x9 h ) : Go M_MO_putData (mkX G (fun r h' => r = none ∧ P h') (d + 1) (w + 21) 0 0 p l e s m args below meth c) 119 [some (.ref q0), some (.int x1), some (.int x2), some (.int x3), some (.int x4), some (.int x5), some (.int x6), some (.int x7), some (.int x8), some (.int x9), none, none] [] h 0 0 := by
  unfold wB_MO_putData_119 at H
  refine g_iload d_MO_putData_119 rfl ?_
  refine g_iload_n d_MO_putData_121 rfl ?_
  obtain ⟨H1, H2⟩ := H
  refine g_icmp_ge (tgt := 207) d_MO_putData_122 (by decide) (fun c_16 => ?_) (fun c_16 => ?_)
  · have H := H1 c_16
    exact g_return d_MO_putData_207 rfl (Nat.le_refl _) (Nat.le_refl _) ⟨rfl, H⟩
  · have H := H2 c_16
    refine g_iconst (v := 0) d_MO_putData_125 (by decide) ?_
    refine g_istore (lv' := [some (.ref q0), some (.int x1), some (.int x2), some (.int x3), some (.int x4), some (.int x5), some (.int x6), some (.int x7), some (.int x8), some (.int x9), some (.int 0), none]) d_MO_putData_126 (by decide) rfl ?_
    refine g_msk [true, true, true, true, true, true, true, true, true, true, true, false] ?_
    exact okL_MO_putData_128 hC119 H
set_option maxRecDepth 100000 in
set_option maxHeartbeats 4000000 in
def wL_MO_putData_119 (G : Gx) (l : Launch) (d w : Nat) (P : Hp → Prop) (q0 : Nat) (x1 : Int32) (x2 : Int32) (x3 : Int32) (x4 : Int32) (x5 : Int32) (x6 : Int32) (x7 : Int32) (x8 : Int32) (x9 : Int32) (h : Hp)  : Prop := ∃ (I : Int32 → Hp → Prop) (μ : Int32 → Hp → Nat), I x9 h ∧ ∀ (x9' : Int32) (h' : Hp), I x9' h' → wB_MO_putData_119 G l d w P (fun x9_ h_ => I x9_ h_ ∧ μ x9_ h_ < μ x9' h') q0 x1 x2 x3 x4 x5 x6 x7 x8 x9' h'
set_option maxRecDepth 100000 in
set_option maxHeartbeats 4000000 in
theorem okL_MO_putData_119 {G : Gx} {l : Launch} {d w : Nat} {P : Hp → Prop} {p : Program} {e : Env} {s : State} {m : MethodId} {args : Array Value} {below : List Frame} {meth : Method} {c : Code} {q0 : Nat} {x1 : Int32} {x2 : Int32} {x3 : Int32} {x4 : Int32} {x5 : Int32} {x6 : Int32} {x7 : Int32} {x8 : Int32} {x9 : Int32} {h : Hp}  (H : wL_MO_putData_119 G l d w P  q0 x1 x2 x3 x4 x5 x6 x7 x8 x9 h ) : Go M_MO_putData (mkX G (fun r h' => r = none ∧ P h') (d + 1) (w + 21) 0 0 p l e s m args below meth c) 119 [some (.ref q0), some (.int x1), some (.int x2), some (.int x3), some (.int x4), some (.int x5), some (.int x6), some (.int x7), some (.int x8), some (.int x9), none, none] [] h 0 0 := by
  obtain ⟨I, μ, h0, hs⟩ := H
  have key : ∀ (N : Nat) (x9 : Int32) (h : Hp), I x9 h → μ x9 h < N → Go M_MO_putData (mkX G (fun r h' => r = none ∧ P h') (d + 1) (w + 21) 0 0 p l e s m args below meth c) 119 [some (.ref q0), some (.int x1), some (.int x2), some (.int x3), some (.int x4), some (.int x5), some (.int x6), some (.int x7), some (.int x8), some (.int x9), none, none] [] h 0 0 := by
    intro N
    induction N with
    | zero => intro x9 h _ hN; exact absurd hN (Nat.not_lt_zero _)
    | succ N ih =>
      intro x9 h hI hN
      exact okB_MO_putData_119 (fun x9_ h_ hh => ih x9_ h_ hh.1 (Nat.lt_of_lt_of_le hh.2 (Nat.le_of_lt_succ hN))) (hs x9 h hI)
  exact key _ _ _ h0 (Nat.lt_succ_self _)
set_option maxRecDepth 100000 in
set_option maxHeartbeats 4000000 in
def wJ_MO_putData_114 (G : Gx) (l : Launch) (d w : Nat) (P : Hp → Prop) (q0 : Nat) (x1 : Int32) (x2 : Int32) (x3 : Int32) (x4 : Int32) (x5 : Int32) (x6 : Int32) (x7 : Int32) (x8 : Int32) (sx0 : Int32) (h : Hp)  : Prop := wL_MO_putData_119 G l d w P q0 x1 x2 x3 x4 x5 x6 x7 sx0 0 h
set_option maxRecDepth 100000 in
set_option maxHeartbeats 4000000 in
theorem okJ_MO_putData_114 {G : Gx} {l : Launch} {d w : Nat} {P : Hp → Prop} {p : Program} {e : Env} {s : State} {m : MethodId} {args : Array Value} {below : List Frame} {meth : Method} {c : Code} {q0 : Nat} {x1 : Int32} {x2 : Int32} {x3 : Int32} {x4 : Int32} {x5 : Int32} {x6 : Int32} {x7 : Int32} {x8 : Int32} {sx0 : Int32} {h : Hp}  (H : wJ_MO_putData_114 G l d w P  q0 x1 x2 x3 x4 x5 x6 x7 x8 sx0 h ) : Go M_MO_putData (mkX G (fun r h' => r = none ∧ P h') (d + 1) (w + 21) 0 0 p l e s m args below meth c) 114 [some (.ref q0), some (.int x1), some (.int x2), some (.int x3), some (.int x4), some (.int x5), some (.int x6), some (.int x7), some (.int x8), none, none, none] [.int sx0] h 0 0 := by
  unfold wJ_MO_putData_114 at H
  refine g_istore (lv' := [some (.ref q0), some (.int x1), some (.int x2), some (.int x3), some (.int x4), some (.int x5), some (.int x6), some (.int x7), some (.int sx0), none, none, none]) d_MO_putData_114 (by decide) rfl ?_
  refine g_iconst (v := 0) d_MO_putData_116 (by decide) ?_
  refine g_istore (lv' := [some (.ref q0), some (.int x1), some (.int x2), some (.int x3), some (.int x4), some (.int x5), some (.int x6), some (.int x7), some (.int sx0), some (.int 0), none, none]) d_MO_putData_117 (by decide) rfl ?_
  refine g_msk [true, true, true, true, true, true, true, true, true, true, false, false] ?_
  exact okL_MO_putData_119 H
set_option maxRecDepth 100000 in
set_option maxHeartbeats 4000000 in
def wJ_MO_putData_104 (G : Gx) (l : Launch) (d w : Nat) (P : Hp → Prop) (q0 : Nat) (x1 : Int32) (x2 : Int32) (x3 : Int32) (x4 : Int32) (x5 : Int32) (x6 : Int32) (x7 : Int32) (x8 : Int32) (h : Hp)  : Prop := (0 ≤ x3 → wJ_MO_putData_114 G l d w P q0 x1 x2 x3 x4 x5 x6 x7 x8 49 h) ∧ (¬ 0 ≤ x3 → wJ_MO_putData_114 G l d w P q0 x1 x2 x3 x4 x5 x6 x7 x8 0 h)
set_option maxRecDepth 100000 in
set_option maxHeartbeats 4000000 in
theorem okJ_MO_putData_104 {G : Gx} {l : Launch} {d w : Nat} {P : Hp → Prop} {p : Program} {e : Env} {s : State} {m : MethodId} {args : Array Value} {below : List Frame} {meth : Method} {c : Code} {q0 : Nat} {x1 : Int32} {x2 : Int32} {x3 : Int32} {x4 : Int32} {x5 : Int32} {x6 : Int32} {x7 : Int32} {x8 : Int32} {h : Hp}  (H : wJ_MO_putData_104 G l d w P  q0 x1 x2 x3 x4 x5 x6 x7 x8 h ) : Go M_MO_putData (mkX G (fun r h' => r = none ∧ P h') (d + 1) (w + 21) 0 0 p l e s m args below meth c) 104 [some (.ref q0), some (.int x1), some (.int x2), some (.int x3), some (.int x4), some (.int x5), some (.int x6), some (.int x7), some (.int x8), none, none, none] [] h 0 0 := by
  unfold wJ_MO_putData_104 at H
  refine g_iload_n d_MO_putData_104 rfl ?_
  obtain ⟨H1, H2⟩ := H
  refine g_if_ge (tgt := 112) d_MO_putData_105 (by decide) (fun c_17 => ?_) (fun c_17 => ?_)
  · have H := H1 c_17
    refine g_bipush (v := 49) d_MO_putData_112 (by decide) ?_
    refine g_msk [true, true, true, true, true, true, true, true, true, false, false, false] ?_
    exact okJ_MO_putData_114 H
  · have H := H2 c_17
    refine g_iconst (v := 0) d_MO_putData_108 (by decide) ?_
    refine g_goto (tgt := 114) d_MO_putData_109 (by decide) ?_
    refine g_msk [true, true, true, true, true, true, true, true, true, false, false, false] ?_
    exact okJ_MO_putData_114 H
set_option maxRecDepth 100000 in
set_option maxHeartbeats 4000000 in
def wB_MO_putData_29 (G : Gx) (l : Launch) (d w : Nat) (P : Hp → Prop) (C29 : Int32 → Hp → Prop) (q0 : Nat) (x1 : Int32) (x2 : Int32) (x3 : Int32) (x4 : Int32) (x5 : Int32) (x6 : Int32) (x7 : Int32) (x8 : Int32) (h : Hp)  : Prop := ∃ P_18 : Int32 → Hp → Prop, (Ci G l M_MO_bytesFor (d + 0) (w + 0) [.int x6] h 0 0 P_18) ∧ (∀ (x_22 : Int32) (h_20 : Hp), P_18 x_22 h_20 → (x_22 ≤ x8 → (x3 < 0 → wJ_MO_putData_104 G l d w P q0 x1 x2 x3 x4 x5 x6 x7 x8 h_20) ∧ (¬ x3 < 0 → (hS h_20 q0 = some (18, 0)) ∧ (∃ q_28 : Nat, (hR h_20 q0 12) = some q_28 ∧ (∃ N_30 : Nat, ∃ j_31 : Nat, (hS h_20 q_28 = some (0, N_30) ∧ x7 = nI j_31 ∧ j_31 < N_30 ∧ j_31 < 2147483648) ∧ (∃ q_33 : Nat, (hR h_20 q0 12) = some q_33 ∧ (∃ N_35 : Nat, ∃ j_36 : Nat, (hS h_20 q_33 = some (0, N_35) ∧ (x7 + 2) = nI j_36 ∧ j_36 < N_35 ∧ j_36 < 2147483648) ∧ (∃ q_38 : Nat, (hR h_20 q0 12) = some q_38 ∧ (∃ N_40 : Nat, ∃ j_41 : Nat, (hS h_20 q_38 = some (0, N_40) ∧ (x7 + 3) = nI j_41 ∧ j_41 < N_40 ∧ j_41 < 2147483648) ∧ (∃ q_43 : Nat, (hR h_20 q0 12) = some q_43 ∧ (∃ N_45 : Nat, ∃ j_46 : Nat, (hS h_20 q_43 = some (0, N_45) ∧ (x7 + 4) = nI j_46 ∧ j_46 < N_45 ∧ j_46 < 2147483648) ∧ (∃ q_48 : Nat, (hR h_20 q0 12) = some q_48 ∧ (∃ N_50 : Nat, ∃ j_51 : Nat, (hS h_20 q_48 = some (0, N_50) ∧ (x7 + 5) = nI j_51 ∧ j_51 < N_50 ∧ j_51 < 2147483648) ∧ (wJ_MO_putData_104 G l d w P q0 x1 x2 x3 x4 x5 x6 x7 x8 (pI (pI (pI (pI (pI h_20 q_28 j_31 5) q_33 j_36 3) q_38 j_41 x3) q_43 j_46 x4) q_48 j_51 x5)))))))))))))) ∧ (¬ x_22 ≤ x8 → (hS h_20 q0 = some (18, 0)) ∧ (∃ P_54 : Hp → Prop, (Cv G l M_MO_put (d + 0) (w + 0) [.ref q0, .int 0] h_20 0 0 P_54) ∧ (∀ h_56 : Hp, P_54 h_56 → ∀ x_61 : Int32, x_61 = x8 + 1 → C29 x_61 h_56))))
set_option maxRecDepth 100000 in
set_option maxHeartbeats 4000000 in
theorem okB_MO_putData_29 {G : Gx} {l : Launch} {d w : Nat} {P : Hp → Prop} {p : Program} {e : Env} {s : State} {m : MethodId} {args : Array Value} {below : List Frame} {meth : Method} {c : Code} {C29 : Int32 → Hp → Prop} {q0 : Nat} {x1 : Int32} {x2 : Int32} {x3 : Int32} {x4 : Int32} {x5 : Int32} {x6 : Int32} {x7 : Int32} {x8 : Int32} (hC29 : ∀ (x8 : Int32) (h : Hp), C29 x8 h → Go M_MO_putData (mkX G (fun r h' => r = none ∧ P h') (d + 1) (w + 21) 0 0 p l e s m args below meth c) 29 [some (.ref q0), some (.int x1), some (.int x2), some (.int x3), some (.int x4), some (.int x5), some (.int x6), some (.int x7), some (.int x8), none, none, none] [] h 0 0) {h : Hp}  (H : wB_MO_putData_29 G l d w P C29 q0 x1 x2 x3 x4 x5 x6 x7 x8 h ) : Go M_MO_putData (mkX G (fun r h' => r = none ∧ P h') (d + 1) (w + 21) 0 0 p l e s m args below meth c) 29 [some (.ref q0), some (.int x1), some (.int x2), some (.int x3), some (.int x4), some (.int x5), some (.int x6), some (.int x7), some (.int x8), none, none, none] [] h 0 0 := by
  unfold wB_MO_putData_29 at H
  refine g_iload d_MO_putData_29 rfl ?_
  refine g_iload d_MO_putData_31 rfl ?_
  obtain ⟨P_18, C_19, H⟩ := H
  refine q_S (As := [.int x6]) (st := [.int x8]) (nl := 1) d_MO_putData_33 v_MO_148 C_19 rfl (catS_le (Nat.le_of_ble_eq_true rfl)) rfl ⟨by omega, by omega, Nat.le_refl _, Nat.le_refl _⟩ (fun r_24 h_20 p_21 => ?_)
  obtain ⟨x_22, rfl, p_21⟩ := p_21
  replace H := H x_22 h_20 p_21
  show Go _ _ _ _ [.int x_22, .int x8] _ _ _
  obtain ⟨H1, H2⟩ := H
  refine g_icmp_ge (tgt := 50) d_MO_putData_36 (by decide) (fun c_25 => ?_) (fun c_25 => ?_)
  · have H := H1 c_25
    refine g_iload_n d_MO_putData_50 rfl ?_
    obtain ⟨H1, H2⟩ := H
    refine g_if_lt (tgt := 104) d_MO_putData_51 (by decide) (fun c_26 => ?_) (fun c_26 => ?_)
    · have H := H1 c_26
      refine g_msk [true, true, true, true, true, true, true, true, true, false, false, false] ?_
      exact okJ_MO_putData_104 H
    · have H := H2 c_26
      refine g_aload_n d_MO_putData_54 rfl ?_
      obtain ⟨z_27, H⟩ := H
      refine g_getR d_MO_putData_55 f_MO_39 z_27 (by decide) ?_
      refine g_iload d_MO_putData_58 rfl ?_
      refine g_iconst (v := 5) d_MO_putData_60 (by decide) ?_
      obtain ⟨q_28, e_29, H⟩ := H
      show Go _ _ _ [some (.ref q0), some (.int x1), some (.int x2), some (.int x3), some (.int x4), some (.int x5), some (.int x6), some (.int x7), some (.int x8), none, none, none] [.int 5, .int x7, va_rf (hR h_20 q0 12)] _ _ _
      rw [show va_rf (hR h_20 q0 12) = Value.ref q_28 from by rw [e_29]; rfl]
      obtain ⟨N_30, H⟩ := H
      obtain ⟨j_31, H⟩ := H
      obtain ⟨z_32, H⟩ := H
      refine g_iast d_MO_putData_61 z_32.1 z_32.2.1 z_32.2.2.1 z_32.2.2.2 ?_
      refine g_aload_n d_MO_putData_62 rfl ?_
      refine g_getR d_MO_putData_63 f_MO_39 z_27 (by decide) ?_
      refine g_iload d_MO_putData_66 rfl ?_
      refine g_iconst (v := 2) d_MO_putData_68 (by decide) ?_
      refine g_iadd d_MO_putData_69 ?_
      refine g_iconst (v := 3) d_MO_putData_70 (by decide) ?_
      obtain ⟨q_33, e_34, H⟩ := H
      show Go _ _ _ [some (.ref q0), some (.int x1), some (.int x2), some (.int x3), some (.int x4), some (.int x5), some (.int x6), some (.int x7), some (.int x8), none, none, none] [.int 3, .int (x7 + 2), va_rf (hR h_20 q0 12)] _ _ _
      rw [show va_rf (hR h_20 q0 12) = Value.ref q_33 from by rw [e_34]; rfl]
      obtain ⟨N_35, H⟩ := H
      obtain ⟨j_36, H⟩ := H
      obtain ⟨z_37, H⟩ := H
      refine g_iast d_MO_putData_71 z_37.1 z_37.2.1 z_37.2.2.1 z_37.2.2.2 ?_
      refine g_aload_n d_MO_putData_72 rfl ?_
      refine g_getR d_MO_putData_73 f_MO_39 z_27 (by decide) ?_
      refine g_iload d_MO_putData_76 rfl ?_
      refine g_iconst (v := 3) d_MO_putData_78 (by decide) ?_
      refine g_iadd d_MO_putData_79 ?_
      refine g_iload_n d_MO_putData_80 rfl ?_
      obtain ⟨q_38, e_39, H⟩ := H
      show Go _ _ _ [some (.ref q0), some (.int x1), some (.int x2), some (.int x3), some (.int x4), some (.int x5), some (.int x6), some (.int x7), some (.int x8), none, none, none] [.int x3, .int (x7 + 3), va_rf (hR h_20 q0 12)] _ _ _
      rw [show va_rf (hR h_20 q0 12) = Value.ref q_38 from by rw [e_39]; rfl]
      obtain ⟨N_40, H⟩ := H
      obtain ⟨j_41, H⟩ := H
      obtain ⟨z_42, H⟩ := H
      refine g_iast d_MO_putData_81 z_42.1 z_42.2.1 z_42.2.2.1 z_42.2.2.2 ?_
      refine g_aload_n d_MO_putData_82 rfl ?_
      refine g_getR d_MO_putData_83 f_MO_39 z_27 (by decide) ?_
      refine g_iload d_MO_putData_86 rfl ?_
      refine g_iconst (v := 4) d_MO_putData_88 (by decide) ?_
      refine g_iadd d_MO_putData_89 ?_
      refine g_iload d_MO_putData_90 rfl ?_
      obtain ⟨q_43, e_44, H⟩ := H
      show Go _ _ _ [some (.ref q0), some (.int x1), some (.int x2), some (.int x3), some (.int x4), some (.int x5), some (.int x6), some (.int x7), some (.int x8), none, none, none] [.int x4, .int (x7 + 4), va_rf (hR h_20 q0 12)] _ _ _
      rw [show va_rf (hR h_20 q0 12) = Value.ref q_43 from by rw [e_44]; rfl]
      obtain ⟨N_45, H⟩ := H
      obtain ⟨j_46, H⟩ := H
      obtain ⟨z_47, H⟩ := H
      refine g_iast d_MO_putData_92 z_47.1 z_47.2.1 z_47.2.2.1 z_47.2.2.2 ?_
      refine g_aload_n d_MO_putData_93 rfl ?_
      refine g_getR d_MO_putData_94 f_MO_39 z_27 (by decide) ?_
      refine g_iload d_MO_putData_97 rfl ?_
      refine g_iconst (v := 5) d_MO_putData_99 (by decide) ?_
      refine g_iadd d_MO_putData_100 ?_
      refine g_iload d_MO_putData_101 rfl ?_
      obtain ⟨q_48, e_49, H⟩ := H
      show Go _ _ _ [some (.ref q0), some (.int x1), some (.int x2), some (.int x3), some (.int x4), some (.int x5), some (.int x6), some (.int x7), some (.int x8), none, none, none] [.int x5, .int (x7 + 5), va_rf (hR h_20 q0 12)] _ _ _
      rw [show va_rf (hR h_20 q0 12) = Value.ref q_48 from by rw [e_49]; rfl]
      obtain ⟨N_50, H⟩ := H
      obtain ⟨j_51, H⟩ := H
      obtain ⟨z_52, H⟩ := H
      refine g_iast d_MO_putData_103 z_52.1 z_52.2.1 z_52.2.2.1 z_52.2.2.2 ?_
      refine g_msk [true, true, true, true, true, true, true, true, true, false, false, false] ?_
      exact okJ_MO_putData_104 H
  · have H := H2 c_25
    refine g_aload_n d_MO_putData_39 rfl ?_
    refine g_iconst (v := 0) d_MO_putData_40 (by decide) ?_
    obtain ⟨z_53, H⟩ := H
    obtain ⟨P_54, C_55, H⟩ := H
    refine q_V (As := [.int 0]) (st := []) (nl := 2) d_MO_putData_41 v_MO_140 C_55 z_53 rfl (catS_le (Nat.le_of_ble_eq_true rfl)) rfl ⟨by omega, by omega, Nat.le_refl _, Nat.le_refl _⟩ (fun r_60 h_56 p_57 => ?_)
    obtain ⟨rfl, p_57⟩ := p_57
    replace H := H h_56 p_57
    show Go _ _ _ _ [] _ _ _
    obtain ⟨x_61, ex_61⟩ : ∃ z : Int32, z = x8 + 1 := ⟨_, rfl⟩
    replace H := H x_61 ex_61
    refine g_iinc (v := x_61) (lv' := [some (.ref q0), some (.int x1), some (.int x2), some (.int x3), some (.int x4), some (.int x5), some (.int x6), some (.int x7), some (.int x_61), none, none, none]) d_MO_putData_44 rfl (by decide) (by rw [ex_61]; rfl) rfl ?_
    refine g_goto (tgt := 29) d_MO_putData_47 (by decide) ?_
    refine g_msk [true, true, true, true, true, true, true, true, true, false, false, false] ?_
    exact hC29 _ _ H
set_option maxRecDepth 100000 in
set_option maxHeartbeats 4000000 in
def wL_MO_putData_29 (G : Gx) (l : Launch) (d w : Nat) (P : Hp → Prop) (q0 : Nat) (x1 : Int32) (x2 : Int32) (x3 : Int32) (x4 : Int32) (x5 : Int32) (x6 : Int32) (x7 : Int32) (x8 : Int32) (h : Hp)  : Prop := ∃ (I : Int32 → Hp → Prop) (μ : Int32 → Hp → Nat), I x8 h ∧ ∀ (x8' : Int32) (h' : Hp), I x8' h' → wB_MO_putData_29 G l d w P (fun x8_ h_ => I x8_ h_ ∧ μ x8_ h_ < μ x8' h') q0 x1 x2 x3 x4 x5 x6 x7 x8' h'
set_option maxRecDepth 100000 in
set_option maxHeartbeats 4000000 in
theorem okL_MO_putData_29 {G : Gx} {l : Launch} {d w : Nat} {P : Hp → Prop} {p : Program} {e : Env} {s : State} {m : MethodId} {args : Array Value} {below : List Frame} {meth : Method} {c : Code} {q0 : Nat} {x1 : Int32} {x2 : Int32} {x3 : Int32} {x4 : Int32} {x5 : Int32} {x6 : Int32} {x7 : Int32} {x8 : Int32} {h : Hp}  (H : wL_MO_putData_29 G l d w P  q0 x1 x2 x3 x4 x5 x6 x7 x8 h ) : Go M_MO_putData (mkX G (fun r h' => r = none ∧ P h') (d + 1) (w + 21) 0 0 p l e s m args below meth c) 29 [some (.ref q0), some (.int x1), some (.int x2), some (.int x3), some (.int x4), some (.int x5), some (.int x6), some (.int x7), some (.int x8), none, none, none] [] h 0 0 := by
  obtain ⟨I, μ, h0, hs⟩ := H
  have key : ∀ (N : Nat) (x8 : Int32) (h : Hp), I x8 h → μ x8 h < N → Go M_MO_putData (mkX G (fun r h' => r = none ∧ P h') (d + 1) (w + 21) 0 0 p l e s m args below meth c) 29 [some (.ref q0), some (.int x1), some (.int x2), some (.int x3), some (.int x4), some (.int x5), some (.int x6), some (.int x7), some (.int x8), none, none, none] [] h 0 0 := by
    intro N
    induction N with
    | zero => intro x8 h _ hN; exact absurd hN (Nat.not_lt_zero _)
    | succ N ih =>
      intro x8 h hI hN
      exact okB_MO_putData_29 (fun x8_ h_ hh => ih x8_ h_ hh.1 (Nat.lt_of_lt_of_le hh.2 (Nat.le_of_lt_succ hN))) (hs x8 h hI)
  exact key _ _ _ h0 (Nat.lt_succ_self _)
set_option maxRecDepth 100000 in
set_option maxHeartbeats 4000000 in
def wJ_MO_putData_12 (G : Gx) (l : Launch) (d w : Nat) (P : Hp → Prop) (q0 : Nat) (x1 : Int32) (x2 : Int32) (x3 : Int32) (x4 : Int32) (x5 : Int32) (sx0 : Int32) (h : Hp)  : Prop := (hS h q0 = some (18, 0)) ∧ (∃ P_63 : Hp → Prop, (Cv G l M_MO_put (d + 0) (w + 0) [.ref q0, .int sx0] h 0 0 P_63) ∧ (∀ h_65 : Hp, P_63 h_65 → (hS h_65 q0 = some (18, 0)) ∧ (∀ x_71 : Int32, x_71 = (hI h_65 q0 11) → wL_MO_putData_29 G l d w P q0 x1 x2 x3 x4 x5 sx0 x_71 0 h_65)))
set_option maxRecDepth 100000 in
set_option maxHeartbeats 4000000 in
theorem okJ_MO_putData_12 {G : Gx} {l : Launch} {d w : Nat} {P : Hp → Prop} {p : Program} {e : Env} {s : State} {m : MethodId} {args : Array Value} {below : List Frame} {meth : Method} {c : Code} {q0 : Nat} {x1 : Int32} {x2 : Int32} {x3 : Int32} {x4 : Int32} {x5 : Int32} {sx0 : Int32} {h : Hp}  (H : wJ_MO_putData_12 G l d w P  q0 x1 x2 x3 x4 x5 sx0 h ) : Go M_MO_putData (mkX G (fun r h' => r = none ∧ P h') (d + 1) (w + 21) 0 0 p l e s m args below meth c) 12 [some (.ref q0), some (.int x1), some (.int x2), some (.int x3), some (.int x4), some (.int x5), none, none, none, none, none, none] [.int sx0] h 0 0 := by
  unfold wJ_MO_putData_12 at H
  refine g_istore (lv' := [some (.ref q0), some (.int x1), some (.int x2), some (.int x3), some (.int x4), some (.int x5), some (.int sx0), none, none, none, none, none]) d_MO_putData_12 (by decide) rfl ?_
  refine g_aload_n d_MO_putData_14 rfl ?_
  refine g_iload d_MO_putData_15 rfl ?_
  obtain ⟨z_62, H⟩ := H
  obtain ⟨P_63, C_64, H⟩ := H
  refine q_V (As := [.int sx0]) (st := []) (nl := 2) d_MO_putData_17 v_MO_140 C_64 z_62 rfl (catS_le (Nat.le_of_ble_eq_true rfl)) rfl ⟨by omega, by omega, Nat.le_refl _, Nat.le_refl _⟩ (fun r_69 h_65 p_66 => ?_)
  obtain ⟨rfl, p_66⟩ := p_66
  replace H := H h_65 p_66
  show Go _ _ _ _ [] _ _ _
  refine g_aload_n d_MO_putData_20 rfl ?_
  obtain ⟨z_70, H⟩ := H
  refine g_getI d_MO_putData_21 f_MO_131 z_70 ?_
  refine g_topi (fun x_71 ex_71 => ?_)
  replace H := H x_71 ex_71
  refine g_istore (lv' := [some (.ref q0), some (.int x1), some (.int x2), some (.int x3), some (.int x4), some (.int x5), some (.int sx0), some (.int x_71), none, none, none, none]) d_MO_putData_24 (by decide) rfl ?_
  refine g_iconst (v := 0) d_MO_putData_26 (by decide) ?_
  refine g_istore (lv' := [some (.ref q0), some (.int x1), some (.int x2), some (.int x3), some (.int x4), some (.int x5), some (.int sx0), some (.int x_71), some (.int 0), none, none, none]) d_MO_putData_27 (by decide) rfl ?_
  refine g_msk [true, true, true, true, true, true, true, true, true, false, false, false] ?_
  exact okL_MO_putData_29 H
set_option maxRecDepth 100000 in
set_option maxHeartbeats 4000000 in
def wp_MO_putData (G : Gx) (l : Launch) (d w : Nat) (P : Hp → Prop) (q0 : Nat) (x1 : Int32) (x2 : Int32) (x3 : Int32) (x4 : Int32) (x5 : Int32) (h : Hp) : Prop := (0 ≤ x3 → wJ_MO_putData_12 G l d w P q0 x1 x2 x3 x4 x5 (7 + x2) h) ∧ (¬ 0 ≤ x3 → wJ_MO_putData_12 G l d w P q0 x1 x2 x3 x4 x5 x2 h)
set_option maxRecDepth 100000 in
set_option maxHeartbeats 4000000 in
theorem ok_MO_putData {G : Gx} {l : Launch} {d w : Nat} {P : Hp → Prop} {q0 : Nat} {x1 : Int32} {x2 : Int32} {x3 : Int32} {x4 : Int32} {x5 : Int32} {h : Hp} (H : wp_MO_putData G l d w P q0 x1 x2 x3 x4 x5 h) : Cv G l M_MO_putData (d + 1) (w + 21) [.ref q0, .int x1, .int x2, .int x3, .int x4, .int x5] h 0 0 P := by
  unfold wp_MO_putData at H
  refine Ct.of (lv := [some (.ref q0), some (.int x1), some (.int x2), some (.int x3), some (.int x4), some (.int x5), none, none, none, none, none, none]) (by decide) (Nat.le_of_ble_eq_true rfl) rfl (fun p e s m args below meth c => ?_)
  refine g_iload_n d_MO_putData_0 rfl ?_
  obtain ⟨H1, H2⟩ := H
  refine g_if_ge (tgt := 8) d_MO_putData_1 (by decide) (fun c_72 => ?_) (fun c_72 => ?_)
  · have H := H1 c_72
    refine g_bipush (v := 7) d_MO_putData_8 (by decide) ?_
    refine g_iload_n d_MO_putData_10 rfl ?_
    refine g_iadd d_MO_putData_11 ?_
    refine g_msk [true, true, true, true, true, true, false, false, false, false, false, false] ?_
    exact okJ_MO_putData_12 H
  · have H := H2 c_72
    refine g_iload_n d_MO_putData_4 rfl ?_
    refine g_goto (tgt := 12) d_MO_putData_5 (by decide) ?_
    refine g_msk [true, true, true, true, true, true, false, false, false, false, false, false] ?_
    exact okJ_MO_putData_12 H
set_option maxRecDepth 100000 in
set_option maxHeartbeats 4000000 in
def wJ_MO_putSubmit_30 (G : Gx) (l : Launch) (d w : Nat) (P : Hp → Prop) (q0 : Nat) (x1 : Int32) (x2 : Int32) (y3 : Int64) (x5 : Int32) (x6 : Int32) (x7 : Int32) (x8 : Int32) (x9 : Int32) (x10 : Int32) (sx0 : Int32) (sx1 : Int32) (sq2 : Nat) (h : Hp)  : Prop := (hS h sq2 = some (18, 0)) ∧ (∃ P_2 : Hp → Prop, (Cv G l M_MO_put (d + 0) (w + 0) [.ref sq2, .int (sx1 + sx0)] h 0 0 P_2) ∧ (∀ h_4 : Hp, P_2 h_4 → (hS h_4 q0 = some (18, 0)) ∧ (∃ P_10 : Hp → Prop, (Cv G l M_MO_put (d + 0) (w + 0) [.ref q0, .int x2] h_4 0 0 P_10) ∧ (∀ h_12 : Hp, P_10 h_12 → (hS h_12 q0 = some (18, 0)) ∧ (∃ P_18 : Hp → Prop, (Cv G l M_MO_putAddress (d + 2) (w + 49) [.ref q0, .long y3] h_12 0 0 P_18) ∧ (∀ h_20 : Hp, P_18 h_20 → (hS h_20 q0 = some (18, 0)) ∧ (∃ P_26 : Hp → Prop, (Cv G l M_MO_put (d + 0) (w + 0) [.ref q0, .int 0] h_20 0 0 P_26) ∧ (∀ h_28 : Hp, P_26 h_28 → (hS h_28 q0 = some (18, 0)) ∧ (∃ P_34 : Hp → Prop, (Cv G l M_MO_put (d + 0) (w + 0) [.ref q0, .int 0] h_28 0 0 P_34) ∧ (∀ h_36 : Hp, P_34 h_36 → (hS h_36 q0 = some (18, 0)) ∧ (∃ P_42 : Hp → Prop, (Cv G l M_MO_put (d + 0) (w + 0) [.ref q0, .int x5] h_36 0 0 P_42) ∧ (∀ h_44 : Hp, P_42 h_44 → (hS h_44 q0 = some (18, 0)) ∧ (∃ P_50 : Hp → Prop, (Cv G l M_MO_putData (d + 1) (w + 21) [.ref q0, .int x6, .int x7, .int x8, .int x9, .int x10] h_44 0 0 P_50) ∧ (∀ h_52 : Hp, P_50 h_52 → P h_52))))))))))))))
set_option maxRecDepth 100000 in
set_option maxHeartbeats 4000000 in
theorem okJ_MO_putSubmit_30 {G : Gx} {l : Launch} {d w : Nat} {P : Hp → Prop} {p : Program} {e : Env} {s : State} {m : MethodId} {args : Array Value} {below : List Frame} {meth : Method} {c : Code} {q0 : Nat} {x1 : Int32} {x2 : Int32} {y3 : Int64} {x5 : Int32} {x6 : Int32} {x7 : Int32} {x8 : Int32} {x9 : Int32} {x10 : Int32} {sx0 : Int32} {sx1 : Int32} {sq2 : Nat} {h : Hp}  (H : wJ_MO_putSubmit_30 G l d w P  q0 x1 x2 y3 x5 x6 x7 x8 x9 x10 sx0 sx1 sq2 h ) : Go M_MO_putSubmit (mkX G (fun r h' => r = none ∧ P h') (d + 3) (w + 72) 0 0 p l e s m args below meth c) 30 [some (.ref q0), some (.int x1), some (.int x2), some (.long y3), none, some (.int x5), some (.int x6), some (.int x7), some (.int x8), some (.int x9), some (.int x10)] [.int sx0, .int sx1, .ref sq2] h 0 0 := by
  unfold wJ_MO_putSubmit_30 at H
  refine g_iadd d_MO_putSubmit_30 ?_
  obtain ⟨z_1, H⟩ := H
  obtain ⟨P_2, C_3, H⟩ := H
  refine q_V (As := [.int (sx1 + sx0)]) (st := []) (nl := 2) d_MO_putSubmit_31 v_MO_140 C_3 z_1 rfl (catS_le (Nat.le_of_ble_eq_true rfl)) rfl ⟨by omega, by omega, Nat.le_refl _, Nat.le_refl _⟩ (fun r_8 h_4 p_5 => ?_)
  obtain ⟨rfl, p_5⟩ := p_5
  replace H := H h_4 p_5
  show Go _ _ _ _ [] _ _ _
  refine g_aload_n d_MO_putSubmit_34 rfl ?_
  refine g_iload_n d_MO_putSubmit_35 rfl ?_
  obtain ⟨z_9, H⟩ := H
  obtain ⟨P_10, C_11, H⟩ := H
  refine q_V (As := [.int x2]) (st := []) (nl := 2) d_MO_putSubmit_36 v_MO_140 C_11 z_9 rfl (catS_le (Nat.le_of_ble_eq_true rfl)) rfl ⟨by omega, by omega, Nat.le_refl _, Nat.le_refl _⟩ (fun r_16 h_12 p_13 => ?_)
  obtain ⟨rfl, p_13⟩ := p_13
  replace H := H h_12 p_13
  show Go _ _ _ _ [] _ _ _
  refine g_aload_n d_MO_putSubmit_39 rfl ?_
  refine g_lload_n d_MO_putSubmit_40 rfl ?_
  obtain ⟨z_17, H⟩ := H
  obtain ⟨P_18, C_19, H⟩ := H
  refine q_V (As := [.long y3]) (st := []) (nl := 4) d_MO_putSubmit_41 v_MO_151 C_19 z_17 rfl (catS_le (Nat.le_of_ble_eq_true rfl)) rfl ⟨by omega, by omega, Nat.le_refl _, Nat.le_refl _⟩ (fun r_24 h_20 p_21 => ?_)
  obtain ⟨rfl, p_21⟩ := p_21
  replace H := H h_20 p_21
  show Go _ _ _ _ [] _ _ _
  refine g_aload_n d_MO_putSubmit_44 rfl ?_
  refine g_iconst (v := 0) d_MO_putSubmit_45 (by decide) ?_
  obtain ⟨z_25, H⟩ := H
  obtain ⟨P_26, C_27, H⟩ := H
  refine q_V (As := [.int 0]) (st := []) (nl := 2) d_MO_putSubmit_46 v_MO_140 C_27 z_25 rfl (catS_le (Nat.le_of_ble_eq_true rfl)) rfl ⟨by omega, by omega, Nat.le_refl _, Nat.le_refl _⟩ (fun r_32 h_28 p_29 => ?_)
  obtain ⟨rfl, p_29⟩ := p_29
  replace H := H h_28 p_29
  show Go _ _ _ _ [] _ _ _
  refine g_aload_n d_MO_putSubmit_49 rfl ?_
  refine g_iconst (v := 0) d_MO_putSubmit_50 (by decide) ?_
  obtain ⟨z_33, H⟩ := H
  obtain ⟨P_34, C_35, H⟩ := H
  refine q_V (As := [.int 0]) (st := []) (nl := 2) d_MO_putSubmit_51 v_MO_140 C_35 z_33 rfl (catS_le (Nat.le_of_ble_eq_true rfl)) rfl ⟨by omega, by omega, Nat.le_refl _, Nat.le_refl _⟩ (fun r_40 h_36 p_37 => ?_)
  obtain ⟨rfl, p_37⟩ := p_37
  replace H := H h_36 p_37
  show Go _ _ _ _ [] _ _ _
  refine g_aload_n d_MO_putSubmit_54 rfl ?_
  refine g_iload d_MO_putSubmit_55 rfl ?_
  obtain ⟨z_41, H⟩ := H
  obtain ⟨P_42, C_43, H⟩ := H
  refine q_V (As := [.int x5]) (st := []) (nl := 2) d_MO_putSubmit_57 v_MO_140 C_43 z_41 rfl (catS_le (Nat.le_of_ble_eq_true rfl)) rfl ⟨by omega, by omega, Nat.le_refl _, Nat.le_refl _⟩ (fun r_48 h_44 p_45 => ?_)
  obtain ⟨rfl, p_45⟩ := p_45
  replace H := H h_44 p_45
  show Go _ _ _ _ [] _ _ _
  refine g_aload_n d_MO_putSubmit_60 rfl ?_
  refine g_iload d_MO_putSubmit_61 rfl ?_
  refine g_iload d_MO_putSubmit_63 rfl ?_
  refine g_iload d_MO_putSubmit_65 rfl ?_
  refine g_iload d_MO_putSubmit_67 rfl ?_
  refine g_iload d_MO_putSubmit_69 rfl ?_
  obtain ⟨z_49, H⟩ := H
  obtain ⟨P_50, C_51, H⟩ := H
  refine q_V (As := [.int x6, .int x7, .int x8, .int x9, .int x10]) (st := []) (nl := 12) d_MO_putSubmit_71 v_MO_155 C_51 z_49 rfl (catS_le (Nat.le_of_ble_eq_true rfl)) rfl ⟨by omega, by omega, Nat.le_refl _, Nat.le_refl _⟩ (fun r_56 h_52 p_53 => ?_)
  obtain ⟨rfl, p_53⟩ := p_53
  replace H := H h_52 p_53
  show Go _ _ _ _ [] _ _ _
  exact g_return d_MO_putSubmit_74 rfl (Nat.le_refl _) (Nat.le_refl _) ⟨rfl, H⟩
set_option maxRecDepth 100000 in
set_option maxHeartbeats 4000000 in
def wJ_MO_putSubmit_18 (G : Gx) (l : Launch) (d w : Nat) (P : Hp → Prop) (q0 : Nat) (x1 : Int32) (x2 : Int32) (y3 : Int64) (x5 : Int32) (x6 : Int32) (x7 : Int32) (x8 : Int32) (x9 : Int32) (x10 : Int32) (sx0 : Int32) (sx1 : Int32) (sq2 : Nat) (h : Hp)  : Prop := (0 ≤ x8 → wJ_MO_putSubmit_30 G l d w P q0 x1 x2 y3 x5 x6 x7 x8 x9 x10 64 (sx1 + sx0) sq2 h) ∧ (¬ 0 ≤ x8 → wJ_MO_putSubmit_30 G l d w P q0 x1 x2 y3 x5 x6 x7 x8 x9 x10 0 (sx1 + sx0) sq2 h)
set_option maxRecDepth 100000 in
set_option maxHeartbeats 4000000 in
theorem okJ_MO_putSubmit_18 {G : Gx} {l : Launch} {d w : Nat} {P : Hp → Prop} {p : Program} {e : Env} {s : State} {m : MethodId} {args : Array Value} {below : List Frame} {meth : Method} {c : Code} {q0 : Nat} {x1 : Int32} {x2 : Int32} {y3 : Int64} {x5 : Int32} {x6 : Int32} {x7 : Int32} {x8 : Int32} {x9 : Int32} {x10 : Int32} {sx0 : Int32} {sx1 : Int32} {sq2 : Nat} {h : Hp}  (H : wJ_MO_putSubmit_18 G l d w P  q0 x1 x2 y3 x5 x6 x7 x8 x9 x10 sx0 sx1 sq2 h ) : Go M_MO_putSubmit (mkX G (fun r h' => r = none ∧ P h') (d + 3) (w + 72) 0 0 p l e s m args below meth c) 18 [some (.ref q0), some (.int x1), some (.int x2), some (.long y3), none, some (.int x5), some (.int x6), some (.int x7), some (.int x8), some (.int x9), some (.int x10)] [.int sx0, .int sx1, .ref sq2] h 0 0 := by
  unfold wJ_MO_putSubmit_18 at H
  refine g_iadd d_MO_putSubmit_18 ?_
  refine g_iload d_MO_putSubmit_19 rfl ?_
  obtain ⟨H1, H2⟩ := H
  refine g_if_ge (tgt := 28) d_MO_putSubmit_21 (by decide) (fun c_57 => ?_) (fun c_57 => ?_)
  · have H := H1 c_57
    refine g_bipush (v := 64) d_MO_putSubmit_28 (by decide) ?_
    refine g_msk [true, true, true, true, false, true, true, true, true, true, true] ?_
    exact okJ_MO_putSubmit_30 H
  · have H := H2 c_57
    refine g_iconst (v := 0) d_MO_putSubmit_24 (by decide) ?_
    refine g_goto (tgt := 30) d_MO_putSubmit_25 (by decide) ?_
    refine g_msk [true, true, true, true, false, true, true, true, true, true, true] ?_
    exact okJ_MO_putSubmit_30 H
set_option maxRecDepth 100000 in
set_option maxHeartbeats 4000000 in
def wp_MO_putSubmit (G : Gx) (l : Launch) (d w : Nat) (P : Hp → Prop) (q0 : Nat) (x1 : Int32) (x2 : Int32) (y3 : Int64) (x5 : Int32) (x6 : Int32) (x7 : Int32) (x8 : Int32) (x9 : Int32) (x10 : Int32) (h : Hp) : Prop := (hS h q0 = some (18, 0)) ∧ ((x1 = 0 → wJ_MO_putSubmit_18 G l d w P q0 x1 x2 y3 x5 x6 x7 x8 x9 x10 0 17 q0 (pI h q0 11 0)) ∧ (¬ x1 = 0 → wJ_MO_putSubmit_18 G l d w P q0 x1 x2 y3 x5 x6 x7 x8 x9 x10 32 17 q0 (pI h q0 11 0)))
set_option maxRecDepth 100000 in
set_option maxHeartbeats 4000000 in
theorem ok_MO_putSubmit {G : Gx} {l : Launch} {d w : Nat} {P : Hp → Prop} {q0 : Nat} {x1 : Int32} {x2 : Int32} {y3 : Int64} {x5 : Int32} {x6 : Int32} {x7 : Int32} {x8 : Int32} {x9 : Int32} {x10 : Int32} {h : Hp} (H : wp_MO_putSubmit G l d w P q0 x1 x2 y3 x5 x6 x7 x8 x9 x10 h) : Cv G l M_MO_putSubmit (d + 3) (w + 72) [.ref q0, .int x1, .int x2, .long y3, .int x5, .int x6, .int x7, .int x8, .int x9, .int x10] h 0 0 P := by
  unfold wp_MO_putSubmit at H
  refine Ct.of (lv := [some (.ref q0), some (.int x1), some (.int x2), some (.long y3), none, some (.int x5), some (.int x6), some (.int x7), some (.int x8), some (.int x9), some (.int x10)]) (by decide) (Nat.le_of_ble_eq_true rfl) rfl (fun p e s m args below meth c => ?_)
  refine g_aload_n d_MO_putSubmit_0 rfl ?_
  refine g_iconst (v := 0) d_MO_putSubmit_1 (by decide) ?_
  obtain ⟨z_58, H⟩ := H
  refine g_putI d_MO_putSubmit_2 f_MO_131 (fo_8_11 _) z_58 ?_
  refine g_aload_n d_MO_putSubmit_5 rfl ?_
  refine g_bipush (v := 17) d_MO_putSubmit_6 (by decide) ?_
  refine g_iload_n d_MO_putSubmit_8 rfl ?_
  obtain ⟨H1, H2⟩ := H
  refine g_if_eq (tgt := 17) d_MO_putSubmit_9 (by decide) (fun c_59 => ?_) (fun c_59 => ?_)
  · have H := H1 c_59
    refine g_iconst (v := 0) d_MO_putSubmit_17 (by decide) ?_
    refine g_msk [true, true, true, true, false, true, true, true, true, true, true] ?_
    exact okJ_MO_putSubmit_18 H
  · have H := H2 c_59
    refine g_bipush (v := 32) d_MO_putSubmit_12 (by decide) ?_
    refine g_goto (tgt := 18) d_MO_putSubmit_14 (by decide) ?_
    refine g_msk [true, true, true, true, false, true, true, true, true, true, true] ?_
    exact okJ_MO_putSubmit_18 H
set_option maxRecDepth 100000 in
set_option maxHeartbeats 4000000 in
def wJ_MO_baseOf_34 (G : Gx) (l : Launch) (d w : Nat) (P : Int32 → Hp → Prop) (x0 : Int32) (sx0 : Int32) (h : Hp)  : Prop := P sx0 h
set_option maxRecDepth 100000 in
set_option maxHeartbeats 4000000 in
theorem okJ_MO_baseOf_34 {G : Gx} {l : Launch} {d w : Nat} {P : Int32 → Hp → Prop} {p : Program} {e : Env} {s : State} {m : MethodId} {args : Array Value} {below : List Frame} {meth : Method} {c : Code} {x0 : Int32} {sx0 : Int32} {h : Hp}  (H : wJ_MO_baseOf_34 G l d w P  x0 sx0 h ) : Go M_MO_baseOf (mkX G (fun r h' => ∃ x, r = some (.int x) ∧ P x h') (d + 0) (w + 0) 0 0 p l e s m args below meth c) 34 [some (.int x0)] [.int sx0] h 0 0 := by
  unfold wJ_MO_baseOf_34 at H
  exact g_ireturn d_MO_baseOf_34 rfl (Nat.le_refl _) (Nat.le_refl _) ⟨_, rfl, H⟩
set_option maxRecDepth 100000 in
set_option maxHeartbeats 4000000 in
def wp_MO_baseOf (G : Gx) (l : Launch) (d w : Nat) (P : Int32 → Hp → Prop) (x0 : Int32) (h : Hp) : Prop := (¬ x0 = 0 → (5 ≤ x0 → wJ_MO_baseOf_34 G l d w P x0 (32 + (6 * (x0 - 5))) h) ∧ (¬ 5 ≤ x0 → wJ_MO_baseOf_34 G l d w P x0 (8 + (6 * (x0 - 1))) h)) ∧ (x0 = 0 → wJ_MO_baseOf_34 G l d w P x0 0 h)
set_option maxRecDepth 100000 in
set_option maxHeartbeats 4000000 in
theorem ok_MO_baseOf {G : Gx} {l : Launch} {d w : Nat} {P : Int32 → Hp → Prop} {x0 : Int32} {h : Hp} (H : wp_MO_baseOf G l d w P x0 h) : Ci G l M_MO_baseOf (d + 0) (w + 0) [.int x0] h 0 0 P := by
  unfold wp_MO_baseOf at H
  refine Ct.of (lv := [some (.int x0)]) (by decide) (Nat.le_of_ble_eq_true rfl) rfl (fun p e s m args below meth c => ?_)
  refine g_iload_n d_MO_baseOf_0 rfl ?_
  obtain ⟨H1, H2⟩ := H
  refine g_if_ne (tgt := 8) d_MO_baseOf_1 (by decide) (fun c_1 => ?_) (fun c_1 => ?_)
  · have H := H1 c_1
    refine g_iload_n d_MO_baseOf_8 rfl ?_
    refine g_iconst (v := 5) d_MO_baseOf_9 (by decide) ?_
    obtain ⟨H1, H2⟩ := H
    refine g_icmp_ge (tgt := 25) d_MO_baseOf_10 (by decide) (fun c_2 => ?_) (fun c_2 => ?_)
    · have H := H1 c_2
      refine g_bipush (v := 32) d_MO_baseOf_25 (by decide) ?_
      refine g_bipush (v := 6) d_MO_baseOf_27 (by decide) ?_
      refine g_iload_n d_MO_baseOf_29 rfl ?_
      refine g_iconst (v := 5) d_MO_baseOf_30 (by decide) ?_
      refine g_isub d_MO_baseOf_31 ?_
      refine g_imul d_MO_baseOf_32 ?_
      refine g_iadd d_MO_baseOf_33 ?_
      refine g_msk [true] ?_
      exact okJ_MO_baseOf_34 H
    · have H := H2 c_2
      refine g_bipush (v := 8) d_MO_baseOf_13 (by decide) ?_
      refine g_bipush (v := 6) d_MO_baseOf_15 (by decide) ?_
      refine g_iload_n d_MO_baseOf_17 rfl ?_
      refine g_iconst (v := 1) d_MO_baseOf_18 (by decide) ?_
      refine g_isub d_MO_baseOf_19 ?_
      refine g_imul d_MO_baseOf_20 ?_
      refine g_iadd d_MO_baseOf_21 ?_
      refine g_goto (tgt := 34) d_MO_baseOf_22 (by decide) ?_
      refine g_msk [true] ?_
      exact okJ_MO_baseOf_34 H
  · have H := H2 c_1
    refine g_iconst (v := 0) d_MO_baseOf_4 (by decide) ?_
    refine g_goto (tgt := 34) d_MO_baseOf_5 (by decide) ?_
    refine g_msk [true] ?_
    exact okJ_MO_baseOf_34 H
set_option maxRecDepth 100000 in
set_option maxHeartbeats 4000000 in
def wB_MO_append_15 (G : Gx) (l : Launch) (d w : Nat) (P : Hp → Prop) (C15 : Int32 → Hp → Prop) (q0 : Nat) (x1 : Int32) (x2 : Int32) (x3 : Int32) (x4 : Int32) (h : Hp)  : Prop := (hS h q0 = some (18, 0)) ∧ (((hI h q0 11) ≤ x4 → ∃ q_3 : Nat, (hR h q0 14) = some q_3 ∧ (∃ N_5 : Nat, ∃ j_6 : Nat, (hS h q_3 = some (0, N_5) ∧ x3 = nI j_6 ∧ j_6 < N_5 ∧ j_6 < 2147483648) ∧ (∃ q_8 : Nat, (hR h q0 15) = some q_8 ∧ (∃ N_10 : Nat, ∃ j_11 : Nat, (hS h q_8 = some (0, N_10) ∧ x3 = nI j_11 ∧ j_11 < N_10 ∧ j_11 < 2147483648) ∧ (∃ q_13 : Nat, (hR h q0 16) = some q_13 ∧ (∃ N_15 : Nat, ∃ j_16 : Nat, (hS h q_13 = some (0, N_15) ∧ x1 = nI j_16 ∧ j_16 < N_15 ∧ j_16 < 2147483648) ∧ (P (pI (pI (pI h q_3 j_6 (hI h q0 11)) q_8 j_11 x2) q_13 j_16 ((hI (pI (pI h q_3 j_6 (hI h q0 11)) q_8 j_11 x2) q_13 j_16) + 1))))))))) ∧ (¬ (hI h q0 11) ≤ x4 → ∃ q_18 : Nat, (hR h q0 12) = some q_18 ∧ (∃ N_20 : Nat, ∃ j_21 : Nat, (hS h q_18 = some (0, N_20) ∧ x4 = nI j_21 ∧ j_21 < N_20 ∧ j_21 < 2147483648) ∧ (∃ q_23 : Nat, (hR h q0 13) = some q_23 ∧ (∃ N_25 : Nat, ∃ j_26 : Nat, (hS h q_23 = some (0, N_25) ∧ ((160 * x3) + x4) = nI j_26 ∧ j_26 < N_25 ∧ j_26 < 2147483648) ∧ (∀ x_28 : Int32, x_28 = x4 + 1 → C15 x_28 (pI h q_23 j_26 (hI h q_18 j_21))))))))
set_option maxRecDepth 100000 in
set_option maxHeartbeats 4000000 in
theorem okB_MO_append_15 {G : Gx} {l : Launch} {d w : Nat} {P : Hp → Prop} {p : Program} {e : Env} {s : State} {m : MethodId} {args : Array Value} {below : List Frame} {meth : Method} {c : Code} {C15 : Int32 → Hp → Prop} {q0 : Nat} {x1 : Int32} {x2 : Int32} {x3 : Int32} {x4 : Int32} (hC15 : ∀ (x4 : Int32) (h : Hp), C15 x4 h → Go M_MO_append (mkX G (fun r h' => r = none ∧ P h') (d + 1) (w + 20) 0 0 p l e s m args below meth c) 15 [some (.ref q0), some (.int x1), some (.int x2), some (.int x3), some (.int x4)] [] h 0 0) {h : Hp}  (H : wB_MO_append_15 G l d w P C15 q0 x1 x2 x3 x4 h ) : Go M_MO_append (mkX G (fun r h' => r = none ∧ P h') (d + 1) (w + 20) 0 0 p l e s m args below meth c) 15 [some (.ref q0), some (.int x1), some (.int x2), some (.int x3), some (.int x4)] [] h 0 0 := by
  unfold wB_MO_append_15 at H
  refine g_iload d_MO_append_15 rfl ?_
  refine g_aload_n d_MO_append_17 rfl ?_
  obtain ⟨z_1, H⟩ := H
  refine g_getI d_MO_append_18 f_MO_131 z_1 ?_
  obtain ⟨H1, H2⟩ := H
  refine g_icmp_ge (tgt := 50) d_MO_append_21 (by decide) (fun c_2 => ?_) (fun c_2 => ?_)
  · have H := H1 c_2
    refine g_aload_n d_MO_append_50 rfl ?_
    refine g_getR d_MO_append_51 f_MO_45 z_1 (by decide) ?_
    refine g_iload_n d_MO_append_54 rfl ?_
    refine g_aload_n d_MO_append_55 rfl ?_
    refine g_getI d_MO_append_56 f_MO_131 z_1 ?_
    obtain ⟨q_3, e_4, H⟩ := H
    show Go _ _ _ [some (.ref q0), some (.int x1), some (.int x2), some (.int x3), some (.int x4)] [.int (hI h q0 11), .int x3, va_rf (hR h q0 14)] _ _ _
    rw [show va_rf (hR h q0 14) = Value.ref q_3 from by rw [e_4]; rfl]
    obtain ⟨N_5, H⟩ := H
    obtain ⟨j_6, H⟩ := H
    obtain ⟨z_7, H⟩ := H
    refine g_iast d_MO_append_59 z_7.1 z_7.2.1 z_7.2.2.1 z_7.2.2.2 ?_
    refine g_aload_n d_MO_append_60 rfl ?_
    refine g_getR d_MO_append_61 f_MO_48 z_1 (by decide) ?_
    refine g_iload_n d_MO_append_64 rfl ?_
    refine g_iload_n d_MO_append_65 rfl ?_
    obtain ⟨q_8, e_9, H⟩ := H
    show Go _ _ _ [some (.ref q0), some (.int x1), some (.int x2), some (.int x3), some (.int x4)] [.int x2, .int x3, va_rf (hR h q0 15)] _ _ _
    rw [show va_rf (hR h q0 15) = Value.ref q_8 from by rw [e_9]; rfl]
    obtain ⟨N_10, H⟩ := H
    obtain ⟨j_11, H⟩ := H
    obtain ⟨z_12, H⟩ := H
    refine g_iast d_MO_append_66 z_12.1 z_12.2.1 z_12.2.2.1 z_12.2.2.2 ?_
    refine g_aload_n d_MO_append_67 rfl ?_
    refine g_getR d_MO_append_68 f_MO_51 z_1 (by decide) ?_
    refine g_iload_n d_MO_append_71 rfl ?_
    refine g_dup2 d_MO_append_72 rfl (vcat _) ?_
    obtain ⟨q_13, e_14, H⟩ := H
    show Go _ _ _ [some (.ref q0), some (.int x1), some (.int x2), some (.int x3), some (.int x4)] [.int x1, va_rf (hR h q0 16), .int x1, va_rf (hR h q0 16)] _ _ _
    rw [show va_rf (hR h q0 16) = Value.ref q_13 from by rw [e_14]; rfl]
    obtain ⟨N_15, H⟩ := H
    obtain ⟨j_16, H⟩ := H
    obtain ⟨z_17, H⟩ := H
    refine g_iald d_MO_append_73 z_17.1 z_17.2.1 z_17.2.2.1 z_17.2.2.2 ?_
    refine g_iconst (v := 1) d_MO_append_74 (by decide) ?_
    refine g_iadd d_MO_append_75 ?_
    refine g_iast d_MO_append_76 z_17.1 z_17.2.1 z_17.2.2.1 z_17.2.2.2 ?_
    exact g_return d_MO_append_77 rfl (Nat.le_refl _) (Nat.le_refl _) ⟨rfl, H⟩
  · have H := H2 c_2
    refine g_aload_n d_MO_append_24 rfl ?_
    refine g_getR d_MO_append_25 f_MO_42 z_1 (by decide) ?_
    refine g_sipush (v := 160) d_MO_append_28 (by decide) ?_
    refine g_iload_n d_MO_append_31 rfl ?_
    refine g_imul d_MO_append_32 ?_
    refine g_iload d_MO_append_33 rfl ?_
    refine g_iadd d_MO_append_35 ?_
    refine g_aload_n d_MO_append_36 rfl ?_
    refine g_getR d_MO_append_37 f_MO_39 z_1 (by decide) ?_
    refine g_iload d_MO_append_40 rfl ?_
    obtain ⟨q_18, e_19, H⟩ := H
    show Go _ _ _ [some (.ref q0), some (.int x1), some (.int x2), some (.int x3), some (.int x4)] [.int x4, va_rf (hR h q0 12), .int ((160 * x3) + x4), va_rf (hR h q0 13)] _ _ _
    rw [show va_rf (hR h q0 12) = Value.ref q_18 from by rw [e_19]; rfl]
    obtain ⟨N_20, H⟩ := H
    obtain ⟨j_21, H⟩ := H
    obtain ⟨z_22, H⟩ := H
    refine g_iald d_MO_append_42 z_22.1 z_22.2.1 z_22.2.2.1 z_22.2.2.2 ?_
    obtain ⟨q_23, e_24, H⟩ := H
    show Go _ _ _ [some (.ref q0), some (.int x1), some (.int x2), some (.int x3), some (.int x4)] [.int (hI h q_18 j_21), .int ((160 * x3) + x4), va_rf (hR h q0 13)] _ _ _
    rw [show va_rf (hR h q0 13) = Value.ref q_23 from by rw [e_24]; rfl]
    obtain ⟨N_25, H⟩ := H
    obtain ⟨j_26, H⟩ := H
    obtain ⟨z_27, H⟩ := H
    refine g_iast d_MO_append_43 z_27.1 z_27.2.1 z_27.2.2.1 z_27.2.2.2 ?_
    obtain ⟨x_28, ex_28⟩ : ∃ z : Int32, z = x4 + 1 := ⟨_, rfl⟩
    replace H := H x_28 ex_28
    refine g_iinc (v := x_28) (lv' := [some (.ref q0), some (.int x1), some (.int x2), some (.int x3), some (.int x_28)]) d_MO_append_44 rfl (by decide) (by rw [ex_28]; rfl) rfl ?_
    refine g_goto (tgt := 15) d_MO_append_47 (by decide) ?_
    refine g_msk [true, true, true, true, true] ?_
    exact hC15 _ _ H
set_option maxRecDepth 100000 in
set_option maxHeartbeats 4000000 in
def wL_MO_append_15 (G : Gx) (l : Launch) (d w : Nat) (P : Hp → Prop) (q0 : Nat) (x1 : Int32) (x2 : Int32) (x3 : Int32) (x4 : Int32) (h : Hp)  : Prop := ∃ (I : Int32 → Hp → Prop) (μ : Int32 → Hp → Nat), I x4 h ∧ ∀ (x4' : Int32) (h' : Hp), I x4' h' → wB_MO_append_15 G l d w P (fun x4_ h_ => I x4_ h_ ∧ μ x4_ h_ < μ x4' h') q0 x1 x2 x3 x4' h'
set_option maxRecDepth 100000 in
set_option maxHeartbeats 4000000 in
theorem okL_MO_append_15 {G : Gx} {l : Launch} {d w : Nat} {P : Hp → Prop} {p : Program} {e : Env} {s : State} {m : MethodId} {args : Array Value} {below : List Frame} {meth : Method} {c : Code} {q0 : Nat} {x1 : Int32} {x2 : Int32} {x3 : Int32} {x4 : Int32} {h : Hp}  (H : wL_MO_append_15 G l d w P  q0 x1 x2 x3 x4 h ) : Go M_MO_append (mkX G (fun r h' => r = none ∧ P h') (d + 1) (w + 20) 0 0 p l e s m args below meth c) 15 [some (.ref q0), some (.int x1), some (.int x2), some (.int x3), some (.int x4)] [] h 0 0 := by
  obtain ⟨I, μ, h0, hs⟩ := H
  have key : ∀ (N : Nat) (x4 : Int32) (h : Hp), I x4 h → μ x4 h < N → Go M_MO_append (mkX G (fun r h' => r = none ∧ P h') (d + 1) (w + 20) 0 0 p l e s m args below meth c) 15 [some (.ref q0), some (.int x1), some (.int x2), some (.int x3), some (.int x4)] [] h 0 0 := by
    intro N
    induction N with
    | zero => intro x4 h _ hN; exact absurd hN (Nat.not_lt_zero _)
    | succ N ih =>
      intro x4 h hI hN
      exact okB_MO_append_15 (fun x4_ h_ hh => ih x4_ h_ hh.1 (Nat.lt_of_lt_of_le hh.2 (Nat.le_of_lt_succ hN))) (hs x4 h hI)
  exact key _ _ _ h0 (Nat.lt_succ_self _)
set_option maxRecDepth 100000 in
set_option maxHeartbeats 4000000 in
def wp_MO_append (G : Gx) (l : Launch) (d w : Nat) (P : Hp → Prop) (q0 : Nat) (x1 : Int32) (x2 : Int32) (h : Hp) : Prop := ∃ P_29 : Int32 → Hp → Prop, (Ci G l M_MO_baseOf (d + 0) (w + 0) [.int x1] h 0 0 P_29) ∧ (∀ (x_33 : Int32) (h_31 : Hp), P_29 x_33 h_31 → (hS h_31 q0 = some (18, 0)) ∧ (∃ q_37 : Nat, (hR h_31 q0 16) = some q_37 ∧ (∃ N_39 : Nat, ∃ j_40 : Nat, (hS h_31 q_37 = some (0, N_39) ∧ x1 = nI j_40 ∧ j_40 < N_39 ∧ j_40 < 2147483648) ∧ (∀ x_42 : Int32, x_42 = (x_33 + (hI h_31 q_37 j_40)) → wL_MO_append_15 G l d w P q0 x1 x2 x_42 0 h_31))))
set_option maxRecDepth 100000 in
set_option maxHeartbeats 4000000 in
theorem ok_MO_append {G : Gx} {l : Launch} {d w : Nat} {P : Hp → Prop} {q0 : Nat} {x1 : Int32} {x2 : Int32} {h : Hp} (H : wp_MO_append G l d w P q0 x1 x2 h) : Cv G l M_MO_append (d + 1) (w + 20) [.ref q0, .int x1, .int x2] h 0 0 P := by
  unfold wp_MO_append at H
  refine Ct.of (lv := [some (.ref q0), some (.int x1), some (.int x2), none, none]) (by decide) (Nat.le_of_ble_eq_true rfl) rfl (fun p e s m args below meth c => ?_)
  refine g_iload_n d_MO_append_0 rfl ?_
  obtain ⟨P_29, C_30, H⟩ := H
  refine q_S (As := [.int x1]) (st := []) (nl := 1) d_MO_append_1 v_MO_159 C_30 rfl (catS_le (Nat.le_of_ble_eq_true rfl)) rfl ⟨by omega, by omega, Nat.le_refl _, Nat.le_refl _⟩ (fun r_35 h_31 p_32 => ?_)
  obtain ⟨x_33, rfl, p_32⟩ := p_32
  replace H := H x_33 h_31 p_32
  show Go _ _ _ _ [.int x_33] _ _ _
  refine g_aload_n d_MO_append_4 rfl ?_
  obtain ⟨z_36, H⟩ := H
  refine g_getR d_MO_append_5 f_MO_51 z_36 (by decide) ?_
  refine g_iload_n d_MO_append_8 rfl ?_
  obtain ⟨q_37, e_38, H⟩ := H
  show Go _ _ _ [some (.ref q0), some (.int x1), some (.int x2), none, none] [.int x1, va_rf (hR h_31 q0 16), .int x_33] _ _ _
  rw [show va_rf (hR h_31 q0 16) = Value.ref q_37 from by rw [e_38]; rfl]
  obtain ⟨N_39, H⟩ := H
  obtain ⟨j_40, H⟩ := H
  obtain ⟨z_41, H⟩ := H
  refine g_iald d_MO_append_9 z_41.1 z_41.2.1 z_41.2.2.1 z_41.2.2.2 ?_
  refine g_iadd d_MO_append_10 ?_
  refine g_topi (fun x_42 ex_42 => ?_)
  replace H := H x_42 ex_42
  refine g_istore_n (lv' := [some (.ref q0), some (.int x1), some (.int x2), some (.int x_42), none]) d_MO_append_11 (by decide) rfl ?_
  refine g_iconst (v := 0) d_MO_append_12 (by decide) ?_
  refine g_istore (lv' := [some (.ref q0), some (.int x1), some (.int x2), some (.int x_42), some (.int 0)]) d_MO_append_13 (by decide) rfl ?_
  refine g_msk [true, true, true, true, true] ?_
  exact okL_MO_append_15 H
set_option maxRecDepth 100000 in
set_option maxHeartbeats 4000000 in
def wB_MO_load_12 (G : Gx) (l : Launch) (d w : Nat) (P : Hp → Prop) (C12 : Int32 → Hp → Prop) (q0 : Nat) (x1 : Int32) (x2 : Int32) (h : Hp)  : Prop := (hS h q0 = some (18, 0)) ∧ (((hI h q0 11) ≤ x2 → P h) ∧ (¬ (hI h q0 11) ≤ x2 → ∃ q_3 : Nat, (hR h q0 13) = some q_3 ∧ (∃ N_5 : Nat, ∃ j_6 : Nat, (hS h q_3 = some (0, N_5) ∧ ((160 * x1) + x2) = nI j_6 ∧ j_6 < N_5 ∧ j_6 < 2147483648) ∧ (∃ q_8 : Nat, (hR h q0 12) = some q_8 ∧ (∃ N_10 : Nat, ∃ j_11 : Nat, (hS h q_8 = some (0, N_10) ∧ x2 = nI j_11 ∧ j_11 < N_10 ∧ j_11 < 2147483648) ∧ (∀ x_13 : Int32, x_13 = x2 + 1 → C12 x_13 (pI h q_8 j_11 (hI h q_3 j_6))))))))
set_option maxRecDepth 100000 in
set_option maxHeartbeats 4000000 in
theorem okB_MO_load_12 {G : Gx} {l : Launch} {d w : Nat} {P : Hp → Prop} {p : Program} {e : Env} {s : State} {m : MethodId} {args : Array Value} {below : List Frame} {meth : Method} {c : Code} {C12 : Int32 → Hp → Prop} {q0 : Nat} {x1 : Int32} {x2 : Int32} (hC12 : ∀ (x2 : Int32) (h : Hp), C12 x2 h → Go M_MO_load (mkX G (fun r h' => r = none ∧ P h') (d + 0) (w + 0) 0 0 p l e s m args below meth c) 12 [some (.ref q0), some (.int x1), some (.int x2)] [] h 0 0) {h : Hp}  (H : wB_MO_load_12 G l d w P C12 q0 x1 x2 h ) : Go M_MO_load (mkX G (fun r h' => r = none ∧ P h') (d + 0) (w + 0) 0 0 p l e s m args below meth c) 12 [some (.ref q0), some (.int x1), some (.int x2)] [] h 0 0 := by
  unfold wB_MO_load_12 at H
  refine g_iload_n d_MO_load_12 rfl ?_
  refine g_aload_n d_MO_load_13 rfl ?_
  obtain ⟨z_1, H⟩ := H
  refine g_getI d_MO_load_14 f_MO_131 z_1 ?_
  obtain ⟨H1, H2⟩ := H
  refine g_icmp_ge (tgt := 44) d_MO_load_17 (by decide) (fun c_2 => ?_) (fun c_2 => ?_)
  · have H := H1 c_2
    exact g_return d_MO_load_44 rfl (Nat.le_refl _) (Nat.le_refl _) ⟨rfl, H⟩
  · have H := H2 c_2
    refine g_aload_n d_MO_load_20 rfl ?_
    refine g_getR d_MO_load_21 f_MO_39 z_1 (by decide) ?_
    refine g_iload_n d_MO_load_24 rfl ?_
    refine g_aload_n d_MO_load_25 rfl ?_
    refine g_getR d_MO_load_26 f_MO_42 z_1 (by decide) ?_
    refine g_sipush (v := 160) d_MO_load_29 (by decide) ?_
    refine g_iload_n d_MO_load_32 rfl ?_
    refine g_imul d_MO_load_33 ?_
    refine g_iload_n d_MO_load_34 rfl ?_
    refine g_iadd d_MO_load_35 ?_
    obtain ⟨q_3, e_4, H⟩ := H
    show Go _ _ _ [some (.ref q0), some (.int x1), some (.int x2)] [.int ((160 * x1) + x2), va_rf (hR h q0 13), .int x2, va_rf (hR h q0 12)] _ _ _
    rw [show va_rf (hR h q0 13) = Value.ref q_3 from by rw [e_4]; rfl]
    obtain ⟨N_5, H⟩ := H
    obtain ⟨j_6, H⟩ := H
    obtain ⟨z_7, H⟩ := H
    refine g_iald d_MO_load_36 z_7.1 z_7.2.1 z_7.2.2.1 z_7.2.2.2 ?_
    obtain ⟨q_8, e_9, H⟩ := H
    show Go _ _ _ [some (.ref q0), some (.int x1), some (.int x2)] [.int (hI h q_3 j_6), .int x2, va_rf (hR h q0 12)] _ _ _
    rw [show va_rf (hR h q0 12) = Value.ref q_8 from by rw [e_9]; rfl]
    obtain ⟨N_10, H⟩ := H
    obtain ⟨j_11, H⟩ := H
    obtain ⟨z_12, H⟩ := H
    refine g_iast d_MO_load_37 z_12.1 z_12.2.1 z_12.2.2.1 z_12.2.2.2 ?_
    obtain ⟨x_13, ex_13⟩ : ∃ z : Int32, z = x2 + 1 := ⟨_, rfl⟩
    replace H := H x_13 ex_13
    refine g_iinc (v := x_13) (lv' := [some (.ref q0), some (.int x1), some (.int x_13)]) d_MO_load_38 rfl (by decide) (by rw [ex_13]; rfl) rfl ?_
    refine g_goto (tgt := 12) d_MO_load_41 (by decide) ?_
    refine g_msk [true, true, true] ?_
    exact hC12 _ _ H
set_option maxRecDepth 100000 in
set_option maxHeartbeats 4000000 in
def wL_MO_load_12 (G : Gx) (l : Launch) (d w : Nat) (P : Hp → Prop) (q0 : Nat) (x1 : Int32) (x2 : Int32) (h : Hp)  : Prop := ∃ (I : Int32 → Hp → Prop) (μ : Int32 → Hp → Nat), I x2 h ∧ ∀ (x2' : Int32) (h' : Hp), I x2' h' → wB_MO_load_12 G l d w P (fun x2_ h_ => I x2_ h_ ∧ μ x2_ h_ < μ x2' h') q0 x1 x2' h'
set_option maxRecDepth 100000 in
set_option maxHeartbeats 4000000 in
theorem okL_MO_load_12 {G : Gx} {l : Launch} {d w : Nat} {P : Hp → Prop} {p : Program} {e : Env} {s : State} {m : MethodId} {args : Array Value} {below : List Frame} {meth : Method} {c : Code} {q0 : Nat} {x1 : Int32} {x2 : Int32} {h : Hp}  (H : wL_MO_load_12 G l d w P  q0 x1 x2 h ) : Go M_MO_load (mkX G (fun r h' => r = none ∧ P h') (d + 0) (w + 0) 0 0 p l e s m args below meth c) 12 [some (.ref q0), some (.int x1), some (.int x2)] [] h 0 0 := by
  obtain ⟨I, μ, h0, hs⟩ := H
  have key : ∀ (N : Nat) (x2 : Int32) (h : Hp), I x2 h → μ x2 h < N → Go M_MO_load (mkX G (fun r h' => r = none ∧ P h') (d + 0) (w + 0) 0 0 p l e s m args below meth c) 12 [some (.ref q0), some (.int x1), some (.int x2)] [] h 0 0 := by
    intro N
    induction N with
    | zero => intro x2 h _ hN; exact absurd hN (Nat.not_lt_zero _)
    | succ N ih =>
      intro x2 h hI hN
      exact okB_MO_load_12 (fun x2_ h_ hh => ih x2_ h_ hh.1 (Nat.lt_of_lt_of_le hh.2 (Nat.le_of_lt_succ hN))) (hs x2 h hI)
  exact key _ _ _ h0 (Nat.lt_succ_self _)
set_option maxRecDepth 100000 in
set_option maxHeartbeats 4000000 in
def wp_MO_load (G : Gx) (l : Launch) (d w : Nat) (P : Hp → Prop) (q0 : Nat) (x1 : Int32) (h : Hp) : Prop := (hS h q0 = some (18, 0)) ∧ (∃ q_15 : Nat, (hR h q0 14) = some q_15 ∧ (∃ N_17 : Nat, ∃ j_18 : Nat, (hS h q_15 = some (0, N_17) ∧ x1 = nI j_18 ∧ j_18 < N_17 ∧ j_18 < 2147483648) ∧ (wL_MO_load_12 G l d w P q0 x1 0 (pI h q0 11 (hI h q_15 j_18)))))
set_option maxRecDepth 100000 in
set_option maxHeartbeats 4000000 in
theorem ok_MO_load {G : Gx} {l : Launch} {d w : Nat} {P : Hp → Prop} {q0 : Nat} {x1 : Int32} {h : Hp} (H : wp_MO_load G l d w P q0 x1 h) : Cv G l M_MO_load (d + 0) (w + 0) [.ref q0, .int x1] h 0 0 P := by
  unfold wp_MO_load at H
  refine Ct.of (lv := [some (.ref q0), some (.int x1), none]) (by decide) (Nat.le_of_ble_eq_true rfl) rfl (fun p e s m args below meth c => ?_)
  refine g_aload_n d_MO_load_0 rfl ?_
  refine g_aload_n d_MO_load_1 rfl ?_
  obtain ⟨z_14, H⟩ := H
  refine g_getR d_MO_load_2 f_MO_45 z_14 (by decide) ?_
  refine g_iload_n d_MO_load_5 rfl ?_
  obtain ⟨q_15, e_16, H⟩ := H
  show Go _ _ _ [some (.ref q0), some (.int x1), none] [.int x1, va_rf (hR h q0 14), .ref q0] _ _ _
  rw [show va_rf (hR h q0 14) = Value.ref q_15 from by rw [e_16]; rfl]
  obtain ⟨N_17, H⟩ := H
  obtain ⟨j_18, H⟩ := H
  obtain ⟨z_19, H⟩ := H
  refine g_iald d_MO_load_6 z_19.1 z_19.2.1 z_19.2.2.1 z_19.2.2.2 ?_
  refine g_putI d_MO_load_7 f_MO_131 (fo_8_11 _) z_14 ?_
  refine g_iconst (v := 0) d_MO_load_10 (by decide) ?_
  refine g_istore_n (lv' := [some (.ref q0), some (.int x1), some (.int 0)]) d_MO_load_11 (by decide) rfl ?_
  refine g_msk [true, true, true] ?_
  exact okL_MO_load_12 H
set_option maxRecDepth 100000 in
set_option maxHeartbeats 4000000 in
def wB_MO_move_2 (G : Gx) (l : Launch) (d w : Nat) (P : Hp → Prop) (C2 : Int32 → Hp → Prop) (q0 : Nat) (x1 : Int32) (x2 : Int32) (x3 : Int32) (h : Hp)  : Prop := (160 ≤ x3 → (hS h q0 = some (18, 0)) ∧ (∃ q_3 : Nat, (hR h q0 14) = some q_3 ∧ (∃ N_5 : Nat, ∃ j_6 : Nat, (hS h q_3 = some (0, N_5) ∧ x2 = nI j_6 ∧ j_6 < N_5 ∧ j_6 < 2147483648) ∧ (∃ N_8 : Nat, ∃ j_9 : Nat, (hS h q_3 = some (0, N_8) ∧ x1 = nI j_9 ∧ j_9 < N_8 ∧ j_9 < 2147483648) ∧ (∃ q_11 : Nat, (hR h q0 15) = some q_11 ∧ (∃ N_13 : Nat, ∃ j_14 : Nat, (hS h q_11 = some (0, N_13) ∧ x2 = nI j_14 ∧ j_14 < N_13 ∧ j_14 < 2147483648) ∧ (∃ N_16 : Nat, ∃ j_17 : Nat, (hS h q_11 = some (0, N_16) ∧ x1 = nI j_17 ∧ j_17 < N_16 ∧ j_17 < 2147483648) ∧ (P (pI (pI h q_3 j_9 (hI h q_3 j_6)) q_11 j_17 (hI (pI h q_3 j_9 (hI h q_3 j_6)) q_11 j_14)))))))))) ∧ (¬ 160 ≤ x3 → (hS h q0 = some (18, 0)) ∧ (∃ q_20 : Nat, (hR h q0 13) = some q_20 ∧ (∃ N_22 : Nat, ∃ j_23 : Nat, (hS h q_20 = some (0, N_22) ∧ ((160 * x2) + x3) = nI j_23 ∧ j_23 < N_22 ∧ j_23 < 2147483648) ∧ (∃ N_25 : Nat, ∃ j_26 : Nat, (hS h q_20 = some (0, N_25) ∧ ((160 * x1) + x3) = nI j_26 ∧ j_26 < N_25 ∧ j_26 < 2147483648) ∧ (∀ x_28 : Int32, x_28 = x3 + 1 → C2 x_28 (pI h q_20 j_26 (hI h q_20 j_23)))))))
set_option maxRecDepth 100000 in
set_option maxHeartbeats 4000000 in
theorem okB_MO_move_2 {G : Gx} {l : Launch} {d w : Nat} {P : Hp → Prop} {p : Program} {e : Env} {s : State} {m : MethodId} {args : Array Value} {below : List Frame} {meth : Method} {c : Code} {C2 : Int32 → Hp → Prop} {q0 : Nat} {x1 : Int32} {x2 : Int32} {x3 : Int32} (hC2 : ∀ (x3 : Int32) (h : Hp), C2 x3 h → Go M_MO_move (mkX G (fun r h' => r = none ∧ P h') (d + 0) (w + 0) 0 0 p l e s m args below meth c) 2 [some (.ref q0), some (.int x1), some (.int x2), some (.int x3)] [] h 0 0) {h : Hp}  (H : wB_MO_move_2 G l d w P C2 q0 x1 x2 x3 h ) : Go M_MO_move (mkX G (fun r h' => r = none ∧ P h') (d + 0) (w + 0) 0 0 p l e s m args below meth c) 2 [some (.ref q0), some (.int x1), some (.int x2), some (.int x3)] [] h 0 0 := by
  unfold wB_MO_move_2 at H
  refine g_iload_n d_MO_move_2 rfl ?_
  refine g_sipush (v := 160) d_MO_move_3 (by decide) ?_
  obtain ⟨H1, H2⟩ := H
  refine g_icmp_ge (tgt := 39) d_MO_move_6 (by decide) (fun c_1 => ?_) (fun c_1 => ?_)
  · have H := H1 c_1
    refine g_aload_n d_MO_move_39 rfl ?_
    obtain ⟨z_2, H⟩ := H
    refine g_getR d_MO_move_40 f_MO_45 z_2 (by decide) ?_
    refine g_iload_n d_MO_move_43 rfl ?_
    refine g_aload_n d_MO_move_44 rfl ?_
    refine g_getR d_MO_move_45 f_MO_45 z_2 (by decide) ?_
    refine g_iload_n d_MO_move_48 rfl ?_
    obtain ⟨q_3, e_4, H⟩ := H
    show Go _ _ _ [some (.ref q0), some (.int x1), some (.int x2), some (.int x3)] [.int x2, va_rf (hR h q0 14), .int x1, va_rf (hR h q0 14)] _ _ _
    rw [show va_rf (hR h q0 14) = Value.ref q_3 from by rw [e_4]; rfl]
    obtain ⟨N_5, H⟩ := H
    obtain ⟨j_6, H⟩ := H
    obtain ⟨z_7, H⟩ := H
    refine g_iald d_MO_move_49 z_7.1 z_7.2.1 z_7.2.2.1 z_7.2.2.2 ?_
    obtain ⟨N_8, H⟩ := H
    obtain ⟨j_9, H⟩ := H
    obtain ⟨z_10, H⟩ := H
    refine g_iast d_MO_move_50 z_10.1 z_10.2.1 z_10.2.2.1 z_10.2.2.2 ?_
    refine g_aload_n d_MO_move_51 rfl ?_
    refine g_getR d_MO_move_52 f_MO_48 z_2 (by decide) ?_
    refine g_iload_n d_MO_move_55 rfl ?_
    refine g_aload_n d_MO_move_56 rfl ?_
    refine g_getR d_MO_move_57 f_MO_48 z_2 (by decide) ?_
    refine g_iload_n d_MO_move_60 rfl ?_
    obtain ⟨q_11, e_12, H⟩ := H
    show Go _ _ _ [some (.ref q0), some (.int x1), some (.int x2), some (.int x3)] [.int x2, va_rf (hR h q0 15), .int x1, va_rf (hR h q0 15)] _ _ _
    rw [show va_rf (hR h q0 15) = Value.ref q_11 from by rw [e_12]; rfl]
    obtain ⟨N_13, H⟩ := H
    obtain ⟨j_14, H⟩ := H
    obtain ⟨z_15, H⟩ := H
    refine g_iald d_MO_move_61 z_15.1 z_15.2.1 z_15.2.2.1 z_15.2.2.2 ?_
    obtain ⟨N_16, H⟩ := H
    obtain ⟨j_17, H⟩ := H
    obtain ⟨z_18, H⟩ := H
    refine g_iast d_MO_move_62 z_18.1 z_18.2.1 z_18.2.2.1 z_18.2.2.2 ?_
    exact g_return d_MO_move_63 rfl (Nat.le_refl _) (Nat.le_refl _) ⟨rfl, H⟩
  · have H := H2 c_1
    refine g_aload_n d_MO_move_9 rfl ?_
    obtain ⟨z_19, H⟩ := H
    refine g_getR d_MO_move_10 f_MO_42 z_19 (by decide) ?_
    refine g_sipush (v := 160) d_MO_move_13 (by decide) ?_
    refine g_iload_n d_MO_move_16 rfl ?_
    refine g_imul d_MO_move_17 ?_
    refine g_iload_n d_MO_move_18 rfl ?_
    refine g_iadd d_MO_move_19 ?_
    refine g_aload_n d_MO_move_20 rfl ?_
    refine g_getR d_MO_move_21 f_MO_42 z_19 (by decide) ?_
    refine g_sipush (v := 160) d_MO_move_24 (by decide) ?_
    refine g_iload_n d_MO_move_27 rfl ?_
    refine g_imul d_MO_move_28 ?_
    refine g_iload_n d_MO_move_29 rfl ?_
    refine g_iadd d_MO_move_30 ?_
    obtain ⟨q_20, e_21, H⟩ := H
    show Go _ _ _ [some (.ref q0), some (.int x1), some (.int x2), some (.int x3)] [.int ((160 * x2) + x3), va_rf (hR h q0 13), .int ((160 * x1) + x3), va_rf (hR h q0 13)] _ _ _
    rw [show va_rf (hR h q0 13) = Value.ref q_20 from by rw [e_21]; rfl]
    obtain ⟨N_22, H⟩ := H
    obtain ⟨j_23, H⟩ := H
    obtain ⟨z_24, H⟩ := H
    refine g_iald d_MO_move_31 z_24.1 z_24.2.1 z_24.2.2.1 z_24.2.2.2 ?_
    obtain ⟨N_25, H⟩ := H
    obtain ⟨j_26, H⟩ := H
    obtain ⟨z_27, H⟩ := H
    refine g_iast d_MO_move_32 z_27.1 z_27.2.1 z_27.2.2.1 z_27.2.2.2 ?_
    obtain ⟨x_28, ex_28⟩ : ∃ z : Int32, z = x3 + 1 := ⟨_, rfl⟩
    replace H := H x_28 ex_28
    refine g_iinc (v := x_28) (lv' := [some (.ref q0), some (.int x1), some (.int x2), some (.int x_28)]) d_MO_move_33 rfl (by decide) (by rw [ex_28]; rfl) rfl ?_
    refine g_goto (tgt := 2) d_MO_move_36 (by decide) ?_
    refine g_msk [true, true, true, true] ?_
    exact hC2 _ _ H
set_option maxRecDepth 100000 in
set_option maxHeartbeats 4000000 in
def wL_MO_move_2 (G : Gx) (l : Launch) (d w : Nat) (P : Hp → Prop) (q0 : Nat) (x1 : Int32) (x2 : Int32) (x3 : Int32) (h : Hp)  : Prop := ∃ (I : Int32 → Hp → Prop) (μ : Int32 → Hp → Nat), I x3 h ∧ ∀ (x3' : Int32) (h' : Hp), I x3' h' → wB_MO_move_2 G l d w P (fun x3_ h_ => I x3_ h_ ∧ μ x3_ h_ < μ x3' h') q0 x1 x2 x3' h'
set_option maxRecDepth 100000 in
set_option maxHeartbeats 4000000 in
theorem okL_MO_move_2 {G : Gx} {l : Launch} {d w : Nat} {P : Hp → Prop} {p : Program} {e : Env} {s : State} {m : MethodId} {args : Array Value} {below : List Frame} {meth : Method} {c : Code} {q0 : Nat} {x1 : Int32} {x2 : Int32} {x3 : Int32} {h : Hp}  (H : wL_MO_move_2 G l d w P  q0 x1 x2 x3 h ) : Go M_MO_move (mkX G (fun r h' => r = none ∧ P h') (d + 0) (w + 0) 0 0 p l e s m args below meth c) 2 [some (.ref q0), some (.int x1), some (.int x2), some (.int x3)] [] h 0 0 := by
  obtain ⟨I, μ, h0, hs⟩ := H
  have key : ∀ (N : Nat) (x3 : Int32) (h : Hp), I x3 h → μ x3 h < N → Go M_MO_move (mkX G (fun r h' => r = none ∧ P h') (d + 0) (w + 0) 0 0 p l e s m args below meth c) 2 [some (.ref q0), some (.int x1), some (.int x2), some (.int x3)] [] h 0 0 := by
    intro N
    induction N with
    | zero => intro x3 h _ hN; exact absurd hN (Nat.not_lt_zero _)
    | succ N ih =>
      intro x3 h hI hN
      exact okB_MO_move_2 (fun x3_ h_ hh => ih x3_ h_ hh.1 (Nat.lt_of_lt_of_le hh.2 (Nat.le_of_lt_succ hN))) (hs x3 h hI)
  exact key _ _ _ h0 (Nat.lt_succ_self _)
set_option maxRecDepth 100000 in
set_option maxHeartbeats 4000000 in
def wp_MO_move (G : Gx) (l : Launch) (d w : Nat) (P : Hp → Prop) (q0 : Nat) (x1 : Int32) (x2 : Int32) (h : Hp) : Prop := wL_MO_move_2 G l d w P q0 x1 x2 0 h
set_option maxRecDepth 100000 in
set_option maxHeartbeats 4000000 in
theorem ok_MO_move {G : Gx} {l : Launch} {d w : Nat} {P : Hp → Prop} {q0 : Nat} {x1 : Int32} {x2 : Int32} {h : Hp} (H : wp_MO_move G l d w P q0 x1 x2 h) : Cv G l M_MO_move (d + 0) (w + 0) [.ref q0, .int x1, .int x2] h 0 0 P := by
  unfold wp_MO_move at H
  refine Ct.of (lv := [some (.ref q0), some (.int x1), some (.int x2), none]) (by decide) (Nat.le_of_ble_eq_true rfl) rfl (fun p e s m args below meth c => ?_)
  refine g_iconst (v := 0) d_MO_move_0 (by decide) ?_
  refine g_istore_n (lv' := [some (.ref q0), some (.int x1), some (.int x2), some (.int 0)]) d_MO_move_1 (by decide) rfl ?_
  refine g_msk [true, true, true, true] ?_
  exact okL_MO_move_2 H
set_option maxRecDepth 100000 in
set_option maxHeartbeats 4000000 in
def wB_MO_removeFirst_17 (G : Gx) (l : Launch) (d w : Nat) (P : Hp → Prop) (C17 : Int32 → Hp → Prop) (q0 : Nat) (x1 : Int32) (x2 : Int32) (x3 : Int32) (h : Hp)  : Prop := (hS h q0 = some (18, 0)) ∧ (∃ q_2 : Nat, (hR h q0 16) = some q_2 ∧ (∃ N_4 : Nat, ∃ j_5 : Nat, (hS h q_2 = some (0, N_4) ∧ x1 = nI j_5 ∧ j_5 < N_4 ∧ j_5 < 2147483648) ∧ (((hI h q_2 j_5) ≤ x3 → P h) ∧ (¬ (hI h q_2 j_5) ≤ x3 → ∃ P_8 : Hp → Prop, (Cv G l M_MO_move (d + 0) (w + 0) [.ref q0, .int (x2 + x3), .int ((x2 + x3) + 1)] h 0 0 P_8) ∧ (∀ h_10 : Hp, P_8 h_10 → ∀ x_15 : Int32, x_15 = x3 + 1 → C17 x_15 h_10)))))
set_option maxRecDepth 100000 in
set_option maxHeartbeats 4000000 in
theorem okB_MO_removeFirst_17 {G : Gx} {l : Launch} {d w : Nat} {P : Hp → Prop} {p : Program} {e : Env} {s : State} {m : MethodId} {args : Array Value} {below : List Frame} {meth : Method} {c : Code} {C17 : Int32 → Hp → Prop} {q0 : Nat} {x1 : Int32} {x2 : Int32} {x3 : Int32} (hC17 : ∀ (x3 : Int32) (h : Hp), C17 x3 h → Go M_MO_removeFirst (mkX G (fun r h' => r = none ∧ P h') (d + 1) (w + 23) 0 0 p l e s m args below meth c) 17 [some (.ref q0), some (.int x1), some (.int x2), some (.int x3)] [] h 0 0) {h : Hp}  (H : wB_MO_removeFirst_17 G l d w P C17 q0 x1 x2 x3 h ) : Go M_MO_removeFirst (mkX G (fun r h' => r = none ∧ P h') (d + 1) (w + 23) 0 0 p l e s m args below meth c) 17 [some (.ref q0), some (.int x1), some (.int x2), some (.int x3)] [] h 0 0 := by
  unfold wB_MO_removeFirst_17 at H
  refine g_iload_n d_MO_removeFirst_17 rfl ?_
  refine g_aload_n d_MO_removeFirst_18 rfl ?_
  obtain ⟨z_1, H⟩ := H
  refine g_getR d_MO_removeFirst_19 f_MO_51 z_1 (by decide) ?_
  refine g_iload_n d_MO_removeFirst_22 rfl ?_
  obtain ⟨q_2, e_3, H⟩ := H
  show Go _ _ _ [some (.ref q0), some (.int x1), some (.int x2), some (.int x3)] [.int x1, va_rf (hR h q0 16), .int x3] _ _ _
  rw [show va_rf (hR h q0 16) = Value.ref q_2 from by rw [e_3]; rfl]
  obtain ⟨N_4, H⟩ := H
  obtain ⟨j_5, H⟩ := H
  obtain ⟨z_6, H⟩ := H
  refine g_iald d_MO_removeFirst_23 z_6.1 z_6.2.1 z_6.2.2.1 z_6.2.2.2 ?_
  obtain ⟨H1, H2⟩ := H
  refine g_icmp_ge (tgt := 45) d_MO_removeFirst_24 (by decide) (fun c_7 => ?_) (fun c_7 => ?_)
  · have H := H1 c_7
    exact g_return d_MO_removeFirst_45 rfl (Nat.le_refl _) (Nat.le_refl _) ⟨rfl, H⟩
  · have H := H2 c_7
    refine g_aload_n d_MO_removeFirst_27 rfl ?_
    refine g_iload_n d_MO_removeFirst_28 rfl ?_
    refine g_iload_n d_MO_removeFirst_29 rfl ?_
    refine g_iadd d_MO_removeFirst_30 ?_
    refine g_iload_n d_MO_removeFirst_31 rfl ?_
    refine g_iload_n d_MO_removeFirst_32 rfl ?_
    refine g_iadd d_MO_removeFirst_33 ?_
    refine g_iconst (v := 1) d_MO_removeFirst_34 (by decide) ?_
    refine g_iadd d_MO_removeFirst_35 ?_
    obtain ⟨P_8, C_9, H⟩ := H
    refine q_V (As := [.int (x2 + x3), .int ((x2 + x3) + 1)]) (st := []) (nl := 4) d_MO_removeFirst_36 v_MO_162 C_9 z_1 rfl (catS_le (Nat.le_of_ble_eq_true rfl)) rfl ⟨by omega, by omega, Nat.le_refl _, Nat.le_refl _⟩ (fun r_14 h_10 p_11 => ?_)
    obtain ⟨rfl, p_11⟩ := p_11
    replace H := H h_10 p_11
    show Go _ _ _ _ [] _ _ _
    obtain ⟨x_15, ex_15⟩ : ∃ z : Int32, z = x3 + 1 := ⟨_, rfl⟩
    replace H := H x_15 ex_15
    refine g_iinc (v := x_15) (lv' := [some (.ref q0), some (.int x1), some (.int x2), some (.int x_15)]) d_MO_removeFirst_39 rfl (by decide) (by rw [ex_15]; rfl) rfl ?_
    refine g_goto (tgt := 17) d_MO_removeFirst_42 (by decide) ?_
    refine g_msk [true, true, true, true] ?_
    exact hC17 _ _ H
set_option maxRecDepth 100000 in
set_option maxHeartbeats 4000000 in
def wL_MO_removeFirst_17 (G : Gx) (l : Launch) (d w : Nat) (P : Hp → Prop) (q0 : Nat) (x1 : Int32) (x2 : Int32) (x3 : Int32) (h : Hp)  : Prop := ∃ (I : Int32 → Hp → Prop) (μ : Int32 → Hp → Nat), I x3 h ∧ ∀ (x3' : Int32) (h' : Hp), I x3' h' → wB_MO_removeFirst_17 G l d w P (fun x3_ h_ => I x3_ h_ ∧ μ x3_ h_ < μ x3' h') q0 x1 x2 x3' h'
set_option maxRecDepth 100000 in
set_option maxHeartbeats 4000000 in
theorem okL_MO_removeFirst_17 {G : Gx} {l : Launch} {d w : Nat} {P : Hp → Prop} {p : Program} {e : Env} {s : State} {m : MethodId} {args : Array Value} {below : List Frame} {meth : Method} {c : Code} {q0 : Nat} {x1 : Int32} {x2 : Int32} {x3 : Int32} {h : Hp}  (H : wL_MO_removeFirst_17 G l d w P  q0 x1 x2 x3 h ) : Go M_MO_removeFirst (mkX G (fun r h' => r = none ∧ P h') (d + 1) (w + 23) 0 0 p l e s m args below meth c) 17 [some (.ref q0), some (.int x1), some (.int x2), some (.int x3)] [] h 0 0 := by
  obtain ⟨I, μ, h0, hs⟩ := H
  have key : ∀ (N : Nat) (x3 : Int32) (h : Hp), I x3 h → μ x3 h < N → Go M_MO_removeFirst (mkX G (fun r h' => r = none ∧ P h') (d + 1) (w + 23) 0 0 p l e s m args below meth c) 17 [some (.ref q0), some (.int x1), some (.int x2), some (.int x3)] [] h 0 0 := by
    intro N
    induction N with
    | zero => intro x3 h _ hN; exact absurd hN (Nat.not_lt_zero _)
    | succ N ih =>
      intro x3 h hI hN
      exact okB_MO_removeFirst_17 (fun x3_ h_ hh => ih x3_ h_ hh.1 (Nat.lt_of_lt_of_le hh.2 (Nat.le_of_lt_succ hN))) (hs x3 h hI)
  exact key _ _ _ h0 (Nat.lt_succ_self _)
set_option maxRecDepth 100000 in
set_option maxHeartbeats 4000000 in
def wp_MO_removeFirst (G : Gx) (l : Launch) (d w : Nat) (P : Hp → Prop) (q0 : Nat) (x1 : Int32) (h : Hp) : Prop := ∃ P_16 : Int32 → Hp → Prop, (Ci G l M_MO_baseOf (d + 0) (w + 0) [.int x1] h 0 0 P_16) ∧ (∀ (x_20 : Int32) (h_18 : Hp), P_16 x_20 h_18 → (hS h_18 q0 = some (18, 0)) ∧ (∃ q_24 : Nat, (hR h_18 q0 16) = some q_24 ∧ (∃ N_26 : Nat, ∃ j_27 : Nat, (hS h_18 q_24 = some (0, N_26) ∧ x1 = nI j_27 ∧ j_27 < N_26 ∧ j_27 < 2147483648) ∧ (wL_MO_removeFirst_17 G l d w P q0 x1 x_20 0 (pI h_18 q_24 j_27 ((hI h_18 q_24 j_27) - 1))))))
set_option maxRecDepth 100000 in
set_option maxHeartbeats 4000000 in
theorem ok_MO_removeFirst {G : Gx} {l : Launch} {d w : Nat} {P : Hp → Prop} {q0 : Nat} {x1 : Int32} {h : Hp} (H : wp_MO_removeFirst G l d w P q0 x1 h) : Cv G l M_MO_removeFirst (d + 1) (w + 23) [.ref q0, .int x1] h 0 0 P := by
  unfold wp_MO_removeFirst at H
  refine Ct.of (lv := [some (.ref q0), some (.int x1), none, none]) (by decide) (Nat.le_of_ble_eq_true rfl) rfl (fun p e s m args below meth c => ?_)
  refine g_iload_n d_MO_removeFirst_0 rfl ?_
  obtain ⟨P_16, C_17, H⟩ := H
  refine q_S (As := [.int x1]) (st := []) (nl := 1) d_MO_removeFirst_1 v_MO_159 C_17 rfl (catS_le (Nat.le_of_ble_eq_true rfl)) rfl ⟨by omega, by omega, Nat.le_refl _, Nat.le_refl _⟩ (fun r_22 h_18 p_19 => ?_)
  obtain ⟨x_20, rfl, p_19⟩ := p_19
  replace H := H x_20 h_18 p_19
  show Go _ _ _ _ [.int x_20] _ _ _
  refine g_istore_n (lv' := [some (.ref q0), some (.int x1), some (.int x_20), none]) d_MO_removeFirst_4 (by decide) rfl ?_
  refine g_aload_n d_MO_removeFirst_5 rfl ?_
  obtain ⟨z_23, H⟩ := H
  refine g_getR d_MO_removeFirst_6 f_MO_51 z_23 (by decide) ?_
  refine g_iload_n d_MO_removeFirst_9 rfl ?_
  refine g_dup2 d_MO_removeFirst_10 rfl (vcat _) ?_
  obtain ⟨q_24, e_25, H⟩ := H
  show Go _ _ _ [some (.ref q0), some (.int x1), some (.int x_20), none] [.int x1, va_rf (hR h_18 q0 16), .int x1, va_rf (hR h_18 q0 16)] _ _ _
  rw [show va_rf (hR h_18 q0 16) = Value.ref q_24 from by rw [e_25]; rfl]
  obtain ⟨N_26, H⟩ := H
  obtain ⟨j_27, H⟩ := H
  obtain ⟨z_28, H⟩ := H
  refine g_iald d_MO_removeFirst_11 z_28.1 z_28.2.1 z_28.2.2.1 z_28.2.2.2 ?_
  refine g_iconst (v := 1) d_MO_removeFirst_12 (by decide) ?_
  refine g_isub d_MO_removeFirst_13 ?_
  refine g_iast d_MO_removeFirst_14 z_28.1 z_28.2.1 z_28.2.2.1 z_28.2.2.2 ?_
  refine g_iconst (v := 0) d_MO_removeFirst_15 (by decide) ?_
  refine g_istore_n (lv' := [some (.ref q0), some (.int x1), some (.int x_20), some (.int 0)]) d_MO_removeFirst_16 (by decide) rfl ?_
  refine g_msk [true, true, true, true] ?_
  exact okL_MO_removeFirst_17 H
set_option maxRecDepth 100000 in
set_option maxHeartbeats 4000000 in
def wp_MO_bit (G : Gx) (l : Launch) (d w : Nat) (P : Int32 → Hp → Prop) (q0 : Nat) (x1 : Int32) (x2 : Int32) (h : Hp) : Prop := (hS h q0 = some (18, 0)) ∧ (∃ q_2 : Nat, (hR h q0 12) = some q_2 ∧ (∃ N_4 : Nat, ∃ j_5 : Nat, (hS h q_2 = some (0, N_4) ∧ (x1 + (x2 / 8)) = nI j_5 ∧ j_5 < N_4 ∧ j_5 < 2147483648) ∧ (P (((hI h q_2 j_5) >>> ((x2 - x2 / 8 * 8) &&& 31)) &&& 1) h)))
set_option maxRecDepth 100000 in
set_option maxHeartbeats 4000000 in
theorem ok_MO_bit {G : Gx} {l : Launch} {d w : Nat} {P : Int32 → Hp → Prop} {q0 : Nat} {x1 : Int32} {x2 : Int32} {h : Hp} (H : wp_MO_bit G l d w P q0 x1 x2 h) : Ci G l M_MO_bit (d + 0) (w + 0) [.ref q0, .int x1, .int x2] h 0 0 P := by
  unfold wp_MO_bit at H
  refine Ct.of (lv := [some (.ref q0), some (.int x1), some (.int x2)]) (by decide) (Nat.le_of_ble_eq_true rfl) rfl (fun p e s m args below meth c => ?_)
  refine g_aload_n d_MO_bit_0 rfl ?_
  obtain ⟨z_1, H⟩ := H
  refine g_getR d_MO_bit_1 f_MO_39 z_1 (by decide) ?_
  refine g_iload_n d_MO_bit_4 rfl ?_
  refine g_iload_n d_MO_bit_5 rfl ?_
  refine g_bipush (v := 8) d_MO_bit_6 (by decide) ?_
  refine g_idiv d_MO_bit_8 (by decide) ?_
  refine g_iadd d_MO_bit_9 ?_
  obtain ⟨q_2, e_3, H⟩ := H
  show Go _ _ _ [some (.ref q0), some (.int x1), some (.int x2)] [.int (x1 + (x2 / 8)), va_rf (hR h q0 12)] _ _ _
  rw [show va_rf (hR h q0 12) = Value.ref q_2 from by rw [e_3]; rfl]
  obtain ⟨N_4, H⟩ := H
  obtain ⟨j_5, H⟩ := H
  obtain ⟨z_6, H⟩ := H
  refine g_iald d_MO_bit_10 z_6.1 z_6.2.1 z_6.2.2.1 z_6.2.2.2 ?_
  refine g_iload_n d_MO_bit_11 rfl ?_
  refine g_bipush (v := 8) d_MO_bit_12 (by decide) ?_
  refine g_irem d_MO_bit_14 (by decide) ?_
  refine g_ishr d_MO_bit_15 ?_
  refine g_iconst (v := 1) d_MO_bit_16 (by decide) ?_
  refine g_iand d_MO_bit_17 ?_
  exact g_ireturn d_MO_bit_18 rfl (Nat.le_refl _) (Nat.le_refl _) ⟨_, rfl, H⟩
set_option maxRecDepth 100000 in
set_option maxHeartbeats 4000000 in
def wB_MO_readSeptets_60 (G : Gx) (l : Launch) (d w : Nat) (P : Hp → Prop) (C40 : Int32 → Hp → Prop) (C60 : Int32 → Hp → Prop) (q0 : Nat) (x1 : Int32) (x2 : Int32) (x3 : Int32) (x4 : Int32) (x5 : Int32) (h : Hp)  : Prop := (7 ≤ x5 → ∀ x_2 : Int32, x_2 = x4 + 1 → C40 x_2 h) ∧ (¬ 7 ≤ x5 → (hS h q0 = some (18, 0)) ∧ (∃ q_4 : Nat, (hR h q0 3) = some q_4 ∧ (∃ N_6 : Nat, ∃ j_7 : Nat, (hS h q_4 = some (0, N_6) ∧ x4 = nI j_7 ∧ j_7 < N_6 ∧ j_7 < 2147483648) ∧ (∃ P_9 : Int32 → Hp → Prop, (Ci G l M_MO_bit (d + 0) (w + 0) [.ref q0, .int (x1 + 1), .int ((x3 + (7 * x4)) + x5)] h 0 0 P_9) ∧ (∀ (x_13 : Int32) (h_11 : Hp), P_9 x_13 h_11 → ∃ N_16 : Nat, ∃ j_17 : Nat, (hS h_11 q_4 = some (0, N_16) ∧ x4 = nI j_17 ∧ j_17 < N_16 ∧ j_17 < 2147483648) ∧ (∀ x_19 : Int32, x_19 = x5 + 1 → C60 x_19 (pI h_11 q_4 j_17 ((hI h q_4 j_7) ||| (x_13 <<< (x5 &&& 31))))))))))
set_option maxRecDepth 100000 in
set_option maxHeartbeats 4000000 in
theorem okB_MO_readSeptets_60 {G : Gx} {l : Launch} {d w : Nat} {P : Hp → Prop} {p : Program} {e : Env} {s : State} {m : MethodId} {args : Array Value} {below : List Frame} {meth : Method} {c : Code} {C40 : Int32 → Hp → Prop} {C60 : Int32 → Hp → Prop} {q0 : Nat} {x1 : Int32} {x2 : Int32} {x3 : Int32} {x4 : Int32} {x5 : Int32} (hC40 : ∀ (x4 : Int32) (h : Hp), C40 x4 h → Go M_MO_readSeptets (mkX G (fun r h' => r = none ∧ P h') (d + 1) (w + 22) 0 0 p l e s m args below meth c) 40 [some (.ref q0), some (.int x1), some (.int x2), some (.int x3), some (.int x4), none] [] h 0 0) (hC60 : ∀ (x5 : Int32) (h : Hp), C60 x5 h → Go M_MO_readSeptets (mkX G (fun r h' => r = none ∧ P h') (d + 1) (w + 22) 0 0 p l e s m args below meth c) 60 [some (.ref q0), some (.int x1), some (.int x2), some (.int x3), some (.int x4), some (.int x5)] [] h 0 0) {h : Hp}  (H : wB_MO_readSeptets_60 G l d w P C40 C60 q0 x1 x2 x3 x4 x5 h ) : Go M_MO_readSeptets (mkX G (fun r h' => r = none ∧ P h') (d + 1) (w + 22) 0 0 p l e s m args below meth c) 60 [some (.ref q0), some (.int x1), some (.int x2), some (.int x3), some (.int x4), some (.int x5)] [] h 0 0 := by
  unfold wB_MO_readSeptets_60 at H
  refine g_iload d_MO_readSeptets_60 rfl ?_
  refine g_bipush (v := 7) d_MO_readSeptets_62 (by decide) ?_
  obtain ⟨H1, H2⟩ := H
  refine g_icmp_ge (tgt := 108) d_MO_readSeptets_64 (by decide) (fun c_1 => ?_) (fun c_1 => ?_)
  · have H := H1 c_1
    obtain ⟨x_2, ex_2⟩ : ∃ z : Int32, z = x4 + 1 := ⟨_, rfl⟩
    replace H := H x_2 ex_2
    refine g_iinc (v := x_2) (lv' := [some (.ref q0), some (.int x1), some (.int x2), some (.int x3), some (.int x_2), some (.int x5)]) d_MO_readSeptets_108 rfl (by decide) (by rw [ex_2]; rfl) rfl ?_
    refine g_goto (tgt := 40) d_MO_readSeptets_111 (by decide) ?_
    refine g_msk [true, true, true, true, true, false] ?_
    exact hC40 _ _ H
  · have H := H2 c_1
    refine g_aload_n d_MO_readSeptets_67 rfl ?_
    obtain ⟨z_3, H⟩ := H
    refine g_getR d_MO_readSeptets_68 f_MO_13 z_3 (by decide) ?_
    refine g_iload d_MO_readSeptets_71 rfl ?_
    refine g_aload_n d_MO_readSeptets_73 rfl ?_
    refine g_getR d_MO_readSeptets_74 f_MO_13 z_3 (by decide) ?_
    refine g_iload d_MO_readSeptets_77 rfl ?_
    obtain ⟨q_4, e_5, H⟩ := H
    show Go _ _ _ [some (.ref q0), some (.int x1), some (.int x2), some (.int x3), some (.int x4), some (.int x5)] [.int x4, va_rf (hR h q0 3), .int x4, va_rf (hR h q0 3)] _ _ _
    rw [show va_rf (hR h q0 3) = Value.ref q_4 from by rw [e_5]; rfl]
    obtain ⟨N_6, H⟩ := H
    obtain ⟨j_7, H⟩ := H
    obtain ⟨z_8, H⟩ := H
    refine g_iald d_MO_readSeptets_79 z_8.1 z_8.2.1 z_8.2.2.1 z_8.2.2.2 ?_
    refine g_aload_n d_MO_readSeptets_80 rfl ?_
    refine g_iload_n d_MO_readSeptets_81 rfl ?_
    refine g_iconst (v := 1) d_MO_readSeptets_82 (by decide) ?_
    refine g_iadd d_MO_readSeptets_83 ?_
    refine g_iload_n d_MO_readSeptets_84 rfl ?_
    refine g_bipush (v := 7) d_MO_readSeptets_85 (by decide) ?_
    refine g_iload d_MO_readSeptets_87 rfl ?_
    refine g_imul d_MO_readSeptets_89 ?_
    refine g_iadd d_MO_readSeptets_90 ?_
    refine g_iload d_MO_readSeptets_91 rfl ?_
    refine g_iadd d_MO_readSeptets_93 ?_
    obtain ⟨P_9, C_10, H⟩ := H
    refine q_V (As := [.int (x1 + 1), .int ((x3 + (7 * x4)) + x5)]) (st := [.int (hI h q_4 j_7), .int x4, .ref q_4]) (nl := 3) d_MO_readSeptets_94 v_MO_166 C_10 z_3 rfl (catS_le (Nat.le_of_ble_eq_true rfl)) rfl ⟨by omega, by omega, Nat.le_refl _, Nat.le_refl _⟩ (fun r_15 h_11 p_12 => ?_)
    obtain ⟨x_13, rfl, p_12⟩ := p_12
    replace H := H x_13 h_11 p_12
    show Go _ _ _ _ [.int x_13, .int (hI h q_4 j_7), .int x4, .ref q_4] _ _ _
    refine g_iload d_MO_readSeptets_97 rfl ?_
    refine g_ishl d_MO_readSeptets_99 ?_
    refine g_ior d_MO_readSeptets_100 ?_
    obtain ⟨N_16, H⟩ := H
    obtain ⟨j_17, H⟩ := H
    obtain ⟨z_18, H⟩ := H
    refine g_iast d_MO_readSeptets_101 z_18.1 z_18.2.1 z_18.2.2.1 z_18.2.2.2 ?_
    obtain ⟨x_19, ex_19⟩ : ∃ z : Int32, z = x5 + 1 := ⟨_, rfl⟩
    replace H := H x_19 ex_19
    refine g_iinc (v := x_19) (lv' := [some (.ref q0), some (.int x1), some (.int x2), some (.int x3), some (.int x4), some (.int x_19)]) d_MO_readSeptets_102 rfl (by decide) (by rw [ex_19]; rfl) rfl ?_
    refine g_goto (tgt := 60) d_MO_readSeptets_105 (by decide) ?_
    refine g_msk [true, true, true, true, true, true] ?_
    exact hC60 _ _ H
set_option maxRecDepth 100000 in
set_option maxHeartbeats 4000000 in
def wL_MO_readSeptets_60 (G : Gx) (l : Launch) (d w : Nat) (P : Hp → Prop) (C40 : Int32 → Hp → Prop) (q0 : Nat) (x1 : Int32) (x2 : Int32) (x3 : Int32) (x4 : Int32) (x5 : Int32) (h : Hp)  : Prop := ∃ (I : Int32 → Hp → Prop) (μ : Int32 → Hp → Nat), I x5 h ∧ ∀ (x5' : Int32) (h' : Hp), I x5' h' → wB_MO_readSeptets_60 G l d w P C40 (fun x5_ h_ => I x5_ h_ ∧ μ x5_ h_ < μ x5' h') q0 x1 x2 x3 x4 x5' h'
set_option maxRecDepth 100000 in
set_option maxHeartbeats 4000000 in
theorem okL_MO_readSeptets_60 {G : Gx} {l : Launch} {d w : Nat} {P : Hp → Prop} {p : Program} {e : Env} {s : State} {m : MethodId} {args : Array Value} {below : List Frame} {meth : Method} {c : Code} {C40 : Int32 → Hp → Prop} {q0 : Nat} {x1 : Int32} {x2 : Int32} {x3 : Int32} {x4 : Int32} {x5 : Int32} (hC40 : ∀ (x4 : Int32) (h : Hp), C40 x4 h → Go M_MO_readSeptets (mkX G (fun r h' => r = none ∧ P h') (d + 1) (w + 22) 0 0 p l e s m args below meth c) 40 [some (.ref q0), some (.int x1), some (.int x2), some (.int x3), some (.int x4), none] [] h 0 0) {h : Hp}  (H : wL_MO_readSeptets_60 G l d w P C40 q0 x1 x2 x3 x4 x5 h ) : Go M_MO_readSeptets (mkX G (fun r h' => r = none ∧ P h') (d + 1) (w + 22) 0 0 p l e s m args below meth c) 60 [some (.ref q0), some (.int x1), some (.int x2), some (.int x3), some (.int x4), some (.int x5)] [] h 0 0 := by
  obtain ⟨I, μ, h0, hs⟩ := H
  have key : ∀ (N : Nat) (x5 : Int32) (h : Hp), I x5 h → μ x5 h < N → Go M_MO_readSeptets (mkX G (fun r h' => r = none ∧ P h') (d + 1) (w + 22) 0 0 p l e s m args below meth c) 60 [some (.ref q0), some (.int x1), some (.int x2), some (.int x3), some (.int x4), some (.int x5)] [] h 0 0 := by
    intro N
    induction N with
    | zero => intro x5 h _ hN; exact absurd hN (Nat.not_lt_zero _)
    | succ N ih =>
      intro x5 h hI hN
      exact okB_MO_readSeptets_60 hC40 (fun x5_ h_ hh => ih x5_ h_ hh.1 (Nat.lt_of_lt_of_le hh.2 (Nat.le_of_lt_succ hN))) (hs x5 h hI)
  exact key _ _ _ h0 (Nat.lt_succ_self _)
set_option maxRecDepth 100000 in
set_option maxHeartbeats 4000000 in
def wB_MO_readSeptets_40 (G : Gx) (l : Launch) (d w : Nat) (P : Hp → Prop) (C40 : Int32 → Hp → Prop) (q0 : Nat) (x1 : Int32) (x2 : Int32) (x3 : Int32) (x4 : Int32) (h : Hp)  : Prop := (hS h q0 = some (18, 0)) ∧ (((hI h q0 2) ≤ x4 → P h) ∧ (¬ (hI h q0 2) ≤ x4 → ∃ q_22 : Nat, (hR h q0 3) = some q_22 ∧ (∃ N_24 : Nat, ∃ j_25 : Nat, (hS h q_22 = some (0, N_24) ∧ x4 = nI j_25 ∧ j_25 < N_24 ∧ j_25 < 2147483648) ∧ (wL_MO_readSeptets_60 G l d w P C40 q0 x1 x2 x3 x4 0 (pI h q_22 j_25 0)))))
set_option maxRecDepth 100000 in
set_option maxHeartbeats 4000000 in
theorem okB_MO_readSeptets_40 {G : Gx} {l : Launch} {d w : Nat} {P : Hp → Prop} {p : Program} {e : Env} {s : State} {m : MethodId} {args : Array Value} {below : List Frame} {meth : Method} {c : Code} {C40 : Int32 → Hp → Prop} {q0 : Nat} {x1 : Int32} {x2 : Int32} {x3 : Int32} {x4 : Int32} (hC40 : ∀ (x4 : Int32) (h : Hp), C40 x4 h → Go M_MO_readSeptets (mkX G (fun r h' => r = none ∧ P h') (d + 1) (w + 22) 0 0 p l e s m args below meth c) 40 [some (.ref q0), some (.int x1), some (.int x2), some (.int x3), some (.int x4), none] [] h 0 0) {h : Hp}  (H : wB_MO_readSeptets_40 G l d w P C40 q0 x1 x2 x3 x4 h ) : Go M_MO_readSeptets (mkX G (fun r h' => r = none ∧ P h') (d + 1) (w + 22) 0 0 p l e s m args below meth c) 40 [some (.ref q0), some (.int x1), some (.int x2), some (.int x3), some (.int x4), none] [] h 0 0 := by
  unfold wB_MO_readSeptets_40 at H
  refine g_iload d_MO_readSeptets_40 rfl ?_
  refine g_aload_n d_MO_readSeptets_42 rfl ?_
  obtain ⟨z_20, H⟩ := H
  refine g_getI d_MO_readSeptets_43 f_MO_124 z_20 ?_
  obtain ⟨H1, H2⟩ := H
  refine g_icmp_ge (tgt := 114) d_MO_readSeptets_46 (by decide) (fun c_21 => ?_) (fun c_21 => ?_)
  · have H := H1 c_21
    exact g_return d_MO_readSeptets_114 rfl (Nat.le_refl _) (Nat.le_refl _) ⟨rfl, H⟩
  · have H := H2 c_21
    refine g_aload_n d_MO_readSeptets_49 rfl ?_
    refine g_getR d_MO_readSeptets_50 f_MO_13 z_20 (by decide) ?_
    refine g_iload d_MO_readSeptets_53 rfl ?_
    refine g_iconst (v := 0) d_MO_readSeptets_55 (by decide) ?_
    obtain ⟨q_22, e_23, H⟩ := H
    show Go _ _ _ [some (.ref q0), some (.int x1), some (.int x2), some (.int x3), some (.int x4), none] [.int 0, .int x4, va_rf (hR h q0 3)] _ _ _
    rw [show va_rf (hR h q0 3) = Value.ref q_22 from by rw [e_23]; rfl]
    obtain ⟨N_24, H⟩ := H
    obtain ⟨j_25, H⟩ := H
    obtain ⟨z_26, H⟩ := H
    refine g_iast d_MO_readSeptets_56 z_26.1 z_26.2.1 z_26.2.2.1 z_26.2.2.2 ?_
    refine g_iconst (v := 0) d_MO_readSeptets_57 (by decide) ?_
    refine g_istore (lv' := [some (.ref q0), some (.int x1), some (.int x2), some (.int x3), some (.int x4), some (.int 0)]) d_MO_readSeptets_58 (by decide) rfl ?_
    refine g_msk [true, true, true, true, true, true] ?_
    exact okL_MO_readSeptets_60 hC40 H
set_option maxRecDepth 100000 in
set_option maxHeartbeats 4000000 in
def wL_MO_readSeptets_40 (G : Gx) (l : Launch) (d w : Nat) (P : Hp → Prop) (q0 : Nat) (x1 : Int32) (x2 : Int32) (x3 : Int32) (x4 : Int32) (h : Hp)  : Prop := ∃ (I : Int32 → Hp → Prop) (μ : Int32 → Hp → Nat), I x4 h ∧ ∀ (x4' : Int32) (h' : Hp), I x4' h' → wB_MO_readSeptets_40 G l d w P (fun x4_ h_ => I x4_ h_ ∧ μ x4_ h_ < μ x4' h') q0 x1 x2 x3 x4' h'
set_option maxRecDepth 100000 in
set_option maxHeartbeats 4000000 in
theorem okL_MO_readSeptets_40 {G : Gx} {l : Launch} {d w : Nat} {P : Hp → Prop} {p : Program} {e : Env} {s : State} {m : MethodId} {args : Array Value} {below : List Frame} {meth : Method} {c : Code} {q0 : Nat} {x1 : Int32} {x2 : Int32} {x3 : Int32} {x4 : Int32} {h : Hp}  (H : wL_MO_readSeptets_40 G l d w P  q0 x1 x2 x3 x4 h ) : Go M_MO_readSeptets (mkX G (fun r h' => r = none ∧ P h') (d + 1) (w + 22) 0 0 p l e s m args below meth c) 40 [some (.ref q0), some (.int x1), some (.int x2), some (.int x3), some (.int x4), none] [] h 0 0 := by
  obtain ⟨I, μ, h0, hs⟩ := H
  have key : ∀ (N : Nat) (x4 : Int32) (h : Hp), I x4 h → μ x4 h < N → Go M_MO_readSeptets (mkX G (fun r h' => r = none ∧ P h') (d + 1) (w + 22) 0 0 p l e s m args below meth c) 40 [some (.ref q0), some (.int x1), some (.int x2), some (.int x3), some (.int x4), none] [] h 0 0 := by
    intro N
    induction N with
    | zero => intro x4 h _ hN; exact absurd hN (Nat.not_lt_zero _)
    | succ N ih =>
      intro x4 h hI hN
      exact okB_MO_readSeptets_40 (fun x4_ h_ hh => ih x4_ h_ hh.1 (Nat.lt_of_lt_of_le hh.2 (Nat.le_of_lt_succ hN))) (hs x4 h hI)
  exact key _ _ _ h0 (Nat.lt_succ_self _)
set_option maxRecDepth 100000 in
set_option maxHeartbeats 4000000 in
def wJ_MO_readSeptets_34 (G : Gx) (l : Launch) (d w : Nat) (P : Hp → Prop) (q0 : Nat) (x1 : Int32) (x2 : Int32) (x3 : Int32) (sx0 : Int32) (sq1 : Nat) (h : Hp)  : Prop := (hS h sq1 = some (18, 0)) ∧ (wL_MO_readSeptets_40 G l d w P q0 x1 x2 x3 0 (pI h sq1 2 sx0))
set_option maxRecDepth 100000 in
set_option maxHeartbeats 4000000 in
theorem okJ_MO_readSeptets_34 {G : Gx} {l : Launch} {d w : Nat} {P : Hp → Prop} {p : Program} {e : Env} {s : State} {m : MethodId} {args : Array Value} {below : List Frame} {meth : Method} {c : Code} {q0 : Nat} {x1 : Int32} {x2 : Int32} {x3 : Int32} {sx0 : Int32} {sq1 : Nat} {h : Hp}  (H : wJ_MO_readSeptets_34 G l d w P  q0 x1 x2 x3 sx0 sq1 h ) : Go M_MO_readSeptets (mkX G (fun r h' => r = none ∧ P h') (d + 1) (w + 22) 0 0 p l e s m args below meth c) 34 [some (.ref q0), some (.int x1), some (.int x2), some (.int x3), none, none] [.int sx0, .ref sq1] h 0 0 := by
  unfold wJ_MO_readSeptets_34 at H
  obtain ⟨z_27, H⟩ := H
  refine g_putI d_MO_readSeptets_34 f_MO_124 (fo_8_2 _) z_27 ?_
  refine g_iconst (v := 0) d_MO_readSeptets_37 (by decide) ?_
  refine g_istore (lv' := [some (.ref q0), some (.int x1), some (.int x2), some (.int x3), some (.int 0), none]) d_MO_readSeptets_38 (by decide) rfl ?_
  refine g_msk [true, true, true, true, true, false] ?_
  exact okL_MO_readSeptets_40 H
set_option maxRecDepth 100000 in
set_option maxHeartbeats 4000000 in
def wJ_MO_readSeptets_10 (G : Gx) (l : Launch) (d w : Nat) (P : Hp → Prop) (q0 : Nat) (x1 : Int32) (x2 : Int32) (sx0 : Int32) (h : Hp)  : Prop := (x2 = 0 → (hS h q0 = some (18, 0)) ∧ (∃ q_30 : Nat, (hR h q0 12) = some q_30 ∧ (∃ N_32 : Nat, ∃ j_33 : Nat, (hS h q_30 = some (0, N_32) ∧ x1 = nI j_33 ∧ j_33 < N_32 ∧ j_33 < 2147483648) ∧ (wJ_MO_readSeptets_34 G l d w P q0 x1 x2 sx0 (hI h q_30 j_33) q0 h)))) ∧ (¬ x2 = 0 → (hS h q0 = some (18, 0)) ∧ (∃ q_36 : Nat, (hR h q0 12) = some q_36 ∧ (∃ N_38 : Nat, ∃ j_39 : Nat, (hS h q_36 = some (0, N_38) ∧ x1 = nI j_39 ∧ j_39 < N_38 ∧ j_39 < 2147483648) ∧ (wJ_MO_readSeptets_34 G l d w P q0 x1 x2 sx0 ((hI h q_36 j_39) - 7) q0 h))))
set_option maxRecDepth 100000 in
set_option maxHeartbeats 4000000 in
theorem okJ_MO_readSeptets_10 {G : Gx} {l : Launch} {d w : Nat} {P : Hp → Prop} {p : Program} {e : Env} {s : State} {m : MethodId} {args : Array Value} {below : List Frame} {meth : Method} {c : Code} {q0 : Nat} {x1 : Int32} {x2 : Int32} {sx0 : Int32} {h : Hp}  (H : wJ_MO_readSeptets_10 G l d w P  q0 x1 x2 sx0 h ) : Go M_MO_readSeptets (mkX G (fun r h' => r = none ∧ P h') (d + 1) (w + 22) 0 0 p l e s m args below meth c) 10 [some (.ref q0), some (.int x1), some (.int x2), none, none, none] [.int sx0] h 0 0 := by
  unfold wJ_MO_readSeptets_10 at H
  refine g_istore_n (lv' := [some (.ref q0), some (.int x1), some (.int x2), some (.int sx0), none, none]) d_MO_readSeptets_10 (by decide) rfl ?_
  refine g_aload_n d_MO_readSeptets_11 rfl ?_
  refine g_iload_n d_MO_readSeptets_12 rfl ?_
  obtain ⟨H1, H2⟩ := H
  refine g_if_eq (tgt := 28) d_MO_readSeptets_13 (by decide) (fun c_28 => ?_) (fun c_28 => ?_)
  · have H := H1 c_28
    refine g_aload_n d_MO_readSeptets_28 rfl ?_
    obtain ⟨z_29, H⟩ := H
    refine g_getR d_MO_readSeptets_29 f_MO_39 z_29 (by decide) ?_
    refine g_iload_n d_MO_readSeptets_32 rfl ?_
    obtain ⟨q_30, e_31, H⟩ := H
    show Go _ _ _ [some (.ref q0), some (.int x1), some (.int x2), some (.int sx0), none, none] [.int x1, va_rf (hR h q0 12), .ref q0] _ _ _
    rw [show va_rf (hR h q0 12) = Value.ref q_30 from by rw [e_31]; rfl]
    obtain ⟨N_32, H⟩ := H
    obtain ⟨j_33, H⟩ := H
    obtain ⟨z_34, H⟩ := H
    refine g_iald d_MO_readSeptets_33 z_34.1 z_34.2.1 z_34.2.2.1 z_34.2.2.2 ?_
    refine g_msk [true, true, true, true, false, false] ?_
    exact okJ_MO_readSeptets_34 H
  · have H := H2 c_28
    refine g_aload_n d_MO_readSeptets_16 rfl ?_
    obtain ⟨z_35, H⟩ := H
    refine g_getR d_MO_readSeptets_17 f_MO_39 z_35 (by decide) ?_
    refine g_iload_n d_MO_readSeptets_20 rfl ?_
    obtain ⟨q_36, e_37, H⟩ := H
    show Go _ _ _ [some (.ref q0), some (.int x1), some (.int x2), some (.int sx0), none, none] [.int x1, va_rf (hR h q0 12), .ref q0] _ _ _
    rw [show va_rf (hR h q0 12) = Value.ref q_36 from by rw [e_37]; rfl]
    obtain ⟨N_38, H⟩ := H
    obtain ⟨j_39, H⟩ := H
    obtain ⟨z_40, H⟩ := H
    refine g_iald d_MO_readSeptets_21 z_40.1 z_40.2.1 z_40.2.2.1 z_40.2.2.2 ?_
    refine g_bipush (v := 7) d_MO_readSeptets_22 (by decide) ?_
    refine g_isub d_MO_readSeptets_24 ?_
    refine g_goto (tgt := 34) d_MO_readSeptets_25 (by decide) ?_
    refine g_msk [true, true, true, true, false, false] ?_
    exact okJ_MO_readSeptets_34 H
set_option maxRecDepth 100000 in
set_option maxHeartbeats 4000000 in
def wp_MO_readSeptets (G : Gx) (l : Launch) (d w : Nat) (P : Hp → Prop) (q0 : Nat) (x1 : Int32) (x2 : Int32) (h : Hp) : Prop := (x2 = 0 → wJ_MO_readSeptets_10 G l d w P q0 x1 x2 0 h) ∧ (¬ x2 = 0 → wJ_MO_readSeptets_10 G l d w P q0 x1 x2 49 h)
set_option maxRecDepth 100000 in
set_option maxHeartbeats 4000000 in
theorem ok_MO_readSeptets {G : Gx} {l : Launch} {d w : Nat} {P : Hp → Prop} {q0 : Nat} {x1 : Int32} {x2 : Int32} {h : Hp} (H : wp_MO_readSeptets G l d w P q0 x1 x2 h) : Cv G l M_MO_readSeptets (d + 1) (w + 22) [.ref q0, .int x1, .int x2] h 0 0 P := by
  unfold wp_MO_readSeptets at H
  refine Ct.of (lv := [some (.ref q0), some (.int x1), some (.int x2), none, none, none]) (by decide) (Nat.le_of_ble_eq_true rfl) rfl (fun p e s m args below meth c => ?_)
  refine g_iload_n d_MO_readSeptets_0 rfl ?_
  obtain ⟨H1, H2⟩ := H
  refine g_if_eq (tgt := 9) d_MO_readSeptets_1 (by decide) (fun c_41 => ?_) (fun c_41 => ?_)
  · have H := H1 c_41
    refine g_iconst (v := 0) d_MO_readSeptets_9 (by decide) ?_
    refine g_msk [true, true, true, false, false, false] ?_
    exact okJ_MO_readSeptets_10 H
  · have H := H2 c_41
    refine g_bipush (v := 49) d_MO_readSeptets_4 (by decide) ?_
    refine g_goto (tgt := 10) d_MO_readSeptets_6 (by decide) ?_
    refine g_msk [true, true, true, false, false, false] ?_
    exact okJ_MO_readSeptets_10 H
set_option maxRecDepth 100000 in
set_option maxHeartbeats 4000000 in
def wJ_MO_areText_66 (G : Gx) (l : Launch) (d w : Nat) (P : Int32 → Hp → Prop) (q0 : Nat) (x1 : Int32) (x2 : Int32) (sx0 : Int32) (h : Hp)  : Prop := (sx0 = 0 ∨ sx0 = 1) ∧ (P sx0 h)
set_option maxRecDepth 100000 in
set_option maxHeartbeats 4000000 in
theorem okJ_MO_areText_66 {G : Gx} {l : Launch} {d w : Nat} {P : Int32 → Hp → Prop} {p : Program} {e : Env} {s : State} {m : MethodId} {args : Array Value} {below : List Frame} {meth : Method} {c : Code} {q0 : Nat} {x1 : Int32} {x2 : Int32} {sx0 : Int32} {h : Hp}  (H : wJ_MO_areText_66 G l d w P  q0 x1 x2 sx0 h ) : Go M_MO_areText (mkX G (fun r h' => ∃ x, r = some (.int x) ∧ P x h') (d + 1) (w + 20) 0 0 p l e s m args below meth c) 66 [some (.ref q0), some (.int x1), some (.int x2)] [.int sx0] h 0 0 := by
  unfold wJ_MO_areText_66 at H
  obtain ⟨z_1, H⟩ := H
  exact g_zreturn d_MO_areText_66 rfl z_1 (Nat.le_refl _) (Nat.le_refl _) ⟨_, rfl, H⟩
set_option maxRecDepth 100000 in
set_option maxHeartbeats 4000000 in
def wJ_MO_areText_50 (G : Gx) (l : Launch) (d w : Nat) (P : Int32 → Hp → Prop) (C4 : Int32 → Int32 → Hp → Prop) (q0 : Nat) (x1 : Int32) (x2 : Int32) (sx0 : Int32) (h : Hp)  : Prop := ∀ x_2 : Int32, x_2 = x2 + 1 → C4 sx0 x_2 h
set_option maxRecDepth 100000 in
set_option maxHeartbeats 4000000 in
theorem okJ_MO_areText_50 {G : Gx} {l : Launch} {d w : Nat} {P : Int32 → Hp → Prop} {p : Program} {e : Env} {s : State} {m : MethodId} {args : Array Value} {below : List Frame} {meth : Method} {c : Code} {C4 : Int32 → Int32 → Hp → Prop} {q0 : Nat} {x1 : Int32} {x2 : Int32} {sx0 : Int32} (hC4 : ∀ (x1 : Int32) (x2 : Int32) (h : Hp), C4 x1 x2 h → Go M_MO_areText (mkX G (fun r h' => ∃ x, r = some (.int x) ∧ P x h') (d + 1) (w + 20) 0 0 p l e s m args below meth c) 4 [some (.ref q0), some (.int x1), some (.int x2)] [] h 0 0) {h : Hp}  (H : wJ_MO_areText_50 G l d w P C4 q0 x1 x2 sx0 h ) : Go M_MO_areText (mkX G (fun r h' => ∃ x, r = some (.int x) ∧ P x h') (d + 1) (w + 20) 0 0 p l e s m args below meth c) 50 [some (.ref q0), some (.int x1), some (.int x2)] [.int sx0] h 0 0 := by
  unfold wJ_MO_areText_50 at H
  refine g_istore_n (lv' := [some (.ref q0), some (.int sx0), some (.int x2)]) d_MO_areText_50 (by decide) rfl ?_
  obtain ⟨x_2, ex_2⟩ : ∃ z : Int32, z = x2 + 1 := ⟨_, rfl⟩
  replace H := H x_2 ex_2
  refine g_iinc (v := x_2) (lv' := [some (.ref q0), some (.int sx0), some (.int x_2)]) d_MO_areText_51 rfl (by decide) (by rw [ex_2]; rfl) rfl ?_
  refine g_goto (tgt := 4) d_MO_areText_54 (by decide) ?_
  refine g_msk [true, true, true] ?_
  exact hC4 _ _ _ H
set_option maxRecDepth 100000 in
set_option maxHeartbeats 4000000 in
def wJ_MO_areText_49 (G : Gx) (l : Launch) (d w : Nat) (P : Int32 → Hp → Prop) (C4 : Int32 → Int32 → Hp → Prop) (q0 : Nat) (x1 : Int32) (x2 : Int32) (h : Hp)  : Prop := wJ_MO_areText_50 G l d w P C4 q0 x1 x2 0 h
set_option maxRecDepth 100000 in
set_option maxHeartbeats 4000000 in
theorem okJ_MO_areText_49 {G : Gx} {l : Launch} {d w : Nat} {P : Int32 → Hp → Prop} {p : Program} {e : Env} {s : State} {m : MethodId} {args : Array Value} {below : List Frame} {meth : Method} {c : Code} {C4 : Int32 → Int32 → Hp → Prop} {q0 : Nat} {x1 : Int32} {x2 : Int32} (hC4 : ∀ (x1 : Int32) (x2 : Int32) (h : Hp), C4 x1 x2 h → Go M_MO_areText (mkX G (fun r h' => ∃ x, r = some (.int x) ∧ P x h') (d + 1) (w + 20) 0 0 p l e s m args below meth c) 4 [some (.ref q0), some (.int x1), some (.int x2)] [] h 0 0) {h : Hp}  (H : wJ_MO_areText_49 G l d w P C4 q0 x1 x2 h ) : Go M_MO_areText (mkX G (fun r h' => ∃ x, r = some (.int x) ∧ P x h') (d + 1) (w + 20) 0 0 p l e s m args below meth c) 49 [some (.ref q0), some (.int x1), some (.int x2)] [] h 0 0 := by
  unfold wJ_MO_areText_49 at H
  refine g_iconst (v := 0) d_MO_areText_49 (by decide) ?_
  refine g_msk [true, true, true] ?_
  exact okJ_MO_areText_50 hC4 H
set_option maxRecDepth 100000 in
set_option maxHeartbeats 4000000 in
def wJ_MO_areText_30 (G : Gx) (l : Launch) (d w : Nat) (P : Int32 → Hp → Prop) (C4 : Int32 → Int32 → Hp → Prop) (q0 : Nat) (x1 : Int32) (x2 : Int32) (h : Hp)  : Prop := (¬ x1 = 0 → wJ_MO_areText_49 G l d w P C4 q0 x1 x2 h) ∧ (x1 = 0 → (hS h q0 = some (18, 0)) ∧ (∃ q_5 : Nat, (hR h q0 3) = some q_5 ∧ (∃ N_7 : Nat, ∃ j_8 : Nat, (hS h q_5 = some (0, N_7) ∧ x2 = nI j_8 ∧ j_8 < N_7 ∧ j_8 < 2147483648) ∧ ((¬ (hI h q_5 j_8) = 27 → wJ_MO_areText_49 G l d w P C4 q0 x1 x2 h) ∧ ((hI h q_5 j_8) = 27 → wJ_MO_areText_50 G l d w P C4 q0 x1 x2 1 h)))))
set_option maxRecDepth 100000 in
set_option maxHeartbeats 4000000 in
theorem okJ_MO_areText_30 {G : Gx} {l : Launch} {d w : Nat} {P : Int32 → Hp → Prop} {p : Program} {e : Env} {s : State} {m : MethodId} {args : Array Value} {below : List Frame} {meth : Method} {c : Code} {C4 : Int32 → Int32 → Hp → Prop} {q0 : Nat} {x1 : Int32} {x2 : Int32} (hC4 : ∀ (x1 : Int32) (x2 : Int32) (h : Hp), C4 x1 x2 h → Go M_MO_areText (mkX G (fun r h' => ∃ x, r = some (.int x) ∧ P x h') (d + 1) (w + 20) 0 0 p l e s m args below meth c) 4 [some (.ref q0), some (.int x1), some (.int x2)] [] h 0 0) {h : Hp}  (H : wJ_MO_areText_30 G l d w P C4 q0 x1 x2 h ) : Go M_MO_areText (mkX G (fun r h' => ∃ x, r = some (.int x) ∧ P x h') (d + 1) (w + 20) 0 0 p l e s m args below meth c) 30 [some (.ref q0), some (.int x1), some (.int x2)] [] h 0 0 := by
  unfold wJ_MO_areText_30 at H
  refine g_iload_n d_MO_areText_30 rfl ?_
  obtain ⟨H1, H2⟩ := H
  refine g_if_ne (tgt := 49) d_MO_areText_31 (by decide) (fun c_3 => ?_) (fun c_3 => ?_)
  · have H := H1 c_3
    refine g_msk [true, true, true] ?_
    exact okJ_MO_areText_49 hC4 H
  · have H := H2 c_3
    refine g_aload_n d_MO_areText_34 rfl ?_
    obtain ⟨z_4, H⟩ := H
    refine g_getR d_MO_areText_35 f_MO_13 z_4 (by decide) ?_
    refine g_iload_n d_MO_areText_38 rfl ?_
    obtain ⟨q_5, e_6, H⟩ := H
    show Go _ _ _ [some (.ref q0), some (.int x1), some (.int x2)] [.int x2, va_rf (hR h q0 3)] _ _ _
    rw [show va_rf (hR h q0 3) = Value.ref q_5 from by rw [e_6]; rfl]
    obtain ⟨N_7, H⟩ := H
    obtain ⟨j_8, H⟩ := H
    obtain ⟨z_9, H⟩ := H
    refine g_iald d_MO_areText_39 z_9.1 z_9.2.1 z_9.2.2.1 z_9.2.2.2 ?_
    refine g_bipush (v := 27) d_MO_areText_40 (by decide) ?_
    obtain ⟨H1, H2⟩ := H
    refine g_icmp_ne (tgt := 49) d_MO_areText_42 (by decide) (fun c_10 => ?_) (fun c_10 => ?_)
    · have H := H1 c_10
      refine g_msk [true, true, true] ?_
      exact okJ_MO_areText_49 hC4 H
    · have H := H2 c_10
      refine g_iconst (v := 1) d_MO_areText_45 (by decide) ?_
      refine g_goto (tgt := 50) d_MO_areText_46 (by decide) ?_
      refine g_msk [true, true, true] ?_
      exact okJ_MO_areText_50 hC4 H
set_option maxRecDepth 100000 in
set_option maxHeartbeats 4000000 in
def wB_MO_areText_4 (G : Gx) (l : Launch) (d w : Nat) (P : Int32 → Hp → Prop) (C4 : Int32 → Int32 → Hp → Prop) (q0 : Nat) (x1 : Int32) (x2 : Int32) (h : Hp)  : Prop := (hS h q0 = some (18, 0)) ∧ (((hI h q0 2) ≤ x2 → (¬ x1 = 0 → wJ_MO_areText_66 G l d w P q0 x1 x2 0 h) ∧ (x1 = 0 → wJ_MO_areText_66 G l d w P q0 x1 x2 1 h)) ∧ (¬ (hI h q0 2) ≤ x2 → (x1 = 0 → wJ_MO_areText_30 G l d w P C4 q0 x1 x2 h) ∧ (¬ x1 = 0 → ∃ q_15 : Nat, (hR h q0 3) = some q_15 ∧ (∃ N_17 : Nat, ∃ j_18 : Nat, (hS h q_15 = some (0, N_17) ∧ x2 = nI j_18 ∧ j_18 < N_17 ∧ j_18 < 2147483648) ∧ (∃ P_20 : Int32 → Hp → Prop, (Ci G l M_MO_escaped (d + 0) (w + 0) [.int (hI h q_15 j_18)] h 0 0 P_20) ∧ (∀ (x_24 : Int32) (h_22 : Hp), P_20 x_24 h_22 → (0 ≤ x_24 → wJ_MO_areText_30 G l d w P C4 q0 x1 x2 h_22) ∧ (¬ 0 ≤ x_24 → P 0 h_22)))))))
set_option maxRecDepth 100000 in
set_option maxHeartbeats 4000000 in
theorem okB_MO_areText_4 {G : Gx} {l : Launch} {d w : Nat} {P : Int32 → Hp → Prop} {p : Program} {e : Env} {s : State} {m : MethodId} {args : Array Value} {below : List Frame} {meth : Method} {c : Code} {C4 : Int32 → Int32 → Hp → Prop} {q0 : Nat} {x1 : Int32} {x2 : Int32} (hC4 : ∀ (x1 : Int32) (x2 : Int32) (h : Hp), C4 x1 x2 h → Go M_MO_areText (mkX G (fun r h' => ∃ x, r = some (.int x) ∧ P x h') (d + 1) (w + 20) 0 0 p l e s m args below meth c) 4 [some (.ref q0), some (.int x1), some (.int x2)] [] h 0 0) {h : Hp}  (H : wB_MO_areText_4 G l d w P C4 q0 x1 x2 h ) : Go M_MO_areText (mkX G (fun r h' => ∃ x, r = some (.int x) ∧ P x h') (d + 1) (w + 20) 0 0 p l e s m args below meth c) 4 [some (.ref q0), some (.int x1), some (.int x2)] [] h 0 0 := by
  unfold wB_MO_areText_4 at H
  refine g_iload_n d_MO_areText_4 rfl ?_
  refine g_aload_n d_MO_areText_5 rfl ?_
  obtain ⟨z_11, H⟩ := H
  refine g_getI d_MO_areText_6 f_MO_124 z_11 ?_
  obtain ⟨H1, H2⟩ := H
  refine g_icmp_ge (tgt := 57) d_MO_areText_9 (by decide) (fun c_12 => ?_) (fun c_12 => ?_)
  · have H := H1 c_12
    refine g_iload_n d_MO_areText_57 rfl ?_
    obtain ⟨H1, H2⟩ := H
    refine g_if_ne (tgt := 65) d_MO_areText_58 (by decide) (fun c_13 => ?_) (fun c_13 => ?_)
    · have H := H1 c_13
      refine g_iconst (v := 0) d_MO_areText_65 (by decide) ?_
      refine g_msk [true, true, true] ?_
      exact okJ_MO_areText_66 H
    · have H := H2 c_13
      refine g_iconst (v := 1) d_MO_areText_61 (by decide) ?_
      refine g_goto (tgt := 66) d_MO_areText_62 (by decide) ?_
      refine g_msk [true, true, true] ?_
      exact okJ_MO_areText_66 H
  · have H := H2 c_12
    refine g_iload_n d_MO_areText_12 rfl ?_
    obtain ⟨H1, H2⟩ := H
    refine g_if_eq (tgt := 30) d_MO_areText_13 (by decide) (fun c_14 => ?_) (fun c_14 => ?_)
    · have H := H1 c_14
      refine g_msk [true, true, true] ?_
      exact okJ_MO_areText_30 hC4 H
    · have H := H2 c_14
      refine g_aload_n d_MO_areText_16 rfl ?_
      refine g_getR d_MO_areText_17 f_MO_13 z_11 (by decide) ?_
      refine g_iload_n d_MO_areText_20 rfl ?_
      obtain ⟨q_15, e_16, H⟩ := H
      show Go _ _ _ [some (.ref q0), some (.int x1), some (.int x2)] [.int x2, va_rf (hR h q0 3)] _ _ _
      rw [show va_rf (hR h q0 3) = Value.ref q_15 from by rw [e_16]; rfl]
      obtain ⟨N_17, H⟩ := H
      obtain ⟨j_18, H⟩ := H
      obtain ⟨z_19, H⟩ := H
      refine g_iald d_MO_areText_21 z_19.1 z_19.2.1 z_19.2.2.1 z_19.2.2.2 ?_
      obtain ⟨P_20, C_21, H⟩ := H
      refine q_S (As := [.int (hI h q_15 j_18)]) (st := []) (nl := 1) d_MO_areText_22 v_MO_128 C_21 rfl (catS_le (Nat.le_of_ble_eq_true rfl)) rfl ⟨by omega, by omega, Nat.le_refl _, Nat.le_refl _⟩ (fun r_26 h_22 p_23 => ?_)
      obtain ⟨x_24, rfl, p_23⟩ := p_23
      replace H := H x_24 h_22 p_23
      show Go _ _ _ _ [.int x_24] _ _ _
      obtain ⟨H1, H2⟩ := H
      refine g_if_ge (tgt := 30) d_MO_areText_25 (by decide) (fun c_27 => ?_) (fun c_27 => ?_)
      · have H := H1 c_27
        refine g_msk [true, true, true] ?_
        exact okJ_MO_areText_30 hC4 H
      · have H := H2 c_27
        refine g_iconst (v := 0) d_MO_areText_28 (by decide) ?_
        exact g_zreturn d_MO_areText_29 rfl (by decide) (Nat.le_refl _) (Nat.le_refl _) ⟨_, rfl, H⟩
set_option maxRecDepth 100000 in
set_option maxHeartbeats 4000000 in
def wL_MO_areText_4 (G : Gx) (l : Launch) (d w : Nat) (P : Int32 → Hp → Prop) (q0 : Nat) (x1 : Int32) (x2 : Int32) (h : Hp)  : Prop := ∃ (I : Int32 → Int32 → Hp → Prop) (μ : Int32 → Int32 → Hp → Nat), I x1 x2 h ∧ ∀ (x1' : Int32) (x2' : Int32) (h' : Hp), I x1' x2' h' → wB_MO_areText_4 G l d w P (fun x1_ x2_ h_ => I x1_ x2_ h_ ∧ μ x1_ x2_ h_ < μ x1' x2' h') q0 x1' x2' h'
set_option maxRecDepth 100000 in
set_option maxHeartbeats 4000000 in
theorem okL_MO_areText_4 {G : Gx} {l : Launch} {d w : Nat} {P : Int32 → Hp → Prop} {p : Program} {e : Env} {s : State} {m : MethodId} {args : Array Value} {below : List Frame} {meth : Method} {c : Code} {q0 : Nat} {x1 : Int32} {x2 : Int32} {h : Hp}  (H : wL_MO_areText_4 G l d w P  q0 x1 x2 h ) : Go M_MO_areText (mkX G (fun r h' => ∃ x, r = some (.int x) ∧ P x h') (d + 1) (w + 20) 0 0 p l e s m args below meth c) 4 [some (.ref q0), some (.int x1), some (.int x2)] [] h 0 0 := by
  obtain ⟨I, μ, h0, hs⟩ := H
  have key : ∀ (N : Nat) (x1 : Int32) (x2 : Int32) (h : Hp), I x1 x2 h → μ x1 x2 h < N → Go M_MO_areText (mkX G (fun r h' => ∃ x, r = some (.int x) ∧ P x h') (d + 1) (w + 20) 0 0 p l e s m args below meth c) 4 [some (.ref q0), some (.int x1), some (.int x2)] [] h 0 0 := by
    intro N
    induction N with
    | zero => intro x1 x2 h _ hN; exact absurd hN (Nat.not_lt_zero _)
    | succ N ih =>
      intro x1 x2 h hI hN
      exact okB_MO_areText_4 (fun x1_ x2_ h_ hh => ih x1_ x2_ h_ hh.1 (Nat.lt_of_lt_of_le hh.2 (Nat.le_of_lt_succ hN))) (hs x1 x2 h hI)
  exact key _ _ _ _ h0 (Nat.lt_succ_self _)
set_option maxRecDepth 100000 in
set_option maxHeartbeats 4000000 in
def wp_MO_areText (G : Gx) (l : Launch) (d w : Nat) (P : Int32 → Hp → Prop) (q0 : Nat) (h : Hp) : Prop := wL_MO_areText_4 G l d w P q0 0 0 h
set_option maxRecDepth 100000 in
set_option maxHeartbeats 4000000 in
theorem ok_MO_areText {G : Gx} {l : Launch} {d w : Nat} {P : Int32 → Hp → Prop} {q0 : Nat} {h : Hp} (H : wp_MO_areText G l d w P q0 h) : Ci G l M_MO_areText (d + 1) (w + 20) [.ref q0] h 0 0 P := by
  unfold wp_MO_areText at H
  refine Ct.of (lv := [some (.ref q0), none, none]) (by decide) (Nat.le_of_ble_eq_true rfl) rfl (fun p e s m args below meth c => ?_)
  refine g_iconst (v := 0) d_MO_areText_0 (by decide) ?_
  refine g_istore_n (lv' := [some (.ref q0), some (.int 0), none]) d_MO_areText_1 (by decide) rfl ?_
  refine g_iconst (v := 0) d_MO_areText_2 (by decide) ?_
  refine g_istore_n (lv' := [some (.ref q0), some (.int 0), some (.int 0)]) d_MO_areText_3 (by decide) rfl ?_
  refine g_msk [true, true, true] ?_
  exact okL_MO_areText_4 H
set_option maxRecDepth 100000 in
set_option maxHeartbeats 4000000 in
def wJ_MO_readNumber_52 (G : Gx) (l : Launch) (d w : Nat) (P : Int64 → Hp → Prop) (q0 : Nat) (x1 : Int32) (h : Hp)  : Prop := P 0 h
set_option maxRecDepth 100000 in
set_option maxHeartbeats 4000000 in
theorem okJ_MO_readNumber_52 {G : Gx} {l : Launch} {d w : Nat} {P : Int64 → Hp → Prop} {p : Program} {e : Env} {s : State} {m : MethodId} {args : Array Value} {below : List Frame} {meth : Method} {c : Code} {q0 : Nat} {x1 : Int32} {h : Hp}  (H : wJ_MO_readNumber_52 G l d w P  q0 x1 h ) : Go M_MO_readNumber (mkX G (fun r h' => ∃ x, r = some (.long x) ∧ P x h') (d + 0) (w + 0) 0 0 p l e s m args below meth c) 52 [some (.ref q0), some (.int x1), none, none, none, none] [] h 0 0 := by
  unfold wJ_MO_readNumber_52 at H
  refine g_lconst (v := 0) d_MO_readNumber_52 (by decide) ?_
  exact g_lreturn d_MO_readNumber_53 rfl (Nat.le_refl _) (Nat.le_refl _) ⟨_, rfl, H⟩
set_option maxRecDepth 100000 in
set_option maxHeartbeats 4000000 in
def wB_MO_readNumber_59 (G : Gx) (l : Launch) (d w : Nat) (P : Int64 → Hp → Prop) (C59 : Int64 → Int32 → Hp → Prop) (q0 : Nat) (x1 : Int32) (y2 : Int64) (x4 : Int32) (h : Hp)  : Prop := (hS h q0 = some (18, 0)) ∧ (∃ q_2 : Nat, (hR h q0 12) = some q_2 ∧ (∃ N_4 : Nat, ∃ j_5 : Nat, (hS h q_2 = some (0, N_4) ∧ x1 = nI j_5 ∧ j_5 < N_4 ∧ j_5 < 2147483648) ∧ (((hI h q_2 j_5) ≤ x4 → P y2 h) ∧ (¬ (hI h q_2 j_5) ≤ x4 → ∃ q_8 : Nat, (hR h q0 12) = some q_8 ∧ (∃ N_10 : Nat, ∃ j_11 : Nat, (hS h q_8 = some (0, N_10) ∧ ((x1 + 2) + (x4 / 2)) = nI j_11 ∧ j_11 < N_10 ∧ j_11 < 2147483648) ∧ (∀ x_13 : Int32, x_13 = (((hI h q_8 j_11) >>> ((4 * (x4 - x4 / 2 * 2)) &&& 31)) &&& 15) → (x_13 ≤ 9 → ∀ y_15 : Int64, y_15 = ((y2 * 10) + x_13.toInt64) → ∀ x_16 : Int32, x_16 = x4 + 1 → C59 y_15 x_16 h) ∧ (¬ x_13 ≤ 9 → P 0 h)))))))
set_option maxRecDepth 100000 in
set_option maxHeartbeats 4000000 in
theorem okB_MO_readNumber_59 {G : Gx} {l : Launch} {d w : Nat} {P : Int64 → Hp → Prop} {p : Program} {e : Env} {s : State} {m : MethodId} {args : Array Value} {below : List Frame} {meth : Method} {c : Code} {C59 : Int64 → Int32 → Hp → Prop} {q0 : Nat} {x1 : Int32} {y2 : Int64} {x4 : Int32} (hC59 : ∀ (y2 : Int64) (x4 : Int32) (h : Hp), C59 y2 x4 h → Go M_MO_readNumber (mkX G (fun r h' => ∃ x, r = some (.long x) ∧ P x h') (d + 0) (w + 0) 0 0 p l e s m args below meth c) 59 [some (.ref q0), some (.int x1), some (.long y2), none, some (.int x4), none] [] h 0 0) {h : Hp}  (H : wB_MO_readNumber_59 G l d w P C59 q0 x1 y2 x4 h ) : Go M_MO_readNumber (mkX G (fun r h' => ∃ x, r = some (.long x) ∧ P x h') (d + 0) (w + 0) 0 0 p l e s m args below meth c) 59 [some (.ref q0), some (.int x1), some (.long y2), none, some (.int x4), none] [] h 0 0 := by
  unfold wB_MO_readNumber_59 at H
  refine g_iload d_MO_readNumber_59 rfl ?_
  refine g_aload_n d_MO_readNumber_61 rfl ?_
  obtain ⟨z_1, H⟩ := H
  refine g_getR d_MO_readNumber_62 f_MO_39 z_1 (by decide) ?_
  refine g_iload_n d_MO_readNumber_65 rfl ?_
  obtain ⟨q_2, e_3, H⟩ := H
  show Go _ _ _ [some (.ref q0), some (.int x1), some (.long y2), none, some (.int x4), none] [.int x1, va_rf (hR h q0 12), .int x4] _ _ _
  rw [show va_rf (hR h q0 12) = Value.ref q_2 from by rw [e_3]; rfl]
  obtain ⟨N_4, H⟩ := H
  obtain ⟨j_5, H⟩ := H
  obtain ⟨z_6, H⟩ := H
  refine g_iald d_MO_readNumber_66 z_6.1 z_6.2.1 z_6.2.2.1 z_6.2.2.2 ?_
  obtain ⟨H1, H2⟩ := H
  refine g_icmp_ge (tgt := 120) d_MO_readNumber_67 (by decide) (fun c_7 => ?_) (fun c_7 => ?_)
  · have H := H1 c_7
    refine g_lload_n d_MO_readNumber_120 rfl ?_
    exact g_lreturn d_MO_readNumber_121 rfl (Nat.le_refl _) (Nat.le_refl _) ⟨_, rfl, H⟩
  · have H := H2 c_7
    refine g_aload_n d_MO_readNumber_70 rfl ?_
    refine g_getR d_MO_readNumber_71 f_MO_39 z_1 (by decide) ?_
    refine g_iload_n d_MO_readNumber_74 rfl ?_
    refine g_iconst (v := 2) d_MO_readNumber_75 (by decide) ?_
    refine g_iadd d_MO_readNumber_76 ?_
    refine g_iload d_MO_readNumber_77 rfl ?_
    refine g_iconst (v := 2) d_MO_readNumber_79 (by decide) ?_
    refine g_idiv d_MO_readNumber_80 (by decide) ?_
    refine g_iadd d_MO_readNumber_81 ?_
    obtain ⟨q_8, e_9, H⟩ := H
    show Go _ _ _ [some (.ref q0), some (.int x1), some (.long y2), none, some (.int x4), none] [.int ((x1 + 2) + (x4 / 2)), va_rf (hR h q0 12)] _ _ _
    rw [show va_rf (hR h q0 12) = Value.ref q_8 from by rw [e_9]; rfl]
    obtain ⟨N_10, H⟩ := H
    obtain ⟨j_11, H⟩ := H
    obtain ⟨z_12, H⟩ := H
    refine g_iald d_MO_readNumber_82 z_12.1 z_12.2.1 z_12.2.2.1 z_12.2.2.2 ?_
    refine g_iconst (v := 4) d_MO_readNumber_83 (by decide) ?_
    refine g_iload d_MO_readNumber_84 rfl ?_
    refine g_iconst (v := 2) d_MO_readNumber_86 (by decide) ?_
    refine g_irem d_MO_readNumber_87 (by decide) ?_
    refine g_imul d_MO_readNumber_88 ?_
    refine g_ishr d_MO_readNumber_89 ?_
    refine g_bipush (v := 15) d_MO_readNumber_90 (by decide) ?_
    refine g_iand d_MO_readNumber_92 ?_
    refine g_topi (fun x_13 ex_13 => ?_)
    replace H := H x_13 ex_13
    refine g_istore (lv' := [some (.ref q0), some (.int x1), some (.long y2), none, some (.int x4), some (.int x_13)]) d_MO_readNumber_93 (by decide) rfl ?_
    refine g_iload d_MO_readNumber_95 rfl ?_
    refine g_bipush (v := 9) d_MO_readNumber_97 (by decide) ?_
    obtain ⟨H1, H2⟩ := H
    refine g_icmp_le (tgt := 104) d_MO_readNumber_99 (by decide) (fun c_14 => ?_) (fun c_14 => ?_)
    · have H := H1 c_14
      refine g_lload_n d_MO_readNumber_104 rfl ?_
      refine g_ldc2 d_MO_readNumber_105 k_MO_134 ?_
      refine g_lmul d_MO_readNumber_108 ?_
      refine g_iload d_MO_readNumber_109 rfl ?_
      refine g_i2l d_MO_readNumber_111 ?_
      refine g_ladd d_MO_readNumber_112 ?_
      refine g_topl (fun y_15 ey_15 => ?_)
      replace H := H y_15 ey_15
      refine g_lstore_n (lv' := [some (.ref q0), some (.int x1), some (.long y_15), none, some (.int x4), some (.int x_13)]) d_MO_readNumber_113 (by decide) rfl ?_
      obtain ⟨x_16, ex_16⟩ : ∃ z : Int32, z = x4 + 1 := ⟨_, rfl⟩
      replace H := H x_16 ex_16
      refine g_iinc (v := x_16) (lv' := [some (.ref q0), some (.int x1), some (.long y_15), none, some (.int x_16), some (.int x_13)]) d_MO_readNumber_114 rfl (by decide) (by rw [ex_16]; rfl) rfl ?_
      refine g_goto (tgt := 59) d_MO_readNumber_117 (by decide) ?_
      refine g_msk [true, true, true, false, true, false] ?_
      exact hC59 _ _ _ H
    · have H := H2 c_14
      refine g_lconst (v := 0) d_MO_readNumber_102 (by decide) ?_
      exact g_lreturn d_MO_readNumber_103 rfl (Nat.le_refl _) (Nat.le_refl _) ⟨_, rfl, H⟩
set_option maxRecDepth 100000 in
set_option maxHeartbeats 4000000 in
def wL_MO_readNumber_59 (G : Gx) (l : Launch) (d w : Nat) (P : Int64 → Hp → Prop) (q0 : Nat) (x1 : Int32) (y2 : Int64) (x4 : Int32) (h : Hp)  : Prop := ∃ (I : Int64 → Int32 → Hp → Prop) (μ : Int64 → Int32 → Hp → Nat), I y2 x4 h ∧ ∀ (y2' : Int64) (x4' : Int32) (h' : Hp), I y2' x4' h' → wB_MO_readNumber_59 G l d w P (fun y2_ x4_ h_ => I y2_ x4_ h_ ∧ μ y2_ x4_ h_ < μ y2' x4' h') q0 x1 y2' x4' h'
set_option maxRecDepth 100000 in
set_option maxHeartbeats 4000000 in
theorem okL_MO_readNumber_59 {G : Gx} {l : Launch} {d w : Nat} {P : Int64 → Hp → Prop} {p : Program} {e : Env} {s : State} {m : MethodId} {args : Array Value} {below : List Frame} {meth : Method} {c : Code} {q0 : Nat} {x1 : Int32} {y2 : Int64} {x4 : Int32} {h : Hp}  (H : wL_MO_readNumber_59 G l d w P  q0 x1 y2 x4 h ) : Go M_MO_readNumber (mkX G (fun r h' => ∃ x, r = some (.long x) ∧ P x h') (d + 0) (w + 0) 0 0 p l e s m args below meth c) 59 [some (.ref q0), some (.int x1), some (.long y2), none, some (.int x4), none] [] h 0 0 := by
  obtain ⟨I, μ, h0, hs⟩ := H
  have key : ∀ (N : Nat) (y2 : Int64) (x4 : Int32) (h : Hp), I y2 x4 h → μ y2 x4 h < N → Go M_MO_readNumber (mkX G (fun r h' => ∃ x, r = some (.long x) ∧ P x h') (d + 0) (w + 0) 0 0 p l e s m args below meth c) 59 [some (.ref q0), some (.int x1), some (.long y2), none, some (.int x4), none] [] h 0 0 := by
    intro N
    induction N with
    | zero => intro y2 x4 h _ hN; exact absurd hN (Nat.not_lt_zero _)
    | succ N ih =>
      intro y2 x4 h hI hN
      exact okB_MO_readNumber_59 (fun y2_ x4_ h_ hh => ih y2_ x4_ h_ hh.1 (Nat.lt_of_lt_of_le hh.2 (Nat.le_of_lt_succ hN))) (hs y2 x4 h hI)
  exact key _ _ _ _ h0 (Nat.lt_succ_self _)
set_option maxRecDepth 100000 in
set_option maxHeartbeats 4000000 in
def wp_MO_readNumber (G : Gx) (l : Launch) (d w : Nat) (P : Int64 → Hp → Prop) (q0 : Nat) (x1 : Int32) (h : Hp) : Prop := (hS h q0 = some (18, 0)) ∧ (((hI h q0 11) ≤ (x1 + 1) → wJ_MO_readNumber_52 G l d w P q0 x1 h) ∧ (¬ (hI h q0 11) ≤ (x1 + 1) → ∃ q_19 : Nat, (hR h q0 12) = some q_19 ∧ (∃ N_21 : Nat, ∃ j_22 : Nat, (hS h q_19 = some (0, N_21) ∧ x1 = nI j_22 ∧ j_22 < N_21 ∧ j_22 < 2147483648) ∧ (((hI h q_19 j_22) < 1 → wJ_MO_readNumber_52 G l d w P q0 x1 h) ∧ (¬ (hI h q_19 j_22) < 1 → ∃ q_25 : Nat, (hR h q0 12) = some q_25 ∧ (∃ N_27 : Nat, ∃ j_28 : Nat, (hS h q_25 = some (0, N_27) ∧ x1 = nI j_28 ∧ j_28 < N_27 ∧ j_28 < 2147483648) ∧ ((12 < (hI h q_25 j_28) → wJ_MO_readNumber_52 G l d w P q0 x1 h) ∧ (¬ 12 < (hI h q_25 j_28) → ∃ q_31 : Nat, (hR h q0 12) = some q_31 ∧ (∃ N_33 : Nat, ∃ j_34 : Nat, (hS h q_31 = some (0, N_33) ∧ x1 = nI j_34 ∧ j_34 < N_33 ∧ j_34 < 2147483648) ∧ ((((x1 + 2) + (((hI h q_31 j_34) + 1) / 2)) ≤ (hI h q0 11) → wL_MO_readNumber_59 G l d w P q0 x1 0 0 h) ∧ (¬ ((x1 + 2) + (((hI h q_31 j_34) + 1) / 2)) ≤ (hI h q0 11) → wJ_MO_readNumber_52 G l d w P q0 x1 h)))))))))))
set_option maxRecDepth 100000 in
set_option maxHeartbeats 4000000 in
theorem ok_MO_readNumber {G : Gx} {l : Launch} {d w : Nat} {P : Int64 → Hp → Prop} {q0 : Nat} {x1 : Int32} {h : Hp} (H : wp_MO_readNumber G l d w P q0 x1 h) : Cl G l M_MO_readNumber (d + 0) (w + 0) [.ref q0, .int x1] h 0 0 P := by
  unfold wp_MO_readNumber at H
  refine Ct.of (lv := [some (.ref q0), some (.int x1), none, none, none, none]) (by decide) (Nat.le_of_ble_eq_true rfl) rfl (fun p e s m args below meth c => ?_)
  refine g_iload_n d_MO_readNumber_0 rfl ?_
  refine g_iconst (v := 1) d_MO_readNumber_1 (by decide) ?_
  refine g_iadd d_MO_readNumber_2 ?_
  refine g_aload_n d_MO_readNumber_3 rfl ?_
  obtain ⟨z_17, H⟩ := H
  refine g_getI d_MO_readNumber_4 f_MO_131 z_17 ?_
  obtain ⟨H1, H2⟩ := H
  refine g_icmp_ge (tgt := 52) d_MO_readNumber_7 (by decide) (fun c_18 => ?_) (fun c_18 => ?_)
  · have H := H1 c_18
    refine g_msk [true, true, false, false, false, false] ?_
    exact okJ_MO_readNumber_52 H
  · have H := H2 c_18
    refine g_aload_n d_MO_readNumber_10 rfl ?_
    refine g_getR d_MO_readNumber_11 f_MO_39 z_17 (by decide) ?_
    refine g_iload_n d_MO_readNumber_14 rfl ?_
    obtain ⟨q_19, e_20, H⟩ := H
    show Go _ _ _ [some (.ref q0), some (.int x1), none, none, none, none] [.int x1, va_rf (hR h q0 12)] _ _ _
    rw [show va_rf (hR h q0 12) = Value.ref q_19 from by rw [e_20]; rfl]
    obtain ⟨N_21, H⟩ := H
    obtain ⟨j_22, H⟩ := H
    obtain ⟨z_23, H⟩ := H
    refine g_iald d_MO_readNumber_15 z_23.1 z_23.2.1 z_23.2.2.1 z_23.2.2.2 ?_
    refine g_iconst (v := 1) d_MO_readNumber_16 (by decide) ?_
    obtain ⟨H1, H2⟩ := H
    refine g_icmp_lt (tgt := 52) d_MO_readNumber_17 (by decide) (fun c_24 => ?_) (fun c_24 => ?_)
    · have H := H1 c_24
      refine g_msk [true, true, false, false, false, false] ?_
      exact okJ_MO_readNumber_52 H
    · have H := H2 c_24
      refine g_aload_n d_MO_readNumber_20 rfl ?_
      refine g_getR d_MO_readNumber_21 f_MO_39 z_17 (by decide) ?_
      refine g_iload_n d_MO_readNumber_24 rfl ?_
      obtain ⟨q_25, e_26, H⟩ := H
      show Go _ _ _ [some (.ref q0), some (.int x1), none, none, none, none] [.int x1, va_rf (hR h q0 12)] _ _ _
      rw [show va_rf (hR h q0 12) = Value.ref q_25 from by rw [e_26]; rfl]
      obtain ⟨N_27, H⟩ := H
      obtain ⟨j_28, H⟩ := H
      obtain ⟨z_29, H⟩ := H
      refine g_iald d_MO_readNumber_25 z_29.1 z_29.2.1 z_29.2.2.1 z_29.2.2.2 ?_
      refine g_bipush (v := 12) d_MO_readNumber_26 (by decide) ?_
      obtain ⟨H1, H2⟩ := H
      refine g_icmp_gt (tgt := 52) d_MO_readNumber_28 (by decide) (fun c_30 => ?_) (fun c_30 => ?_)
      · have H := H1 c_30
        refine g_msk [true, true, false, false, false, false] ?_
        exact okJ_MO_readNumber_52 H
      · have H := H2 c_30
        refine g_iload_n d_MO_readNumber_31 rfl ?_
        refine g_iconst (v := 2) d_MO_readNumber_32 (by decide) ?_
        refine g_iadd d_MO_readNumber_33 ?_
        refine g_aload_n d_MO_readNumber_34 rfl ?_
        refine g_getR d_MO_readNumber_35 f_MO_39 z_17 (by decide) ?_
        refine g_iload_n d_MO_readNumber_38 rfl ?_
        obtain ⟨q_31, e_32, H⟩ := H
        show Go _ _ _ [some (.ref q0), some (.int x1), none, none, none, none] [.int x1, va_rf (hR h q0 12), .int (x1 + 2)] _ _ _
        rw [show va_rf (hR h q0 12) = Value.ref q_31 from by rw [e_32]; rfl]
        obtain ⟨N_33, H⟩ := H
        obtain ⟨j_34, H⟩ := H
        obtain ⟨z_35, H⟩ := H
        refine g_iald d_MO_readNumber_39 z_35.1 z_35.2.1 z_35.2.2.1 z_35.2.2.2 ?_
        refine g_iconst (v := 1) d_MO_readNumber_40 (by decide) ?_
        refine g_iadd d_MO_readNumber_41 ?_
        refine g_iconst (v := 2) d_MO_readNumber_42 (by decide) ?_
        refine g_idiv d_MO_readNumber_43 (by decide) ?_
        refine g_iadd d_MO_readNumber_44 ?_
        refine g_aload_n d_MO_readNumber_45 rfl ?_
        refine g_getI d_MO_readNumber_46 f_MO_131 z_17 ?_
        obtain ⟨H1, H2⟩ := H
        refine g_icmp_le (tgt := 54) d_MO_readNumber_49 (by decide) (fun c_36 => ?_) (fun c_36 => ?_)
        · have H := H1 c_36
          refine g_lconst (v := 0) d_MO_readNumber_54 (by decide) ?_
          refine g_lstore_n (lv' := [some (.ref q0), some (.int x1), some (.long 0), none, none, none]) d_MO_readNumber_55 (by decide) rfl ?_
          refine g_iconst (v := 0) d_MO_readNumber_56 (by decide) ?_
          refine g_istore (lv' := [some (.ref q0), some (.int x1), some (.long 0), none, some (.int 0), none]) d_MO_readNumber_57 (by decide) rfl ?_
          refine g_msk [true, true, true, false, true, false] ?_
          exact okL_MO_readNumber_59 H
        · have H := H2 c_36
          refine g_msk [true, true, false, false, false, false] ?_
          exact okJ_MO_readNumber_52 H
set_option maxRecDepth 100000 in
set_option maxHeartbeats 4000000 in
def wJ_MO_legal_88 (G : Gx) (l : Launch) (d w : Nat) (P : Int32 → Hp → Prop) (q0 : Nat) (y1 : Int64) (x3 : Int32) (h : Hp)  : Prop := P (-1) h
set_option maxRecDepth 100000 in
set_option maxHeartbeats 4000000 in
theorem okJ_MO_legal_88 {G : Gx} {l : Launch} {d w : Nat} {P : Int32 → Hp → Prop} {p : Program} {e : Env} {s : State} {m : MethodId} {args : Array Value} {below : List Frame} {meth : Method} {c : Code} {q0 : Nat} {y1 : Int64} {x3 : Int32} {h : Hp}  (H : wJ_MO_legal_88 G l d w P  q0 y1 x3 h ) : Go M_MO_legal (mkX G (fun r h' => ∃ x, r = some (.int x) ∧ P x h') (d + 4) (w + 102) 0 0 p l e s m args below meth c) 88 [some (.ref q0), some (.long y1), none, some (.int x3), none, none, none, none, none, none] [] h 0 0 := by
  unfold wJ_MO_legal_88 at H
  refine g_iconst (v := (-1)) d_MO_legal_88 (by decide) ?_
  exact g_ireturn d_MO_legal_89 rfl (Nat.le_refl _) (Nat.le_refl _) ⟨_, rfl, H⟩
set_option maxRecDepth 100000 in
set_option maxHeartbeats 4000000 in
def wJ_MO_legal_419 (G : Gx) (l : Launch) (d w : Nat) (P : Int32 → Hp → Prop) (q0 : Nat) (y1 : Int64) (x3 : Int32) (x4 : Int32) (x5 : Int32) (x6 : Int32) (x7 : Int32) (x8 : Int32) (x9 : Int32) (sx0 : Int32) (h : Hp)  : Prop := P sx0 h
set_option maxRecDepth 100000 in
set_option maxHeartbeats 4000000 in
theorem okJ_MO_legal_419 {G : Gx} {l : Launch} {d w : Nat} {P : Int32 → Hp → Prop} {p : Program} {e : Env} {s : State} {m : MethodId} {args : Array Value} {below : List Frame} {meth : Method} {c : Code} {q0 : Nat} {y1 : Int64} {x3 : Int32} {x4 : Int32} {x5 : Int32} {x6 : Int32} {x7 : Int32} {x8 : Int32} {x9 : Int32} {sx0 : Int32} {h : Hp}  (H : wJ_MO_legal_419 G l d w P  q0 y1 x3 x4 x5 x6 x7 x8 x9 sx0 h ) : Go M_MO_legal (mkX G (fun r h' => ∃ x, r = some (.int x) ∧ P x h') (d + 4) (w + 102) 0 0 p l e s m args below meth c) 419 [some (.ref q0), some (.long y1), none, some (.int x3), some (.int x4), some (.int x5), some (.int x6), some (.int x7), some (.int x8), some (.int x9)] [.int sx0] h 0 0 := by
  unfold wJ_MO_legal_419 at H
  exact g_ireturn d_MO_legal_419 rfl (Nat.le_refl _) (Nat.le_refl _) ⟨_, rfl, H⟩
set_option maxRecDepth 100000 in
set_option maxHeartbeats 4000000 in
def wJ_MO_legal_401 (G : Gx) (l : Launch) (d w : Nat) (P : Int32 → Hp → Prop) (C360 : Int32 → Int32 → Hp → Prop) (q0 : Nat) (y1 : Int64) (x3 : Int32) (x4 : Int32) (x5 : Int32) (x6 : Int32) (x7 : Int32) (x8 : Int32) (x9 : Int32) (sx0 : Int32) (h : Hp)  : Prop := ∀ x_1 : Int32, x_1 = x9 + 1 → C360 sx0 x_1 h
set_option maxRecDepth 100000 in
set_option maxHeartbeats 4000000 in
theorem okJ_MO_legal_401 {G : Gx} {l : Launch} {d w : Nat} {P : Int32 → Hp → Prop} {p : Program} {e : Env} {s : State} {m : MethodId} {args : Array Value} {below : List Frame} {meth : Method} {c : Code} {C360 : Int32 → Int32 → Hp → Prop} {q0 : Nat} {y1 : Int64} {x3 : Int32} {x4 : Int32} {x5 : Int32} {x6 : Int32} {x7 : Int32} {x8 : Int32} {x9 : Int32} {sx0 : Int32} (hC360 : ∀ (x8 : Int32) (x9 : Int32) (h : Hp), C360 x8 x9 h → Go M_MO_legal (mkX G (fun r h' => ∃ x, r = some (.int x) ∧ P x h') (d + 4) (w + 102) 0 0 p l e s m args below meth c) 360 [some (.ref q0), some (.long y1), none, some (.int x3), some (.int x4), some (.int x5), some (.int x6), some (.int x7), some (.int x8), some (.int x9)] [] h 0 0) {h : Hp}  (H : wJ_MO_legal_401 G l d w P C360 q0 y1 x3 x4 x5 x6 x7 x8 x9 sx0 h ) : Go M_MO_legal (mkX G (fun r h' => ∃ x, r = some (.int x) ∧ P x h') (d + 4) (w + 102) 0 0 p l e s m args below meth c) 401 [some (.ref q0), some (.long y1), none, some (.int x3), some (.int x4), some (.int x5), some (.int x6), some (.int x7), some (.int x8), some (.int x9)] [.int sx0] h 0 0 := by
  unfold wJ_MO_legal_401 at H
  refine g_istore (lv' := [some (.ref q0), some (.long y1), none, some (.int x3), some (.int x4), some (.int x5), some (.int x6), some (.int x7), some (.int sx0), some (.int x9)]) d_MO_legal_401 (by decide) rfl ?_
  obtain ⟨x_1, ex_1⟩ : ∃ z : Int32, z = x9 + 1 := ⟨_, rfl⟩
  replace H := H x_1 ex_1
  refine g_iinc (v := x_1) (lv' := [some (.ref q0), some (.long y1), none, some (.int x3), some (.int x4), some (.int x5), some (.int x6), some (.int x7), some (.int sx0), some (.int x_1)]) d_MO_legal_403 rfl (by decide) (by rw [ex_1]; rfl) rfl ?_
  refine g_goto (tgt := 360) d_MO_legal_406 (by decide) ?_
  refine g_msk [true, true, false, true, true, true, true, true, true, true] ?_
  exact hC360 _ _ _ H
set_option maxRecDepth 100000 in
set_option maxHeartbeats 4000000 in
def wJ_MO_legal_400 (G : Gx) (l : Launch) (d w : Nat) (P : Int32 → Hp → Prop) (C360 : Int32 → Int32 → Hp → Prop) (q0 : Nat) (y1 : Int64) (x3 : Int32) (x4 : Int32) (x5 : Int32) (x6 : Int32) (x7 : Int32) (x8 : Int32) (x9 : Int32) (h : Hp)  : Prop := wJ_MO_legal_401 G l d w P C360 q0 y1 x3 x4 x5 x6 x7 x8 x9 0 h
set_option maxRecDepth 100000 in
set_option maxHeartbeats 4000000 in
theorem okJ_MO_legal_400 {G : Gx} {l : Launch} {d w : Nat} {P : Int32 → Hp → Prop} {p : Program} {e : Env} {s : State} {m : MethodId} {args : Array Value} {below : List Frame} {meth : Method} {c : Code} {C360 : Int32 → Int32 → Hp → Prop} {q0 : Nat} {y1 : Int64} {x3 : Int32} {x4 : Int32} {x5 : Int32} {x6 : Int32} {x7 : Int32} {x8 : Int32} {x9 : Int32} (hC360 : ∀ (x8 : Int32) (x9 : Int32) (h : Hp), C360 x8 x9 h → Go M_MO_legal (mkX G (fun r h' => ∃ x, r = some (.int x) ∧ P x h') (d + 4) (w + 102) 0 0 p l e s m args below meth c) 360 [some (.ref q0), some (.long y1), none, some (.int x3), some (.int x4), some (.int x5), some (.int x6), some (.int x7), some (.int x8), some (.int x9)] [] h 0 0) {h : Hp}  (H : wJ_MO_legal_400 G l d w P C360 q0 y1 x3 x4 x5 x6 x7 x8 x9 h ) : Go M_MO_legal (mkX G (fun r h' => ∃ x, r = some (.int x) ∧ P x h') (d + 4) (w + 102) 0 0 p l e s m args below meth c) 400 [some (.ref q0), some (.long y1), none, some (.int x3), some (.int x4), some (.int x5), some (.int x6), some (.int x7), some (.int x8), some (.int x9)] [] h 0 0 := by
  unfold wJ_MO_legal_400 at H
  refine g_iconst (v := 0) d_MO_legal_400 (by decide) ?_
  refine g_msk [true, true, false, true, true, true, true, true, true, true] ?_
  exact okJ_MO_legal_401 hC360 H
set_option maxRecDepth 100000 in
set_option maxHeartbeats 4000000 in
def wB_MO_legal_360 (G : Gx) (l : Launch) (d w : Nat) (P : Int32 → Hp → Prop) (C360 : Int32 → Int32 → Hp → Prop) (q0 : Nat) (y1 : Int64) (x3 : Int32) (x4 : Int32) (x5 : Int32) (x6 : Int32) (x7 : Int32) (x8 : Int32) (x9 : Int32) (h : Hp)  : Prop := (x6 ≤ x9 → (x8 = 0 → wJ_MO_legal_419 G l d w P q0 y1 x3 x4 x5 x6 x7 x8 x9 (-1) h) ∧ (¬ x8 = 0 → wJ_MO_legal_419 G l d w P q0 y1 x3 x4 x5 x6 x7 x8 x9 x3 h)) ∧ (¬ x6 ≤ x9 → (x8 = 0 → wJ_MO_legal_400 G l d w P C360 q0 y1 x3 x4 x5 x6 x7 x8 x9 h) ∧ (¬ x8 = 0 → (hS h q0 = some (18, 0)) ∧ (∃ q_6 : Nat, (hR h q0 12) = some q_6 ∧ (∃ N_8 : Nat, ∃ j_9 : Nat, (hS h q_6 = some (0, N_8) ∧ x9 = nI j_9 ∧ j_9 < N_8 ∧ j_9 < 2147483648) ∧ (∃ q_11 : Nat, (hR h q0 13) = some q_11 ∧ (∃ N_13 : Nat, ∃ j_14 : Nat, (hS h q_11 = some (0, N_13) ∧ ((160 * x7) + x9) = nI j_14 ∧ j_14 < N_13 ∧ j_14 < 2147483648) ∧ ((¬ (hI h q_6 j_9) = (hI h q_11 j_14) → wJ_MO_legal_400 G l d w P C360 q0 y1 x3 x4 x5 x6 x7 x8 x9 h) ∧ ((hI h q_6 j_9) = (hI h q_11 j_14) → wJ_MO_legal_401 G l d w P C360 q0 y1 x3 x4 x5 x6 x7 x8 x9 1 h))))))))
set_option maxRecDepth 100000 in
set_option maxHeartbeats 4000000 in
theorem okB_MO_legal_360 {G : Gx} {l : Launch} {d w : Nat} {P : Int32 → Hp → Prop} {p : Program} {e : Env} {s : State} {m : MethodId} {args : Array Value} {below : List Frame} {meth : Method} {c : Code} {C360 : Int32 → Int32 → Hp → Prop} {q0 : Nat} {y1 : Int64} {x3 : Int32} {x4 : Int32} {x5 : Int32} {x6 : Int32} {x7 : Int32} {x8 : Int32} {x9 : Int32} (hC360 : ∀ (x8 : Int32) (x9 : Int32) (h : Hp), C360 x8 x9 h → Go M_MO_legal (mkX G (fun r h' => ∃ x, r = some (.int x) ∧ P x h') (d + 4) (w + 102) 0 0 p l e s m args below meth c) 360 [some (.ref q0), some (.long y1), none, some (.int x3), some (.int x4), some (.int x5), some (.int x6), some (.int x7), some (.int x8), some (.int x9)] [] h 0 0) {h : Hp}  (H : wB_MO_legal_360 G l d w P C360 q0 y1 x3 x4 x5 x6 x7 x8 x9 h ) : Go M_MO_legal (mkX G (fun r h' => ∃ x, r = some (.int x) ∧ P x h') (d + 4) (w + 102) 0 0 p l e s m args below meth c) 360 [some (.ref q0), some (.long y1), none, some (.int x3), some (.int x4), some (.int x5), some (.int x6), some (.int x7), some (.int x8), some (.int x9)] [] h 0 0 := by
  unfold wB_MO_legal_360 at H
  refine g_iload d_MO_legal_360 rfl ?_
  refine g_iload d_MO_legal_362 rfl ?_
  obtain ⟨H1, H2⟩ := H
  refine g_icmp_ge (tgt := 409) d_MO_legal_364 (by decide) (fun c_2 => ?_) (fun c_2 => ?_)
  · have H := H1 c_2
    refine g_iload d_MO_legal_409 rfl ?_
    obtain ⟨H1, H2⟩ := H
    refine g_if_eq (tgt := 418) d_MO_legal_411 (by decide) (fun c_3 => ?_) (fun c_3 => ?_)
    · have H := H1 c_3
      refine g_iconst (v := (-1)) d_MO_legal_418 (by decide) ?_
      refine g_msk [true, true, false, true, true, true, true, true, true, true] ?_
      exact okJ_MO_legal_419 H
    · have H := H2 c_3
      refine g_iload_n d_MO_legal_414 rfl ?_
      refine g_goto (tgt := 419) d_MO_legal_415 (by decide) ?_
      refine g_msk [true, true, false, true, true, true, true, true, true, true] ?_
      exact okJ_MO_legal_419 H
  · have H := H2 c_2
    refine g_iload d_MO_legal_367 rfl ?_
    obtain ⟨H1, H2⟩ := H
    refine g_if_eq (tgt := 400) d_MO_legal_369 (by decide) (fun c_4 => ?_) (fun c_4 => ?_)
    · have H := H1 c_4
      refine g_msk [true, true, false, true, true, true, true, true, true, true] ?_
      exact okJ_MO_legal_400 hC360 H
    · have H := H2 c_4
      refine g_aload_n d_MO_legal_372 rfl ?_
      obtain ⟨z_5, H⟩ := H
      refine g_getR d_MO_legal_373 f_MO_39 z_5 (by decide) ?_
      refine g_iload d_MO_legal_376 rfl ?_
      obtain ⟨q_6, e_7, H⟩ := H
      show Go _ _ _ [some (.ref q0), some (.long y1), none, some (.int x3), some (.int x4), some (.int x5), some (.int x6), some (.int x7), some (.int x8), some (.int x9)] [.int x9, va_rf (hR h q0 12)] _ _ _
      rw [show va_rf (hR h q0 12) = Value.ref q_6 from by rw [e_7]; rfl]
      obtain ⟨N_8, H⟩ := H
      obtain ⟨j_9, H⟩ := H
      obtain ⟨z_10, H⟩ := H
      refine g_iald d_MO_legal_378 z_10.1 z_10.2.1 z_10.2.2.1 z_10.2.2.2 ?_
      refine g_aload_n d_MO_legal_379 rfl ?_
      refine g_getR d_MO_legal_380 f_MO_42 z_5 (by decide) ?_
      refine g_sipush (v := 160) d_MO_legal_383 (by decide) ?_
      refine g_iload d_MO_legal_386 rfl ?_
      refine g_imul d_MO_legal_388 ?_
      refine g_iload d_MO_legal_389 rfl ?_
      refine g_iadd d_MO_legal_391 ?_
      obtain ⟨q_11, e_12, H⟩ := H
      show Go _ _ _ [some (.ref q0), some (.long y1), none, some (.int x3), some (.int x4), some (.int x5), some (.int x6), some (.int x7), some (.int x8), some (.int x9)] [.int ((160 * x7) + x9), va_rf (hR h q0 13), .int (hI h q_6 j_9)] _ _ _
      rw [show va_rf (hR h q0 13) = Value.ref q_11 from by rw [e_12]; rfl]
      obtain ⟨N_13, H⟩ := H
      obtain ⟨j_14, H⟩ := H
      obtain ⟨z_15, H⟩ := H
      refine g_iald d_MO_legal_392 z_15.1 z_15.2.1 z_15.2.2.1 z_15.2.2.2 ?_
      obtain ⟨H1, H2⟩ := H
      refine g_icmp_ne (tgt := 400) d_MO_legal_393 (by decide) (fun c_16 => ?_) (fun c_16 => ?_)
      · have H := H1 c_16
        refine g_msk [true, true, false, true, true, true, true, true, true, true] ?_
        exact okJ_MO_legal_400 hC360 H
      · have H := H2 c_16
        refine g_iconst (v := 1) d_MO_legal_396 (by decide) ?_
        refine g_goto (tgt := 401) d_MO_legal_397 (by decide) ?_
        refine g_msk [true, true, false, true, true, true, true, true, true, true] ?_
        exact okJ_MO_legal_401 hC360 H
set_option maxRecDepth 100000 in
set_option maxHeartbeats 4000000 in
def wL_MO_legal_360 (G : Gx) (l : Launch) (d w : Nat) (P : Int32 → Hp → Prop) (q0 : Nat) (y1 : Int64) (x3 : Int32) (x4 : Int32) (x5 : Int32) (x6 : Int32) (x7 : Int32) (x8 : Int32) (x9 : Int32) (h : Hp)  : Prop := ∃ (I : Int32 → Int32 → Hp → Prop) (μ : Int32 → Int32 → Hp → Nat), I x8 x9 h ∧ ∀ (x8' : Int32) (x9' : Int32) (h' : Hp), I x8' x9' h' → wB_MO_legal_360 G l d w P (fun x8_ x9_ h_ => I x8_ x9_ h_ ∧ μ x8_ x9_ h_ < μ x8' x9' h') q0 y1 x3 x4 x5 x6 x7 x8' x9' h'
set_option maxRecDepth 100000 in
set_option maxHeartbeats 4000000 in
theorem okL_MO_legal_360 {G : Gx} {l : Launch} {d w : Nat} {P : Int32 → Hp → Prop} {p : Program} {e : Env} {s : State} {m : MethodId} {args : Array Value} {below : List Frame} {meth : Method} {c : Code} {q0 : Nat} {y1 : Int64} {x3 : Int32} {x4 : Int32} {x5 : Int32} {x6 : Int32} {x7 : Int32} {x8 : Int32} {x9 : Int32} {h : Hp}  (H : wL_MO_legal_360 G l d w P  q0 y1 x3 x4 x5 x6 x7 x8 x9 h ) : Go M_MO_legal (mkX G (fun r h' => ∃ x, r = some (.int x) ∧ P x h') (d + 4) (w + 102) 0 0 p l e s m args below meth c) 360 [some (.ref q0), some (.long y1), none, some (.int x3), some (.int x4), some (.int x5), some (.int x6), some (.int x7), some (.int x8), some (.int x9)] [] h 0 0 := by
  obtain ⟨I, μ, h0, hs⟩ := H
  have key : ∀ (N : Nat) (x8 : Int32) (x9 : Int32) (h : Hp), I x8 x9 h → μ x8 x9 h < N → Go M_MO_legal (mkX G (fun r h' => ∃ x, r = some (.int x) ∧ P x h') (d + 4) (w + 102) 0 0 p l e s m args below meth c) 360 [some (.ref q0), some (.long y1), none, some (.int x3), some (.int x4), some (.int x5), some (.int x6), some (.int x7), some (.int x8), some (.int x9)] [] h 0 0 := by
    intro N
    induction N with
    | zero => intro x8 x9 h _ hN; exact absurd hN (Nat.not_lt_zero _)
    | succ N ih =>
      intro x8 x9 h hI hN
      exact okB_MO_legal_360 (fun x8_ x9_ h_ hh => ih x8_ x9_ h_ hh.1 (Nat.lt_of_lt_of_le hh.2 (Nat.le_of_lt_succ hN))) (hs x8 x9 h hI)
  exact key _ _ _ _ h0 (Nat.lt_succ_self _)
set_option maxRecDepth 100000 in
set_option maxHeartbeats 4000000 in
def wJ_MO_legal_355 (G : Gx) (l : Launch) (d w : Nat) (P : Int32 → Hp → Prop) (q0 : Nat) (y1 : Int64) (x3 : Int32) (x4 : Int32) (x5 : Int32) (x6 : Int32) (x7 : Int32) (sx0 : Int32) (h : Hp)  : Prop := wL_MO_legal_360 G l d w P q0 y1 x3 x4 x5 x6 x7 sx0 0 h
set_option maxRecDepth 100000 in
set_option maxHeartbeats 4000000 in
theorem okJ_MO_legal_355 {G : Gx} {l : Launch} {d w : Nat} {P : Int32 → Hp → Prop} {p : Program} {e : Env} {s : State} {m : MethodId} {args : Array Value} {below : List Frame} {meth : Method} {c : Code} {q0 : Nat} {y1 : Int64} {x3 : Int32} {x4 : Int32} {x5 : Int32} {x6 : Int32} {x7 : Int32} {sx0 : Int32} {h : Hp}  (H : wJ_MO_legal_355 G l d w P  q0 y1 x3 x4 x5 x6 x7 sx0 h ) : Go M_MO_legal (mkX G (fun r h' => ∃ x, r = some (.int x) ∧ P x h') (d + 4) (w + 102) 0 0 p l e s m args below meth c) 355 [some (.ref q0), some (.long y1), none, some (.int x3), some (.int x4), some (.int x5), some (.int x6), some (.int x7), none, none] [.int sx0] h 0 0 := by
  unfold wJ_MO_legal_355 at H
  refine g_istore (lv' := [some (.ref q0), some (.long y1), none, some (.int x3), some (.int x4), some (.int x5), some (.int x6), some (.int x7), some (.int sx0), none]) d_MO_legal_355 (by decide) rfl ?_
  refine g_iconst (v := 0) d_MO_legal_357 (by decide) ?_
  refine g_istore (lv' := [some (.ref q0), some (.long y1), none, some (.int x3), some (.int x4), some (.int x5), some (.int x6), some (.int x7), some (.int sx0), some (.int 0)]) d_MO_legal_358 (by decide) rfl ?_
  refine g_msk [true, true, false, true, true, true, true, true, true, true] ?_
  exact okL_MO_legal_360 H
set_option maxRecDepth 100000 in
set_option maxHeartbeats 4000000 in
def wJ_MO_legal_338 (G : Gx) (l : Launch) (d w : Nat) (P : Int32 → Hp → Prop) (q0 : Nat) (y1 : Int64) (x3 : Int32) (x4 : Int32) (x5 : Int32) (x6 : Int32) (x7 : Int32) (sx0 : Int32) (sx1 : Int32) (sx2 : Int32) (sx3 : Int32) (sx4 : Int32) (sx5 : Int32) (sy6 : Int64) (sx7 : Int32) (sx8 : Int32) (sq9 : Nat) (h : Hp)  : Prop := (hS h sq9 = some (18, 0)) ∧ (∃ P_18 : Hp → Prop, (Cv G l M_MO_putSubmit (d + 3) (w + 72) [.ref sq9, .int sx8, .int sx7, .long sy6, .int sx5, .int sx4, .int sx3, .int sx2, .int sx1, .int sx0] h 0 0 P_18) ∧ (∀ h_20 : Hp, P_18 h_20 → (hS h_20 q0 = some (18, 0)) ∧ ((¬ (hI h_20 q0 11) = x6 → wJ_MO_legal_355 G l d w P q0 y1 x3 x4 x5 x6 x7 0 h_20) ∧ ((hI h_20 q0 11) = x6 → wJ_MO_legal_355 G l d w P q0 y1 x3 x4 x5 x6 x7 1 h_20))))
set_option maxRecDepth 100000 in
set_option maxHeartbeats 4000000 in
theorem okJ_MO_legal_338 {G : Gx} {l : Launch} {d w : Nat} {P : Int32 → Hp → Prop} {p : Program} {e : Env} {s : State} {m : MethodId} {args : Array Value} {below : List Frame} {meth : Method} {c : Code} {q0 : Nat} {y1 : Int64} {x3 : Int32} {x4 : Int32} {x5 : Int32} {x6 : Int32} {x7 : Int32} {sx0 : Int32} {sx1 : Int32} {sx2 : Int32} {sx3 : Int32} {sx4 : Int32} {sx5 : Int32} {sy6 : Int64} {sx7 : Int32} {sx8 : Int32} {sq9 : Nat} {h : Hp}  (H : wJ_MO_legal_338 G l d w P  q0 y1 x3 x4 x5 x6 x7 sx0 sx1 sx2 sx3 sx4 sx5 sy6 sx7 sx8 sq9 h ) : Go M_MO_legal (mkX G (fun r h' => ∃ x, r = some (.int x) ∧ P x h') (d + 4) (w + 102) 0 0 p l e s m args below meth c) 338 [some (.ref q0), some (.long y1), none, some (.int x3), some (.int x4), some (.int x5), some (.int x6), some (.int x7), none, none] [.int sx0, .int sx1, .int sx2, .int sx3, .int sx4, .int sx5, .long sy6, .int sx7, .int sx8, .ref sq9] h 0 0 := by
  unfold wJ_MO_legal_338 at H
  obtain ⟨z_17, H⟩ := H
  obtain ⟨P_18, C_19, H⟩ := H
  refine q_V (As := [.int sx8, .int sx7, .long sy6, .int sx5, .int sx4, .int sx3, .int sx2, .int sx1, .int sx0]) (st := []) (nl := 11) d_MO_legal_338 v_MO_181 C_19 z_17 rfl (catS_le (Nat.le_of_ble_eq_true rfl)) rfl ⟨by omega, by omega, Nat.le_refl _, Nat.le_refl _⟩ (fun r_24 h_20 p_21 => ?_)
  obtain ⟨rfl, p_21⟩ := p_21
  replace H := H h_20 p_21
  show Go _ _ _ _ [] _ _ _
  refine g_aload_n d_MO_legal_341 rfl ?_
  obtain ⟨z_25, H⟩ := H
  refine g_getI d_MO_legal_342 f_MO_131 z_25 ?_
  refine g_iload d_MO_legal_345 rfl ?_
  obtain ⟨H1, H2⟩ := H
  refine g_icmp_ne (tgt := 354) d_MO_legal_347 (by decide) (fun c_26 => ?_) (fun c_26 => ?_)
  · have H := H1 c_26
    refine g_iconst (v := 0) d_MO_legal_354 (by decide) ?_
    refine g_msk [true, true, false, true, true, true, true, true, false, false] ?_
    exact okJ_MO_legal_355 H
  · have H := H2 c_26
    refine g_iconst (v := 1) d_MO_legal_350 (by decide) ?_
    refine g_goto (tgt := 355) d_MO_legal_351 (by decide) ?_
    refine g_msk [true, true, false, true, true, true, true, true, false, false] ?_
    exact okJ_MO_legal_355 H
set_option maxRecDepth 100000 in
set_option maxHeartbeats 4000000 in
def wJ_MO_legal_320 (G : Gx) (l : Launch) (d w : Nat) (P : Int32 → Hp → Prop) (q0 : Nat) (y1 : Int64) (x3 : Int32) (x4 : Int32) (x5 : Int32) (x6 : Int32) (x7 : Int32) (sx0 : Int32) (sx1 : Int32) (sx2 : Int32) (sx3 : Int32) (sx4 : Int32) (sy5 : Int64) (sx6 : Int32) (sx7 : Int32) (sq8 : Nat) (h : Hp)  : Prop := (x4 = 0 → wJ_MO_legal_338 G l d w P q0 y1 x3 x4 x5 x6 x7 0 sx0 sx1 sx2 sx3 sx4 sy5 sx6 sx7 sq8 h) ∧ (¬ x4 = 0 → (hS h q0 = some (18, 0)) ∧ (∃ q_29 : Nat, (hR h q0 12) = some q_29 ∧ (∃ N_31 : Nat, ∃ j_32 : Nat, (hS h q_29 = some (0, N_31) ∧ (x3 + 6) = nI j_32 ∧ j_32 < N_31 ∧ j_32 < 2147483648) ∧ (wJ_MO_legal_338 G l d w P q0 y1 x3 x4 x5 x6 x7 (hI h q_29 j_32) sx0 sx1 sx2 sx3 sx4 sy5 sx6 sx7 sq8 h))))
set_option maxRecDepth 100000 in
set_option maxHeartbeats 4000000 in
theorem okJ_MO_legal_320 {G : Gx} {l : Launch} {d w : Nat} {P : Int32 → Hp → Prop} {p : Program} {e : Env} {s : State} {m : MethodId} {args : Array Value} {below : List Frame} {meth : Method} {c : Code} {q0 : Nat} {y1 : Int64} {x3 : Int32} {x4 : Int32} {x5 : Int32} {x6 : Int32} {x7 : Int32} {sx0 : Int32} {sx1 : Int32} {sx2 : Int32} {sx3 : Int32} {sx4 : Int32} {sy5 : Int64} {sx6 : Int32} {sx7 : Int32} {sq8 : Nat} {h : Hp}  (H : wJ_MO_legal_320 G l d w P  q0 y1 x3 x4 x5 x6 x7 sx0 sx1 sx2 sx3 sx4 sy5 sx6 sx7 sq8 h ) : Go M_MO_legal (mkX G (fun r h' => ∃ x, r = some (.int x) ∧ P x h') (d + 4) (w + 102) 0 0 p l e s m args below meth c) 320 [some (.ref q0), some (.long y1), none, some (.int x3), some (.int x4), some (.int x5), some (.int x6), some (.int x7), none, none] [.int sx0, .int sx1, .int sx2, .int sx3, .int sx4, .long sy5, .int sx6, .int sx7, .ref sq8] h 0 0 := by
  unfold wJ_MO_legal_320 at H
  refine g_iload d_MO_legal_320 rfl ?_
  obtain ⟨H1, H2⟩ := H
  refine g_if_eq (tgt := 337) d_MO_legal_322 (by decide) (fun c_27 => ?_) (fun c_27 => ?_)
  · have H := H1 c_27
    refine g_iconst (v := 0) d_MO_legal_337 (by decide) ?_
    refine g_msk [true, true, false, true, true, true, true, true, false, false] ?_
    exact okJ_MO_legal_338 H
  · have H := H2 c_27
    refine g_aload_n d_MO_legal_325 rfl ?_
    obtain ⟨z_28, H⟩ := H
    refine g_getR d_MO_legal_326 f_MO_39 z_28 (by decide) ?_
    refine g_iload_n d_MO_legal_329 rfl ?_
    refine g_bipush (v := 6) d_MO_legal_330 (by decide) ?_
    refine g_iadd d_MO_legal_332 ?_
    obtain ⟨q_29, e_30, H⟩ := H
    show Go _ _ _ [some (.ref q0), some (.long y1), none, some (.int x3), some (.int x4), some (.int x5), some (.int x6), some (.int x7), none, none] [.int (x3 + 6), va_rf (hR h q0 12), .int sx0, .int sx1, .int sx2, .int sx3, .int sx4, .long sy5, .int sx6, .int sx7, .ref sq8] _ _ _
    rw [show va_rf (hR h q0 12) = Value.ref q_29 from by rw [e_30]; rfl]
    obtain ⟨N_31, H⟩ := H
    obtain ⟨j_32, H⟩ := H
    obtain ⟨z_33, H⟩ := H
    refine g_iald d_MO_legal_333 z_33.1 z_33.2.1 z_33.2.2.1 z_33.2.2.2 ?_
    refine g_goto (tgt := 338) d_MO_legal_334 (by decide) ?_
    refine g_msk [true, true, false, true, true, true, true, true, false, false] ?_
    exact okJ_MO_legal_338 H
set_option maxRecDepth 100000 in
set_option maxHeartbeats 4000000 in
def wJ_MO_legal_303 (G : Gx) (l : Launch) (d w : Nat) (P : Int32 → Hp → Prop) (q0 : Nat) (y1 : Int64) (x3 : Int32) (x4 : Int32) (x5 : Int32) (x6 : Int32) (x7 : Int32) (sx0 : Int32) (sx1 : Int32) (sx2 : Int32) (sx3 : Int32) (sy4 : Int64) (sx5 : Int32) (sx6 : Int32) (sq7 : Nat) (h : Hp)  : Prop := (x4 = 0 → wJ_MO_legal_320 G l d w P q0 y1 x3 x4 x5 x6 x7 0 sx0 sx1 sx2 sx3 sy4 sx5 sx6 sq7 h) ∧ (¬ x4 = 0 → (hS h q0 = some (18, 0)) ∧ (∃ q_36 : Nat, (hR h q0 12) = some q_36 ∧ (∃ N_38 : Nat, ∃ j_39 : Nat, (hS h q_36 = some (0, N_38) ∧ (x3 + 5) = nI j_39 ∧ j_39 < N_38 ∧ j_39 < 2147483648) ∧ (wJ_MO_legal_320 G l d w P q0 y1 x3 x4 x5 x6 x7 (hI h q_36 j_39) sx0 sx1 sx2 sx3 sy4 sx5 sx6 sq7 h))))
set_option maxRecDepth 100000 in
set_option maxHeartbeats 4000000 in
theorem okJ_MO_legal_303 {G : Gx} {l : Launch} {d w : Nat} {P : Int32 → Hp → Prop} {p : Program} {e : Env} {s : State} {m : MethodId} {args : Array Value} {below : List Frame} {meth : Method} {c : Code} {q0 : Nat} {y1 : Int64} {x3 : Int32} {x4 : Int32} {x5 : Int32} {x6 : Int32} {x7 : Int32} {sx0 : Int32} {sx1 : Int32} {sx2 : Int32} {sx3 : Int32} {sy4 : Int64} {sx5 : Int32} {sx6 : Int32} {sq7 : Nat} {h : Hp}  (H : wJ_MO_legal_303 G l d w P  q0 y1 x3 x4 x5 x6 x7 sx0 sx1 sx2 sx3 sy4 sx5 sx6 sq7 h ) : Go M_MO_legal (mkX G (fun r h' => ∃ x, r = some (.int x) ∧ P x h') (d + 4) (w + 102) 0 0 p l e s m args below meth c) 303 [some (.ref q0), some (.long y1), none, some (.int x3), some (.int x4), some (.int x5), some (.int x6), some (.int x7), none, none] [.int sx0, .int sx1, .int sx2, .int sx3, .long sy4, .int sx5, .int sx6, .ref sq7] h 0 0 := by
  unfold wJ_MO_legal_303 at H
  refine g_iload d_MO_legal_303 rfl ?_
  obtain ⟨H1, H2⟩ := H
  refine g_if_eq (tgt := 319) d_MO_legal_305 (by decide) (fun c_34 => ?_) (fun c_34 => ?_)
  · have H := H1 c_34
    refine g_iconst (v := 0) d_MO_legal_319 (by decide) ?_
    refine g_msk [true, true, false, true, true, true, true, true, false, false] ?_
    exact okJ_MO_legal_320 H
  · have H := H2 c_34
    refine g_aload_n d_MO_legal_308 rfl ?_
    obtain ⟨z_35, H⟩ := H
    refine g_getR d_MO_legal_309 f_MO_39 z_35 (by decide) ?_
    refine g_iload_n d_MO_legal_312 rfl ?_
    refine g_iconst (v := 5) d_MO_legal_313 (by decide) ?_
    refine g_iadd d_MO_legal_314 ?_
    obtain ⟨q_36, e_37, H⟩ := H
    show Go _ _ _ [some (.ref q0), some (.long y1), none, some (.int x3), some (.int x4), some (.int x5), some (.int x6), some (.int x7), none, none] [.int (x3 + 5), va_rf (hR h q0 12), .int sx0, .int sx1, .int sx2, .int sx3, .long sy4, .int sx5, .int sx6, .ref sq7] _ _ _
    rw [show va_rf (hR h q0 12) = Value.ref q_36 from by rw [e_37]; rfl]
    obtain ⟨N_38, H⟩ := H
    obtain ⟨j_39, H⟩ := H
    obtain ⟨z_40, H⟩ := H
    refine g_iald d_MO_legal_315 z_40.1 z_40.2.1 z_40.2.2.1 z_40.2.2.2 ?_
    refine g_goto (tgt := 320) d_MO_legal_316 (by decide) ?_
    refine g_msk [true, true, false, true, true, true, true, true, false, false] ?_
    exact okJ_MO_legal_320 H
set_option maxRecDepth 100000 in
set_option maxHeartbeats 4000000 in
def wJ_MO_legal_266 (G : Gx) (l : Launch) (d w : Nat) (P : Int32 → Hp → Prop) (q0 : Nat) (y1 : Int64) (x3 : Int32) (x4 : Int32) (x5 : Int32) (x6 : Int32) (x7 : Int32) (sx0 : Int32) (sq1 : Nat) (h : Hp)  : Prop := (hS h q0 = some (18, 0)) ∧ (∃ q_42 : Nat, (hR h q0 12) = some q_42 ∧ (∃ N_44 : Nat, ∃ j_45 : Nat, (hS h q_42 = some (0, N_44) ∧ 1 = nI j_45 ∧ j_45 < N_44 ∧ j_45 < 2147483648) ∧ (∃ q_47 : Nat, (hR h q0 12) = some q_47 ∧ (∃ N_49 : Nat, ∃ j_50 : Nat, (hS h q_47 = some (0, N_49) ∧ (x3 - 1) = nI j_50 ∧ j_50 < N_49 ∧ j_50 < 2147483648) ∧ ((x4 = 0 → wJ_MO_legal_303 G l d w P q0 y1 x3 x4 x5 x6 x7 (-1) (hI h q0 2) 0 (hI h q_47 j_50) y1 (hI h q_42 j_45) sx0 sq1 h) ∧ (¬ x4 = 0 → ∃ q_53 : Nat, (hR h q0 12) = some q_53 ∧ (∃ N_55 : Nat, ∃ j_56 : Nat, (hS h q_53 = some (0, N_55) ∧ (x3 + 4) = nI j_56 ∧ j_56 < N_55 ∧ j_56 < 2147483648) ∧ (wJ_MO_legal_303 G l d w P q0 y1 x3 x4 x5 x6 x7 (hI h q_53 j_56) (hI h q0 2) 0 (hI h q_47 j_50) y1 (hI h q_42 j_45) sx0 sq1 h))))))))
set_option maxRecDepth 100000 in
set_option maxHeartbeats 4000000 in
theorem okJ_MO_legal_266 {G : Gx} {l : Launch} {d w : Nat} {P : Int32 → Hp → Prop} {p : Program} {e : Env} {s : State} {m : MethodId} {args : Array Value} {below : List Frame} {meth : Method} {c : Code} {q0 : Nat} {y1 : Int64} {x3 : Int32} {x4 : Int32} {x5 : Int32} {x6 : Int32} {x7 : Int32} {sx0 : Int32} {sq1 : Nat} {h : Hp}  (H : wJ_MO_legal_266 G l d w P  q0 y1 x3 x4 x5 x6 x7 sx0 sq1 h ) : Go M_MO_legal (mkX G (fun r h' => ∃ x, r = some (.int x) ∧ P x h') (d + 4) (w + 102) 0 0 p l e s m args below meth c) 266 [some (.ref q0), some (.long y1), none, some (.int x3), some (.int x4), some (.int x5), some (.int x6), some (.int x7), none, none] [.int sx0, .ref sq1] h 0 0 := by
  unfold wJ_MO_legal_266 at H
  refine g_aload_n d_MO_legal_266 rfl ?_
  obtain ⟨z_41, H⟩ := H
  refine g_getR d_MO_legal_267 f_MO_39 z_41 (by decide) ?_
  refine g_iconst (v := 1) d_MO_legal_270 (by decide) ?_
  obtain ⟨q_42, e_43, H⟩ := H
  show Go _ _ _ [some (.ref q0), some (.long y1), none, some (.int x3), some (.int x4), some (.int x5), some (.int x6), some (.int x7), none, none] [.int 1, va_rf (hR h q0 12), .int sx0, .ref sq1] _ _ _
  rw [show va_rf (hR h q0 12) = Value.ref q_42 from by rw [e_43]; rfl]
  obtain ⟨N_44, H⟩ := H
  obtain ⟨j_45, H⟩ := H
  obtain ⟨z_46, H⟩ := H
  refine g_iald d_MO_legal_271 z_46.1 z_46.2.1 z_46.2.2.1 z_46.2.2.2 ?_
  refine g_lload_n d_MO_legal_272 rfl ?_
  refine g_aload_n d_MO_legal_273 rfl ?_
  refine g_getR d_MO_legal_274 f_MO_39 z_41 (by decide) ?_
  refine g_iload_n d_MO_legal_277 rfl ?_
  refine g_iconst (v := 1) d_MO_legal_278 (by decide) ?_
  refine g_isub d_MO_legal_279 ?_
  obtain ⟨q_47, e_48, H⟩ := H
  show Go _ _ _ [some (.ref q0), some (.long y1), none, some (.int x3), some (.int x4), some (.int x5), some (.int x6), some (.int x7), none, none] [.int (x3 - 1), va_rf (hR h q0 12), .long y1, .int (hI h q_42 j_45), .int sx0, .ref sq1] _ _ _
  rw [show va_rf (hR h q0 12) = Value.ref q_47 from by rw [e_48]; rfl]
  obtain ⟨N_49, H⟩ := H
  obtain ⟨j_50, H⟩ := H
  obtain ⟨z_51, H⟩ := H
  refine g_iald d_MO_legal_280 z_51.1 z_51.2.1 z_51.2.2.1 z_51.2.2.2 ?_
  refine g_iconst (v := 0) d_MO_legal_281 (by decide) ?_
  refine g_aload_n d_MO_legal_282 rfl ?_
  refine g_getI d_MO_legal_283 f_MO_124 z_41 ?_
  refine g_iload d_MO_legal_286 rfl ?_
  obtain ⟨H1, H2⟩ := H
  refine g_if_eq (tgt := 302) d_MO_legal_288 (by decide) (fun c_52 => ?_) (fun c_52 => ?_)
  · have H := H1 c_52
    refine g_iconst (v := (-1)) d_MO_legal_302 (by decide) ?_
    refine g_msk [true, true, false, true, true, true, true, true, false, false] ?_
    exact okJ_MO_legal_303 H
  · have H := H2 c_52
    refine g_aload_n d_MO_legal_291 rfl ?_
    refine g_getR d_MO_legal_292 f_MO_39 z_41 (by decide) ?_
    refine g_iload_n d_MO_legal_295 rfl ?_
    refine g_iconst (v := 4) d_MO_legal_296 (by decide) ?_
    refine g_iadd d_MO_legal_297 ?_
    obtain ⟨q_53, e_54, H⟩ := H
    show Go _ _ _ [some (.ref q0), some (.long y1), none, some (.int x3), some (.int x4), some (.int x5), some (.int x6), some (.int x7), none, none] [.int (x3 + 4), va_rf (hR h q0 12), .int (hI h q0 2), .int 0, .int (hI h q_47 j_50), .long y1, .int (hI h q_42 j_45), .int sx0, .ref sq1] _ _ _
    rw [show va_rf (hR h q0 12) = Value.ref q_53 from by rw [e_54]; rfl]
    obtain ⟨N_55, H⟩ := H
    obtain ⟨j_56, H⟩ := H
    obtain ⟨z_57, H⟩ := H
    refine g_iald d_MO_legal_298 z_57.1 z_57.2.1 z_57.2.2.1 z_57.2.2.2 ?_
    refine g_goto (tgt := 303) d_MO_legal_299 (by decide) ?_
    refine g_msk [true, true, false, true, true, true, true, true, false, false] ?_
    exact okJ_MO_legal_303 H
set_option maxRecDepth 100000 in
set_option maxHeartbeats 4000000 in
def wJ_MO_legal_234 (G : Gx) (l : Launch) (d w : Nat) (P : Int32 → Hp → Prop) (q0 : Nat) (y1 : Int64) (x3 : Int32) (x4 : Int32) (x5 : Int32) (h : Hp)  : Prop := P (-1) h
set_option maxRecDepth 100000 in
set_option maxHeartbeats 4000000 in
theorem okJ_MO_legal_234 {G : Gx} {l : Launch} {d w : Nat} {P : Int32 → Hp → Prop} {p : Program} {e : Env} {s : State} {m : MethodId} {args : Array Value} {below : List Frame} {meth : Method} {c : Code} {q0 : Nat} {y1 : Int64} {x3 : Int32} {x4 : Int32} {x5 : Int32} {h : Hp}  (H : wJ_MO_legal_234 G l d w P  q0 y1 x3 x4 x5 h ) : Go M_MO_legal (mkX G (fun r h' => ∃ x, r = some (.int x) ∧ P x h') (d + 4) (w + 102) 0 0 p l e s m args below meth c) 234 [some (.ref q0), some (.long y1), none, some (.int x3), some (.int x4), some (.int x5), none, none, none, none] [] h 0 0 := by
  unfold wJ_MO_legal_234 at H
  refine g_iconst (v := (-1)) d_MO_legal_234 (by decide) ?_
  exact g_ireturn d_MO_legal_235 rfl (Nat.le_refl _) (Nat.le_refl _) ⟨_, rfl, H⟩
set_option maxRecDepth 100000 in
set_option maxHeartbeats 4000000 in
def wJ_MO_legal_227 (G : Gx) (l : Launch) (d w : Nat) (P : Int32 → Hp → Prop) (q0 : Nat) (y1 : Int64) (x3 : Int32) (x4 : Int32) (x5 : Int32) (h : Hp)  : Prop := (hS h q0 = some (18, 0)) ∧ (∃ P_59 : Int32 → Hp → Prop, (Ci G l M_MO_areText (d + 1) (w + 20) [.ref q0] h 0 0 P_59) ∧ (∀ (x_63 : Int32) (h_61 : Hp), P_59 x_63 h_61 → (¬ x_63 = 0 → (hS h_61 q0 = some (18, 0)) ∧ (∀ x_68 : Int32, x_68 = (hI h_61 q0 11) → ∃ P_69 : Int32 → Hp → Prop, (Ci G l M_MO_baseOf (d + 0) (w + 0) [.int 0] h_61 0 0 P_69) ∧ (∀ (x_73 : Int32) (h_71 : Hp), P_69 x_73 h_71 → (hS h_71 q0 = some (18, 0)) ∧ (∃ q_77 : Nat, (hR h_71 q0 12) = some q_77 ∧ (∃ N_79 : Nat, ∃ j_80 : Nat, (hS h_71 q_77 = some (0, N_79) ∧ 0 = nI j_80 ∧ j_80 < N_79 ∧ j_80 < 2147483648) ∧ ((((hI h_71 q_77 j_80) &&& 32) = 0 → wJ_MO_legal_266 G l d w P q0 y1 x3 x4 x5 x_68 x_73 0 q0 h_71) ∧ (¬ ((hI h_71 q_77 j_80) &&& 32) = 0 → wJ_MO_legal_266 G l d w P q0 y1 x3 x4 x5 x_68 x_73 1 q0 h_71))))))) ∧ (x_63 = 0 → wJ_MO_legal_234 G l d w P q0 y1 x3 x4 x5 h_61)))
set_option maxRecDepth 100000 in
set_option maxHeartbeats 4000000 in
theorem okJ_MO_legal_227 {G : Gx} {l : Launch} {d w : Nat} {P : Int32 → Hp → Prop} {p : Program} {e : Env} {s : State} {m : MethodId} {args : Array Value} {below : List Frame} {meth : Method} {c : Code} {q0 : Nat} {y1 : Int64} {x3 : Int32} {x4 : Int32} {x5 : Int32} {h : Hp}  (H : wJ_MO_legal_227 G l d w P  q0 y1 x3 x4 x5 h ) : Go M_MO_legal (mkX G (fun r h' => ∃ x, r = some (.int x) ∧ P x h') (d + 4) (w + 102) 0 0 p l e s m args below meth c) 227 [some (.ref q0), some (.long y1), none, some (.int x3), some (.int x4), some (.int x5), none, none, none, none] [] h 0 0 := by
  unfold wJ_MO_legal_227 at H
  refine g_aload_n d_MO_legal_227 rfl ?_
  obtain ⟨z_58, H⟩ := H
  obtain ⟨P_59, C_60, H⟩ := H
  refine q_V (As := []) (st := []) (nl := 3) d_MO_legal_228 v_MO_177 C_60 z_58 rfl (catS_le (Nat.le_of_ble_eq_true rfl)) rfl ⟨by omega, by omega, Nat.le_refl _, Nat.le_refl _⟩ (fun r_65 h_61 p_62 => ?_)
  obtain ⟨x_63, rfl, p_62⟩ := p_62
  replace H := H x_63 h_61 p_62
  show Go _ _ _ _ [.int x_63] _ _ _
  obtain ⟨H1, H2⟩ := H
  refine g_if_ne (tgt := 236) d_MO_legal_231 (by decide) (fun c_66 => ?_) (fun c_66 => ?_)
  · have H := H1 c_66
    refine g_aload_n d_MO_legal_236 rfl ?_
    obtain ⟨z_67, H⟩ := H
    refine g_getI d_MO_legal_237 f_MO_131 z_67 ?_
    refine g_topi (fun x_68 ex_68 => ?_)
    replace H := H x_68 ex_68
    refine g_istore (lv' := [some (.ref q0), some (.long y1), none, some (.int x3), some (.int x4), some (.int x5), some (.int x_68), none, none, none]) d_MO_legal_240 (by decide) rfl ?_
    refine g_iconst (v := 0) d_MO_legal_242 (by decide) ?_
    obtain ⟨P_69, C_70, H⟩ := H
    refine q_S (As := [.int 0]) (st := []) (nl := 1) d_MO_legal_243 v_MO_159 C_70 rfl (catS_le (Nat.le_of_ble_eq_true rfl)) rfl ⟨by omega, by omega, Nat.le_refl _, Nat.le_refl _⟩ (fun r_75 h_71 p_72 => ?_)
    obtain ⟨x_73, rfl, p_72⟩ := p_72
    replace H := H x_73 h_71 p_72
    show Go _ _ _ _ [.int x_73] _ _ _
    refine g_istore (lv' := [some (.ref q0), some (.long y1), none, some (.int x3), some (.int x4), some (.int x5), some (.int x_68), some (.int x_73), none, none]) d_MO_legal_246 (by decide) rfl ?_
    refine g_aload_n d_MO_legal_248 rfl ?_
    refine g_aload_n d_MO_legal_249 rfl ?_
    obtain ⟨z_76, H⟩ := H
    refine g_getR d_MO_legal_250 f_MO_39 z_76 (by decide) ?_
    refine g_iconst (v := 0) d_MO_legal_253 (by decide) ?_
    obtain ⟨q_77, e_78, H⟩ := H
    show Go _ _ _ [some (.ref q0), some (.long y1), none, some (.int x3), some (.int x4), some (.int x5), some (.int x_68), some (.int x_73), none, none] [.int 0, va_rf (hR h_71 q0 12), .ref q0] _ _ _
    rw [show va_rf (hR h_71 q0 12) = Value.ref q_77 from by rw [e_78]; rfl]
    obtain ⟨N_79, H⟩ := H
    obtain ⟨j_80, H⟩ := H
    obtain ⟨z_81, H⟩ := H
    refine g_iald d_MO_legal_254 z_81.1 z_81.2.1 z_81.2.2.1 z_81.2.2.2 ?_
    refine g_bipush (v := 32) d_MO_legal_255 (by decide) ?_
    refine g_iand d_MO_legal_257 ?_
    obtain ⟨H1, H2⟩ := H
    refine g_if_eq (tgt := 265) d_MO_legal_258 (by decide) (fun c_82 => ?_) (fun c_82 => ?_)
    · have H := H1 c_82
      refine g_iconst (v := 0) d_MO_legal_265 (by decide) ?_
      refine g_msk [true, true, false, true, true, true, true, true, false, false] ?_
      exact okJ_MO_legal_266 H
    · have H := H2 c_82
      refine g_iconst (v := 1) d_MO_legal_261 (by decide) ?_
      refine g_goto (tgt := 266) d_MO_legal_262 (by decide) ?_
      refine g_msk [true, true, false, true, true, true, true, true, false, false] ?_
      exact okJ_MO_legal_266 H
  · have H := H2 c_66
    refine g_msk [true, true, false, true, true, true, false, false, false, false] ?_
    exact okJ_MO_legal_234 H
set_option maxRecDepth 100000 in
set_option maxHeartbeats 4000000 in
def wJ_MO_legal_208 (G : Gx) (l : Launch) (d w : Nat) (P : Int32 → Hp → Prop) (q0 : Nat) (y1 : Int64) (x3 : Int32) (x4 : Int32) (sx0 : Int32) (h : Hp)  : Prop := (hS h q0 = some (18, 0)) ∧ (∃ P_84 : Hp → Prop, (Cv G l M_MO_readSeptets (d + 1) (w + 22) [.ref q0, .int x3, .int x4] h 0 0 P_84) ∧ (∀ h_86 : Hp, P_84 h_86 → (x4 = 0 → wJ_MO_legal_227 G l d w P q0 y1 x3 x4 sx0 h_86) ∧ (¬ x4 = 0 → (sx0 = 0 → wJ_MO_legal_234 G l d w P q0 y1 x3 x4 sx0 h_86) ∧ (¬ sx0 = 0 → wJ_MO_legal_227 G l d w P q0 y1 x3 x4 sx0 h_86))))
set_option maxRecDepth 100000 in
set_option maxHeartbeats 4000000 in
theorem okJ_MO_legal_208 {G : Gx} {l : Launch} {d w : Nat} {P : Int32 → Hp → Prop} {p : Program} {e : Env} {s : State} {m : MethodId} {args : Array Value} {below : List Frame} {meth : Method} {c : Code} {q0 : Nat} {y1 : Int64} {x3 : Int32} {x4 : Int32} {sx0 : Int32} {h : Hp}  (H : wJ_MO_legal_208 G l d w P  q0 y1 x3 x4 sx0 h ) : Go M_MO_legal (mkX G (fun r h' => ∃ x, r = some (.int x) ∧ P x h') (d + 4) (w + 102) 0 0 p l e s m args below meth c) 208 [some (.ref q0), some (.long y1), none, some (.int x3), some (.int x4), none, none, none, none, none] [.int sx0] h 0 0 := by
  unfold wJ_MO_legal_208 at H
  refine g_istore (lv' := [some (.ref q0), some (.long y1), none, some (.int x3), some (.int x4), some (.int sx0), none, none, none, none]) d_MO_legal_208 (by decide) rfl ?_
  refine g_aload_n d_MO_legal_210 rfl ?_
  refine g_iload_n d_MO_legal_211 rfl ?_
  refine g_iload d_MO_legal_212 rfl ?_
  obtain ⟨z_83, H⟩ := H
  obtain ⟨P_84, C_85, H⟩ := H
  refine q_V (As := [.int x3, .int x4]) (st := []) (nl := 6) d_MO_legal_214 v_MO_173 C_85 z_83 rfl (catS_le (Nat.le_of_ble_eq_true rfl)) rfl ⟨by omega, by omega, Nat.le_refl _, Nat.le_refl _⟩ (fun r_90 h_86 p_87 => ?_)
  obtain ⟨rfl, p_87⟩ := p_87
  replace H := H h_86 p_87
  show Go _ _ _ _ [] _ _ _
  refine g_iload d_MO_legal_217 rfl ?_
  obtain ⟨H1, H2⟩ := H
  refine g_if_eq (tgt := 227) d_MO_legal_219 (by decide) (fun c_91 => ?_) (fun c_91 => ?_)
  · have H := H1 c_91
    refine g_msk [true, true, false, true, true, true, false, false, false, false] ?_
    exact okJ_MO_legal_227 H
  · have H := H2 c_91
    refine g_iload d_MO_legal_222 rfl ?_
    obtain ⟨H1, H2⟩ := H
    refine g_if_eq (tgt := 234) d_MO_legal_224 (by decide) (fun c_92 => ?_) (fun c_92 => ?_)
    · have H := H1 c_92
      refine g_msk [true, true, false, true, true, true, false, false, false, false] ?_
      exact okJ_MO_legal_234 H
    · have H := H2 c_92
      refine g_msk [true, true, false, true, true, true, false, false, false, false] ?_
      exact okJ_MO_legal_227 H
set_option maxRecDepth 100000 in
set_option maxHeartbeats 4000000 in
def wJ_MO_legal_207 (G : Gx) (l : Launch) (d w : Nat) (P : Int32 → Hp → Prop) (q0 : Nat) (y1 : Int64) (x3 : Int32) (x4 : Int32) (h : Hp)  : Prop := wJ_MO_legal_208 G l d w P q0 y1 x3 x4 0 h
set_option maxRecDepth 100000 in
set_option maxHeartbeats 4000000 in
theorem okJ_MO_legal_207 {G : Gx} {l : Launch} {d w : Nat} {P : Int32 → Hp → Prop} {p : Program} {e : Env} {s : State} {m : MethodId} {args : Array Value} {below : List Frame} {meth : Method} {c : Code} {q0 : Nat} {y1 : Int64} {x3 : Int32} {x4 : Int32} {h : Hp}  (H : wJ_MO_legal_207 G l d w P  q0 y1 x3 x4 h ) : Go M_MO_legal (mkX G (fun r h' => ∃ x, r = some (.int x) ∧ P x h') (d + 4) (w + 102) 0 0 p l e s m args below meth c) 207 [some (.ref q0), some (.long y1), none, some (.int x3), some (.int x4), none, none, none, none, none] [] h 0 0 := by
  unfold wJ_MO_legal_207 at H
  refine g_iconst (v := 0) d_MO_legal_207 (by decide) ?_
  refine g_msk [true, true, false, true, true, false, false, false, false, false] ?_
  exact okJ_MO_legal_208 H
set_option maxRecDepth 100000 in
set_option maxHeartbeats 4000000 in
def wJ_MO_legal_139 (G : Gx) (l : Launch) (d w : Nat) (P : Int32 → Hp → Prop) (q0 : Nat) (y1 : Int64) (x3 : Int32) (x4 : Int32) (h : Hp)  : Prop := P (-1) h
set_option maxRecDepth 100000 in
set_option maxHeartbeats 4000000 in
theorem okJ_MO_legal_139 {G : Gx} {l : Launch} {d w : Nat} {P : Int32 → Hp → Prop} {p : Program} {e : Env} {s : State} {m : MethodId} {args : Array Value} {below : List Frame} {meth : Method} {c : Code} {q0 : Nat} {y1 : Int64} {x3 : Int32} {x4 : Int32} {h : Hp}  (H : wJ_MO_legal_139 G l d w P  q0 y1 x3 x4 h ) : Go M_MO_legal (mkX G (fun r h' => ∃ x, r = some (.int x) ∧ P x h') (d + 4) (w + 102) 0 0 p l e s m args below meth c) 139 [some (.ref q0), some (.long y1), none, some (.int x3), some (.int x4), none, none, none, none, none] [] h 0 0 := by
  unfold wJ_MO_legal_139 at H
  refine g_iconst (v := (-1)) d_MO_legal_139 (by decide) ?_
  exact g_ireturn d_MO_legal_140 rfl (Nat.le_refl _) (Nat.le_refl _) ⟨_, rfl, H⟩
set_option maxRecDepth 100000 in
set_option maxHeartbeats 4000000 in
def wJ_MO_legal_125 (G : Gx) (l : Launch) (d w : Nat) (P : Int32 → Hp → Prop) (q0 : Nat) (y1 : Int64) (x3 : Int32) (x4 : Int32) (h : Hp)  : Prop := (hS h q0 = some (18, 0)) ∧ (∃ q_94 : Nat, (hR h q0 12) = some q_94 ∧ (∃ N_96 : Nat, ∃ j_97 : Nat, (hS h q_94 = some (0, N_96) ∧ (x3 - 1) = nI j_97 ∧ j_97 < N_96 ∧ j_97 < 2147483648) ∧ (((hI h q_94 j_97) ≤ 143 → (x4 = 0 → wJ_MO_legal_207 G l d w P q0 y1 x3 x4 h) ∧ (¬ x4 = 0 → ∃ q_101 : Nat, (hR h q0 12) = some q_101 ∧ (∃ N_103 : Nat, ∃ j_104 : Nat, (hS h q_101 = some (0, N_103) ∧ (x3 + 5) = nI j_104 ∧ j_104 < N_103 ∧ j_104 < 2147483648) ∧ (((hI h q_101 j_104) < 1 → wJ_MO_legal_207 G l d w P q0 y1 x3 x4 h) ∧ (¬ (hI h q_101 j_104) < 1 → ∃ q_107 : Nat, (hR h q0 12) = some q_107 ∧ (∃ N_109 : Nat, ∃ j_110 : Nat, (hS h q_107 = some (0, N_109) ∧ (x3 + 5) = nI j_110 ∧ j_110 < N_109 ∧ j_110 < 2147483648) ∧ ((3 < (hI h q_107 j_110) → wJ_MO_legal_207 G l d w P q0 y1 x3 x4 h) ∧ (¬ 3 < (hI h q_107 j_110) → ∃ q_113 : Nat, (hR h q0 12) = some q_113 ∧ (∃ N_115 : Nat, ∃ j_116 : Nat, (hS h q_113 = some (0, N_115) ∧ (x3 + 6) = nI j_116 ∧ j_116 < N_115 ∧ j_116 < 2147483648) ∧ (((hI h q_113 j_116) < 1 → wJ_MO_legal_207 G l d w P q0 y1 x3 x4 h) ∧ (¬ (hI h q_113 j_116) < 1 → ∃ q_119 : Nat, (hR h q0 12) = some q_119 ∧ (∃ N_121 : Nat, ∃ j_122 : Nat, (hS h q_119 = some (0, N_121) ∧ (x3 + 6) = nI j_122 ∧ j_122 < N_121 ∧ j_122 < 2147483648) ∧ (∃ q_124 : Nat, (hR h q0 12) = some q_124 ∧ (∃ N_126 : Nat, ∃ j_127 : Nat, (hS h q_124 = some (0, N_126) ∧ (x3 + 5) = nI j_127 ∧ j_127 < N_126 ∧ j_127 < 2147483648) ∧ (((hI h q_124 j_127) < (hI h q_119 j_122) → wJ_MO_legal_207 G l d w P q0 y1 x3 x4 h) ∧ (¬ (hI h q_124 j_127) < (hI h q_119 j_122) → wJ_MO_legal_208 G l d w P q0 y1 x3 x4 1 h)))))))))))))))) ∧ (¬ (hI h q_94 j_97) ≤ 143 → wJ_MO_legal_139 G l d w P q0 y1 x3 x4 h))))
set_option maxRecDepth 100000 in
set_option maxHeartbeats 4000000 in
theorem okJ_MO_legal_125 {G : Gx} {l : Launch} {d w : Nat} {P : Int32 → Hp → Prop} {p : Program} {e : Env} {s : State} {m : MethodId} {args : Array Value} {below : List Frame} {meth : Method} {c : Code} {q0 : Nat} {y1 : Int64} {x3 : Int32} {x4 : Int32} {h : Hp}  (H : wJ_MO_legal_125 G l d w P  q0 y1 x3 x4 h ) : Go M_MO_legal (mkX G (fun r h' => ∃ x, r = some (.int x) ∧ P x h') (d + 4) (w + 102) 0 0 p l e s m args below meth c) 125 [some (.ref q0), some (.long y1), none, some (.int x3), some (.int x4), none, none, none, none, none] [] h 0 0 := by
  unfold wJ_MO_legal_125 at H
  refine g_aload_n d_MO_legal_125 rfl ?_
  obtain ⟨z_93, H⟩ := H
  refine g_getR d_MO_legal_126 f_MO_39 z_93 (by decide) ?_
  refine g_iload_n d_MO_legal_129 rfl ?_
  refine g_iconst (v := 1) d_MO_legal_130 (by decide) ?_
  refine g_isub d_MO_legal_131 ?_
  obtain ⟨q_94, e_95, H⟩ := H
  show Go _ _ _ [some (.ref q0), some (.long y1), none, some (.int x3), some (.int x4), none, none, none, none, none] [.int (x3 - 1), va_rf (hR h q0 12)] _ _ _
  rw [show va_rf (hR h q0 12) = Value.ref q_94 from by rw [e_95]; rfl]
  obtain ⟨N_96, H⟩ := H
  obtain ⟨j_97, H⟩ := H
  obtain ⟨z_98, H⟩ := H
  refine g_iald d_MO_legal_132 z_98.1 z_98.2.1 z_98.2.2.1 z_98.2.2.2 ?_
  refine g_sipush (v := 143) d_MO_legal_133 (by decide) ?_
  obtain ⟨H1, H2⟩ := H
  refine g_icmp_le (tgt := 141) d_MO_legal_136 (by decide) (fun c_99 => ?_) (fun c_99 => ?_)
  · have H := H1 c_99
    refine g_iload d_MO_legal_141 rfl ?_
    obtain ⟨H1, H2⟩ := H
    refine g_if_eq (tgt := 207) d_MO_legal_143 (by decide) (fun c_100 => ?_) (fun c_100 => ?_)
    · have H := H1 c_100
      refine g_msk [true, true, false, true, true, false, false, false, false, false] ?_
      exact okJ_MO_legal_207 H
    · have H := H2 c_100
      refine g_aload_n d_MO_legal_146 rfl ?_
      refine g_getR d_MO_legal_147 f_MO_39 z_93 (by decide) ?_
      refine g_iload_n d_MO_legal_150 rfl ?_
      refine g_iconst (v := 5) d_MO_legal_151 (by decide) ?_
      refine g_iadd d_MO_legal_152 ?_
      obtain ⟨q_101, e_102, H⟩ := H
      show Go _ _ _ [some (.ref q0), some (.long y1), none, some (.int x3), some (.int x4), none, none, none, none, none] [.int (x3 + 5), va_rf (hR h q0 12)] _ _ _
      rw [show va_rf (hR h q0 12) = Value.ref q_101 from by rw [e_102]; rfl]
      obtain ⟨N_103, H⟩ := H
      obtain ⟨j_104, H⟩ := H
      obtain ⟨z_105, H⟩ := H
      refine g_iald d_MO_legal_153 z_105.1 z_105.2.1 z_105.2.2.1 z_105.2.2.2 ?_
      refine g_iconst (v := 1) d_MO_legal_154 (by decide) ?_
      obtain ⟨H1, H2⟩ := H
      refine g_icmp_lt (tgt := 207) d_MO_legal_155 (by decide) (fun c_106 => ?_) (fun c_106 => ?_)
      · have H := H1 c_106
        refine g_msk [true, true, false, true, true, false, false, false, false, false] ?_
        exact okJ_MO_legal_207 H
      · have H := H2 c_106
        refine g_aload_n d_MO_legal_158 rfl ?_
        refine g_getR d_MO_legal_159 f_MO_39 z_93 (by decide) ?_
        refine g_iload_n d_MO_legal_162 rfl ?_
        refine g_iconst (v := 5) d_MO_legal_163 (by decide) ?_
        refine g_iadd d_MO_legal_164 ?_
        obtain ⟨q_107, e_108, H⟩ := H
        show Go _ _ _ [some (.ref q0), some (.long y1), none, some (.int x3), some (.int x4), none, none, none, none, none] [.int (x3 + 5), va_rf (hR h q0 12)] _ _ _
        rw [show va_rf (hR h q0 12) = Value.ref q_107 from by rw [e_108]; rfl]
        obtain ⟨N_109, H⟩ := H
        obtain ⟨j_110, H⟩ := H
        obtain ⟨z_111, H⟩ := H
        refine g_iald d_MO_legal_165 z_111.1 z_111.2.1 z_111.2.2.1 z_111.2.2.2 ?_
        refine g_iconst (v := 3) d_MO_legal_166 (by decide) ?_
        obtain ⟨H1, H2⟩ := H
        refine g_icmp_gt (tgt := 207) d_MO_legal_167 (by decide) (fun c_112 => ?_) (fun c_112 => ?_)
        · have H := H1 c_112
          refine g_msk [true, true, false, true, true, false, false, false, false, false] ?_
          exact okJ_MO_legal_207 H
        · have H := H2 c_112
          refine g_aload_n d_MO_legal_170 rfl ?_
          refine g_getR d_MO_legal_171 f_MO_39 z_93 (by decide) ?_
          refine g_iload_n d_MO_legal_174 rfl ?_
          refine g_bipush (v := 6) d_MO_legal_175 (by decide) ?_
          refine g_iadd d_MO_legal_177 ?_
          obtain ⟨q_113, e_114, H⟩ := H
          show Go _ _ _ [some (.ref q0), some (.long y1), none, some (.int x3), some (.int x4), none, none, none, none, none] [.int (x3 + 6), va_rf (hR h q0 12)] _ _ _
          rw [show va_rf (hR h q0 12) = Value.ref q_113 from by rw [e_114]; rfl]
          obtain ⟨N_115, H⟩ := H
          obtain ⟨j_116, H⟩ := H
          obtain ⟨z_117, H⟩ := H
          refine g_iald d_MO_legal_178 z_117.1 z_117.2.1 z_117.2.2.1 z_117.2.2.2 ?_
          refine g_iconst (v := 1) d_MO_legal_179 (by decide) ?_
          obtain ⟨H1, H2⟩ := H
          refine g_icmp_lt (tgt := 207) d_MO_legal_180 (by decide) (fun c_118 => ?_) (fun c_118 => ?_)
          · have H := H1 c_118
            refine g_msk [true, true, false, true, true, false, false, false, false, false] ?_
            exact okJ_MO_legal_207 H
          · have H := H2 c_118
            refine g_aload_n d_MO_legal_183 rfl ?_
            refine g_getR d_MO_legal_184 f_MO_39 z_93 (by decide) ?_
            refine g_iload_n d_MO_legal_187 rfl ?_
            refine g_bipush (v := 6) d_MO_legal_188 (by decide) ?_
            refine g_iadd d_MO_legal_190 ?_
            obtain ⟨q_119, e_120, H⟩ := H
            show Go _ _ _ [some (.ref q0), some (.long y1), none, some (.int x3), some (.int x4), none, none, none, none, none] [.int (x3 + 6), va_rf (hR h q0 12)] _ _ _
            rw [show va_rf (hR h q0 12) = Value.ref q_119 from by rw [e_120]; rfl]
            obtain ⟨N_121, H⟩ := H
            obtain ⟨j_122, H⟩ := H
            obtain ⟨z_123, H⟩ := H
            refine g_iald d_MO_legal_191 z_123.1 z_123.2.1 z_123.2.2.1 z_123.2.2.2 ?_
            refine g_aload_n d_MO_legal_192 rfl ?_
            refine g_getR d_MO_legal_193 f_MO_39 z_93 (by decide) ?_
            refine g_iload_n d_MO_legal_196 rfl ?_
            refine g_iconst (v := 5) d_MO_legal_197 (by decide) ?_
            refine g_iadd d_MO_legal_198 ?_
            obtain ⟨q_124, e_125, H⟩ := H
            show Go _ _ _ [some (.ref q0), some (.long y1), none, some (.int x3), some (.int x4), none, none, none, none, none] [.int (x3 + 5), va_rf (hR h q0 12), .int (hI h q_119 j_122)] _ _ _
            rw [show va_rf (hR h q0 12) = Value.ref q_124 from by rw [e_125]; rfl]
            obtain ⟨N_126, H⟩ := H
            obtain ⟨j_127, H⟩ := H
            obtain ⟨z_128, H⟩ := H
            refine g_iald d_MO_legal_199 z_128.1 z_128.2.1 z_128.2.2.1 z_128.2.2.2 ?_
            obtain ⟨H1, H2⟩ := H
            refine g_icmp_gt (tgt := 207) d_MO_legal_200 (by decide) (fun c_129 => ?_) (fun c_129 => ?_)
            · have H := H1 c_129
              refine g_msk [true, true, false, true, true, false, false, false, false, false] ?_
              exact okJ_MO_legal_207 H
            · have H := H2 c_129
              refine g_iconst (v := 1) d_MO_legal_203 (by decide) ?_
              refine g_goto (tgt := 208) d_MO_legal_204 (by decide) ?_
              refine g_msk [true, true, false, true, true, false, false, false, false, false] ?_
              exact okJ_MO_legal_208 H
  · have H := H2 c_99
    refine g_msk [true, true, false, true, true, false, false, false, false, false] ?_
    exact okJ_MO_legal_139 H
set_option maxRecDepth 100000 in
set_option maxHeartbeats 4000000 in
def wJ_MO_legal_107 (G : Gx) (l : Launch) (d w : Nat) (P : Int32 → Hp → Prop) (q0 : Nat) (y1 : Int64) (x3 : Int32) (sx0 : Int32) (h : Hp)  : Prop := (sx0 = 0 → wJ_MO_legal_125 G l d w P q0 y1 x3 sx0 h) ∧ (¬ sx0 = 0 → (hS h q0 = some (18, 0)) ∧ (∃ q_132 : Nat, (hR h q0 12) = some q_132 ∧ (∃ N_134 : Nat, ∃ j_135 : Nat, (hS h q_132 = some (0, N_134) ∧ x3 = nI j_135 ∧ j_135 < N_134 ∧ j_135 < 2147483648) ∧ (((hI h q_132 j_135) < 7 → wJ_MO_legal_139 G l d w P q0 y1 x3 sx0 h) ∧ (¬ (hI h q_132 j_135) < 7 → wJ_MO_legal_125 G l d w P q0 y1 x3 sx0 h)))))
set_option maxRecDepth 100000 in
set_option maxHeartbeats 4000000 in
theorem okJ_MO_legal_107 {G : Gx} {l : Launch} {d w : Nat} {P : Int32 → Hp → Prop} {p : Program} {e : Env} {s : State} {m : MethodId} {args : Array Value} {below : List Frame} {meth : Method} {c : Code} {q0 : Nat} {y1 : Int64} {x3 : Int32} {sx0 : Int32} {h : Hp}  (H : wJ_MO_legal_107 G l d w P  q0 y1 x3 sx0 h ) : Go M_MO_legal (mkX G (fun r h' => ∃ x, r = some (.int x) ∧ P x h') (d + 4) (w + 102) 0 0 p l e s m args below meth c) 107 [some (.ref q0), some (.long y1), none, some (.int x3), none, none, none, none, none, none] [.int sx0] h 0 0 := by
  unfold wJ_MO_legal_107 at H
  refine g_istore (lv' := [some (.ref q0), some (.long y1), none, some (.int x3), some (.int sx0), none, none, none, none, none]) d_MO_legal_107 (by decide) rfl ?_
  refine g_iload d_MO_legal_109 rfl ?_
  obtain ⟨H1, H2⟩ := H
  refine g_if_eq (tgt := 125) d_MO_legal_111 (by decide) (fun c_130 => ?_) (fun c_130 => ?_)
  · have H := H1 c_130
    refine g_msk [true, true, false, true, true, false, false, false, false, false] ?_
    exact okJ_MO_legal_125 H
  · have H := H2 c_130
    refine g_aload_n d_MO_legal_114 rfl ?_
    obtain ⟨z_131, H⟩ := H
    refine g_getR d_MO_legal_115 f_MO_39 z_131 (by decide) ?_
    refine g_iload_n d_MO_legal_118 rfl ?_
    obtain ⟨q_132, e_133, H⟩ := H
    show Go _ _ _ [some (.ref q0), some (.long y1), none, some (.int x3), some (.int sx0), none, none, none, none, none] [.int x3, va_rf (hR h q0 12)] _ _ _
    rw [show va_rf (hR h q0 12) = Value.ref q_132 from by rw [e_133]; rfl]
    obtain ⟨N_134, H⟩ := H
    obtain ⟨j_135, H⟩ := H
    obtain ⟨z_136, H⟩ := H
    refine g_iald d_MO_legal_119 z_136.1 z_136.2.1 z_136.2.2.1 z_136.2.2.2 ?_
    refine g_bipush (v := 7) d_MO_legal_120 (by decide) ?_
    obtain ⟨H1, H2⟩ := H
    refine g_icmp_lt (tgt := 139) d_MO_legal_122 (by decide) (fun c_137 => ?_) (fun c_137 => ?_)
    · have H := H1 c_137
      refine g_msk [true, true, false, true, true, false, false, false, false, false] ?_
      exact okJ_MO_legal_139 H
    · have H := H2 c_137
      refine g_msk [true, true, false, true, true, false, false, false, false, false] ?_
      exact okJ_MO_legal_125 H
set_option maxRecDepth 100000 in
set_option maxHeartbeats 4000000 in
def wJ_MO_legal_41 (G : Gx) (l : Launch) (d w : Nat) (P : Int32 → Hp → Prop) (q0 : Nat) (y1 : Int64) (sx0 : Int32) (h : Hp)  : Prop := ((lg_cmp y1 0) = 0 → wJ_MO_legal_88 G l d w P q0 y1 sx0 h) ∧ (¬ (lg_cmp y1 0) = 0 → (hS h q0 = some (18, 0)) ∧ (((hI h q0 11) ≤ sx0 → wJ_MO_legal_88 G l d w P q0 y1 sx0 h) ∧ (¬ (hI h q0 11) ≤ sx0 → ∃ q_141 : Nat, (hR h q0 12) = some q_141 ∧ (∃ N_143 : Nat, ∃ j_144 : Nat, (hS h q_141 = some (0, N_143) ∧ sx0 = nI j_144 ∧ j_144 < N_143 ∧ j_144 < 2147483648) ∧ ((160 < (hI h q_141 j_144) → wJ_MO_legal_88 G l d w P q0 y1 sx0 h) ∧ (¬ 160 < (hI h q_141 j_144) → ∃ q_147 : Nat, (hR h q0 12) = some q_147 ∧ (∃ N_149 : Nat, ∃ j_150 : Nat, (hS h q_147 = some (0, N_149) ∧ sx0 = nI j_150 ∧ j_150 < N_149 ∧ j_150 < 2147483648) ∧ (∃ P_152 : Int32 → Hp → Prop, (Ci G l M_MO_bytesFor (d + 0) (w + 0) [.int (hI h q_147 j_150)] h 0 0 P_152) ∧ (∀ (x_156 : Int32) (h_154 : Hp), P_152 x_156 h_154 → (hS h_154 q0 = some (18, 0)) ∧ ((((sx0 + 1) + x_156) = (hI h_154 q0 11) → ∃ q_161 : Nat, (hR h_154 q0 12) = some q_161 ∧ (∃ N_163 : Nat, ∃ j_164 : Nat, (hS h_154 q_161 = some (0, N_163) ∧ 0 = nI j_164 ∧ j_164 < N_163 ∧ j_164 < 2147483648) ∧ ((((hI h_154 q_161 j_164) &&& 64) = 0 → wJ_MO_legal_107 G l d w P q0 y1 sx0 0 h_154) ∧ (¬ ((hI h_154 q_161 j_164) &&& 64) = 0 → wJ_MO_legal_107 G l d w P q0 y1 sx0 1 h_154)))) ∧ (¬ ((sx0 + 1) + x_156) = (hI h_154 q0 11) → wJ_MO_legal_88 G l d w P q0 y1 sx0 h_154)))))))))))
set_option maxRecDepth 100000 in
set_option maxHeartbeats 4000000 in
theorem okJ_MO_legal_41 {G : Gx} {l : Launch} {d w : Nat} {P : Int32 → Hp → Prop} {p : Program} {e : Env} {s : State} {m : MethodId} {args : Array Value} {below : List Frame} {meth : Method} {c : Code} {q0 : Nat} {y1 : Int64} {sx0 : Int32} {h : Hp}  (H : wJ_MO_legal_41 G l d w P  q0 y1 sx0 h ) : Go M_MO_legal (mkX G (fun r h' => ∃ x, r = some (.int x) ∧ P x h') (d + 4) (w + 102) 0 0 p l e s m args below meth c) 41 [some (.ref q0), some (.long y1), none, none, none, none, none, none, none, none] [.int sx0] h 0 0 := by
  unfold wJ_MO_legal_41 at H
  refine g_istore_n (lv' := [some (.ref q0), some (.long y1), none, some (.int sx0), none, none, none, none, none, none]) d_MO_legal_41 (by decide) rfl ?_
  refine g_lload_n d_MO_legal_42 rfl ?_
  refine g_lconst (v := 0) d_MO_legal_43 (by decide) ?_
  refine g_lcmp d_MO_legal_44 ?_
  obtain ⟨H1, H2⟩ := H
  refine g_if_eq (tgt := 88) d_MO_legal_45 (by decide) (fun c_138 => ?_) (fun c_138 => ?_)
  · have H := H1 c_138
    refine g_msk [true, true, false, true, false, false, false, false, false, false] ?_
    exact okJ_MO_legal_88 H
  · have H := H2 c_138
    refine g_iload_n d_MO_legal_48 rfl ?_
    refine g_aload_n d_MO_legal_49 rfl ?_
    obtain ⟨z_139, H⟩ := H
    refine g_getI d_MO_legal_50 f_MO_131 z_139 ?_
    obtain ⟨H1, H2⟩ := H
    refine g_icmp_ge (tgt := 88) d_MO_legal_53 (by decide) (fun c_140 => ?_) (fun c_140 => ?_)
    · have H := H1 c_140
      refine g_msk [true, true, false, true, false, false, false, false, false, false] ?_
      exact okJ_MO_legal_88 H
    · have H := H2 c_140
      refine g_aload_n d_MO_legal_56 rfl ?_
      refine g_getR d_MO_legal_57 f_MO_39 z_139 (by decide) ?_
      refine g_iload_n d_MO_legal_60 rfl ?_
      obtain ⟨q_141, e_142, H⟩ := H
      show Go _ _ _ [some (.ref q0), some (.long y1), none, some (.int sx0), none, none, none, none, none, none] [.int sx0, va_rf (hR h q0 12)] _ _ _
      rw [show va_rf (hR h q0 12) = Value.ref q_141 from by rw [e_142]; rfl]
      obtain ⟨N_143, H⟩ := H
      obtain ⟨j_144, H⟩ := H
      obtain ⟨z_145, H⟩ := H
      refine g_iald d_MO_legal_61 z_145.1 z_145.2.1 z_145.2.2.1 z_145.2.2.2 ?_
      refine g_sipush (v := 160) d_MO_legal_62 (by decide) ?_
      obtain ⟨H1, H2⟩ := H
      refine g_icmp_gt (tgt := 88) d_MO_legal_65 (by decide) (fun c_146 => ?_) (fun c_146 => ?_)
      · have H := H1 c_146
        refine g_msk [true, true, false, true, false, false, false, false, false, false] ?_
        exact okJ_MO_legal_88 H
      · have H := H2 c_146
        refine g_iload_n d_MO_legal_68 rfl ?_
        refine g_iconst (v := 1) d_MO_legal_69 (by decide) ?_
        refine g_iadd d_MO_legal_70 ?_
        refine g_aload_n d_MO_legal_71 rfl ?_
        refine g_getR d_MO_legal_72 f_MO_39 z_139 (by decide) ?_
        refine g_iload_n d_MO_legal_75 rfl ?_
        obtain ⟨q_147, e_148, H⟩ := H
        show Go _ _ _ [some (.ref q0), some (.long y1), none, some (.int sx0), none, none, none, none, none, none] [.int sx0, va_rf (hR h q0 12), .int (sx0 + 1)] _ _ _
        rw [show va_rf (hR h q0 12) = Value.ref q_147 from by rw [e_148]; rfl]
        obtain ⟨N_149, H⟩ := H
        obtain ⟨j_150, H⟩ := H
        obtain ⟨z_151, H⟩ := H
        refine g_iald d_MO_legal_76 z_151.1 z_151.2.1 z_151.2.2.1 z_151.2.2.2 ?_
        obtain ⟨P_152, C_153, H⟩ := H
        refine q_S (As := [.int (hI h q_147 j_150)]) (st := [.int (sx0 + 1)]) (nl := 1) d_MO_legal_77 v_MO_148 C_153 rfl (catS_le (Nat.le_of_ble_eq_true rfl)) rfl ⟨by omega, by omega, Nat.le_refl _, Nat.le_refl _⟩ (fun r_158 h_154 p_155 => ?_)
        obtain ⟨x_156, rfl, p_155⟩ := p_155
        replace H := H x_156 h_154 p_155
        show Go _ _ _ _ [.int x_156, .int (sx0 + 1)] _ _ _
        refine g_iadd d_MO_legal_80 ?_
        refine g_aload_n d_MO_legal_81 rfl ?_
        obtain ⟨z_159, H⟩ := H
        refine g_getI d_MO_legal_82 f_MO_131 z_159 ?_
        obtain ⟨H1, H2⟩ := H
        refine g_icmp_eq (tgt := 90) d_MO_legal_85 (by decide) (fun c_160 => ?_) (fun c_160 => ?_)
        · have H := H1 c_160
          refine g_aload_n d_MO_legal_90 rfl ?_
          refine g_getR d_MO_legal_91 f_MO_39 z_159 (by decide) ?_
          refine g_iconst (v := 0) d_MO_legal_94 (by decide) ?_
          obtain ⟨q_161, e_162, H⟩ := H
          show Go _ _ _ [some (.ref q0), some (.long y1), none, some (.int sx0), none, none, none, none, none, none] [.int 0, va_rf (hR h_154 q0 12)] _ _ _
          rw [show va_rf (hR h_154 q0 12) = Value.ref q_161 from by rw [e_162]; rfl]
          obtain ⟨N_163, H⟩ := H
          obtain ⟨j_164, H⟩ := H
          obtain ⟨z_165, H⟩ := H
          refine g_iald d_MO_legal_95 z_165.1 z_165.2.1 z_165.2.2.1 z_165.2.2.2 ?_
          refine g_bipush (v := 64) d_MO_legal_96 (by decide) ?_
          refine g_iand d_MO_legal_98 ?_
          obtain ⟨H1, H2⟩ := H
          refine g_if_eq (tgt := 106) d_MO_legal_99 (by decide) (fun c_166 => ?_) (fun c_166 => ?_)
          · have H := H1 c_166
            refine g_iconst (v := 0) d_MO_legal_106 (by decide) ?_
            refine g_msk [true, true, false, true, false, false, false, false, false, false] ?_
            exact okJ_MO_legal_107 H
          · have H := H2 c_166
            refine g_iconst (v := 1) d_MO_legal_102 (by decide) ?_
            refine g_goto (tgt := 107) d_MO_legal_103 (by decide) ?_
            refine g_msk [true, true, false, true, false, false, false, false, false, false] ?_
            exact okJ_MO_legal_107 H
        · have H := H2 c_160
          refine g_msk [true, true, false, true, false, false, false, false, false, false] ?_
          exact okJ_MO_legal_88 H
set_option maxRecDepth 100000 in
set_option maxHeartbeats 4000000 in
def wJ_MO_legal_17 (G : Gx) (l : Launch) (d w : Nat) (P : Int32 → Hp → Prop) (q0 : Nat) (sy0 : Int64) (h : Hp)  : Prop := (¬ (lg_cmp sy0 0) = 0 → (hS h q0 = some (18, 0)) ∧ (∃ q_169 : Nat, (hR h q0 12) = some q_169 ∧ (∃ N_171 : Nat, ∃ j_172 : Nat, (hS h q_169 = some (0, N_171) ∧ 2 = nI j_172 ∧ j_172 < N_171 ∧ j_172 < 2147483648) ∧ (wJ_MO_legal_41 G l d w P q0 sy0 (7 + (((hI h q_169 j_172) + 1) / 2)) h)))) ∧ ((lg_cmp sy0 0) = 0 → wJ_MO_legal_41 G l d w P q0 sy0 0 h)
set_option maxRecDepth 100000 in
set_option maxHeartbeats 4000000 in
theorem okJ_MO_legal_17 {G : Gx} {l : Launch} {d w : Nat} {P : Int32 → Hp → Prop} {p : Program} {e : Env} {s : State} {m : MethodId} {args : Array Value} {below : List Frame} {meth : Method} {c : Code} {q0 : Nat} {sy0 : Int64} {h : Hp}  (H : wJ_MO_legal_17 G l d w P  q0 sy0 h ) : Go M_MO_legal (mkX G (fun r h' => ∃ x, r = some (.int x) ∧ P x h') (d + 4) (w + 102) 0 0 p l e s m args below meth c) 17 [some (.ref q0), none, none, none, none, none, none, none, none, none] [.long sy0] h 0 0 := by
  unfold wJ_MO_legal_17 at H
  refine g_lstore_n (lv' := [some (.ref q0), some (.long sy0), none, none, none, none, none, none, none, none]) d_MO_legal_17 (by decide) rfl ?_
  refine g_lload_n d_MO_legal_18 rfl ?_
  refine g_lconst (v := 0) d_MO_legal_19 (by decide) ?_
  refine g_lcmp d_MO_legal_20 ?_
  obtain ⟨H1, H2⟩ := H
  refine g_if_ne (tgt := 28) d_MO_legal_21 (by decide) (fun c_167 => ?_) (fun c_167 => ?_)
  · have H := H1 c_167
    refine g_bipush (v := 7) d_MO_legal_28 (by decide) ?_
    refine g_aload_n d_MO_legal_30 rfl ?_
    obtain ⟨z_168, H⟩ := H
    refine g_getR d_MO_legal_31 f_MO_39 z_168 (by decide) ?_
    refine g_iconst (v := 2) d_MO_legal_34 (by decide) ?_
    obtain ⟨q_169, e_170, H⟩ := H
    show Go _ _ _ [some (.ref q0), some (.long sy0), none, none, none, none, none, none, none, none] [.int 2, va_rf (hR h q0 12), .int 7] _ _ _
    rw [show va_rf (hR h q0 12) = Value.ref q_169 from by rw [e_170]; rfl]
    obtain ⟨N_171, H⟩ := H
    obtain ⟨j_172, H⟩ := H
    obtain ⟨z_173, H⟩ := H
    refine g_iald d_MO_legal_35 z_173.1 z_173.2.1 z_173.2.2.1 z_173.2.2.2 ?_
    refine g_iconst (v := 1) d_MO_legal_36 (by decide) ?_
    refine g_iadd d_MO_legal_37 ?_
    refine g_iconst (v := 2) d_MO_legal_38 (by decide) ?_
    refine g_idiv d_MO_legal_39 (by decide) ?_
    refine g_iadd d_MO_legal_40 ?_
    refine g_msk [true, true, false, false, false, false, false, false, false, false] ?_
    exact okJ_MO_legal_41 H
  · have H := H2 c_167
    refine g_iconst (v := 0) d_MO_legal_24 (by decide) ?_
    refine g_goto (tgt := 41) d_MO_legal_25 (by decide) ?_
    refine g_msk [true, true, false, false, false, false, false, false, false, false] ?_
    exact okJ_MO_legal_41 H
set_option maxRecDepth 100000 in
set_option maxHeartbeats 4000000 in
def wp_MO_legal (G : Gx) (l : Launch) (d w : Nat) (P : Int32 → Hp → Prop) (q0 : Nat) (h : Hp) : Prop := (hS h q0 = some (18, 0)) ∧ ((3 ≤ (hI h q0 11) → ∃ P_176 : Int64 → Hp → Prop, (Cl G l M_MO_readNumber (d + 0) (w + 0) [.ref q0, .int 2] h 0 0 P_176) ∧ (∀ (y_180 : Int64) (h_178 : Hp), P_176 y_180 h_178 → wJ_MO_legal_17 G l d w P q0 y_180 h_178)) ∧ (¬ 3 ≤ (hI h q0 11) → wJ_MO_legal_17 G l d w P q0 0 h))
set_option maxRecDepth 100000 in
set_option maxHeartbeats 4000000 in
theorem ok_MO_legal {G : Gx} {l : Launch} {d w : Nat} {P : Int32 → Hp → Prop} {q0 : Nat} {h : Hp} (H : wp_MO_legal G l d w P q0 h) : Ci G l M_MO_legal (d + 4) (w + 102) [.ref q0] h 0 0 P := by
  unfold wp_MO_legal at H
  refine Ct.of (lv := [some (.ref q0), none, none, none, none, none, none, none, none, none]) (by decide) (Nat.le_of_ble_eq_true rfl) rfl (fun p e s m args below meth c => ?_)
  refine g_aload_n d_MO_legal_0 rfl ?_
  obtain ⟨z_174, H⟩ := H
  refine g_getI d_MO_legal_1 f_MO_131 z_174 ?_
  refine g_iconst (v := 3) d_MO_legal_4 (by decide) ?_
  obtain ⟨H1, H2⟩ := H
  refine g_icmp_ge (tgt := 12) d_MO_legal_5 (by decide) (fun c_175 => ?_) (fun c_175 => ?_)
  · have H := H1 c_175
    refine g_aload_n d_MO_legal_12 rfl ?_
    refine g_iconst (v := 2) d_MO_legal_13 (by decide) ?_
    obtain ⟨P_176, C_177, H⟩ := H
    refine q_V (As := [.int 2]) (st := []) (nl := 6) d_MO_legal_14 v_MO_170 C_177 z_174 rfl (catS_le (Nat.le_of_ble_eq_true rfl)) rfl ⟨by omega, by omega, Nat.le_refl _, Nat.le_refl _⟩ (fun r_182 h_178 p_179 => ?_)
    obtain ⟨y_180, rfl, p_179⟩ := p_179
    replace H := H y_180 h_178 p_179
    show Go _ _ _ _ [.long y_180] _ _ _
    refine g_msk [true, false, false, false, false, false, false, false, false, false] ?_
    exact okJ_MO_legal_17 H
  · have H := H2 c_175
    refine g_lconst (v := 0) d_MO_legal_8 (by decide) ?_
    refine g_goto (tgt := 17) d_MO_legal_9 (by decide) ?_
    refine g_msk [true, false, false, false, false, false, false, false, false, false] ?_
    exact okJ_MO_legal_17 H
set_option maxRecDepth 100000 in
set_option maxHeartbeats 4000000 in
def wJ_MO_isDevice_14 (G : Gx) (l : Launch) (d w : Nat) (P : Int32 → Hp → Prop) (x0 : Int32) (sx0 : Int32) (h : Hp)  : Prop := (sx0 = 0 ∨ sx0 = 1) ∧ (P sx0 h)
set_option maxRecDepth 100000 in
set_option maxHeartbeats 4000000 in
theorem okJ_MO_isDevice_14 {G : Gx} {l : Launch} {d w : Nat} {P : Int32 → Hp → Prop} {p : Program} {e : Env} {s : State} {m : MethodId} {args : Array Value} {below : List Frame} {meth : Method} {c : Code} {x0 : Int32} {sx0 : Int32} {h : Hp}  (H : wJ_MO_isDevice_14 G l d w P  x0 sx0 h ) : Go M_MO_isDevice (mkX G (fun r h' => ∃ x, r = some (.int x) ∧ P x h') (d + 0) (w + 0) 0 0 p l e s m args below meth c) 14 [some (.int x0)] [.int sx0] h 0 0 := by
  unfold wJ_MO_isDevice_14 at H
  obtain ⟨z_1, H⟩ := H
  exact g_zreturn d_MO_isDevice_14 rfl z_1 (Nat.le_refl _) (Nat.le_refl _) ⟨_, rfl, H⟩
set_option maxRecDepth 100000 in
set_option maxHeartbeats 4000000 in
def wJ_MO_isDevice_13 (G : Gx) (l : Launch) (d w : Nat) (P : Int32 → Hp → Prop) (x0 : Int32) (h : Hp)  : Prop := wJ_MO_isDevice_14 G l d w P x0 0 h
set_option maxRecDepth 100000 in
set_option maxHeartbeats 4000000 in
theorem okJ_MO_isDevice_13 {G : Gx} {l : Launch} {d w : Nat} {P : Int32 → Hp → Prop} {p : Program} {e : Env} {s : State} {m : MethodId} {args : Array Value} {below : List Frame} {meth : Method} {c : Code} {x0 : Int32} {h : Hp}  (H : wJ_MO_isDevice_13 G l d w P  x0 h ) : Go M_MO_isDevice (mkX G (fun r h' => ∃ x, r = some (.int x) ∧ P x h') (d + 0) (w + 0) 0 0 p l e s m args below meth c) 13 [some (.int x0)] [] h 0 0 := by
  unfold wJ_MO_isDevice_13 at H
  refine g_iconst (v := 0) d_MO_isDevice_13 (by decide) ?_
  refine g_msk [true] ?_
  exact okJ_MO_isDevice_14 H
set_option maxRecDepth 100000 in
set_option maxHeartbeats 4000000 in
def wp_MO_isDevice (G : Gx) (l : Launch) (d w : Nat) (P : Int32 → Hp → Prop) (x0 : Int32) (h : Hp) : Prop := (x0 < 0 → wJ_MO_isDevice_13 G l d w P x0 h) ∧ (¬ x0 < 0 → (4 ≤ x0 → wJ_MO_isDevice_13 G l d w P x0 h) ∧ (¬ 4 ≤ x0 → wJ_MO_isDevice_14 G l d w P x0 1 h))
set_option maxRecDepth 100000 in
set_option maxHeartbeats 4000000 in
theorem ok_MO_isDevice {G : Gx} {l : Launch} {d w : Nat} {P : Int32 → Hp → Prop} {x0 : Int32} {h : Hp} (H : wp_MO_isDevice G l d w P x0 h) : Ci G l M_MO_isDevice (d + 0) (w + 0) [.int x0] h 0 0 P := by
  unfold wp_MO_isDevice at H
  refine Ct.of (lv := [some (.int x0)]) (by decide) (Nat.le_of_ble_eq_true rfl) rfl (fun p e s m args below meth c => ?_)
  refine g_iload_n d_MO_isDevice_0 rfl ?_
  obtain ⟨H1, H2⟩ := H
  refine g_if_lt (tgt := 13) d_MO_isDevice_1 (by decide) (fun c_2 => ?_) (fun c_2 => ?_)
  · have H := H1 c_2
    refine g_msk [true] ?_
    exact okJ_MO_isDevice_13 H
  · have H := H2 c_2
    refine g_iload_n d_MO_isDevice_4 rfl ?_
    refine g_iconst (v := 4) d_MO_isDevice_5 (by decide) ?_
    obtain ⟨H1, H2⟩ := H
    refine g_icmp_ge (tgt := 13) d_MO_isDevice_6 (by decide) (fun c_3 => ?_) (fun c_3 => ?_)
    · have H := H1 c_3
      refine g_msk [true] ?_
      exact okJ_MO_isDevice_13 H
    · have H := H2 c_3
      refine g_iconst (v := 1) d_MO_isDevice_9 (by decide) ?_
      refine g_goto (tgt := 14) d_MO_isDevice_10 (by decide) ?_
      refine g_msk [true] ?_
      exact okJ_MO_isDevice_14 H
set_option maxRecDepth 100000 in
set_option maxHeartbeats 4000000 in
def wJ_MO_isNumber_19 (G : Gx) (l : Launch) (d w : Nat) (P : Int32 → Hp → Prop) (y0 : Int64) (sx0 : Int32) (h : Hp)  : Prop := (sx0 = 0 ∨ sx0 = 1) ∧ (P sx0 h)
set_option maxRecDepth 100000 in
set_option maxHeartbeats 4000000 in
theorem okJ_MO_isNumber_19 {G : Gx} {l : Launch} {d w : Nat} {P : Int32 → Hp → Prop} {p : Program} {e : Env} {s : State} {m : MethodId} {args : Array Value} {below : List Frame} {meth : Method} {c : Code} {y0 : Int64} {sx0 : Int32} {h : Hp}  (H : wJ_MO_isNumber_19 G l d w P  y0 sx0 h ) : Go M_MO_isNumber (mkX G (fun r h' => ∃ x, r = some (.int x) ∧ P x h') (d + 0) (w + 0) 0 0 p l e s m args below meth c) 19 [some (.long y0), none] [.int sx0] h 0 0 := by
  unfold wJ_MO_isNumber_19 at H
  obtain ⟨z_1, H⟩ := H
  exact g_zreturn d_MO_isNumber_19 rfl z_1 (Nat.le_refl _) (Nat.le_refl _) ⟨_, rfl, H⟩
set_option maxRecDepth 100000 in
set_option maxHeartbeats 4000000 in
def wJ_MO_isNumber_18 (G : Gx) (l : Launch) (d w : Nat) (P : Int32 → Hp → Prop) (y0 : Int64) (h : Hp)  : Prop := wJ_MO_isNumber_19 G l d w P y0 0 h
set_option maxRecDepth 100000 in
set_option maxHeartbeats 4000000 in
theorem okJ_MO_isNumber_18 {G : Gx} {l : Launch} {d w : Nat} {P : Int32 → Hp → Prop} {p : Program} {e : Env} {s : State} {m : MethodId} {args : Array Value} {below : List Frame} {meth : Method} {c : Code} {y0 : Int64} {h : Hp}  (H : wJ_MO_isNumber_18 G l d w P  y0 h ) : Go M_MO_isNumber (mkX G (fun r h' => ∃ x, r = some (.int x) ∧ P x h') (d + 0) (w + 0) 0 0 p l e s m args below meth c) 18 [some (.long y0), none] [] h 0 0 := by
  unfold wJ_MO_isNumber_18 at H
  refine g_iconst (v := 0) d_MO_isNumber_18 (by decide) ?_
  refine g_msk [true, false] ?_
  exact okJ_MO_isNumber_19 H
set_option maxRecDepth 100000 in
set_option maxHeartbeats 4000000 in
def wp_MO_isNumber (G : Gx) (l : Launch) (d w : Nat) (P : Int32 → Hp → Prop) (y0 : Int64) (h : Hp) : Prop := ((lg_cmp y0 1) < 0 → wJ_MO_isNumber_18 G l d w P y0 h) ∧ (¬ (lg_cmp y0 1) < 0 → (0 < (lg_cmp y0 999999999999) → wJ_MO_isNumber_18 G l d w P y0 h) ∧ (¬ 0 < (lg_cmp y0 999999999999) → wJ_MO_isNumber_19 G l d w P y0 1 h))
set_option maxRecDepth 100000 in
set_option maxHeartbeats 4000000 in
theorem ok_MO_isNumber {G : Gx} {l : Launch} {d w : Nat} {P : Int32 → Hp → Prop} {y0 : Int64} {h : Hp} (H : wp_MO_isNumber G l d w P y0 h) : Ci G l M_MO_isNumber (d + 0) (w + 0) [.long y0] h 0 0 P := by
  unfold wp_MO_isNumber at H
  refine Ct.of (lv := [some (.long y0), none]) (by decide) (Nat.le_of_ble_eq_true rfl) rfl (fun p e s m args below meth c => ?_)
  refine g_lload_n d_MO_isNumber_0 rfl ?_
  refine g_lconst (v := 1) d_MO_isNumber_1 (by decide) ?_
  refine g_lcmp d_MO_isNumber_2 ?_
  obtain ⟨H1, H2⟩ := H
  refine g_if_lt (tgt := 18) d_MO_isNumber_3 (by decide) (fun c_2 => ?_) (fun c_2 => ?_)
  · have H := H1 c_2
    refine g_msk [true, false] ?_
    exact okJ_MO_isNumber_18 H
  · have H := H2 c_2
    refine g_lload_n d_MO_isNumber_6 rfl ?_
    refine g_ldc2 d_MO_isNumber_7 k_MO_185 ?_
    refine g_lcmp d_MO_isNumber_10 ?_
    obtain ⟨H1, H2⟩ := H
    refine g_if_gt (tgt := 18) d_MO_isNumber_11 (by decide) (fun c_3 => ?_) (fun c_3 => ?_)
    · have H := H1 c_3
      refine g_msk [true, false] ?_
      exact okJ_MO_isNumber_18 H
    · have H := H2 c_3
      refine g_iconst (v := 1) d_MO_isNumber_14 (by decide) ?_
      refine g_goto (tgt := 19) d_MO_isNumber_15 (by decide) ?_
      refine g_msk [true, false] ?_
      exact okJ_MO_isNumber_19 H
