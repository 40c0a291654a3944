set_option maxRecDepth 100000 in
set_option maxHeartbeats 4000000 in
def wJ_MO_register_14 (G : Gx) (l : Launch) (d w : Nat) (P : Int32 → Hp → Prop) (q0 : Nat) (x1 : Int32) (y2 : Int64) (h : Hp)  : Prop := P 0 h
set_option maxRecDepth 100000 in
set_option maxHeartbeats 4000000 in
theorem okJ_MO_register_14 {G : Gx} {l : Launch} {d w : Nat} {P : Int32 → Hp → Prop} {p : Program} {e : Env} {s : State} {m : MethodId} {args : Array Value} {below : List Frame} {meth : Method} {c : Code} {q0 : Nat} {x1 : Int32} {y2 : Int64} {h : Hp}  (H : wJ_MO_register_14 G l d w P  q0 x1 y2 h ) : Go M_MO_register (mkX G (fun r h' => ∃ x, r = some (.int x) ∧ P x h') (d + 1) (w + 21) 0 0 p l e s m args below meth c) 14 [some (.ref q0), some (.int x1), some (.long y2), none] [] h 0 0 := by
  unfold wJ_MO_register_14 at H
  refine g_iconst (v := 0) d_MO_register_14 (by decide) ?_
  exact g_zreturn d_MO_register_15 rfl (by decide) (Nat.le_refl _) (Nat.le_refl _) ⟨_, rfl, H⟩
set_option maxRecDepth 100000 in
set_option maxHeartbeats 4000000 in
def wp_MO_register (G : Gx) (l : Launch) (d w : Nat) (P : Int32 → Hp → Prop) (q0 : Nat) (x1 : Int32) (y2 : Int64) (h : Hp) : Prop := ∃ P_1 : Int32 → Hp → Prop, (Ci G l M_MO_isDevice (d + 0) (w + 0) [.int x1] h 0 0 P_1) ∧ (∀ (x_5 : Int32) (h_3 : Hp), P_1 x_5 h_3 → (x_5 = 0 → wJ_MO_register_14 G l d w P q0 x1 y2 h_3) ∧ (¬ x_5 = 0 → ∃ P_9 : Int32 → Hp → Prop, (Ci G l M_MO_isNumber (d + 0) (w + 0) [.long y2] h_3 0 0 P_9) ∧ (∀ (x_13 : Int32) (h_11 : Hp), P_9 x_13 h_11 → (¬ x_13 = 0 → (hS h_11 q0 = some (18, 0)) ∧ (∃ q_18 : Nat, (hR h_11 q0 4) = some q_18 ∧ (∃ N_20 : Nat, ∃ j_21 : Nat, (hS h_11 q_18 = some (1, N_20) ∧ x1 = nI j_21 ∧ j_21 < N_20 ∧ j_21 < 2147483648) ∧ (P 1 (pL h_11 q_18 j_21 y2))))) ∧ (x_13 = 0 → wJ_MO_register_14 G l d w P q0 x1 y2 h_11))))
set_option maxRecDepth 100000 in
set_option maxHeartbeats 4000000 in
theorem ok_MO_register {G : Gx} {l : Launch} {d w : Nat} {P : Int32 → Hp → Prop} {q0 : Nat} {x1 : Int32} {y2 : Int64} {h : Hp} (H : wp_MO_register G l d w P q0 x1 y2 h) : Ci G l M_MO_register (d + 1) (w + 21) [.ref q0, .int x1, .long y2] h 0 0 P := by
  unfold wp_MO_register at H
  refine Ct.of (lv := [some (.ref q0), some (.int x1), some (.long y2), none]) (by decide) (Nat.le_of_ble_eq_true rfl) rfl (fun p e s m args below meth c => ?_)
  refine g_iload_n d_MO_register_0 rfl ?_
  obtain ⟨P_1, C_2, H⟩ := H
  refine q_S (As := [.int x1]) (st := []) (nl := 1) d_MO_register_1 v_MO_187 C_2 rfl (catS_le (Nat.le_of_ble_eq_true rfl)) rfl ⟨by omega, by omega, Nat.le_refl _, Nat.le_refl _⟩ (fun r_7 h_3 p_4 => ?_)
  obtain ⟨x_5, rfl, p_4⟩ := p_4
  replace H := H x_5 h_3 p_4
  show Go _ _ _ _ [.int x_5] _ _ _
  obtain ⟨H1, H2⟩ := H
  refine g_if_eq (tgt := 14) d_MO_register_4 (by decide) (fun c_8 => ?_) (fun c_8 => ?_)
  · have H := H1 c_8
    refine g_msk [true, true, true, false] ?_
    exact okJ_MO_register_14 H
  · have H := H2 c_8
    refine g_lload_n d_MO_register_7 rfl ?_
    obtain ⟨P_9, C_10, H⟩ := H
    refine q_S (As := [.long y2]) (st := []) (nl := 2) d_MO_register_8 v_MO_191 C_10 rfl (catS_le (Nat.le_of_ble_eq_true rfl)) rfl ⟨by omega, by omega, Nat.le_refl _, Nat.le_refl _⟩ (fun r_15 h_11 p_12 => ?_)
    obtain ⟨x_13, rfl, p_12⟩ := p_12
    replace H := H x_13 h_11 p_12
    show Go _ _ _ _ [.int x_13] _ _ _
    obtain ⟨H1, H2⟩ := H
    refine g_if_ne (tgt := 16) d_MO_register_11 (by decide) (fun c_16 => ?_) (fun c_16 => ?_)
    · have H := H1 c_16
      refine g_aload_n d_MO_register_16 rfl ?_
      obtain ⟨z_17, H⟩ := H
      refine g_getR d_MO_register_17 f_MO_16 z_17 (by decide) ?_
      refine g_iload_n d_MO_register_20 rfl ?_
      refine g_lload_n d_MO_register_21 rfl ?_
      obtain ⟨q_18, e_19, H⟩ := H
      show Go _ _ _ [some (.ref q0), some (.int x1), some (.long y2), none] [.long y2, .int x1, va_rf (hR h_11 q0 4)] _ _ _
      rw [show va_rf (hR h_11 q0 4) = Value.ref q_18 from by rw [e_19]; rfl]
      obtain ⟨N_20, H⟩ := H
      obtain ⟨j_21, H⟩ := H
      obtain ⟨z_22, H⟩ := H
      refine g_last d_MO_register_22 z_22.1 z_22.2.1 z_22.2.2.1 z_22.2.2.2 ?_
      refine g_iconst (v := 1) d_MO_register_23 (by decide) ?_
      exact g_zreturn d_MO_register_24 rfl (by decide) (Nat.le_refl _) (Nat.le_refl _) ⟨_, rfl, H⟩
    · have H := H2 c_16
      refine g_msk [true, true, true, false] ?_
      exact okJ_MO_register_14 H
set_option maxRecDepth 100000 in
set_option maxHeartbeats 4000000 in
def wp_MO_power1 (G : Gx) (l : Launch) (d w : Nat) (P : Int32 → Hp → Prop) (q0 : Nat) (x1 : Int32) (x2 : Int32) (h : Hp) : Prop := ∃ P_1 : Int32 → Hp → Prop, (Ci G l M_MO_isDevice (d + 0) (w + 0) [.int x1] h 0 0 P_1) ∧ (∀ (x_5 : Int32) (h_3 : Hp), P_1 x_5 h_3 → (¬ x_5 = 0 → (hS h_3 q0 = some (18, 0)) ∧ (∃ q_10 : Nat, (hR h_3 q0 5) = some q_10 ∧ (∃ N_12 : Nat, ∃ j_13 : Nat, (hS h_3 q_10 = some (2, N_12) ∧ x1 = nI j_13 ∧ j_13 < N_12 ∧ j_13 < 2147483648) ∧ ((x2 = 0 ∨ x2 = 1) ∧ (P 1 (pI h_3 q_10 j_13 x2)))))) ∧ (x_5 = 0 → P 0 h_3))
set_option maxRecDepth 100000 in
set_option maxHeartbeats 4000000 in
theorem ok_MO_power1 {G : Gx} {l : Launch} {d w : Nat} {P : Int32 → Hp → Prop} {q0 : Nat} {x1 : Int32} {x2 : Int32} {h : Hp} (H : wp_MO_power1 G l d w P q0 x1 x2 h) : Ci G l M_MO_power1 (d + 1) (w + 20) [.ref q0, .int x1, .int x2] h 0 0 P := by
  unfold wp_MO_power1 at H
  refine Ct.of (lv := [some (.ref q0), some (.int x1), some (.int x2)]) (by decide) (Nat.le_of_ble_eq_true rfl) rfl (fun p e s m args below meth c => ?_)
  refine g_iload_n d_MO_power1_0 rfl ?_
  obtain ⟨P_1, C_2, H⟩ := H
  refine q_S (As := [.int x1]) (st := []) (nl := 1) d_MO_power1_1 v_MO_187 C_2 rfl (catS_le (Nat.le_of_ble_eq_true rfl)) rfl ⟨by omega, by omega, Nat.le_refl _, Nat.le_refl _⟩ (fun r_7 h_3 p_4 => ?_)
  obtain ⟨x_5, rfl, p_4⟩ := p_4
  replace H := H x_5 h_3 p_4
  show Go _ _ _ _ [.int x_5] _ _ _
  obtain ⟨H1, H2⟩ := H
  refine g_if_ne (tgt := 9) d_MO_power1_4 (by decide) (fun c_8 => ?_) (fun c_8 => ?_)
  · have H := H1 c_8
    refine g_aload_n d_MO_power1_9 rfl ?_
    obtain ⟨z_9, H⟩ := H
    refine g_getR d_MO_power1_10 f_MO_20 z_9 (by decide) ?_
    refine g_iload_n d_MO_power1_13 rfl ?_
    refine g_iload_n d_MO_power1_14 rfl ?_
    obtain ⟨q_10, e_11, H⟩ := H
    show Go _ _ _ [some (.ref q0), some (.int x1), some (.int x2)] [.int x2, .int x1, va_rf (hR h_3 q0 5)] _ _ _
    rw [show va_rf (hR h_3 q0 5) = Value.ref q_10 from by rw [e_11]; rfl]
    obtain ⟨N_12, H⟩ := H
    obtain ⟨j_13, H⟩ := H
    obtain ⟨z_14, H⟩ := H
    obtain ⟨z_15, H⟩ := H
    refine g_zast d_MO_power1_15 z_14.1 z_14.2.1 z_14.2.2.1 z_14.2.2.2 z_15 ?_
    refine g_iconst (v := 1) d_MO_power1_16 (by decide) ?_
    exact g_zreturn d_MO_power1_17 rfl (by decide) (Nat.le_refl _) (Nat.le_refl _) ⟨_, rfl, H⟩
  · have H := H2 c_8
    refine g_iconst (v := 0) d_MO_power1_7 (by decide) ?_
    exact g_zreturn d_MO_power1_8 rfl (by decide) (Nat.le_refl _) (Nat.le_refl _) ⟨_, rfl, H⟩
set_option maxRecDepth 100000 in
set_option maxHeartbeats 4000000 in
def wJ_MO_type_24 (G : Gx) (l : Launch) (d w : Nat) (P : Int32 → Hp → Prop) (q0 : Nat) (x1 : Int32) (x2 : Int32) (h : Hp)  : Prop := P 0 h
set_option maxRecDepth 100000 in
set_option maxHeartbeats 4000000 in
theorem okJ_MO_type_24 {G : Gx} {l : Launch} {d w : Nat} {P : Int32 → Hp → Prop} {p : Program} {e : Env} {s : State} {m : MethodId} {args : Array Value} {below : List Frame} {meth : Method} {c : Code} {q0 : Nat} {x1 : Int32} {x2 : Int32} {h : Hp}  (H : wJ_MO_type_24 G l d w P  q0 x1 x2 h ) : Go M_MO_type (mkX G (fun r h' => ∃ x, r = some (.int x) ∧ P x h') (d + 0) (w + 0) 0 0 p l e s m args below meth c) 24 [some (.ref q0), some (.int x1), some (.int x2), none] [] h 0 0 := by
  unfold wJ_MO_type_24 at H
  refine g_iconst (v := 0) d_MO_type_24 (by decide) ?_
  exact g_zreturn d_MO_type_25 rfl (by decide) (Nat.le_refl _) (Nat.le_refl _) ⟨_, rfl, H⟩
set_option maxRecDepth 100000 in
set_option maxHeartbeats 4000000 in
def wB_MO_type_28 (G : Gx) (l : Launch) (d w : Nat) (P : Int32 → Hp → Prop) (C28 : Int32 → Hp → Prop) (q0 : Nat) (x1 : Int32) (x2 : Int32) (x3 : Int32) (h : Hp)  : Prop := (x2 ≤ x3 → P 1 h) ∧ (¬ x2 ≤ x3 → (hS h q0 = some (18, 0)) ∧ (∃ q_3 : Nat, (hR h q0 1) = some q_3 ∧ (∃ N_5 : Nat, ∃ j_6 : Nat, (hS h q_3 = some (0, N_5) ∧ (hI h q0 0) = nI j_6 ∧ j_6 < N_5 ∧ j_6 < 2147483648) ∧ (∀ x_8 : Int32, x_8 = x3 + 1 → C28 x_8 (pI (pI h q_3 j_6 x1) q0 0 ((hI (pI h q_3 j_6 x1) q0 0) + 1))))))
set_option maxRecDepth 100000 in
set_option maxHeartbeats 4000000 in
theorem okB_MO_type_28 {G : Gx} {l : Launch} {d w : Nat} {P : Int32 → Hp → Prop} {p : Program} {e : Env} {s : State} {m : MethodId} {args : Array Value} {below : List Frame} {meth : Method} {c : Code} {C28 : Int32 → Hp → Prop} {q0 : Nat} {x1 : Int32} {x2 : Int32} {x3 : Int32} (hC28 : ∀ (x3 : Int32) (h : Hp), C28 x3 h → Go M_MO_type (mkX G (fun r h' => ∃ x, r = some (.int x) ∧ P x h') (d + 0) (w + 0) 0 0 p l e s m args below meth c) 28 [some (.ref q0), some (.int x1), some (.int x2), some (.int x3)] [] h 0 0) {h : Hp}  (H : wB_MO_type_28 G l d w P C28 q0 x1 x2 x3 h ) : Go M_MO_type (mkX G (fun r h' => ∃ x, r = some (.int x) ∧ P x h') (d + 0) (w + 0) 0 0 p l e s m args below meth c) 28 [some (.ref q0), some (.int x1), some (.int x2), some (.int x3)] [] h 0 0 := by
  unfold wB_MO_type_28 at H
  refine g_iload_n d_MO_type_28 rfl ?_
  refine g_iload_n d_MO_type_29 rfl ?_
  obtain ⟨H1, H2⟩ := H
  refine g_icmp_ge (tgt := 59) d_MO_type_30 (by decide) (fun c_1 => ?_) (fun c_1 => ?_)
  · have H := H1 c_1
    refine g_iconst (v := 1) d_MO_type_59 (by decide) ?_
    exact g_zreturn d_MO_type_60 rfl (by decide) (Nat.le_refl _) (Nat.le_refl _) ⟨_, rfl, H⟩
  · have H := H2 c_1
    refine g_aload_n d_MO_type_33 rfl ?_
    obtain ⟨z_2, H⟩ := H
    refine g_getR d_MO_type_34 f_MO_7 z_2 (by decide) ?_
    refine g_aload_n d_MO_type_37 rfl ?_
    refine g_getI d_MO_type_38 f_MO_195 z_2 ?_
    refine g_iload_n d_MO_type_41 rfl ?_
    obtain ⟨q_3, e_4, H⟩ := H
    show Go _ _ _ [some (.ref q0), some (.int x1), some (.int x2), some (.int x3)] [.int x1, .int (hI h q0 0), va_rf (hR h q0 1)] _ _ _
    rw [show va_rf (hR h q0 1) = Value.ref q_3 from by rw [e_4]; rfl]
    obtain ⟨N_5, H⟩ := H
    obtain ⟨j_6, H⟩ := H
    obtain ⟨z_7, H⟩ := H
    refine g_iast d_MO_type_42 z_7.1 z_7.2.1 z_7.2.2.1 z_7.2.2.2 ?_
    refine g_aload_n d_MO_type_43 rfl ?_
    refine g_dup d_MO_type_44 rfl ?_
    refine g_getI d_MO_type_45 f_MO_195 z_2 ?_
    refine g_iconst (v := 1) d_MO_type_48 (by decide) ?_
    refine g_iadd d_MO_type_49 ?_
    refine g_putI d_MO_type_50 f_MO_195 (fo_8_0 _) z_2 ?_
    obtain ⟨x_8, ex_8⟩ : ∃ z : Int32, z = x3 + 1 := ⟨_, rfl⟩
    replace H := H x_8 ex_8
    refine g_iinc (v := x_8) (lv' := [some (.ref q0), some (.int x1), some (.int x2), some (.int x_8)]) d_MO_type_53 rfl (by decide) (by rw [ex_8]; rfl) rfl ?_
    refine g_goto (tgt := 28) d_MO_type_56 (by decide) ?_
    refine g_msk [true, true, true, true] ?_
    exact hC28 _ _ H
set_option maxRecDepth 100000 in
set_option maxHeartbeats 4000000 in
def wL_MO_type_28 (G : Gx) (l : Launch) (d w : Nat) (P : Int32 → Hp → Prop) (q0 : Nat) (x1 : Int32) (x2 : Int32) (x3 : Int32) (h : Hp)  : Prop := ∃ (I : Int32 → Hp → Prop) (μ : Int32 → Hp → Nat), I x3 h ∧ ∀ (x3' : Int32) (h' : Hp), I x3' h' → wB_MO_type_28 G l d w P (fun x3_ h_ => I x3_ h_ ∧ μ x3_ h_ < μ x3' h') q0 x1 x2 x3' h'
set_option maxRecDepth 100000 in
set_option maxHeartbeats 4000000 in
theorem okL_MO_type_28 {G : Gx} {l : Launch} {d w : Nat} {P : Int32 → Hp → Prop} {p : Program} {e : Env} {s : State} {m : MethodId} {args : Array Value} {below : List Frame} {meth : Method} {c : Code} {q0 : Nat} {x1 : Int32} {x2 : Int32} {x3 : Int32} {h : Hp}  (H : wL_MO_type_28 G l d w P  q0 x1 x2 x3 h ) : Go M_MO_type (mkX G (fun r h' => ∃ x, r = some (.int x) ∧ P x h') (d + 0) (w + 0) 0 0 p l e s m args below meth c) 28 [some (.ref q0), some (.int x1), some (.int x2), some (.int x3)] [] h 0 0 := by
  obtain ⟨I, μ, h0, hs⟩ := H
  have key : ∀ (N : Nat) (x3 : Int32) (h : Hp), I x3 h → μ x3 h < N → Go M_MO_type (mkX G (fun r h' => ∃ x, r = some (.int x) ∧ P x h') (d + 0) (w + 0) 0 0 p l e s m args below meth c) 28 [some (.ref q0), some (.int x1), some (.int x2), some (.int x3)] [] h 0 0 := by
    intro N
    induction N with
    | zero => intro x3 h _ hN; exact absurd hN (Nat.not_lt_zero _)
    | succ N ih =>
      intro x3 h hI hN
      exact okB_MO_type_28 (fun x3_ h_ hh => ih x3_ h_ hh.1 (Nat.lt_of_lt_of_le hh.2 (Nat.le_of_lt_succ hN))) (hs x3 h hI)
  exact key _ _ _ h0 (Nat.lt_succ_self _)
set_option maxRecDepth 100000 in
set_option maxHeartbeats 4000000 in
def wp_MO_type (G : Gx) (l : Launch) (d w : Nat) (P : Int32 → Hp → Prop) (q0 : Nat) (x1 : Int32) (x2 : Int32) (h : Hp) : Prop := (x2 < 1 → wJ_MO_type_24 G l d w P q0 x1 x2 h) ∧ (¬ x2 < 1 → (160 < x2 → wJ_MO_type_24 G l d w P q0 x1 x2 h) ∧ (¬ 160 < x2 → (hS h q0 = some (18, 0)) ∧ ((((hI h q0 0) + x2) ≤ 480 → wL_MO_type_28 G l d w P q0 x1 x2 0 h) ∧ (¬ ((hI h q0 0) + x2) ≤ 480 → wJ_MO_type_24 G l d w P q0 x1 x2 h))))
set_option maxRecDepth 100000 in
set_option maxHeartbeats 4000000 in
theorem ok_MO_type {G : Gx} {l : Launch} {d w : Nat} {P : Int32 → Hp → Prop} {q0 : Nat} {x1 : Int32} {x2 : Int32} {h : Hp} (H : wp_MO_type G l d w P q0 x1 x2 h) : Ci G l M_MO_type (d + 0) (w + 0) [.ref q0, .int x1, .int x2] h 0 0 P := by
  unfold wp_MO_type at H
  refine Ct.of (lv := [some (.ref q0), some (.int x1), some (.int x2), none]) (by decide) (Nat.le_of_ble_eq_true rfl) rfl (fun p e s m args below meth c => ?_)
  refine g_iload_n d_MO_type_0 rfl ?_
  refine g_iconst (v := 1) d_MO_type_1 (by decide) ?_
  obtain ⟨H1, H2⟩ := H
  refine g_icmp_lt (tgt := 24) d_MO_type_2 (by decide) (fun c_9 => ?_) (fun c_9 => ?_)
  · have H := H1 c_9
    refine g_msk [true, true, true, false] ?_
    exact okJ_MO_type_24 H
  · have H := H2 c_9
    refine g_iload_n d_MO_type_5 rfl ?_
    refine g_sipush (v := 160) d_MO_type_6 (by decide) ?_
    obtain ⟨H1, H2⟩ := H
    refine g_icmp_gt (tgt := 24) d_MO_type_9 (by decide) (fun c_10 => ?_) (fun c_10 => ?_)
    · have H := H1 c_10
      refine g_msk [true, true, true, false] ?_
      exact okJ_MO_type_24 H
    · have H := H2 c_10
      refine g_aload_n d_MO_type_12 rfl ?_
      obtain ⟨z_11, H⟩ := H
      refine g_getI d_MO_type_13 f_MO_195 z_11 ?_
      refine g_iload_n d_MO_type_16 rfl ?_
      refine g_iadd d_MO_type_17 ?_
      refine g_sipush (v := 480) d_MO_type_18 (by decide) ?_
      obtain ⟨H1, H2⟩ := H
      refine g_icmp_le (tgt := 26) d_MO_type_21 (by decide) (fun c_12 => ?_) (fun c_12 => ?_)
      · have H := H1 c_12
        refine g_iconst (v := 0) d_MO_type_26 (by decide) ?_
        refine g_istore_n (lv' := [some (.ref q0), some (.int x1), some (.int x2), some (.int 0)]) d_MO_type_27 (by decide) rfl ?_
        refine g_msk [true, true, true, true] ?_
        exact okL_MO_type_28 H
      · have H := H2 c_12
        refine g_msk [true, true, true, false] ?_
        exact okJ_MO_type_24 H
set_option maxRecDepth 100000 in
set_option maxHeartbeats 4000000 in
def wp_MO_wipe (G : Gx) (l : Launch) (d w : Nat) (P : Hp → Prop) (q0 : Nat) (h : Hp) : Prop := (hS h q0 = some (18, 0)) ∧ (P (pI h q0 0 0))
set_option maxRecDepth 100000 in
set_option maxHeartbeats 4000000 in
theorem ok_MO_wipe {G : Gx} {l : Launch} {d w : Nat} {P : Hp → Prop} {q0 : Nat} {h : Hp} (H : wp_MO_wipe G l d w P q0 h) : Cv G l M_MO_wipe (d + 0) (w + 0) [.ref q0] h 0 0 P := by
  unfold wp_MO_wipe at H
  refine Ct.of (lv := [some (.ref q0)]) (by decide) (Nat.le_of_ble_eq_true rfl) rfl (fun p e s m args below meth c => ?_)
  refine g_aload_n d_MO_wipe_0 rfl ?_
  refine g_iconst (v := 0) d_MO_wipe_1 (by decide) ?_
  obtain ⟨z_1, H⟩ := H
  refine g_putI d_MO_wipe_2 f_MO_195 (fo_8_0 _) z_1 ?_
  exact g_return d_MO_wipe_5 rfl (Nat.le_refl _) (Nat.le_refl _) ⟨rfl, H⟩
set_option maxRecDepth 100000 in
set_option maxHeartbeats 4000000 in
def wJ_MO_cut_30 (G : Gx) (l : Launch) (d w : Nat) (P : Int32 → Hp → Prop) (C2 : Int32 → Hp → Prop) (q0 : Nat) (x1 : Int32) (x2 : Int32) (sx0 : Int32) (h : Hp)  : Prop := ((sx0 - x1) ≤ 153 → C2 sx0 h) ∧ (¬ (sx0 - x1) ≤ 153 → P x2 h)
set_option maxRecDepth 100000 in
set_option maxHeartbeats 4000000 in
theorem okJ_MO_cut_30 {G : Gx} {l : Launch} {d w : Nat} {P : Int32 → Hp → Prop} {p : Program} {e : Env} {s : State} {m : MethodId} {args : Array Value} {below : List Frame} {meth : Method} {c : Code} {C2 : Int32 → Hp → Prop} {q0 : Nat} {x1 : Int32} {x2 : Int32} {sx0 : Int32} (hC2 : ∀ (x2 : Int32) (h : Hp), C2 x2 h → Go M_MO_cut (mkX G (fun r h' => ∃ x, r = some (.int x) ∧ P x h') (d + 0) (w + 0) 0 0 p l e s m args below meth c) 2 [some (.ref q0), some (.int x1), some (.int x2), none] [] h 0 0) {h : Hp}  (H : wJ_MO_cut_30 G l d w P C2 q0 x1 x2 sx0 h ) : Go M_MO_cut (mkX G (fun r h' => ∃ x, r = some (.int x) ∧ P x h') (d + 0) (w + 0) 0 0 p l e s m args below meth c) 30 [some (.ref q0), some (.int x1), some (.int x2), none] [.int sx0] h 0 0 := by
  unfold wJ_MO_cut_30 at H
  refine g_istore_n (lv' := [some (.ref q0), some (.int x1), some (.int x2), some (.int sx0)]) d_MO_cut_30 (by decide) rfl ?_
  refine g_iload_n d_MO_cut_31 rfl ?_
  refine g_iload_n d_MO_cut_32 rfl ?_
  refine g_isub d_MO_cut_33 ?_
  refine g_sipush (v := 153) d_MO_cut_34 (by decide) ?_
  obtain ⟨H1, H2⟩ := H
  refine g_icmp_le (tgt := 42) d_MO_cut_37 (by decide) (fun c_1 => ?_) (fun c_1 => ?_)
  · have H := H1 c_1
    refine g_iload_n d_MO_cut_42 rfl ?_
    refine g_istore_n (lv' := [some (.ref q0), some (.int x1), some (.int sx0), some (.int sx0)]) d_MO_cut_43 (by decide) rfl ?_
    refine g_goto (tgt := 2) d_MO_cut_44 (by decide) ?_
    refine g_msk [true, true, true, false] ?_
    exact hC2 _ _ H
  · have H := H2 c_1
    refine g_iload_n d_MO_cut_40 rfl ?_
    exact g_ireturn d_MO_cut_41 rfl (Nat.le_refl _) (Nat.le_refl _) ⟨_, rfl, H⟩
set_option maxRecDepth 100000 in
set_option maxHeartbeats 4000000 in
def wB_MO_cut_2 (G : Gx) (l : Launch) (d w : Nat) (P : Int32 → Hp → Prop) (C2 : Int32 → Hp → Prop) (q0 : Nat) (x1 : Int32) (x2 : Int32) (h : Hp)  : Prop := (hS h q0 = some (18, 0)) ∧ (((hI h q0 2) ≤ x2 → P x2 h) ∧ (¬ (hI h q0 2) ≤ x2 → ∃ q_4 : Nat, (hR h q0 3) = some q_4 ∧ (∃ N_6 : Nat, ∃ j_7 : Nat, (hS h q_4 = some (0, N_6) ∧ x2 = nI j_7 ∧ j_7 < N_6 ∧ j_7 < 2147483648) ∧ ((¬ (hI h q_4 j_7) = 27 → wJ_MO_cut_30 G l d w P C2 q0 x1 x2 (x2 + 1) h) ∧ ((hI h q_4 j_7) = 27 → wJ_MO_cut_30 G l d w P C2 q0 x1 x2 (x2 + 2) h)))))
set_option maxRecDepth 100000 in
set_option maxHeartbeats 4000000 in
theorem okB_MO_cut_2 {G : Gx} {l : Launch} {d w : Nat} {P : Int32 → Hp → Prop} {p : Program} {e : Env} {s : State} {m : MethodId} {args : Array Value} {below : List Frame} {meth : Method} {c : Code} {C2 : Int32 → Hp → Prop} {q0 : Nat} {x1 : Int32} {x2 : Int32} (hC2 : ∀ (x2 : Int32) (h : Hp), C2 x2 h → Go M_MO_cut (mkX G (fun r h' => ∃ x, r = some (.int x) ∧ P x h') (d + 0) (w + 0) 0 0 p l e s m args below meth c) 2 [some (.ref q0), some (.int x1), some (.int x2), none] [] h 0 0) {h : Hp}  (H : wB_MO_cut_2 G l d w P C2 q0 x1 x2 h ) : Go M_MO_cut (mkX G (fun r h' => ∃ x, r = some (.int x) ∧ P x h') (d + 0) (w + 0) 0 0 p l e s m args below meth c) 2 [some (.ref q0), some (.int x1), some (.int x2), none] [] h 0 0 := by
  unfold wB_MO_cut_2 at H
  refine g_iload_n d_MO_cut_2 rfl ?_
  refine g_aload_n d_MO_cut_3 rfl ?_
  obtain ⟨z_2, H⟩ := H
  refine g_getI d_MO_cut_4 f_MO_124 z_2 ?_
  obtain ⟨H1, H2⟩ := H
  refine g_icmp_ge (tgt := 47) d_MO_cut_7 (by decide) (fun c_3 => ?_) (fun c_3 => ?_)
  · have H := H1 c_3
    refine g_iload_n d_MO_cut_47 rfl ?_
    exact g_ireturn d_MO_cut_48 rfl (Nat.le_refl _) (Nat.le_refl _) ⟨_, rfl, H⟩
  · have H := H2 c_3
    refine g_aload_n d_MO_cut_10 rfl ?_
    refine g_getR d_MO_cut_11 f_MO_13 z_2 (by decide) ?_
    refine g_iload_n d_MO_cut_14 rfl ?_
    obtain ⟨q_4, e_5, H⟩ := H
    show Go _ _ _ [some (.ref q0), some (.int x1), some (.int x2), none] [.int x2, va_rf (hR h q0 3)] _ _ _
    rw [show va_rf (hR h q0 3) = Value.ref q_4 from by rw [e_5]; rfl]
    obtain ⟨N_6, H⟩ := H
    obtain ⟨j_7, H⟩ := H
    obtain ⟨z_8, H⟩ := H
    refine g_iald d_MO_cut_15 z_8.1 z_8.2.1 z_8.2.2.1 z_8.2.2.2 ?_
    refine g_bipush (v := 27) d_MO_cut_16 (by decide) ?_
    obtain ⟨H1, H2⟩ := H
    refine g_icmp_ne (tgt := 27) d_MO_cut_18 (by decide) (fun c_9 => ?_) (fun c_9 => ?_)
    · have H := H1 c_9
      refine g_iload_n d_MO_cut_27 rfl ?_
      refine g_iconst (v := 1) d_MO_cut_28 (by decide) ?_
      refine g_iadd d_MO_cut_29 ?_
      refine g_msk [true, true, true, false] ?_
      exact okJ_MO_cut_30 hC2 H
    · have H := H2 c_9
      refine g_iload_n d_MO_cut_21 rfl ?_
      refine g_iconst (v := 2) d_MO_cut_22 (by decide) ?_
      refine g_iadd d_MO_cut_23 ?_
      refine g_goto (tgt := 30) d_MO_cut_24 (by decide) ?_
      refine g_msk [true, true, true, false] ?_
      exact okJ_MO_cut_30 hC2 H
set_option maxRecDepth 100000 in
set_option maxHeartbeats 4000000 in
def wL_MO_cut_2 (G : Gx) (l : Launch) (d w : Nat) (P : Int32 → Hp → Prop) (q0 : Nat) (x1 : Int32) (x2 : Int32) (h : Hp)  : Prop := ∃ (I : Int32 → Hp → Prop) (μ : Int32 → Hp → Nat), I x2 h ∧ ∀ (x2' : Int32) (h' : Hp), I x2' h' → wB_MO_cut_2 G l d w P (fun x2_ h_ => I x2_ h_ ∧ μ x2_ h_ < μ x2' h') q0 x1 x2' h'
set_option maxRecDepth 100000 in
set_option maxHeartbeats 4000000 in
theorem okL_MO_cut_2 {G : Gx} {l : Launch} {d w : Nat} {P : Int32 → Hp → Prop} {p : Program} {e : Env} {s : State} {m : MethodId} {args : Array Value} {below : List Frame} {meth : Method} {c : Code} {q0 : Nat} {x1 : Int32} {x2 : Int32} {h : Hp}  (H : wL_MO_cut_2 G l d w P  q0 x1 x2 h ) : Go M_MO_cut (mkX G (fun r h' => ∃ x, r = some (.int x) ∧ P x h') (d + 0) (w + 0) 0 0 p l e s m args below meth c) 2 [some (.ref q0), some (.int x1), some (.int x2), none] [] h 0 0 := by
  obtain ⟨I, μ, h0, hs⟩ := H
  have key : ∀ (N : Nat) (x2 : Int32) (h : Hp), I x2 h → μ x2 h < N → Go M_MO_cut (mkX G (fun r h' => ∃ x, r = some (.int x) ∧ P x h') (d + 0) (w + 0) 0 0 p l e s m args below meth c) 2 [some (.ref q0), some (.int x1), some (.int x2), none] [] h 0 0 := by
    intro N
    induction N with
    | zero => intro x2 h _ hN; exact absurd hN (Nat.not_lt_zero _)
    | succ N ih =>
      intro x2 h hI hN
      exact okB_MO_cut_2 (fun x2_ h_ hh => ih x2_ h_ hh.1 (Nat.lt_of_lt_of_le hh.2 (Nat.le_of_lt_succ hN))) (hs x2 h hI)
  exact key _ _ _ h0 (Nat.lt_succ_self _)
set_option maxRecDepth 100000 in
set_option maxHeartbeats 4000000 in
def wp_MO_cut (G : Gx) (l : Launch) (d w : Nat) (P : Int32 → Hp → Prop) (q0 : Nat) (x1 : Int32) (h : Hp) : Prop := wL_MO_cut_2 G l d w P q0 x1 x1 h
set_option maxRecDepth 100000 in
set_option maxHeartbeats 4000000 in
theorem ok_MO_cut {G : Gx} {l : Launch} {d w : Nat} {P : Int32 → Hp → Prop} {q0 : Nat} {x1 : Int32} {h : Hp} (H : wp_MO_cut G l d w P q0 x1 h) : Ci G l M_MO_cut (d + 0) (w + 0) [.ref q0, .int x1] h 0 0 P := by
  unfold wp_MO_cut at H
  refine Ct.of (lv := [some (.ref q0), some (.int x1), none, none]) (by decide) (Nat.le_of_ble_eq_true rfl) rfl (fun p e s m args below meth c => ?_)
  refine g_iload_n d_MO_cut_0 rfl ?_
  refine g_istore_n (lv' := [some (.ref q0), some (.int x1), some (.int x1), none]) d_MO_cut_1 (by decide) rfl ?_
  refine g_msk [true, true, true, false] ?_
  exact okL_MO_cut_2 H
set_option maxRecDepth 100000 in
set_option maxHeartbeats 4000000 in
def wJ_MO_partsOf_39 (G : Gx) (l : Launch) (d w : Nat) (P : Int32 → Hp → Prop) (q0 : Nat) (x1 : Int32) (x2 : Int32) (sx0 : Int32) (h : Hp)  : Prop := P sx0 h
set_option maxRecDepth 100000 in
set_option maxHeartbeats 4000000 in
theorem okJ_MO_partsOf_39 {G : Gx} {l : Launch} {d w : Nat} {P : Int32 → Hp → Prop} {p : Program} {e : Env} {s : State} {m : MethodId} {args : Array Value} {below : List Frame} {meth : Method} {c : Code} {q0 : Nat} {x1 : Int32} {x2 : Int32} {sx0 : Int32} {h : Hp}  (H : wJ_MO_partsOf_39 G l d w P  q0 x1 x2 sx0 h ) : Go M_MO_partsOf (mkX G (fun r h' => ∃ x, r = some (.int x) ∧ P x h') (d + 1) (w + 23) 0 0 p l e s m args below meth c) 39 [some (.ref q0), some (.int x1), some (.int x2)] [.int sx0] h 0 0 := by
  unfold wJ_MO_partsOf_39 at H
  exact g_ireturn d_MO_partsOf_39 rfl (Nat.le_refl _) (Nat.le_refl _) ⟨_, rfl, H⟩
set_option maxRecDepth 100000 in
set_option maxHeartbeats 4000000 in
def wB_MO_partsOf_4 (G : Gx) (l : Launch) (d w : Nat) (P : Int32 → Hp → Prop) (C4 : Int32 → Int32 → Hp → Prop) (q0 : Nat) (x1 : Int32) (x2 : Int32) (h : Hp)  : Prop := (hS h q0 = some (18, 0)) ∧ (((hI h q0 2) ≤ x2 → (160 < (hI h q0 2) → wJ_MO_partsOf_39 G l d w P q0 x1 x2 x1 h) ∧ (¬ 160 < (hI h q0 2) → wJ_MO_partsOf_39 G l d w P q0 x1 x2 1 h)) ∧ (¬ (hI h q0 2) ≤ x2 → ∀ x_4 : Int32, x_4 = x1 + 1 → ∃ P_5 : Int32 → Hp → Prop, (Ci G l M_MO_cut (d + 0) (w + 0) [.ref q0, .int x2] h 0 0 P_5) ∧ (∀ (x_9 : Int32) (h_7 : Hp), P_5 x_9 h_7 → C4 x_4 x_9 h_7)))
set_option maxRecDepth 100000 in
set_option maxHeartbeats 4000000 in
theorem okB_MO_partsOf_4 {G : Gx} {l : Launch} {d w : Nat} {P : Int32 → Hp → Prop} {p : Program} {e : Env} {s : State} {m : MethodId} {args : Array Value} {below : List Frame} {meth : Method} {c : Code} {C4 : Int32 → Int32 → Hp → Prop} {q0 : Nat} {x1 : Int32} {x2 : Int32} (hC4 : ∀ (x1 : Int32) (x2 : Int32) (h : Hp), C4 x1 x2 h → Go M_MO_partsOf (mkX G (fun r h' => ∃ x, r = some (.int x) ∧ P x h') (d + 1) (w + 23) 0 0 p l e s m args below meth c) 4 [some (.ref q0), some (.int x1), some (.int x2)] [] h 0 0) {h : Hp}  (H : wB_MO_partsOf_4 G l d w P C4 q0 x1 x2 h ) : Go M_MO_partsOf (mkX G (fun r h' => ∃ x, r = some (.int x) ∧ P x h') (d + 1) (w + 23) 0 0 p l e s m args below meth c) 4 [some (.ref q0), some (.int x1), some (.int x2)] [] h 0 0 := by
  unfold wB_MO_partsOf_4 at H
  refine g_iload_n d_MO_partsOf_4 rfl ?_
  refine g_aload_n d_MO_partsOf_5 rfl ?_
  obtain ⟨z_1, H⟩ := H
  refine g_getI d_MO_partsOf_6 f_MO_124 z_1 ?_
  obtain ⟨H1, H2⟩ := H
  refine g_icmp_ge (tgt := 24) d_MO_partsOf_9 (by decide) (fun c_2 => ?_) (fun c_2 => ?_)
  · have H := H1 c_2
    refine g_aload_n d_MO_partsOf_24 rfl ?_
    refine g_getI d_MO_partsOf_25 f_MO_124 z_1 ?_
    refine g_sipush (v := 160) d_MO_partsOf_28 (by decide) ?_
    obtain ⟨H1, H2⟩ := H
    refine g_icmp_gt (tgt := 38) d_MO_partsOf_31 (by decide) (fun c_3 => ?_) (fun c_3 => ?_)
    · have H := H1 c_3
      refine g_iload_n d_MO_partsOf_38 rfl ?_
      refine g_msk [true, true, true] ?_
      exact okJ_MO_partsOf_39 H
    · have H := H2 c_3
      refine g_iconst (v := 1) d_MO_partsOf_34 (by decide) ?_
      refine g_goto (tgt := 39) d_MO_partsOf_35 (by decide) ?_
      refine g_msk [true, true, true] ?_
      exact okJ_MO_partsOf_39 H
  · have H := H2 c_2
    obtain ⟨x_4, ex_4⟩ : ∃ z : Int32, z = x1 + 1 := ⟨_, rfl⟩
    replace H := H x_4 ex_4
    refine g_iinc (v := x_4) (lv' := [some (.ref q0), some (.int x_4), some (.int x2)]) d_MO_partsOf_12 rfl (by decide) (by rw [ex_4]; rfl) rfl ?_
    refine g_aload_n d_MO_partsOf_15 rfl ?_
    refine g_iload_n d_MO_partsOf_16 rfl ?_
    obtain ⟨P_5, C_6, H⟩ := H
    refine q_V (As := [.int x2]) (st := []) (nl := 4) d_MO_partsOf_17 v_MO_198 C_6 z_1 rfl (catS_le (Nat.le_of_ble_eq_true rfl)) rfl ⟨by omega, by omega, Nat.le_refl _, Nat.le_refl _⟩ (fun r_11 h_7 p_8 => ?_)
    obtain ⟨x_9, rfl, p_8⟩ := p_8
    replace H := H x_9 h_7 p_8
    show Go _ _ _ _ [.int x_9] _ _ _
    refine g_istore_n (lv' := [some (.ref q0), some (.int x_4), some (.int x_9)]) d_MO_partsOf_20 (by decide) rfl ?_
    refine g_goto (tgt := 4) d_MO_partsOf_21 (by decide) ?_
    refine g_msk [true, true, true] ?_
    exact hC4 _ _ _ H
set_option maxRecDepth 100000 in
set_option maxHeartbeats 4000000 in
def wL_MO_partsOf_4 (G : Gx) (l : Launch) (d w : Nat) (P : Int32 → Hp → Prop) (q0 : Nat) (x1 : Int32) (x2 : Int32) (h : Hp)  : Prop := ∃ (I : Int32 → Int32 → Hp → Prop) (μ : Int32 → Int32 → Hp → Nat), I x1 x2 h ∧ ∀ (x1' : Int32) (x2' : Int32) (h' : Hp), I x1' x2' h' → wB_MO_partsOf_4 G l d w P (fun x1_ x2_ h_ => I x1_ x2_ h_ ∧ μ x1_ x2_ h_ < μ x1' x2' h') q0 x1' x2' h'
set_option maxRecDepth 100000 in
set_option maxHeartbeats 4000000 in
theorem okL_MO_partsOf_4 {G : Gx} {l : Launch} {d w : Nat} {P : Int32 → Hp → Prop} {p : Program} {e : Env} {s : State} {m : MethodId} {args : Array Value} {below : List Frame} {meth : Method} {c : Code} {q0 : Nat} {x1 : Int32} {x2 : Int32} {h : Hp}  (H : wL_MO_partsOf_4 G l d w P  q0 x1 x2 h ) : Go M_MO_partsOf (mkX G (fun r h' => ∃ x, r = some (.int x) ∧ P x h') (d + 1) (w + 23) 0 0 p l e s m args below meth c) 4 [some (.ref q0), some (.int x1), some (.int x2)] [] h 0 0 := by
  obtain ⟨I, μ, h0, hs⟩ := H
  have key : ∀ (N : Nat) (x1 : Int32) (x2 : Int32) (h : Hp), I x1 x2 h → μ x1 x2 h < N → Go M_MO_partsOf (mkX G (fun r h' => ∃ x, r = some (.int x) ∧ P x h') (d + 1) (w + 23) 0 0 p l e s m args below meth c) 4 [some (.ref q0), some (.int x1), some (.int x2)] [] h 0 0 := by
    intro N
    induction N with
    | zero => intro x1 x2 h _ hN; exact absurd hN (Nat.not_lt_zero _)
    | succ N ih =>
      intro x1 x2 h hI hN
      exact okB_MO_partsOf_4 (fun x1_ x2_ h_ hh => ih x1_ x2_ h_ hh.1 (Nat.lt_of_lt_of_le hh.2 (Nat.le_of_lt_succ hN))) (hs x1 x2 h hI)
  exact key _ _ _ _ h0 (Nat.lt_succ_self _)
set_option maxRecDepth 100000 in
set_option maxHeartbeats 4000000 in
def wp_MO_partsOf (G : Gx) (l : Launch) (d w : Nat) (P : Int32 → Hp → Prop) (q0 : Nat) (h : Hp) : Prop := wL_MO_partsOf_4 G l d w P q0 0 0 h
set_option maxRecDepth 100000 in
set_option maxHeartbeats 4000000 in
theorem ok_MO_partsOf {G : Gx} {l : Launch} {d w : Nat} {P : Int32 → Hp → Prop} {q0 : Nat} {h : Hp} (H : wp_MO_partsOf G l d w P q0 h) : Ci G l M_MO_partsOf (d + 1) (w + 23) [.ref q0] h 0 0 P := by
  unfold wp_MO_partsOf at H
  refine Ct.of (lv := [some (.ref q0), none, none]) (by decide) (Nat.le_of_ble_eq_true rfl) rfl (fun p e s m args below meth c => ?_)
  refine g_iconst (v := 0) d_MO_partsOf_0 (by decide) ?_
  refine g_istore_n (lv' := [some (.ref q0), some (.int 0), none]) d_MO_partsOf_1 (by decide) rfl ?_
  refine g_iconst (v := 0) d_MO_partsOf_2 (by decide) ?_
  refine g_istore_n (lv' := [some (.ref q0), some (.int 0), some (.int 0)]) d_MO_partsOf_3 (by decide) rfl ?_
  refine g_msk [true, true, true] ?_
  exact okL_MO_partsOf_4 H
set_option maxRecDepth 100000 in
set_option maxHeartbeats 4000000 in
def wJ_MO_send_38 (G : Gx) (l : Launch) (d w : Nat) (P : Int32 → Hp → Prop) (q0 : Nat) (x1 : Int32) (y2 : Int64) (x4 : Int32) (x5 : Int32) (h : Hp)  : Prop := P (-1) h
set_option maxRecDepth 100000 in
set_option maxHeartbeats 4000000 in
theorem okJ_MO_send_38 {G : Gx} {l : Launch} {d w : Nat} {P : Int32 → Hp → Prop} {p : Program} {e : Env} {s : State} {m : MethodId} {args : Array Value} {below : List Frame} {meth : Method} {c : Code} {q0 : Nat} {x1 : Int32} {y2 : Int64} {x4 : Int32} {x5 : Int32} {h : Hp}  (H : wJ_MO_send_38 G l d w P  q0 x1 y2 x4 x5 h ) : Go M_MO_send (mkX G (fun r h' => ∃ x, r = some (.int x) ∧ P x h') (d + 4) (w + 102) 0 0 p l e s m args below meth c) 38 [some (.ref q0), some (.int x1), some (.long y2), none, some (.int x4), some (.int x5), none, none, none, none] [] h 0 0 := by
  unfold wJ_MO_send_38 at H
  refine g_iconst (v := (-1)) d_MO_send_38 (by decide) ?_
  exact g_ireturn d_MO_send_39 rfl (Nat.le_refl _) (Nat.le_refl _) ⟨_, rfl, H⟩
set_option maxRecDepth 100000 in
set_option maxHeartbeats 4000000 in
def wJ_MO_send_258 (G : Gx) (l : Launch) (d w : Nat) (P : Int32 → Hp → Prop) (q0 : Nat) (x1 : Int32) (y2 : Int64) (x4 : Int32) (x5 : Int32) (x6 : Int32) (x7 : Int32) (x8 : Int32) (sx0 : Int32) (sx1 : Int32) (sq2 : Nat) (h : Hp)  : Prop := ∃ N_1 : Nat, ∃ j_2 : Nat, (hS h sq2 = some (0, N_1) ∧ sx1 = nI j_2 ∧ j_2 < N_1 ∧ j_2 < 2147483648) ∧ (P x6 (pI h sq2 j_2 sx0))
set_option maxRecDepth 100000 in
set_option maxHeartbeats 4000000 in
theorem okJ_MO_send_258 {G : Gx} {l : Launch} {d w : Nat} {P : Int32 → Hp → Prop} {p : Program} {e : Env} {s : State} {m : MethodId} {args : Array Value} {below : List Frame} {meth : Method} {c : Code} {q0 : Nat} {x1 : Int32} {y2 : Int64} {x4 : Int32} {x5 : Int32} {x6 : Int32} {x7 : Int32} {x8 : Int32} {sx0 : Int32} {sx1 : Int32} {sq2 : Nat} {h : Hp}  (H : wJ_MO_send_258 G l d w P  q0 x1 y2 x4 x5 x6 x7 x8 sx0 sx1 sq2 h ) : Go M_MO_send (mkX G (fun r h' => ∃ x, r = some (.int x) ∧ P x h') (d + 4) (w + 102) 0 0 p l e s m args below meth c) 258 [some (.ref q0), some (.int x1), some (.long y2), none, some (.int x4), some (.int x5), some (.int x6), some (.int x7), some (.int x8), none] [.int sx0, .int sx1, .ref sq2] h 0 0 := by
  unfold wJ_MO_send_258 at H
  obtain ⟨N_1, H⟩ := H
  obtain ⟨j_2, H⟩ := H
  obtain ⟨z_3, H⟩ := H
  refine g_iast d_MO_send_258 z_3.1 z_3.2.1 z_3.2.2.1 z_3.2.2.2 ?_
  refine g_iload d_MO_send_259 rfl ?_
  exact g_ireturn d_MO_send_261 rfl (Nat.le_refl _) (Nat.le_refl _) ⟨_, rfl, H⟩
set_option maxRecDepth 100000 in
set_option maxHeartbeats 4000000 in
def wJ_MO_send_185 (G : Gx) (l : Launch) (d w : Nat) (P : Int32 → Hp → Prop) (C122 : Int32 → Int32 → Hp → Prop) (q0 : Nat) (x1 : Int32) (y2 : Int64) (x4 : Int32) (x5 : Int32) (x6 : Int32) (x7 : Int32) (x8 : Int32) (x9 : Int32) (sx0 : Int32) (sx1 : Int32) (sx2 : Int32) (sx3 : Int32) (sy4 : Int64) (sx5 : Int32) (sx6 : Int32) (sq7 : Nat) (h : Hp)  : Prop := (hS h sq7 = some (18, 0)) ∧ (∃ P_5 : Hp → Prop, (Cv G l M_MO_putSubmit (d + 3) (w + 72) [.ref sq7, .int sx6, .int sx5, .long sy4, .int sx3, .int sx2, .int sx1, .int sx0, .int x6, .int x8] h 0 0 P_5) ∧ (∀ h_7 : Hp, P_5 h_7 → (hS h_7 q0 = some (18, 0)) ∧ (∃ P_13 : Hp → Prop, (Cv G l M_MO_append (d + 1) (w + 20) [.ref q0, .int 0, .int x1] h_7 0 0 P_13) ∧ (∀ h_15 : Hp, P_13 h_15 → (hS h_15 q0 = some (18, 0)) ∧ (∃ q_21 : Nat, (hR h_15 q0 6) = some q_21 ∧ (∃ N_23 : Nat, ∃ j_24 : Nat, (hS h_15 q_21 = some (0, N_23) ∧ x1 = nI j_24 ∧ j_24 < N_23 ∧ j_24 < 2147483648) ∧ (∀ x_26 : Int32, x_26 = x8 + 1 → C122 x9 x_26 (pI h_15 q_21 j_24 (((hI h_15 q_21 j_24) + 1) - ((hI h_15 q_21 j_24) + 1) / 256 * 256)))))))))
set_option maxRecDepth 100000 in
set_option maxHeartbeats 4000000 in
theorem okJ_MO_send_185 {G : Gx} {l : Launch} {d w : Nat} {P : Int32 → Hp → Prop} {p : Program} {e : Env} {s : State} {m : MethodId} {args : Array Value} {below : List Frame} {meth : Method} {c : Code} {C122 : Int32 → Int32 → Hp → Prop} {q0 : Nat} {x1 : Int32} {y2 : Int64} {x4 : Int32} {x5 : Int32} {x6 : Int32} {x7 : Int32} {x8 : Int32} {x9 : Int32} {sx0 : Int32} {sx1 : Int32} {sx2 : Int32} {sx3 : Int32} {sy4 : Int64} {sx5 : Int32} {sx6 : Int32} {sq7 : Nat} (hC122 : ∀ (x7 : Int32) (x8 : Int32) (h : Hp), C122 x7 x8 h → Go M_MO_send (mkX G (fun r h' => ∃ x, r = some (.int x) ∧ P x h') (d + 4) (w + 102) 0 0 p l e s m args below meth c) 122 [some (.ref q0), some (.int x1), some (.long y2), none, some (.int x4), some (.int x5), some (.int x6), some (.int x7), some (.int x8), none] [] h 0 0) {h : Hp}  (H : wJ_MO_send_185 G l d w P C122 q0 x1 y2 x4 x5 x6 x7 x8 x9 sx0 sx1 sx2 sx3 sy4 sx5 sx6 sq7 h ) : Go M_MO_send (mkX G (fun r h' => ∃ x, r = some (.int x) ∧ P x h') (d + 4) (w + 102) 0 0 p l e s m args below meth c) 185 [some (.ref q0), some (.int x1), some (.long y2), none, some (.int x4), some (.int x5), some (.int x6), some (.int x7), some (.int x8), some (.int x9)] [.int sx0, .int sx1, .int sx2, .int sx3, .long sy4, .int sx5, .int sx6, .ref sq7] h 0 0 := by
  unfold wJ_MO_send_185 at H
  refine g_iload d_MO_send_185 rfl ?_
  refine g_iload d_MO_send_187 rfl ?_
  obtain ⟨z_4, H⟩ := H
  obtain ⟨P_5, C_6, H⟩ := H
  refine q_V (As := [.int sx6, .int sx5, .long sy4, .int sx3, .int sx2, .int sx1, .int sx0, .int x6, .int x8]) (st := []) (nl := 11) d_MO_send_189 v_MO_181 C_6 z_4 rfl (catS_le (Nat.le_of_ble_eq_true rfl)) rfl ⟨by omega, by omega, Nat.le_refl _, Nat.le_refl _⟩ (fun r_11 h_7 p_8 => ?_)
  obtain ⟨rfl, p_8⟩ := p_8
  replace H := H h_7 p_8
  show Go _ _ _ _ [] _ _ _
  refine g_aload_n d_MO_send_192 rfl ?_
  refine g_iconst (v := 0) d_MO_send_193 (by decide) ?_
  refine g_iload_n d_MO_send_194 rfl ?_
  obtain ⟨z_12, H⟩ := H
  obtain ⟨P_13, C_14, H⟩ := H
  refine q_V (As := [.int 0, .int x1]) (st := []) (nl := 5) d_MO_send_195 v_MO_208 C_14 z_12 rfl (catS_le (Nat.le_of_ble_eq_true rfl)) rfl ⟨by omega, by omega, Nat.le_refl _, Nat.le_refl _⟩ (fun r_19 h_15 p_16 => ?_)
  obtain ⟨rfl, p_16⟩ := p_16
  replace H := H h_15 p_16
  show Go _ _ _ _ [] _ _ _
  refine g_aload_n d_MO_send_198 rfl ?_
  obtain ⟨z_20, H⟩ := H
  refine g_getR d_MO_send_199 f_MO_24 z_20 (by decide) ?_
  refine g_iload_n d_MO_send_202 rfl ?_
  refine g_aload_n d_MO_send_203 rfl ?_
  refine g_getR d_MO_send_204 f_MO_24 z_20 (by decide) ?_
  refine g_iload_n d_MO_send_207 rfl ?_
  obtain ⟨q_21, e_22, H⟩ := H
  show Go _ _ _ [some (.ref q0), some (.int x1), some (.long y2), none, some (.int x4), some (.int x5), some (.int x6), some (.int x7), some (.int x8), some (.int x9)] [.int x1, va_rf (hR h_15 q0 6), .int x1, va_rf (hR h_15 q0 6)] _ _ _
  rw [show va_rf (hR h_15 q0 6) = Value.ref q_21 from by rw [e_22]; rfl]
  obtain ⟨N_23, H⟩ := H
  obtain ⟨j_24, H⟩ := H
  obtain ⟨z_25, H⟩ := H
  refine g_iald d_MO_send_208 z_25.1 z_25.2.1 z_25.2.2.1 z_25.2.2.2 ?_
  refine g_iconst (v := 1) d_MO_send_209 (by decide) ?_
  refine g_iadd d_MO_send_210 ?_
  refine g_sipush (v := 256) d_MO_send_211 (by decide) ?_
  refine g_irem d_MO_send_214 (by decide) ?_
  refine g_iast d_MO_send_215 z_25.1 z_25.2.1 z_25.2.2.1 z_25.2.2.2 ?_
  refine g_iload d_MO_send_216 rfl ?_
  refine g_istore (lv' := [some (.ref q0), some (.int x1), some (.long y2), none, some (.int x4), some (.int x5), some (.int x6), some (.int x9), some (.int x8), some (.int x9)]) d_MO_send_218 (by decide) rfl ?_
  obtain ⟨x_26, ex_26⟩ : ∃ z : Int32, z = x8 + 1 := ⟨_, rfl⟩
  replace H := H x_26 ex_26
  refine g_iinc (v := x_26) (lv' := [some (.ref q0), some (.int x1), some (.long y2), none, some (.int x4), some (.int x5), some (.int x6), some (.int x9), some (.int x_26), some (.int x9)]) d_MO_send_220 rfl (by decide) (by rw [ex_26]; rfl) rfl ?_
  refine g_goto (tgt := 122) d_MO_send_223 (by decide) ?_
  refine g_msk [true, true, true, false, true, true, true, true, true, false] ?_
  exact hC122 _ _ _ H
set_option maxRecDepth 100000 in
set_option maxHeartbeats 4000000 in
def wJ_MO_send_148 (G : Gx) (l : Launch) (d w : Nat) (P : Int32 → Hp → Prop) (C122 : Int32 → Int32 → Hp → Prop) (q0 : Nat) (x1 : Int32) (y2 : Int64) (x4 : Int32) (x5 : Int32) (x6 : Int32) (x7 : Int32) (x8 : Int32) (sx0 : Int32) (h : Hp)  : Prop := (hS h q0 = some (18, 0)) ∧ (∃ q_28 : Nat, (hR h q0 6) = some q_28 ∧ (∃ N_30 : Nat, ∃ j_31 : Nat, (hS h q_28 = some (0, N_30) ∧ x1 = nI j_31 ∧ j_31 < N_30 ∧ j_31 < 2147483648) ∧ ((¬ x6 = 1 → ∃ q_34 : Nat, (hR h q0 7) = some q_34 ∧ (∃ N_36 : Nat, ∃ j_37 : Nat, (hS h q_34 = some (0, N_36) ∧ x1 = nI j_37 ∧ j_37 < N_36 ∧ j_37 < 2147483648) ∧ (wJ_MO_send_185 G l d w P C122 q0 x1 y2 x4 x5 x6 x7 x8 sx0 (hI h q_34 j_37) (sx0 - x7) x7 x4 y2 (hI h q_28 j_31) x5 q0 h))) ∧ (x6 = 1 → wJ_MO_send_185 G l d w P C122 q0 x1 y2 x4 x5 x6 x7 x8 sx0 (-1) (sx0 - x7) x7 x4 y2 (hI h q_28 j_31) x5 q0 h))))
set_option maxRecDepth 100000 in
set_option maxHeartbeats 4000000 in
theorem okJ_MO_send_148 {G : Gx} {l : Launch} {d w : Nat} {P : Int32 → Hp → Prop} {p : Program} {e : Env} {s : State} {m : MethodId} {args : Array Value} {below : List Frame} {meth : Method} {c : Code} {C122 : Int32 → Int32 → Hp → Prop} {q0 : Nat} {x1 : Int32} {y2 : Int64} {x4 : Int32} {x5 : Int32} {x6 : Int32} {x7 : Int32} {x8 : Int32} {sx0 : Int32} (hC122 : ∀ (x7 : Int32) (x8 : Int32) (h : Hp), C122 x7 x8 h → Go M_MO_send (mkX G (fun r h' => ∃ x, r = some (.int x) ∧ P x h') (d + 4) (w + 102) 0 0 p l e s m args below meth c) 122 [some (.ref q0), some (.int x1), some (.long y2), none, some (.int x4), some (.int x5), some (.int x6), some (.int x7), some (.int x8), none] [] h 0 0) {h : Hp}  (H : wJ_MO_send_148 G l d w P C122 q0 x1 y2 x4 x5 x6 x7 x8 sx0 h ) : Go M_MO_send (mkX G (fun r h' => ∃ x, r = some (.int x) ∧ P x h') (d + 4) (w + 102) 0 0 p l e s m args below meth c) 148 [some (.ref q0), some (.int x1), some (.long y2), none, some (.int x4), some (.int x5), some (.int x6), some (.int x7), some (.int x8), none] [.int sx0] h 0 0 := by
  unfold wJ_MO_send_148 at H
  refine g_istore (lv' := [some (.ref q0), some (.int x1), some (.long y2), none, some (.int x4), some (.int x5), some (.int x6), some (.int x7), some (.int x8), some (.int sx0)]) d_MO_send_148 (by decide) rfl ?_
  refine g_aload_n d_MO_send_150 rfl ?_
  refine g_iload d_MO_send_151 rfl ?_
  refine g_aload_n d_MO_send_153 rfl ?_
  obtain ⟨z_27, H⟩ := H
  refine g_getR d_MO_send_154 f_MO_24 z_27 (by decide) ?_
  refine g_iload_n d_MO_send_157 rfl ?_
  obtain ⟨q_28, e_29, H⟩ := H
  show Go _ _ _ [some (.ref q0), some (.int x1), some (.long y2), none, some (.int x4), some (.int x5), some (.int x6), some (.int x7), some (.int x8), some (.int sx0)] [.int x1, va_rf (hR h q0 6), .int x5, .ref q0] _ _ _
  rw [show va_rf (hR h q0 6) = Value.ref q_28 from by rw [e_29]; rfl]
  obtain ⟨N_30, H⟩ := H
  obtain ⟨j_31, H⟩ := H
  obtain ⟨z_32, H⟩ := H
  refine g_iald d_MO_send_158 z_32.1 z_32.2.1 z_32.2.2.1 z_32.2.2.2 ?_
  refine g_lload_n d_MO_send_159 rfl ?_
  refine g_iload d_MO_send_160 rfl ?_
  refine g_iload d_MO_send_162 rfl ?_
  refine g_iload d_MO_send_164 rfl ?_
  refine g_iload d_MO_send_166 rfl ?_
  refine g_isub d_MO_send_168 ?_
  refine g_iload d_MO_send_169 rfl ?_
  refine g_iconst (v := 1) d_MO_send_171 (by decide) ?_
  obtain ⟨H1, H2⟩ := H
  refine g_icmp_ne (tgt := 179) d_MO_send_172 (by decide) (fun c_33 => ?_) (fun c_33 => ?_)
  · have H := H1 c_33
    refine g_aload_n d_MO_send_179 rfl ?_
    refine g_getR d_MO_send_180 f_MO_27 z_27 (by decide) ?_
    refine g_iload_n d_MO_send_183 rfl ?_
    obtain ⟨q_34, e_35, H⟩ := H
    show Go _ _ _ [some (.ref q0), some (.int x1), some (.long y2), none, some (.int x4), some (.int x5), some (.int x6), some (.int x7), some (.int x8), some (.int sx0)] [.int x1, va_rf (hR h q0 7), .int (sx0 - x7), .int x7, .int x4, .long y2, .int (hI h q_28 j_31), .int x5, .ref q0] _ _ _
    rw [show va_rf (hR h q0 7) = Value.ref q_34 from by rw [e_35]; rfl]
    obtain ⟨N_36, H⟩ := H
    obtain ⟨j_37, H⟩ := H
    obtain ⟨z_38, H⟩ := H
    refine g_iald d_MO_send_184 z_38.1 z_38.2.1 z_38.2.2.1 z_38.2.2.2 ?_
    refine g_msk [true, true, true, false, true, true, true, true, true, true] ?_
    exact okJ_MO_send_185 hC122 H
  · have H := H2 c_33
    refine g_iconst (v := (-1)) d_MO_send_175 (by decide) ?_
    refine g_goto (tgt := 185) d_MO_send_176 (by decide) ?_
    refine g_msk [true, true, true, false, true, true, true, true, true, true] ?_
    exact okJ_MO_send_185 hC122 H
set_option maxRecDepth 100000 in
set_option maxHeartbeats 4000000 in
def wB_MO_send_122 (G : Gx) (l : Launch) (d w : Nat) (P : Int32 → Hp → Prop) (C122 : Int32 → Int32 → Hp → Prop) (q0 : Nat) (x1 : Int32) (y2 : Int64) (x4 : Int32) (x5 : Int32) (x6 : Int32) (x7 : Int32) (x8 : Int32) (h : Hp)  : Prop := (x6 < x8 → (hS h q0 = some (18, 0)) ∧ ((¬ x6 = 1 → ∃ q_42 : Nat, (hR h q0 7) = some q_42 ∧ (∃ N_44 : Nat, ∃ j_45 : Nat, (hS h q_42 = some (0, N_44) ∧ x1 = nI j_45 ∧ j_45 < N_44 ∧ j_45 < 2147483648) ∧ (wJ_MO_send_258 G l d w P q0 x1 y2 x4 x5 x6 x7 x8 (((hI h q_42 j_45) + 1) - ((hI h q_42 j_45) + 1) / 256 * 256) x1 q_42 h))) ∧ (x6 = 1 → ∃ q_47 : Nat, (hR h q0 7) = some q_47 ∧ (∃ N_49 : Nat, ∃ j_50 : Nat, (hS h q_47 = some (0, N_49) ∧ x1 = nI j_50 ∧ j_50 < N_49 ∧ j_50 < 2147483648) ∧ (wJ_MO_send_258 G l d w P q0 x1 y2 x4 x5 x6 x7 x8 (hI h q_47 j_50) x1 q_47 h))))) ∧ (¬ x6 < x8 → (¬ x6 = 1 → (hS h q0 = some (18, 0)) ∧ (∃ P_54 : Int32 → Hp → Prop, (Ci G l M_MO_cut (d + 0) (w + 0) [.ref q0, .int x7] h 0 0 P_54) ∧ (∀ (x_58 : Int32) (h_56 : Hp), P_54 x_58 h_56 → wJ_MO_send_148 G l d w P C122 q0 x1 y2 x4 x5 x6 x7 x8 x_58 h_56))) ∧ (x6 = 1 → (hS h q0 = some (18, 0)) ∧ (wJ_MO_send_148 G l d w P C122 q0 x1 y2 x4 x5 x6 x7 x8 (hI h q0 2) h)))
set_option maxRecDepth 100000 in
set_option maxHeartbeats 4000000 in
theorem okB_MO_send_122 {G : Gx} {l : Launch} {d w : Nat} {P : Int32 → Hp → Prop} {p : Program} {e : Env} {s : State} {m : MethodId} {args : Array Value} {below : List Frame} {meth : Method} {c : Code} {C122 : Int32 → Int32 → Hp → Prop} {q0 : Nat} {x1 : Int32} {y2 : Int64} {x4 : Int32} {x5 : Int32} {x6 : Int32} {x7 : Int32} {x8 : Int32} (hC122 : ∀ (x7 : Int32) (x8 : Int32) (h : Hp), C122 x7 x8 h → Go M_MO_send (mkX G (fun r h' => ∃ x, r = some (.int x) ∧ P x h') (d + 4) (w + 102) 0 0 p l e s m args below meth c) 122 [some (.ref q0), some (.int x1), some (.long y2), none, some (.int x4), some (.int x5), some (.int x6), some (.int x7), some (.int x8), none] [] h 0 0) {h : Hp}  (H : wB_MO_send_122 G l d w P C122 q0 x1 y2 x4 x5 x6 x7 x8 h ) : Go M_MO_send (mkX G (fun r h' => ∃ x, r = some (.int x) ∧ P x h') (d + 4) (w + 102) 0 0 p l e s m args below meth c) 122 [some (.ref q0), some (.int x1), some (.long y2), none, some (.int x4), some (.int x5), some (.int x6), some (.int x7), some (.int x8), none] [] h 0 0 := by
  unfold wB_MO_send_122 at H
  refine g_iload d_MO_send_122 rfl ?_
  refine g_iload d_MO_send_124 rfl ?_
  obtain ⟨H1, H2⟩ := H
  refine g_icmp_gt (tgt := 226) d_MO_send_126 (by decide) (fun c_39 => ?_) (fun c_39 => ?_)
  · have H := H1 c_39
    refine g_aload_n d_MO_send_226 rfl ?_
    obtain ⟨z_40, H⟩ := H
    refine g_getR d_MO_send_227 f_MO_27 z_40 (by decide) ?_
    refine g_iload_n d_MO_send_230 rfl ?_
    refine g_iload d_MO_send_231 rfl ?_
    refine g_iconst (v := 1) d_MO_send_233 (by decide) ?_
    obtain ⟨H1, H2⟩ := H
    refine g_icmp_ne (tgt := 246) d_MO_send_234 (by decide) (fun c_41 => ?_) (fun c_41 => ?_)
    · have H := H1 c_41
      refine g_aload_n d_MO_send_246 rfl ?_
      refine g_getR d_MO_send_247 f_MO_27 z_40 (by decide) ?_
      refine g_iload_n d_MO_send_250 rfl ?_
      obtain ⟨q_42, e_43, H⟩ := H
      show Go _ _ _ [some (.ref q0), some (.int x1), some (.long y2), none, some (.int x4), some (.int x5), some (.int x6), some (.int x7), some (.int x8), none] [.int x1, va_rf (hR h q0 7), .int x1, va_rf (hR h q0 7)] _ _ _
      rw [show va_rf (hR h q0 7) = Value.ref q_42 from by rw [e_43]; rfl]
      obtain ⟨N_44, H⟩ := H
      obtain ⟨j_45, H⟩ := H
      obtain ⟨z_46, H⟩ := H
      refine g_iald d_MO_send_251 z_46.1 z_46.2.1 z_46.2.2.1 z_46.2.2.2 ?_
      refine g_iconst (v := 1) d_MO_send_252 (by decide) ?_
      refine g_iadd d_MO_send_253 ?_
      refine g_sipush (v := 256) d_MO_send_254 (by decide) ?_
      refine g_irem d_MO_send_257 (by decide) ?_
      refine g_msk [true, true, true, false, true, true, true, true, true, false] ?_
      exact okJ_MO_send_258 H
    · have H := H2 c_41
      refine g_aload_n d_MO_send_237 rfl ?_
      refine g_getR d_MO_send_238 f_MO_27 z_40 (by decide) ?_
      refine g_iload_n d_MO_send_241 rfl ?_
      obtain ⟨q_47, e_48, H⟩ := H
      show Go _ _ _ [some (.ref q0), some (.int x1), some (.long y2), none, some (.int x4), some (.int x5), some (.int x6), some (.int x7), some (.int x8), none] [.int x1, va_rf (hR h q0 7), .int x1, va_rf (hR h q0 7)] _ _ _
      rw [show va_rf (hR h q0 7) = Value.ref q_47 from by rw [e_48]; rfl]
      obtain ⟨N_49, H⟩ := H
      obtain ⟨j_50, H⟩ := H
      obtain ⟨z_51, H⟩ := H
      refine g_iald d_MO_send_242 z_51.1 z_51.2.1 z_51.2.2.1 z_51.2.2.2 ?_
      refine g_goto (tgt := 258) d_MO_send_243 (by decide) ?_
      refine g_msk [true, true, true, false, true, true, true, true, true, false] ?_
      exact okJ_MO_send_258 H
  · have H := H2 c_39
    refine g_iload d_MO_send_129 rfl ?_
    refine g_iconst (v := 1) d_MO_send_131 (by decide) ?_
    obtain ⟨H1, H2⟩ := H
    refine g_icmp_ne (tgt := 142) d_MO_send_132 (by decide) (fun c_52 => ?_) (fun c_52 => ?_)
    · have H := H1 c_52
      refine g_aload_n d_MO_send_142 rfl ?_
      refine g_iload d_MO_send_143 rfl ?_
      obtain ⟨z_53, H⟩ := H
      obtain ⟨P_54, C_55, H⟩ := H
      refine q_V (As := [.int x7]) (st := []) (nl := 4) d_MO_send_145 v_MO_198 C_55 z_53 rfl (catS_le (Nat.le_of_ble_eq_true rfl)) rfl ⟨by omega, by omega, Nat.le_refl _, Nat.le_refl _⟩ (fun r_60 h_56 p_57 => ?_)
      obtain ⟨x_58, rfl, p_57⟩ := p_57
      replace H := H x_58 h_56 p_57
      show Go _ _ _ _ [.int x_58] _ _ _
      refine g_msk [true, true, true, false, true, true, true, true, true, false] ?_
      exact okJ_MO_send_148 hC122 H
    · have H := H2 c_52
      refine g_aload_n d_MO_send_135 rfl ?_
      obtain ⟨z_61, H⟩ := H
      refine g_getI d_MO_send_136 f_MO_124 z_61 ?_
      refine g_goto (tgt := 148) d_MO_send_139 (by decide) ?_
      refine g_msk [true, true, true, false, true, true, true, true, true, false] ?_
      exact okJ_MO_send_148 hC122 H
set_option maxRecDepth 100000 in
set_option maxHeartbeats 4000000 in
def wL_MO_send_122 (G : Gx) (l : Launch) (d w : Nat) (P : Int32 → Hp → Prop) (q0 : Nat) (x1 : Int32) (y2 : Int64) (x4 : Int32) (x5 : Int32) (x6 : Int32) (x7 : Int32) (x8 : Int32) (h : Hp)  : Prop := ∃ (I : Int32 → Int32 → Hp → Prop) (μ : Int32 → Int32 → Hp → Nat), I x7 x8 h ∧ ∀ (x7' : Int32) (x8' : Int32) (h' : Hp), I x7' x8' h' → wB_MO_send_122 G l d w P (fun x7_ x8_ h_ => I x7_ x8_ h_ ∧ μ x7_ x8_ h_ < μ x7' x8' h') q0 x1 y2 x4 x5 x6 x7' x8' h'
set_option maxRecDepth 100000 in
set_option maxHeartbeats 4000000 in
theorem okL_MO_send_122 {G : Gx} {l : Launch} {d w : Nat} {P : Int32 → Hp → Prop} {p : Program} {e : Env} {s : State} {m : MethodId} {args : Array Value} {below : List Frame} {meth : Method} {c : Code} {q0 : Nat} {x1 : Int32} {y2 : Int64} {x4 : Int32} {x5 : Int32} {x6 : Int32} {x7 : Int32} {x8 : Int32} {h : Hp}  (H : wL_MO_send_122 G l d w P  q0 x1 y2 x4 x5 x6 x7 x8 h ) : Go M_MO_send (mkX G (fun r h' => ∃ x, r = some (.int x) ∧ P x h') (d + 4) (w + 102) 0 0 p l e s m args below meth c) 122 [some (.ref q0), some (.int x1), some (.long y2), none, some (.int x4), some (.int x5), some (.int x6), some (.int x7), some (.int x8), none] [] h 0 0 := by
  obtain ⟨I, μ, h0, hs⟩ := H
  have key : ∀ (N : Nat) (x7 : Int32) (x8 : Int32) (h : Hp), I x7 x8 h → μ x7 x8 h < N → Go M_MO_send (mkX G (fun r h' => ∃ x, r = some (.int x) ∧ P x h') (d + 4) (w + 102) 0 0 p l e s m args below meth c) 122 [some (.ref q0), some (.int x1), some (.long y2), none, some (.int x4), some (.int x5), some (.int x6), some (.int x7), some (.int x8), none] [] h 0 0 := by
    intro N
    induction N with
    | zero => intro x7 x8 h _ hN; exact absurd hN (Nat.not_lt_zero _)
    | succ N ih =>
      intro x7 x8 h hI hN
      exact okB_MO_send_122 (fun x7_ x8_ h_ hh => ih x7_ x8_ h_ hh.1 (Nat.lt_of_lt_of_le hh.2 (Nat.le_of_lt_succ hN))) (hs x7 x8 h hI)
  exact key _ _ _ _ h0 (Nat.lt_succ_self _)
set_option maxRecDepth 100000 in
set_option maxHeartbeats 4000000 in
def wB_MO_send_48 (G : Gx) (l : Launch) (d w : Nat) (P : Int32 → Hp → Prop) (C48 : Int32 → Hp → Prop) (q0 : Nat) (x1 : Int32) (y2 : Int64) (x4 : Int32) (x5 : Int32) (x6 : Int32) (h : Hp)  : Prop := (hS h q0 = some (18, 0)) ∧ (((hI h q0 0) ≤ x6 → ∃ P_64 : Int32 → Hp → Prop, (Ci G l M_MO_partsOf (d + 1) (w + 23) [.ref q0] h 0 0 P_64) ∧ (∀ (x_68 : Int32) (h_66 : Hp), P_64 x_68 h_66 → (x_68 ≤ 3 → (hS h_66 q0 = some (18, 0)) ∧ (∃ q_73 : Nat, (hR h_66 q0 16) = some q_73 ∧ (∃ N_75 : Nat, ∃ j_76 : Nat, (hS h_66 q_73 = some (0, N_75) ∧ 0 = nI j_76 ∧ j_76 < N_75 ∧ j_76 < 2147483648) ∧ ((((hI h_66 q_73 j_76) + x_68) ≤ 8 → wL_MO_send_122 G l d w P q0 x1 y2 x4 x5 x_68 0 1 h_66) ∧ (¬ ((hI h_66 q_73 j_76) + x_68) ≤ 8 → P (-3) h_66))))) ∧ (¬ x_68 ≤ 3 → P (-5) h_66))) ∧ (¬ (hI h q0 0) ≤ x6 → ∃ q_79 : Nat, (hR h q0 1) = some q_79 ∧ (∃ N_81 : Nat, ∃ j_82 : Nat, (hS h q_79 = some (0, N_81) ∧ x6 = nI j_82 ∧ j_82 < N_81 ∧ j_82 < 2147483648) ∧ (∃ P_84 : Int32 → Hp → Prop, (Ci G l M_MO_encode (d + 2) (w + 40) [.ref q0, .int (hI h q_79 j_82)] h 0 0 P_84) ∧ (∀ (x_88 : Int32) (h_86 : Hp), P_84 x_88 h_86 → (¬ x_88 = 0 → ∀ x_92 : Int32, x_92 = x6 + 1 → C48 x_92 h_86) ∧ (x_88 = 0 → P (-4) h_86))))))
set_option maxRecDepth 100000 in
set_option maxHeartbeats 4000000 in
theorem okB_MO_send_48 {G : Gx} {l : Launch} {d w : Nat} {P : Int32 → Hp → Prop} {p : Program} {e : Env} {s : State} {m : MethodId} {args : Array Value} {below : List Frame} {meth : Method} {c : Code} {C48 : Int32 → Hp → Prop} {q0 : Nat} {x1 : Int32} {y2 : Int64} {x4 : Int32} {x5 : Int32} {x6 : Int32} (hC48 : ∀ (x6 : Int32) (h : Hp), C48 x6 h → Go M_MO_send (mkX G (fun r h' => ∃ x, r = some (.int x) ∧ P x h') (d + 4) (w + 102) 0 0 p l e s m args below meth c) 48 [some (.ref q0), some (.int x1), some (.long y2), none, some (.int x4), some (.int x5), some (.int x6), none, none, none] [] h 0 0) {h : Hp}  (H : wB_MO_send_48 G l d w P C48 q0 x1 y2 x4 x5 x6 h ) : Go M_MO_send (mkX G (fun r h' => ∃ x, r = some (.int x) ∧ P x h') (d + 4) (w + 102) 0 0 p l e s m args below meth c) 48 [some (.ref q0), some (.int x1), some (.long y2), none, some (.int x4), some (.int x5), some (.int x6), none, none, none] [] h 0 0 := by
  unfold wB_MO_send_48 at H
  refine g_iload d_MO_send_48 rfl ?_
  refine g_aload_n d_MO_send_50 rfl ?_
  obtain ⟨z_62, H⟩ := H
  refine g_getI d_MO_send_51 f_MO_195 z_62 ?_
  obtain ⟨H1, H2⟩ := H
  refine g_icmp_ge (tgt := 84) d_MO_send_54 (by decide) (fun c_63 => ?_) (fun c_63 => ?_)
  · have H := H1 c_63
    refine g_aload_n d_MO_send_84 rfl ?_
    obtain ⟨P_64, C_65, H⟩ := H
    refine q_V (As := []) (st := []) (nl := 3) d_MO_send_85 v_MO_204 C_65 z_62 rfl (catS_le (Nat.le_of_ble_eq_true rfl)) rfl ⟨by omega, by omega, Nat.le_refl _, Nat.le_refl _⟩ (fun r_70 h_66 p_67 => ?_)
    obtain ⟨x_68, rfl, p_67⟩ := p_67
    replace H := H x_68 h_66 p_67
    show Go _ _ _ _ [.int x_68] _ _ _
    refine g_istore (lv' := [some (.ref q0), some (.int x1), some (.long y2), none, some (.int x4), some (.int x5), some (.int x_68), none, none, none]) d_MO_send_88 (by decide) rfl ?_
    refine g_iload d_MO_send_90 rfl ?_
    refine g_iconst (v := 3) d_MO_send_92 (by decide) ?_
    obtain ⟨H1, H2⟩ := H
    refine g_icmp_le (tgt := 99) d_MO_send_93 (by decide) (fun c_71 => ?_) (fun c_71 => ?_)
    · have H := H1 c_71
      refine g_aload_n d_MO_send_99 rfl ?_
      obtain ⟨z_72, H⟩ := H
      refine g_getR d_MO_send_100 f_MO_51 z_72 (by decide) ?_
      refine g_iconst (v := 0) d_MO_send_103 (by decide) ?_
      obtain ⟨q_73, e_74, H⟩ := H
      show Go _ _ _ [some (.ref q0), some (.int x1), some (.long y2), none, some (.int x4), some (.int x5), some (.int x_68), none, none, none] [.int 0, va_rf (hR h_66 q0 16)] _ _ _
      rw [show va_rf (hR h_66 q0 16) = Value.ref q_73 from by rw [e_74]; rfl]
      obtain ⟨N_75, H⟩ := H
      obtain ⟨j_76, H⟩ := H
      obtain ⟨z_77, H⟩ := H
      refine g_iald d_MO_send_104 z_77.1 z_77.2.1 z_77.2.2.1 z_77.2.2.2 ?_
      refine g_iload d_MO_send_105 rfl ?_
      refine g_iadd d_MO_send_107 ?_
      refine g_bipush (v := 8) d_MO_send_108 (by decide) ?_
      obtain ⟨H1, H2⟩ := H
      refine g_icmp_le (tgt := 116) d_MO_send_110 (by decide) (fun c_78 => ?_) (fun c_78 => ?_)
      · have H := H1 c_78
        refine g_iconst (v := 0) d_MO_send_116 (by decide) ?_
        refine g_istore (lv' := [some (.ref q0), some (.int x1), some (.long y2), none, some (.int x4), some (.int x5), some (.int x_68), some (.int 0), none, none]) d_MO_send_117 (by decide) rfl ?_
        refine g_iconst (v := 1) d_MO_send_119 (by decide) ?_
        refine g_istore (lv' := [some (.ref q0), some (.int x1), some (.long y2), none, some (.int x4), some (.int x5), some (.int x_68), some (.int 0), some (.int 1), none]) d_MO_send_120 (by decide) rfl ?_
        refine g_msk [true, true, true, false, true, true, true, true, true, false] ?_
        exact okL_MO_send_122 H
      · have H := H2 c_78
        refine g_bipush (v := (-3)) d_MO_send_113 (by decide) ?_
        exact g_ireturn d_MO_send_115 rfl (Nat.le_refl _) (Nat.le_refl _) ⟨_, rfl, H⟩
    · have H := H2 c_71
      refine g_bipush (v := (-5)) d_MO_send_96 (by decide) ?_
      exact g_ireturn d_MO_send_98 rfl (Nat.le_refl _) (Nat.le_refl _) ⟨_, rfl, H⟩
  · have H := H2 c_63
    refine g_aload_n d_MO_send_57 rfl ?_
    refine g_aload_n d_MO_send_58 rfl ?_
    refine g_getR d_MO_send_59 f_MO_7 z_62 (by decide) ?_
    refine g_iload d_MO_send_62 rfl ?_
    obtain ⟨q_79, e_80, H⟩ := H
    show Go _ _ _ [some (.ref q0), some (.int x1), some (.long y2), none, some (.int x4), some (.int x5), some (.int x6), none, none, none] [.int x6, va_rf (hR h q0 1), .ref q0] _ _ _
    rw [show va_rf (hR h q0 1) = Value.ref q_79 from by rw [e_80]; rfl]
    obtain ⟨N_81, H⟩ := H
    obtain ⟨j_82, H⟩ := H
    obtain ⟨z_83, H⟩ := H
    refine g_iald d_MO_send_64 z_83.1 z_83.2.1 z_83.2.2.1 z_83.2.2.2 ?_
    obtain ⟨P_84, C_85, H⟩ := H
    refine q_V (As := [.int (hI h q_79 j_82)]) (st := []) (nl := 3) d_MO_send_65 v_MO_201 C_85 z_62 rfl (catS_le (Nat.le_of_ble_eq_true rfl)) rfl ⟨by omega, by omega, Nat.le_refl _, Nat.le_refl _⟩ (fun r_90 h_86 p_87 => ?_)
    obtain ⟨x_88, rfl, p_87⟩ := p_87
    replace H := H x_88 h_86 p_87
    show Go _ _ _ _ [.int x_88] _ _ _
    refine g_istore (lv' := [some (.ref q0), some (.int x1), some (.long y2), none, some (.int x4), some (.int x5), some (.int x6), some (.int x_88), none, none]) d_MO_send_68 (by decide) rfl ?_
    refine g_iload d_MO_send_70 rfl ?_
    obtain ⟨H1, H2⟩ := H
    refine g_if_ne (tgt := 78) d_MO_send_72 (by decide) (fun c_91 => ?_) (fun c_91 => ?_)
    · have H := H1 c_91
      obtain ⟨x_92, ex_92⟩ : ∃ z : Int32, z = x6 + 1 := ⟨_, rfl⟩
      replace H := H x_92 ex_92
      refine g_iinc (v := x_92) (lv' := [some (.ref q0), some (.int x1), some (.long y2), none, some (.int x4), some (.int x5), some (.int x_92), some (.int x_88), none, none]) d_MO_send_78 rfl (by decide) (by rw [ex_92]; rfl) rfl ?_
      refine g_goto (tgt := 48) d_MO_send_81 (by decide) ?_
      refine g_msk [true, true, true, false, true, true, true, false, false, false] ?_
      exact hC48 _ _ H
    · have H := H2 c_91
      refine g_bipush (v := (-4)) d_MO_send_75 (by decide) ?_
      exact g_ireturn d_MO_send_77 rfl (Nat.le_refl _) (Nat.le_refl _) ⟨_, rfl, H⟩
set_option maxRecDepth 100000 in
set_option maxHeartbeats 4000000 in
def wL_MO_send_48 (G : Gx) (l : Launch) (d w : Nat) (P : Int32 → Hp → Prop) (q0 : Nat) (x1 : Int32) (y2 : Int64) (x4 : Int32) (x5 : Int32) (x6 : Int32) (h : Hp)  : Prop := ∃ (I : Int32 → Hp → Prop) (μ : Int32 → Hp → Nat), I x6 h ∧ ∀ (x6' : Int32) (h' : Hp), I x6' h' → wB_MO_send_48 G l d w P (fun x6_ h_ => I x6_ h_ ∧ μ x6_ h_ < μ x6' h') q0 x1 y2 x4 x5 x6' h'
set_option maxRecDepth 100000 in
set_option maxHeartbeats 4000000 in
theorem okL_MO_send_48 {G : Gx} {l : Launch} {d w : Nat} {P : Int32 → Hp → Prop} {p : Program} {e : Env} {s : State} {m : MethodId} {args : Array Value} {below : List Frame} {meth : Method} {c : Code} {q0 : Nat} {x1 : Int32} {y2 : Int64} {x4 : Int32} {x5 : Int32} {x6 : Int32} {h : Hp}  (H : wL_MO_send_48 G l d w P  q0 x1 y2 x4 x5 x6 h ) : Go M_MO_send (mkX G (fun r h' => ∃ x, r = some (.int x) ∧ P x h') (d + 4) (w + 102) 0 0 p l e s m args below meth c) 48 [some (.ref q0), some (.int x1), some (.long y2), none, some (.int x4), some (.int x5), some (.int x6), none, none, none] [] h 0 0 := by
  obtain ⟨I, μ, h0, hs⟩ := H
  have key : ∀ (N : Nat) (x6 : Int32) (h : Hp), I x6 h → μ x6 h < N → Go M_MO_send (mkX G (fun r h' => ∃ x, r = some (.int x) ∧ P x h') (d + 4) (w + 102) 0 0 p l e s m args below meth c) 48 [some (.ref q0), some (.int x1), some (.long y2), none, some (.int x4), some (.int x5), some (.int x6), none, none, none] [] h 0 0 := by
    intro N
    induction N with
    | zero => intro x6 h _ hN; exact absurd hN (Nat.not_lt_zero _)
    | succ N ih =>
      intro x6 h hI hN
      exact okB_MO_send_48 (fun x6_ h_ hh => ih x6_ h_ hh.1 (Nat.lt_of_lt_of_le hh.2 (Nat.le_of_lt_succ hN))) (hs x6 h hI)
  exact key _ _ _ h0 (Nat.lt_succ_self _)
set_option maxRecDepth 100000 in
set_option maxHeartbeats 4000000 in
def wp_MO_send (G : Gx) (l : Launch) (d w : Nat) (P : Int32 → Hp → Prop) (q0 : Nat) (x1 : Int32) (y2 : Int64) (x4 : Int32) (x5 : Int32) (h : Hp) : Prop := ∃ P_93 : Int32 → Hp → Prop, (Ci G l M_MO_isDevice (d + 0) (w + 0) [.int x1] h 0 0 P_93) ∧ (∀ (x_97 : Int32) (h_95 : Hp), P_93 x_97 h_95 → (x_97 = 0 → wJ_MO_send_38 G l d w P q0 x1 y2 x4 x5 h_95) ∧ (¬ x_97 = 0 → ∃ P_101 : Int32 → Hp → Prop, (Ci G l M_MO_isNumber (d + 0) (w + 0) [.long y2] h_95 0 0 P_101) ∧ (∀ (x_105 : Int32) (h_103 : Hp), P_101 x_105 h_103 → (x_105 = 0 → wJ_MO_send_38 G l d w P q0 x1 y2 x4 x5 h_103) ∧ (¬ x_105 = 0 → (x4 < 0 → wJ_MO_send_38 G l d w P q0 x1 y2 x4 x5 h_103) ∧ (¬ x4 < 0 → (143 < x4 → wJ_MO_send_38 G l d w P q0 x1 y2 x4 x5 h_103) ∧ (¬ 143 < x4 → (hS h_103 q0 = some (18, 0)) ∧ (∃ q_112 : Nat, (hR h_103 q0 4) = some q_112 ∧ (∃ N_114 : Nat, ∃ j_115 : Nat, (hS h_103 q_112 = some (1, N_114) ∧ x1 = nI j_115 ∧ j_115 < N_114 ∧ j_115 < 2147483648) ∧ ((¬ (lg_cmp (hL h_103 q_112 j_115) 0) = 0 → wL_MO_send_48 G l d w P q0 x1 y2 x4 x5 0 (pI h_103 q0 2 0)) ∧ ((lg_cmp (hL h_103 q_112 j_115) 0) = 0 → wJ_MO_send_38 G l d w P q0 x1 y2 x4 x5 h_103))))))))))
set_option maxRecDepth 100000 in
set_option maxHeartbeats 4000000 in
theorem ok_MO_send {G : Gx} {l : Launch} {d w : Nat} {P : Int32 → Hp → Prop} {q0 : Nat} {x1 : Int32} {y2 : Int64} {x4 : Int32} {x5 : Int32} {h : Hp} (H : wp_MO_send G l d w P q0 x1 y2 x4 x5 h) : Ci G l M_MO_send (d + 4) (w + 102) [.ref q0, .int x1, .long y2, .int x4, .int x5] h 0 0 P := by
  unfold wp_MO_send at H
  refine Ct.of (lv := [some (.ref q0), some (.int x1), some (.long y2), none, some (.int x4), some (.int x5), none, none, none, none]) (by decide) (Nat.le_of_ble_eq_true rfl) rfl (fun p e s m args below meth c => ?_)
  refine g_iload_n d_MO_send_0 rfl ?_
  obtain ⟨P_93, C_94, H⟩ := H
  refine q_S (As := [.int x1]) (st := []) (nl := 1) d_MO_send_1 v_MO_187 C_94 rfl (catS_le (Nat.le_of_ble_eq_true rfl)) rfl ⟨by omega, by omega, Nat.le_refl _, Nat.le_refl _⟩ (fun r_99 h_95 p_96 => ?_)
  obtain ⟨x_97, rfl, p_96⟩ := p_96
  replace H := H x_97 h_95 p_96
  show Go _ _ _ _ [.int x_97] _ _ _
  obtain ⟨H1, H2⟩ := H
  refine g_if_eq (tgt := 38) d_MO_send_4 (by decide) (fun c_100 => ?_) (fun c_100 => ?_)
  · have H := H1 c_100
    refine g_msk [true, true, true, false, true, true, false, false, false, false] ?_
    exact okJ_MO_send_38 H
  · have H := H2 c_100
    refine g_lload_n d_MO_send_7 rfl ?_
    obtain ⟨P_101, C_102, H⟩ := H
    refine q_S (As := [.long y2]) (st := []) (nl := 2) d_MO_send_8 v_MO_191 C_102 rfl (catS_le (Nat.le_of_ble_eq_true rfl)) rfl ⟨by omega, by omega, Nat.le_refl _, Nat.le_refl _⟩ (fun r_107 h_103 p_104 => ?_)
    obtain ⟨x_105, rfl, p_104⟩ := p_104
    replace H := H x_105 h_103 p_104
    show Go _ _ _ _ [.int x_105] _ _ _
    obtain ⟨H1, H2⟩ := H
    refine g_if_eq (tgt := 38) d_MO_send_11 (by decide) (fun c_108 => ?_) (fun c_108 => ?_)
    · have H := H1 c_108
      refine g_msk [true, true, true, false, true, true, false, false, false, false] ?_
      exact okJ_MO_send_38 H
    · have H := H2 c_108
      refine g_iload d_MO_send_14 rfl ?_
      obtain ⟨H1, H2⟩ := H
      refine g_if_lt (tgt := 38) d_MO_send_16 (by decide) (fun c_109 => ?_) (fun c_109 => ?_)
      · have H := H1 c_109
        refine g_msk [true, true, true, false, true, true, false, false, false, false] ?_
        exact okJ_MO_send_38 H
      · have H := H2 c_109
        refine g_iload d_MO_send_19 rfl ?_
        refine g_sipush (v := 143) d_MO_send_21 (by decide) ?_
        obtain ⟨H1, H2⟩ := H
        refine g_icmp_gt (tgt := 38) d_MO_send_24 (by decide) (fun c_110 => ?_) (fun c_110 => ?_)
        · have H := H1 c_110
          refine g_msk [true, true, true, false, true, true, false, false, false, false] ?_
          exact okJ_MO_send_38 H
        · have H := H2 c_110
          refine g_aload_n d_MO_send_27 rfl ?_
          obtain ⟨z_111, H⟩ := H
          refine g_getR d_MO_send_28 f_MO_16 z_111 (by decide) ?_
          refine g_iload_n d_MO_send_31 rfl ?_
          obtain ⟨q_112, e_113, H⟩ := H
          show Go _ _ _ [some (.ref q0), some (.int x1), some (.long y2), none, some (.int x4), some (.int x5), none, none, none, none] [.int x1, va_rf (hR h_103 q0 4)] _ _ _
          rw [show va_rf (hR h_103 q0 4) = Value.ref q_112 from by rw [e_113]; rfl]
          obtain ⟨N_114, H⟩ := H
          obtain ⟨j_115, H⟩ := H
          obtain ⟨z_116, H⟩ := H
          refine g_lald d_MO_send_32 z_116.1 z_116.2.1 z_116.2.2.1 z_116.2.2.2 ?_
          refine g_lconst (v := 0) d_MO_send_33 (by decide) ?_
          refine g_lcmp d_MO_send_34 ?_
          obtain ⟨H1, H2⟩ := H
          refine g_if_ne (tgt := 40) d_MO_send_35 (by decide) (fun c_117 => ?_) (fun c_117 => ?_)
          · have H := H1 c_117
            refine g_aload_n d_MO_send_40 rfl ?_
            refine g_iconst (v := 0) d_MO_send_41 (by decide) ?_
            refine g_putI d_MO_send_42 f_MO_124 (fo_8_2 _) z_111 ?_
            refine g_iconst (v := 0) d_MO_send_45 (by decide) ?_
            refine g_istore (lv' := [some (.ref q0), some (.int x1), some (.long y2), none, some (.int x4), some (.int x5), some (.int 0), none, none, none]) d_MO_send_46 (by decide) rfl ?_
            refine g_msk [true, true, true, false, true, true, true, false, false, false] ?_
            exact okL_MO_send_48 H
          · have H := H2 c_117
            refine g_msk [true, true, true, false, true, true, false, false, false, false] ?_
            exact okJ_MO_send_38 H
set_option maxRecDepth 100000 in
set_option maxHeartbeats 4000000 in
def wJ_MO_alter_35 (G : Gx) (l : Launch) (d w : Nat) (P : Int32 → Hp → Prop) (q0 : Nat) (x1 : Int32) (x2 : Int32) (h : Hp)  : Prop := P 0 h
set_option maxRecDepth 100000 in
set_option maxHeartbeats 4000000 in
theorem okJ_MO_alter_35 {G : Gx} {l : Launch} {d w : Nat} {P : Int32 → Hp → Prop} {p : Program} {e : Env} {s : State} {m : MethodId} {args : Array Value} {below : List Frame} {meth : Method} {c : Code} {q0 : Nat} {x1 : Int32} {x2 : Int32} {h : Hp}  (H : wJ_MO_alter_35 G l d w P  q0 x1 x2 h ) : Go M_MO_alter (mkX G (fun r h' => ∃ x, r = some (.int x) ∧ P x h') (d + 0) (w + 0) 0 0 p l e s m args below meth c) 35 [some (.ref q0), some (.int x1), some (.int x2)] [] h 0 0 := by
  unfold wJ_MO_alter_35 at H
  refine g_iconst (v := 0) d_MO_alter_35 (by decide) ?_
  exact g_zreturn d_MO_alter_36 rfl (by decide) (Nat.le_refl _) (Nat.le_refl _) ⟨_, rfl, H⟩
set_option maxRecDepth 100000 in
set_option maxHeartbeats 4000000 in
def wp_MO_alter (G : Gx) (l : Launch) (d w : Nat) (P : Int32 → Hp → Prop) (q0 : Nat) (x1 : Int32) (x2 : Int32) (h : Hp) : Prop := (hS h q0 = some (18, 0)) ∧ (∃ q_2 : Nat, (hR h q0 16) = some q_2 ∧ (∃ N_4 : Nat, ∃ j_5 : Nat, (hS h q_2 = some (0, N_4) ∧ 0 = nI j_5 ∧ j_5 < N_4 ∧ j_5 < 2147483648) ∧ (((hI h q_2 j_5) = 0 → wJ_MO_alter_35 G l d w P q0 x1 x2 h) ∧ (¬ (hI h q_2 j_5) = 0 → (x1 < 0 → wJ_MO_alter_35 G l d w P q0 x1 x2 h) ∧ (¬ x1 < 0 → ∃ q_9 : Nat, (hR h q0 14) = some q_9 ∧ (∃ N_11 : Nat, ∃ j_12 : Nat, (hS h q_9 = some (0, N_11) ∧ 0 = nI j_12 ∧ j_12 < N_11 ∧ j_12 < 2147483648) ∧ (((hI h q_9 j_12) ≤ x1 → wJ_MO_alter_35 G l d w P q0 x1 x2 h) ∧ (¬ (hI h q_9 j_12) ≤ x1 → (x2 < 1 → wJ_MO_alter_35 G l d w P q0 x1 x2 h) ∧ (¬ x2 < 1 → (x2 ≤ 255 → ∃ q_17 : Nat, (hR h q0 13) = some q_17 ∧ (∃ N_19 : Nat, ∃ j_20 : Nat, (hS h q_17 = some (0, N_19) ∧ x1 = nI j_20 ∧ j_20 < N_19 ∧ j_20 < 2147483648) ∧ (P 1 (pI h q_17 j_20 ((hI h q_17 j_20) ^^^ x2))))) ∧ (¬ x2 ≤ 255 → wJ_MO_alter_35 G l d w P q0 x1 x2 h))))))))))
set_option maxRecDepth 100000 in
set_option maxHeartbeats 4000000 in
theorem ok_MO_alter {G : Gx} {l : Launch} {d w : Nat} {P : Int32 → Hp → Prop} {q0 : Nat} {x1 : Int32} {x2 : Int32} {h : Hp} (H : wp_MO_alter G l d w P q0 x1 x2 h) : Ci G l M_MO_alter (d + 0) (w + 0) [.ref q0, .int x1, .int x2] h 0 0 P := by
  unfold wp_MO_alter at H
  refine Ct.of (lv := [some (.ref q0), some (.int x1), some (.int x2)]) (by decide) (Nat.le_of_ble_eq_true rfl) rfl (fun p e s m args below meth c => ?_)
  refine g_aload_n d_MO_alter_0 rfl ?_
  obtain ⟨z_1, H⟩ := H
  refine g_getR d_MO_alter_1 f_MO_51 z_1 (by decide) ?_
  refine g_iconst (v := 0) d_MO_alter_4 (by decide) ?_
  obtain ⟨q_2, e_3, H⟩ := H
  show Go _ _ _ [some (.ref q0), some (.int x1), some (.int x2)] [.int 0, va_rf (hR h q0 16)] _ _ _
  rw [show va_rf (hR h q0 16) = Value.ref q_2 from by rw [e_3]; rfl]
  obtain ⟨N_4, H⟩ := H
  obtain ⟨j_5, H⟩ := H
  obtain ⟨z_6, H⟩ := H
  refine g_iald d_MO_alter_5 z_6.1 z_6.2.1 z_6.2.2.1 z_6.2.2.2 ?_
  obtain ⟨H1, H2⟩ := H
  refine g_if_eq (tgt := 35) d_MO_alter_6 (by decide) (fun c_7 => ?_) (fun c_7 => ?_)
  · have H := H1 c_7
    refine g_msk [true, true, true] ?_
    exact okJ_MO_alter_35 H
  · have H := H2 c_7
    refine g_iload_n d_MO_alter_9 rfl ?_
    obtain ⟨H1, H2⟩ := H
    refine g_if_lt (tgt := 35) d_MO_alter_10 (by decide) (fun c_8 => ?_) (fun c_8 => ?_)
    · have H := H1 c_8
      refine g_msk [true, true, true] ?_
      exact okJ_MO_alter_35 H
    · have H := H2 c_8
      refine g_iload_n d_MO_alter_13 rfl ?_
      refine g_aload_n d_MO_alter_14 rfl ?_
      refine g_getR d_MO_alter_15 f_MO_45 z_1 (by decide) ?_
      refine g_iconst (v := 0) d_MO_alter_18 (by decide) ?_
      obtain ⟨q_9, e_10, H⟩ := H
      show Go _ _ _ [some (.ref q0), some (.int x1), some (.int x2)] [.int 0, va_rf (hR h q0 14), .int x1] _ _ _
      rw [show va_rf (hR h q0 14) = Value.ref q_9 from by rw [e_10]; rfl]
      obtain ⟨N_11, H⟩ := H
      obtain ⟨j_12, H⟩ := H
      obtain ⟨z_13, H⟩ := H
      refine g_iald d_MO_alter_19 z_13.1 z_13.2.1 z_13.2.2.1 z_13.2.2.2 ?_
      obtain ⟨H1, H2⟩ := H
      refine g_icmp_ge (tgt := 35) d_MO_alter_20 (by decide) (fun c_14 => ?_) (fun c_14 => ?_)
      · have H := H1 c_14
        refine g_msk [true, true, true] ?_
        exact okJ_MO_alter_35 H
      · have H := H2 c_14
        refine g_iload_n d_MO_alter_23 rfl ?_
        refine g_iconst (v := 1) d_MO_alter_24 (by decide) ?_
        obtain ⟨H1, H2⟩ := H
        refine g_icmp_lt (tgt := 35) d_MO_alter_25 (by decide) (fun c_15 => ?_) (fun c_15 => ?_)
        · have H := H1 c_15
          refine g_msk [true, true, true] ?_
          exact okJ_MO_alter_35 H
        · have H := H2 c_15
          refine g_iload_n d_MO_alter_28 rfl ?_
          refine g_sipush (v := 255) d_MO_alter_29 (by decide) ?_
          obtain ⟨H1, H2⟩ := H
          refine g_icmp_le (tgt := 37) d_MO_alter_32 (by decide) (fun c_16 => ?_) (fun c_16 => ?_)
          · have H := H1 c_16
            refine g_aload_n d_MO_alter_37 rfl ?_
            refine g_getR d_MO_alter_38 f_MO_42 z_1 (by decide) ?_
            refine g_iload_n d_MO_alter_41 rfl ?_
            refine g_aload_n d_MO_alter_42 rfl ?_
            refine g_getR d_MO_alter_43 f_MO_42 z_1 (by decide) ?_
            refine g_iload_n d_MO_alter_46 rfl ?_
            obtain ⟨q_17, e_18, H⟩ := H
            show Go _ _ _ [some (.ref q0), some (.int x1), some (.int x2)] [.int x1, va_rf (hR h q0 13), .int x1, va_rf (hR h q0 13)] _ _ _
            rw [show va_rf (hR h q0 13) = Value.ref q_17 from by rw [e_18]; rfl]
            obtain ⟨N_19, H⟩ := H
            obtain ⟨j_20, H⟩ := H
            obtain ⟨z_21, H⟩ := H
            refine g_iald d_MO_alter_47 z_21.1 z_21.2.1 z_21.2.2.1 z_21.2.2.2 ?_
            refine g_iload_n d_MO_alter_48 rfl ?_
            refine g_ixor d_MO_alter_49 ?_
            refine g_iast d_MO_alter_50 z_21.1 z_21.2.1 z_21.2.2.1 z_21.2.2.2 ?_
            refine g_iconst (v := 1) d_MO_alter_51 (by decide) ?_
            exact g_zreturn d_MO_alter_52 rfl (by decide) (Nat.le_refl _) (Nat.le_refl _) ⟨_, rfl, H⟩
          · have H := H2 c_16
            refine g_msk [true, true, true] ?_
            exact okJ_MO_alter_35 H
set_option maxRecDepth 100000 in
set_option maxHeartbeats 4000000 in
def wJ_MO_receive_30 (G : Gx) (l : Launch) (d w : Nat) (P : Int32 → Hp → Prop) (q0 : Nat) (h : Hp)  : Prop := P (-3) h
set_option maxRecDepth 100000 in
set_option maxHeartbeats 4000000 in
theorem okJ_MO_receive_30 {G : Gx} {l : Launch} {d w : Nat} {P : Int32 → Hp → Prop} {p : Program} {e : Env} {s : State} {m : MethodId} {args : Array Value} {below : List Frame} {meth : Method} {c : Code} {q0 : Nat} {h : Hp}  (H : wJ_MO_receive_30 G l d w P  q0 h ) : Go M_MO_receive (mkX G (fun r h' => ∃ x, r = some (.int x) ∧ P x h') (d + 5) (w + 131) 0 0 p l e s m args below meth c) 30 [some (.ref q0), none, none, none] [] h 0 0 := by
  unfold wJ_MO_receive_30 at H
  refine g_bipush (v := (-3)) d_MO_receive_30 (by decide) ?_
  exact g_ireturn d_MO_receive_32 rfl (Nat.le_refl _) (Nat.le_refl _) ⟨_, rfl, H⟩
set_option maxRecDepth 100000 in
set_option maxHeartbeats 4000000 in
def wJ_MO_receive_179 (G : Gx) (l : Launch) (d w : Nat) (P : Int32 → Hp → Prop) (q0 : Nat) (x1 : Int32) (x2 : Int32) (x3 : Int32) (sx0 : Int32) (sx1 : Int32) (so2 : Option Nat) (h : Hp)  : Prop := ∃ q_1 : Nat, so2 = some q_1 ∧ (∃ N_3 : Nat, ∃ j_4 : Nat, (hS h q_1 = some (2, N_3) ∧ sx1 = nI j_4 ∧ j_4 < N_3 ∧ j_4 < 2147483648) ∧ ((sx0 = 0 ∨ sx0 = 1) ∧ ((hS h q0 = some (18, 0)) ∧ (∃ q_8 : Nat, (hR h q0 26) = some q_8 ∧ (∃ N_10 : Nat, ∃ j_11 : Nat, (hS h q_8 = some (0, N_10) ∧ x3 = nI j_11 ∧ j_11 < N_10 ∧ j_11 < 2147483648) ∧ (∃ q_13 : Nat, (hR h q0 12) = some q_13 ∧ (∃ N_15 : Nat, ∃ j_16 : Nat, (hS h q_13 = some (0, N_15) ∧ (x1 - 1) = nI j_16 ∧ j_16 < N_15 ∧ j_16 < 2147483648) ∧ (∃ q_18 : Nat, (hR h q0 27) = some q_18 ∧ (∃ N_20 : Nat, ∃ j_21 : Nat, (hS h q_18 = some (0, N_20) ∧ x3 = nI j_21 ∧ j_21 < N_20 ∧ j_21 < 2147483648) ∧ (∃ q_23 : Nat, (hR h q0 28) = some q_23 ∧ (∃ N_25 : Nat, ∃ j_26 : Nat, (hS h q_23 = some (0, N_25) ∧ x3 = nI j_26 ∧ j_26 < N_25 ∧ j_26 < 2147483648) ∧ (∃ P_28 : Hp → Prop, (Cv G l M_MO_keepData (d + 0) (w + 0) [.ref q0, .int x3, .int x1] (pI (pI (pI (pI h q_1 j_4 sx0) q_8 j_11 (hI (pI h q_1 j_4 sx0) q0 19)) q_18 j_21 ((hI (pI (pI h q_1 j_4 sx0) q_8 j_11 (hI (pI h q_1 j_4 sx0) q0 19)) q0 19) + (5 * ((hI (pI (pI h q_1 j_4 sx0) q_8 j_11 (hI (pI h q_1 j_4 sx0) q0 19)) q_13 j_16) + 1)))) q_23 j_26 (hI (pI (pI (pI h q_1 j_4 sx0) q_8 j_11 (hI (pI h q_1 j_4 sx0) q0 19)) q_18 j_21 ((hI (pI (pI h q_1 j_4 sx0) q_8 j_11 (hI (pI h q_1 j_4 sx0) q0 19)) q0 19) + (5 * ((hI (pI (pI h q_1 j_4 sx0) q_8 j_11 (hI (pI h q_1 j_4 sx0) q0 19)) q_13 j_16) + 1)))) q0 19)) 0 0 P_28) ∧ (∀ h_30 : Hp, P_28 h_30 → P x3 h_30)))))))))))))
set_option maxRecDepth 100000 in
set_option maxHeartbeats 4000000 in
theorem okJ_MO_receive_179 {G : Gx} {l : Launch} {d w : Nat} {P : Int32 → Hp → Prop} {p : Program} {e : Env} {s : State} {m : MethodId} {args : Array Value} {below : List Frame} {meth : Method} {c : Code} {q0 : Nat} {x1 : Int32} {x2 : Int32} {x3 : Int32} {sx0 : Int32} {sx1 : Int32} {so2 : Option Nat} {h : Hp}  (H : wJ_MO_receive_179 G l d w P  q0 x1 x2 x3 sx0 sx1 so2 h ) : Go M_MO_receive (mkX G (fun r h' => ∃ x, r = some (.int x) ∧ P x h') (d + 5) (w + 131) 0 0 p l e s m args below meth c) 179 [some (.ref q0), some (.int x1), some (.int x2), some (.int x3)] [.int sx0, .int sx1, va_rf so2] h 0 0 := by
  unfold wJ_MO_receive_179 at H
  obtain ⟨q_1, e_2, H⟩ := H
  show Go _ _ _ [some (.ref q0), some (.int x1), some (.int x2), some (.int x3)] [.int sx0, .int sx1, va_rf so2] _ _ _
  rw [show va_rf so2 = Value.ref q_1 from by rw [e_2]; rfl]
  obtain ⟨N_3, H⟩ := H
  obtain ⟨j_4, H⟩ := H
  obtain ⟨z_5, H⟩ := H
  obtain ⟨z_6, H⟩ := H
  refine g_zast d_MO_receive_179 z_5.1 z_5.2.1 z_5.2.2.1 z_5.2.2.2 z_6 ?_
  refine g_aload_n d_MO_receive_180 rfl ?_
  obtain ⟨z_7, H⟩ := H
  refine g_getR d_MO_receive_181 f_MO_72 z_7 (by decide) ?_
  refine g_iload_n d_MO_receive_184 rfl ?_
  refine g_aload_n d_MO_receive_185 rfl ?_
  refine g_getI d_MO_receive_186 f_MO_226 z_7 ?_
  obtain ⟨q_8, e_9, H⟩ := H
  show Go _ _ _ [some (.ref q0), some (.int x1), some (.int x2), some (.int x3)] [.int (hI (pI h q_1 j_4 sx0) q0 19), .int x3, va_rf (hR h q0 26)] _ _ _
  rw [show va_rf (hR h q0 26) = Value.ref q_8 from by rw [e_9]; rfl]
  obtain ⟨N_10, H⟩ := H
  obtain ⟨j_11, H⟩ := H
  obtain ⟨z_12, H⟩ := H
  refine g_iast d_MO_receive_189 z_12.1 z_12.2.1 z_12.2.2.1 z_12.2.2.2 ?_
  refine g_aload_n d_MO_receive_190 rfl ?_
  refine g_getR d_MO_receive_191 f_MO_75 z_7 (by decide) ?_
  refine g_iload_n d_MO_receive_194 rfl ?_
  refine g_aload_n d_MO_receive_195 rfl ?_
  refine g_getI d_MO_receive_196 f_MO_226 z_7 ?_
  refine g_iconst (v := 5) d_MO_receive_199 (by decide) ?_
  refine g_aload_n d_MO_receive_200 rfl ?_
  refine g_getR d_MO_receive_201 f_MO_39 z_7 (by decide) ?_
  refine g_iload_n d_MO_receive_204 rfl ?_
  refine g_iconst (v := 1) d_MO_receive_205 (by decide) ?_
  refine g_isub d_MO_receive_206 ?_
  obtain ⟨q_13, e_14, H⟩ := H
  show Go _ _ _ [some (.ref q0), some (.int x1), some (.int x2), some (.int x3)] [.int (x1 - 1), va_rf (hR h q0 12), .int 5, .int (hI (pI (pI h q_1 j_4 sx0) q_8 j_11 (hI (pI h q_1 j_4 sx0) q0 19)) q0 19), .int x3, va_rf (hR h q0 27)] _ _ _
  rw [show va_rf (hR h q0 12) = Value.ref q_13 from by rw [e_14]; rfl]
  obtain ⟨N_15, H⟩ := H
  obtain ⟨j_16, H⟩ := H
  obtain ⟨z_17, H⟩ := H
  refine g_iald d_MO_receive_207 z_17.1 z_17.2.1 z_17.2.2.1 z_17.2.2.2 ?_
  refine g_iconst (v := 1) d_MO_receive_208 (by decide) ?_
  refine g_iadd d_MO_receive_209 ?_
  refine g_imul d_MO_receive_210 ?_
  refine g_iadd d_MO_receive_211 ?_
  obtain ⟨q_18, e_19, H⟩ := H
  show Go _ _ _ [some (.ref q0), some (.int x1), some (.int x2), some (.int x3)] [.int ((hI (pI (pI h q_1 j_4 sx0) q_8 j_11 (hI (pI h q_1 j_4 sx0) q0 19)) q0 19) + (5 * ((hI (pI (pI h q_1 j_4 sx0) q_8 j_11 (hI (pI h q_1 j_4 sx0) q0 19)) q_13 j_16) + 1))), .int x3, va_rf (hR h q0 27)] _ _ _
  rw [show va_rf (hR h q0 27) = Value.ref q_18 from by rw [e_19]; rfl]
  obtain ⟨N_20, H⟩ := H
  obtain ⟨j_21, H⟩ := H
  obtain ⟨z_22, H⟩ := H
  refine g_iast d_MO_receive_212 z_22.1 z_22.2.1 z_22.2.2.1 z_22.2.2.2 ?_
  refine g_aload_n d_MO_receive_213 rfl ?_
  refine g_getR d_MO_receive_214 f_MO_78 z_7 (by decide) ?_
  refine g_iload_n d_MO_receive_217 rfl ?_
  refine g_aload_n d_MO_receive_218 rfl ?_
  refine g_getI d_MO_receive_219 f_MO_226 z_7 ?_
  obtain ⟨q_23, e_24, H⟩ := H
  show Go _ _ _ [some (.ref q0), some (.int x1), some (.int x2), some (.int x3)] [.int (hI (pI (pI (pI h q_1 j_4 sx0) q_8 j_11 (hI (pI h q_1 j_4 sx0) q0 19)) q_18 j_21 ((hI (pI (pI h q_1 j_4 sx0) q_8 j_11 (hI (pI h q_1 j_4 sx0) q0 19)) q0 19) + (5 * ((hI (pI (pI h q_1 j_4 sx0) q_8 j_11 (hI (pI h q_1 j_4 sx0) q0 19)) q_13 j_16) + 1)))) q0 19), .int x3, va_rf (hR h q0 28)] _ _ _
  rw [show va_rf (hR h q0 28) = Value.ref q_23 from by rw [e_24]; rfl]
  obtain ⟨N_25, H⟩ := H
  obtain ⟨j_26, H⟩ := H
  obtain ⟨z_27, H⟩ := H
  refine g_iast d_MO_receive_222 z_27.1 z_27.2.1 z_27.2.2.1 z_27.2.2.2 ?_
  refine g_aload_n d_MO_receive_223 rfl ?_
  refine g_iload_n d_MO_receive_224 rfl ?_
  refine g_iload_n d_MO_receive_225 rfl ?_
  obtain ⟨P_28, C_29, H⟩ := H
  refine q_V (As := [.int x3, .int x1]) (st := []) (nl := 5) d_MO_receive_226 v_MO_229 C_29 z_7 rfl (catS_le (Nat.le_of_ble_eq_true rfl)) rfl ⟨by omega, by omega, Nat.le_refl _, Nat.le_refl _⟩ (fun r_34 h_30 p_31 => ?_)
  obtain ⟨rfl, p_31⟩ := p_31
  replace H := H h_30 p_31
  show Go _ _ _ _ [] _ _ _
  refine g_iload_n d_MO_receive_229 rfl ?_
  exact g_ireturn d_MO_receive_230 rfl (Nat.le_refl _) (Nat.le_refl _) ⟨_, rfl, H⟩
set_option maxRecDepth 100000 in
set_option maxHeartbeats 4000000 in
def wJ_MO_receive_156 (G : Gx) (l : Launch) (d w : Nat) (P : Int32 → Hp → Prop) (q0 : Nat) (x1 : Int32) (x2 : Int32) (x3 : Int32) (sx0 : Int32) (sx1 : Int32) (so2 : Option Nat) (h : Hp)  : Prop := ∃ q_35 : Nat, so2 = some q_35 ∧ (∃ N_37 : Nat, ∃ j_38 : Nat, (hS h q_35 = some (2, N_37) ∧ sx1 = nI j_38 ∧ j_38 < N_37 ∧ j_38 < 2147483648) ∧ ((sx0 = 0 ∨ sx0 = 1) ∧ ((hS h q0 = some (18, 0)) ∧ (∃ q_42 : Nat, (hR h q0 12) = some q_42 ∧ (∃ N_44 : Nat, ∃ j_45 : Nat, (hS h q_42 = some (0, N_44) ∧ 0 = nI j_45 ∧ j_45 < N_44 ∧ j_45 < 2147483648) ∧ ((((hI (pI h q_35 j_38 sx0) q_42 j_45) &&& 64) = 0 → wJ_MO_receive_179 G l d w P q0 x1 x2 x3 0 x3 (hR h q0 25) (pI h q_35 j_38 sx0)) ∧ (¬ ((hI (pI h q_35 j_38 sx0) q_42 j_45) &&& 64) = 0 → wJ_MO_receive_179 G l d w P q0 x1 x2 x3 1 x3 (hR h q0 25) (pI h q_35 j_38 sx0))))))))
set_option maxRecDepth 100000 in
set_option maxHeartbeats 4000000 in
theorem okJ_MO_receive_156 {G : Gx} {l : Launch} {d w : Nat} {P : Int32 → Hp → Prop} {p : Program} {e : Env} {s : State} {m : MethodId} {args : Array Value} {below : List Frame} {meth : Method} {c : Code} {q0 : Nat} {x1 : Int32} {x2 : Int32} {x3 : Int32} {sx0 : Int32} {sx1 : Int32} {so2 : Option Nat} {h : Hp}  (H : wJ_MO_receive_156 G l d w P  q0 x1 x2 x3 sx0 sx1 so2 h ) : Go M_MO_receive (mkX G (fun r h' => ∃ x, r = some (.int x) ∧ P x h') (d + 5) (w + 131) 0 0 p l e s m args below meth c) 156 [some (.ref q0), some (.int x1), some (.int x2), some (.int x3)] [.int sx0, .int sx1, va_rf so2] h 0 0 := by
  unfold wJ_MO_receive_156 at H
  obtain ⟨q_35, e_36, H⟩ := H
  show Go _ _ _ [some (.ref q0), some (.int x1), some (.int x2), some (.int x3)] [.int sx0, .int sx1, va_rf so2] _ _ _
  rw [show va_rf so2 = Value.ref q_35 from by rw [e_36]; rfl]
  obtain ⟨N_37, H⟩ := H
  obtain ⟨j_38, H⟩ := H
  obtain ⟨z_39, H⟩ := H
  obtain ⟨z_40, H⟩ := H
  refine g_zast d_MO_receive_156 z_39.1 z_39.2.1 z_39.2.2.1 z_39.2.2.2 z_40 ?_
  refine g_aload_n d_MO_receive_157 rfl ?_
  obtain ⟨z_41, H⟩ := H
  refine g_getR d_MO_receive_158 f_MO_69 z_41 (by decide) ?_
  refine g_iload_n d_MO_receive_161 rfl ?_
  refine g_aload_n d_MO_receive_162 rfl ?_
  refine g_getR d_MO_receive_163 f_MO_39 z_41 (by decide) ?_
  refine g_iconst (v := 0) d_MO_receive_166 (by decide) ?_
  obtain ⟨q_42, e_43, H⟩ := H
  show Go _ _ _ [some (.ref q0), some (.int x1), some (.int x2), some (.int x3)] [.int 0, va_rf (hR h q0 12), .int x3, va_rf (hR h q0 25)] _ _ _
  rw [show va_rf (hR h q0 12) = Value.ref q_42 from by rw [e_43]; rfl]
  obtain ⟨N_44, H⟩ := H
  obtain ⟨j_45, H⟩ := H
  obtain ⟨z_46, H⟩ := H
  refine g_iald d_MO_receive_167 z_46.1 z_46.2.1 z_46.2.2.1 z_46.2.2.2 ?_
  refine g_bipush (v := 64) d_MO_receive_168 (by decide) ?_
  refine g_iand d_MO_receive_170 ?_
  obtain ⟨H1, H2⟩ := H
  refine g_if_eq (tgt := 178) d_MO_receive_171 (by decide) (fun c_47 => ?_) (fun c_47 => ?_)
  · have H := H1 c_47
    refine g_iconst (v := 0) d_MO_receive_178 (by decide) ?_
    refine g_msk [true, true, true, true] ?_
    exact okJ_MO_receive_179 H
  · have H := H2 c_47
    refine g_iconst (v := 1) d_MO_receive_174 (by decide) ?_
    refine g_goto (tgt := 179) d_MO_receive_175 (by decide) ?_
    refine g_msk [true, true, true, true] ?_
    exact okJ_MO_receive_179 H
set_option maxRecDepth 100000 in
set_option maxHeartbeats 4000000 in
def wp_MO_receive (G : Gx) (l : Launch) (d w : Nat) (P : Int32 → Hp → Prop) (q0 : Nat) (h : Hp) : Prop := (hS h q0 = some (18, 0)) ∧ (∃ q_49 : Nat, (hR h q0 16) = some q_49 ∧ (∃ N_51 : Nat, ∃ j_52 : Nat, (hS h q_49 = some (0, N_51) ∧ 0 = nI j_52 ∧ j_52 < N_51 ∧ j_52 < 2147483648) ∧ ((¬ (hI h q_49 j_52) = 0 → ((hI h q0 18) = 12 → wJ_MO_receive_30 G l d w P q0 h) ∧ (¬ (hI h q0 18) = 12 → (¬ (hI h q0 17) = 100 → ∃ P_57 : Hp → Prop, (Cv G l M_MO_load (d + 0) (w + 0) [.ref q0, .int 0] h 0 0 P_57) ∧ (∀ h_59 : Hp, P_57 h_59 → (hS h_59 q0 = some (18, 0)) ∧ (∃ P_65 : Int32 → Hp → Prop, (Ci G l M_MO_legal (d + 4) (w + 102) [.ref q0] h_59 0 0 P_65) ∧ (∀ (x_69 : Int32) (h_67 : Hp), P_65 x_69 h_67 → (hS h_67 q0 = some (18, 0)) ∧ (∃ q_73 : Nat, (hR h_67 q0 15) = some q_73 ∧ (∃ N_75 : Nat, ∃ j_76 : Nat, (hS h_67 q_73 = some (0, N_75) ∧ 0 = nI j_76 ∧ j_76 < N_75 ∧ j_76 < 2147483648) ∧ (∀ x_78 : Int32, x_78 = (hI h_67 q_73 j_76) → ∃ P_79 : Hp → Prop, (Cv G l M_MO_load (d + 0) (w + 0) [.ref q0, .int 0] h_67 0 0 P_79) ∧ (∀ h_81 : Hp, P_79 h_81 → (hS h_81 q0 = some (18, 0)) ∧ (∃ P_87 : Hp → Prop, (Cv G l M_MO_removeFirst (d + 1) (w + 23) [.ref q0, .int 0] h_81 0 0 P_87) ∧ (∀ h_89 : Hp, P_87 h_89 → (0 ≤ x_69 → (hS h_89 q0 = some (18, 0)) ∧ (∀ x_96 : Int32, x_96 = (hI h_89 q0 17) → ∃ q_97 : Nat, (hR h_89 q0 20) = some q_97 ∧ (∃ N_99 : Nat, ∃ j_100 : Nat, (hS h_89 q_97 = some (0, N_99) ∧ x_96 = nI j_100 ∧ j_100 < N_99 ∧ j_100 < 2147483648) ∧ (∃ q_102 : Nat, (hR h_89 q0 12) = some q_102 ∧ (∃ N_104 : Nat, ∃ j_105 : Nat, (hS h_89 q_102 = some (0, N_104) ∧ 1 = nI j_105 ∧ j_105 < N_104 ∧ j_105 < 2147483648) ∧ (∃ q_107 : Nat, (hR h_89 q0 21) = some q_107 ∧ (∃ N_109 : Nat, ∃ j_110 : Nat, (hS h_89 q_107 = some (0, N_109) ∧ x_96 = nI j_110 ∧ j_110 < N_109 ∧ j_110 < 2147483648) ∧ (∃ q_112 : Nat, (hR h_89 q0 4) = some q_112 ∧ (∃ N_114 : Nat, ∃ j_115 : Nat, (hS h_89 q_112 = some (1, N_114) ∧ x_78 = nI j_115 ∧ j_115 < N_114 ∧ j_115 < 2147483648) ∧ (∃ q_117 : Nat, (hR h_89 q0 22) = some q_117 ∧ (∃ N_119 : Nat, ∃ j_120 : Nat, (hS h_89 q_117 = some (1, N_119) ∧ x_96 = nI j_120 ∧ j_120 < N_119 ∧ j_120 < 2147483648) ∧ (∃ P_122 : Int64 → Hp → Prop, (Cl G l M_MO_readNumber (d + 0) (w + 0) [.ref q0, .int 2] (pL (pI (pI (pI (pI h_89 q0 17 ((hI h_89 q0 17) + 1)) q0 18 ((hI (pI h_89 q0 17 ((hI h_89 q0 17) + 1)) q0 18) + 1)) q_97 j_100 x_78) q_107 j_110 (hI (pI (pI (pI h_89 q0 17 ((hI h_89 q0 17) + 1)) q0 18 ((hI (pI h_89 q0 17 ((hI h_89 q0 17) + 1)) q0 18) + 1)) q_97 j_100 x_78) q_102 j_105)) q_117 j_120 (hL h_89 q_112 j_115)) 0 0 P_122) ∧ (∀ (y_126 : Int64) (h_124 : Hp), P_122 y_126 h_124 → ∃ q_129 : Nat, (hR h_89 q0 23) = some q_129 ∧ (∃ N_131 : Nat, ∃ j_132 : Nat, (hS h_124 q_129 = some (1, N_131) ∧ x_96 = nI j_132 ∧ j_132 < N_131 ∧ j_132 < 2147483648) ∧ ((hS h_124 q0 = some (18, 0)) ∧ (∃ q_135 : Nat, (hR h_124 q0 12) = some q_135 ∧ (∃ N_137 : Nat, ∃ j_138 : Nat, (hS h_124 q_135 = some (0, N_137) ∧ 0 = nI j_138 ∧ j_138 < N_137 ∧ j_138 < 2147483648) ∧ ((((hI h_124 q_135 j_138) &&& 32) = 0 → wJ_MO_receive_156 G l d w P q0 x_69 x_78 x_96 0 x_96 (hR h_124 q0 24) (pL h_124 q_129 j_132 y_126)) ∧ (¬ ((hI h_124 q_135 j_138) &&& 32) = 0 → wJ_MO_receive_156 G l d w P q0 x_69 x_78 x_96 1 x_96 (hR h_124 q0 24) (pL h_124 q_129 j_132 y_126)))))))))))))))))))) ∧ (¬ 0 ≤ x_69 → P (-6) h_89))))))))))) ∧ ((hI h q0 17) = 100 → wJ_MO_receive_30 G l d w P q0 h))) ∧ ((hI h q_49 j_52) = 0 → P (-2) h))))
set_option maxRecDepth 100000 in
set_option maxHeartbeats 4000000 in
theorem ok_MO_receive {G : Gx} {l : Launch} {d w : Nat} {P : Int32 → Hp → Prop} {q0 : Nat} {h : Hp} (H : wp_MO_receive G l d w P q0 h) : Ci G l M_MO_receive (d + 5) (w + 131) [.ref q0] h 0 0 P := by
  unfold wp_MO_receive at H
  refine Ct.of (lv := [some (.ref q0), none, none, none]) (by decide) (Nat.le_of_ble_eq_true rfl) rfl (fun p e s m args below meth c => ?_)
  refine g_aload_n d_MO_receive_0 rfl ?_
  obtain ⟨z_48, H⟩ := H
  refine g_getR d_MO_receive_1 f_MO_51 z_48 (by decide) ?_
  refine g_iconst (v := 0) d_MO_receive_4 (by decide) ?_
  obtain ⟨q_49, e_50, H⟩ := H
  show Go _ _ _ [some (.ref q0), none, none, none] [.int 0, va_rf (hR h q0 16)] _ _ _
  rw [show va_rf (hR h q0 16) = Value.ref q_49 from by rw [e_50]; rfl]
  obtain ⟨N_51, H⟩ := H
  obtain ⟨j_52, H⟩ := H
  obtain ⟨z_53, H⟩ := H
  refine g_iald d_MO_receive_5 z_53.1 z_53.2.1 z_53.2.2.1 z_53.2.2.2 ?_
  obtain ⟨H1, H2⟩ := H
  refine g_if_ne (tgt := 12) d_MO_receive_6 (by decide) (fun c_54 => ?_) (fun c_54 => ?_)
  · have H := H1 c_54
    refine g_aload_n d_MO_receive_12 rfl ?_
    refine g_getI d_MO_receive_13 f_MO_211 z_48 ?_
    refine g_bipush (v := 12) d_MO_receive_16 (by decide) ?_
    obtain ⟨H1, H2⟩ := H
    refine g_icmp_eq (tgt := 30) d_MO_receive_18 (by decide) (fun c_55 => ?_) (fun c_55 => ?_)
    · have H := H1 c_55
      refine g_msk [true, false, false, false] ?_
      exact okJ_MO_receive_30 H
    · have H := H2 c_55
      refine g_aload_n d_MO_receive_21 rfl ?_
      refine g_getI d_MO_receive_22 f_MO_214 z_48 ?_
      refine g_bipush (v := 100) d_MO_receive_25 (by decide) ?_
      obtain ⟨H1, H2⟩ := H
      refine g_icmp_ne (tgt := 33) d_MO_receive_27 (by decide) (fun c_56 => ?_) (fun c_56 => ?_)
      · have H := H1 c_56
        refine g_aload_n d_MO_receive_33 rfl ?_
        refine g_iconst (v := 0) d_MO_receive_34 (by decide) ?_
        obtain ⟨P_57, C_58, H⟩ := H
        refine q_V (As := [.int 0]) (st := []) (nl := 3) d_MO_receive_35 v_MO_217 C_58 z_48 rfl (catS_le (Nat.le_of_ble_eq_true rfl)) rfl ⟨by omega, by omega, Nat.le_refl _, Nat.le_refl _⟩ (fun r_63 h_59 p_60 => ?_)
        obtain ⟨rfl, p_60⟩ := p_60
        replace H := H h_59 p_60
        show Go _ _ _ _ [] _ _ _
        refine g_aload_n d_MO_receive_38 rfl ?_
        obtain ⟨z_64, H⟩ := H
        obtain ⟨P_65, C_66, H⟩ := H
        refine q_V (As := []) (st := []) (nl := 10) d_MO_receive_39 v_MO_220 C_66 z_64 rfl (catS_le (Nat.le_of_ble_eq_true rfl)) rfl ⟨by omega, by omega, Nat.le_refl _, Nat.le_refl _⟩ (fun r_71 h_67 p_68 => ?_)
        obtain ⟨x_69, rfl, p_68⟩ := p_68
        replace H := H x_69 h_67 p_68
        show Go _ _ _ _ [.int x_69] _ _ _
        refine g_istore_n (lv' := [some (.ref q0), some (.int x_69), none, none]) d_MO_receive_42 (by decide) rfl ?_
        refine g_aload_n d_MO_receive_43 rfl ?_
        obtain ⟨z_72, H⟩ := H
        refine g_getR d_MO_receive_44 f_MO_48 z_72 (by decide) ?_
        refine g_iconst (v := 0) d_MO_receive_47 (by decide) ?_
        obtain ⟨q_73, e_74, H⟩ := H
        show Go _ _ _ [some (.ref q0), some (.int x_69), none, none] [.int 0, va_rf (hR h_67 q0 15)] _ _ _
        rw [show va_rf (hR h_67 q0 15) = Value.ref q_73 from by rw [e_74]; rfl]
        obtain ⟨N_75, H⟩ := H
        obtain ⟨j_76, H⟩ := H
        obtain ⟨z_77, H⟩ := H
        refine g_iald d_MO_receive_48 z_77.1 z_77.2.1 z_77.2.2.1 z_77.2.2.2 ?_
        refine g_topi (fun x_78 ex_78 => ?_)
        replace H := H x_78 ex_78
        refine g_istore_n (lv' := [some (.ref q0), some (.int x_69), some (.int x_78), none]) d_MO_receive_49 (by decide) rfl ?_
        refine g_aload_n d_MO_receive_50 rfl ?_
        refine g_iconst (v := 0) d_MO_receive_51 (by decide) ?_
        obtain ⟨P_79, C_80, H⟩ := H
        refine q_V (As := [.int 0]) (st := []) (nl := 3) d_MO_receive_52 v_MO_217 C_80 z_72 rfl (catS_le (Nat.le_of_ble_eq_true rfl)) rfl ⟨by omega, by omega, Nat.le_refl _, Nat.le_refl _⟩ (fun r_85 h_81 p_82 => ?_)
        obtain ⟨rfl, p_82⟩ := p_82
        replace H := H h_81 p_82
        show Go _ _ _ _ [] _ _ _
        refine g_aload_n d_MO_receive_55 rfl ?_
        refine g_iconst (v := 0) d_MO_receive_56 (by decide) ?_
        obtain ⟨z_86, H⟩ := H
        obtain ⟨P_87, C_88, H⟩ := H
        refine q_V (As := [.int 0]) (st := []) (nl := 4) d_MO_receive_57 v_MO_223 C_88 z_86 rfl (catS_le (Nat.le_of_ble_eq_true rfl)) rfl ⟨by omega, by omega, Nat.le_refl _, Nat.le_refl _⟩ (fun r_93 h_89 p_90 => ?_)
        obtain ⟨rfl, p_90⟩ := p_90
        replace H := H h_89 p_90
        show Go _ _ _ _ [] _ _ _
        refine g_iload_n d_MO_receive_60 rfl ?_
        obtain ⟨H1, H2⟩ := H
        refine g_if_ge (tgt := 67) d_MO_receive_61 (by decide) (fun c_94 => ?_) (fun c_94 => ?_)
        · have H := H1 c_94
          refine g_aload_n d_MO_receive_67 rfl ?_
          obtain ⟨z_95, H⟩ := H
          refine g_getI d_MO_receive_68 f_MO_214 z_95 ?_
          refine g_topi (fun x_96 ex_96 => ?_)
          replace H := H x_96 ex_96
          refine g_istore_n (lv' := [some (.ref q0), some (.int x_69), some (.int x_78), some (.int x_96)]) d_MO_receive_71 (by decide) rfl ?_
          refine g_aload_n d_MO_receive_72 rfl ?_
          refine g_dup d_MO_receive_73 rfl ?_
          refine g_getI d_MO_receive_74 f_MO_214 z_95 ?_
          refine g_iconst (v := 1) d_MO_receive_77 (by decide) ?_
          refine g_iadd d_MO_receive_78 ?_
          refine g_putI d_MO_receive_79 f_MO_214 (fo_8_17 _) z_95 ?_
          refine g_aload_n d_MO_receive_82 rfl ?_
          refine g_dup d_MO_receive_83 rfl ?_
          refine g_getI d_MO_receive_84 f_MO_211 z_95 ?_
          refine g_iconst (v := 1) d_MO_receive_87 (by decide) ?_
          refine g_iadd d_MO_receive_88 ?_
          refine g_putI d_MO_receive_89 f_MO_211 (fo_8_18 _) z_95 ?_
          refine g_aload_n d_MO_receive_92 rfl ?_
          refine g_getR d_MO_receive_93 f_MO_54 z_95 (by decide) ?_
          refine g_iload_n d_MO_receive_96 rfl ?_
          refine g_iload_n d_MO_receive_97 rfl ?_
          obtain ⟨q_97, e_98, H⟩ := H
          show Go _ _ _ [some (.ref q0), some (.int x_69), some (.int x_78), some (.int x_96)] [.int x_78, .int x_96, va_rf (hR h_89 q0 20)] _ _ _
          rw [show va_rf (hR h_89 q0 20) = Value.ref q_97 from by rw [e_98]; rfl]
          obtain ⟨N_99, H⟩ := H
          obtain ⟨j_100, H⟩ := H
          obtain ⟨z_101, H⟩ := H
          refine g_iast d_MO_receive_98 z_101.1 z_101.2.1 z_101.2.2.1 z_101.2.2.2 ?_
          refine g_aload_n d_MO_receive_99 rfl ?_
          refine g_getR d_MO_receive_100 f_MO_57 z_95 (by decide) ?_
          refine g_iload_n d_MO_receive_103 rfl ?_
          refine g_aload_n d_MO_receive_104 rfl ?_
          refine g_getR d_MO_receive_105 f_MO_39 z_95 (by decide) ?_
          refine g_iconst (v := 1) d_MO_receive_108 (by decide) ?_
          obtain ⟨q_102, e_103, H⟩ := H
          show Go _ _ _ [some (.ref q0), some (.int x_69), some (.int x_78), some (.int x_96)] [.int 1, va_rf (hR h_89 q0 12), .int x_96, va_rf (hR h_89 q0 21)] _ _ _
          rw [show va_rf (hR h_89 q0 12) = Value.ref q_102 from by rw [e_103]; rfl]
          obtain ⟨N_104, H⟩ := H
          obtain ⟨j_105, H⟩ := H
          obtain ⟨z_106, H⟩ := H
          refine g_iald d_MO_receive_109 z_106.1 z_106.2.1 z_106.2.2.1 z_106.2.2.2 ?_
          obtain ⟨q_107, e_108, H⟩ := H
          show Go _ _ _ [some (.ref q0), some (.int x_69), some (.int x_78), some (.int x_96)] [.int (hI (pI (pI (pI h_89 q0 17 ((hI h_89 q0 17) + 1)) q0 18 ((hI (pI h_89 q0 17 ((hI h_89 q0 17) + 1)) q0 18) + 1)) q_97 j_100 x_78) q_102 j_105), .int x_96, va_rf (hR h_89 q0 21)] _ _ _
          rw [show va_rf (hR h_89 q0 21) = Value.ref q_107 from by rw [e_108]; rfl]
          obtain ⟨N_109, H⟩ := H
          obtain ⟨j_110, H⟩ := H
          obtain ⟨z_111, H⟩ := H
          refine g_iast d_MO_receive_110 z_111.1 z_111.2.1 z_111.2.2.1 z_111.2.2.2 ?_
          refine g_aload_n d_MO_receive_111 rfl ?_
          refine g_getR d_MO_receive_112 f_MO_60 z_95 (by decide) ?_
          refine g_iload_n d_MO_receive_115 rfl ?_
          refine g_aload_n d_MO_receive_116 rfl ?_
          refine g_getR d_MO_receive_117 f_MO_16 z_95 (by decide) ?_
          refine g_iload_n d_MO_receive_120 rfl ?_
          obtain ⟨q_112, e_113, H⟩ := H
          show Go _ _ _ [some (.ref q0), some (.int x_69), some (.int x_78), some (.int x_96)] [.int x_78, va_rf (hR h_89 q0 4), .int x_96, va_rf (hR h_89 q0 22)] _ _ _
          rw [show va_rf (hR h_89 q0 4) = Value.ref q_112 from by rw [e_113]; rfl]
          obtain ⟨N_114, H⟩ := H
          obtain ⟨j_115, H⟩ := H
          obtain ⟨z_116, H⟩ := H
          refine g_lald d_MO_receive_121 z_116.1 z_116.2.1 z_116.2.2.1 z_116.2.2.2 ?_
          obtain ⟨q_117, e_118, H⟩ := H
          show Go _ _ _ [some (.ref q0), some (.int x_69), some (.int x_78), some (.int x_96)] [.long (hL h_89 q_112 j_115), .int x_96, va_rf (hR h_89 q0 22)] _ _ _
          rw [show va_rf (hR h_89 q0 22) = Value.ref q_117 from by rw [e_118]; rfl]
          obtain ⟨N_119, H⟩ := H
          obtain ⟨j_120, H⟩ := H
          obtain ⟨z_121, H⟩ := H
          refine g_last d_MO_receive_122 z_121.1 z_121.2.1 z_121.2.2.1 z_121.2.2.2 ?_
          refine g_aload_n d_MO_receive_123 rfl ?_
          refine g_getR d_MO_receive_124 f_MO_63 z_95 (by decide) ?_
          refine g_iload_n d_MO_receive_127 rfl ?_
          refine g_aload_n d_MO_receive_128 rfl ?_
          refine g_iconst (v := 2) d_MO_receive_129 (by decide) ?_
          obtain ⟨P_122, C_123, H⟩ := H
          refine q_V (As := [.int 2]) (st := [.int x_96, va_rf (hR h_89 q0 23)]) (nl := 6) d_MO_receive_130 v_MO_170 C_123 z_95 rfl (catS_le (Nat.le_of_ble_eq_true rfl)) rfl ⟨by omega, by omega, Nat.le_refl _, Nat.le_refl _⟩ (fun r_128 h_124 p_125 => ?_)
          obtain ⟨y_126, rfl, p_125⟩ := p_125
          replace H := H y_126 h_124 p_125
          show Go _ _ _ _ [.long y_126, .int x_96, va_rf (hR h_89 q0 23)] _ _ _
          obtain ⟨q_129, e_130, H⟩ := H
          show Go _ _ _ [some (.ref q0), some (.int x_69), some (.int x_78), some (.int x_96)] [.long y_126, .int x_96, va_rf (hR h_89 q0 23)] _ _ _
          rw [show va_rf (hR h_89 q0 23) = Value.ref q_129 from by rw [e_130]; rfl]
          obtain ⟨N_131, H⟩ := H
          obtain ⟨j_132, H⟩ := H
          obtain ⟨z_133, H⟩ := H
          refine g_last d_MO_receive_133 z_133.1 z_133.2.1 z_133.2.2.1 z_133.2.2.2 ?_
          refine g_aload_n d_MO_receive_134 rfl ?_
          obtain ⟨z_134, H⟩ := H
          refine g_getR d_MO_receive_135 f_MO_66 z_134 (by decide) ?_
          refine g_iload_n d_MO_receive_138 rfl ?_
          refine g_aload_n d_MO_receive_139 rfl ?_
          refine g_getR d_MO_receive_140 f_MO_39 z_134 (by decide) ?_
          refine g_iconst (v := 0) d_MO_receive_143 (by decide) ?_
          obtain ⟨q_135, e_136, H⟩ := H
          show Go _ _ _ [some (.ref q0), some (.int x_69), some (.int x_78), some (.int x_96)] [.int 0, va_rf (hR h_124 q0 12), .int x_96, va_rf (hR h_124 q0 24)] _ _ _
          rw [show va_rf (hR h_124 q0 12) = Value.ref q_135 from by rw [e_136]; rfl]
          obtain ⟨N_137, H⟩ := H
          obtain ⟨j_138, H⟩ := H
          obtain ⟨z_139, H⟩ := H
          refine g_iald d_MO_receive_144 z_139.1 z_139.2.1 z_139.2.2.1 z_139.2.2.2 ?_
          refine g_bipush (v := 32) d_MO_receive_145 (by decide) ?_
          refine g_iand d_MO_receive_147 ?_
          obtain ⟨H1, H2⟩ := H
          refine g_if_eq (tgt := 155) d_MO_receive_148 (by decide) (fun c_140 => ?_) (fun c_140 => ?_)
          · have H := H1 c_140
            refine g_iconst (v := 0) d_MO_receive_155 (by decide) ?_
            refine g_msk [true, true, true, true] ?_
            exact okJ_MO_receive_156 H
          · have H := H2 c_140
            refine g_iconst (v := 1) d_MO_receive_151 (by decide) ?_
            refine g_goto (tgt := 156) d_MO_receive_152 (by decide) ?_
            refine g_msk [true, true, true, true] ?_
            exact okJ_MO_receive_156 H
        · have H := H2 c_94
          refine g_bipush (v := (-6)) d_MO_receive_64 (by decide) ?_
          exact g_ireturn d_MO_receive_66 rfl (Nat.le_refl _) (Nat.le_refl _) ⟨_, rfl, H⟩
      · have H := H2 c_56
        refine g_msk [true, false, false, false] ?_
        exact okJ_MO_receive_30 H
  · have H := H2 c_54
    refine g_bipush (v := (-2)) d_MO_receive_9 (by decide) ?_
    exact g_ireturn d_MO_receive_11 rfl (Nat.le_refl _) (Nat.le_refl _) ⟨_, rfl, H⟩
set_option maxRecDepth 100000 in
set_option maxHeartbeats 4000000 in
def wB_MO_keepData_46 (G : Gx) (l : Launch) (d w : Nat) (P : Hp → Prop) (C46 : Int32 → Hp → Prop) (q0 : Nat) (x1 : Int32) (x2 : Int32) (x3 : Int32) (x4 : Int32) (h : Hp)  : Prop := (hS h q0 = some (18, 0)) ∧ (((hI h q0 11) ≤ x4 → P h) ∧ (¬ (hI h q0 11) ≤ x4 → ∃ q_3 : Nat, (hR h q0 12) = some q_3 ∧ (∃ N_5 : Nat, ∃ j_6 : Nat, (hS h q_3 = some (0, N_5) ∧ x4 = nI j_6 ∧ j_6 < N_5 ∧ j_6 < 2147483648) ∧ (∃ q_8 : Nat, (hR h q0 34) = some q_8 ∧ (∃ N_10 : Nat, ∃ j_11 : Nat, (hS h q_8 = some (0, N_10) ∧ (((144 * x3) + x4) - x2) = nI j_11 ∧ j_11 < N_10 ∧ j_11 < 2147483648) ∧ (∀ x_13 : Int32, x_13 = x4 + 1 → C46 x_13 (pI h q_8 j_11 (hI h q_3 j_6))))))))
set_option maxRecDepth 100000 in
set_option maxHeartbeats 4000000 in
theorem okB_MO_keepData_46 {G : Gx} {l : Launch} {d w : Nat} {P : Hp → Prop} {p : Program} {e : Env} {s : State} {m : MethodId} {args : Array Value} {below : List Frame} {meth : Method} {c : Code} {C46 : Int32 → Hp → Prop} {q0 : Nat} {x1 : Int32} {x2 : Int32} {x3 : Int32} {x4 : Int32} (hC46 : ∀ (x4 : Int32) (h : Hp), C46 x4 h → Go M_MO_keepData (mkX G (fun r h' => r = none ∧ P h') (d + 0) (w + 0) 0 0 p l e s m args below meth c) 46 [some (.ref q0), some (.int x1), some (.int x2), some (.int x3), some (.int x4)] [] h 0 0) {h : Hp}  (H : wB_MO_keepData_46 G l d w P C46 q0 x1 x2 x3 x4 h ) : Go M_MO_keepData (mkX G (fun r h' => r = none ∧ P h') (d + 0) (w + 0) 0 0 p l e s m args below meth c) 46 [some (.ref q0), some (.int x1), some (.int x2), some (.int x3), some (.int x4)] [] h 0 0 := by
  unfold wB_MO_keepData_46 at H
  refine g_iload d_MO_keepData_46 rfl ?_
  refine g_aload_n d_MO_keepData_48 rfl ?_
  obtain ⟨z_1, H⟩ := H
  refine g_getI d_MO_keepData_49 f_MO_131 z_1 ?_
  obtain ⟨H1, H2⟩ := H
  refine g_icmp_ge (tgt := 83) d_MO_keepData_52 (by decide) (fun c_2 => ?_) (fun c_2 => ?_)
  · have H := H1 c_2
    exact g_return d_MO_keepData_83 rfl (Nat.le_refl _) (Nat.le_refl _) ⟨rfl, H⟩
  · have H := H2 c_2
    refine g_aload_n d_MO_keepData_55 rfl ?_
    refine g_getR d_MO_keepData_56 f_MO_96 z_1 (by decide) ?_
    refine g_sipush (v := 144) d_MO_keepData_59 (by decide) ?_
    refine g_iload_n d_MO_keepData_62 rfl ?_
    refine g_imul d_MO_keepData_63 ?_
    refine g_iload d_MO_keepData_64 rfl ?_
    refine g_iadd d_MO_keepData_66 ?_
    refine g_iload_n d_MO_keepData_67 rfl ?_
    refine g_isub d_MO_keepData_68 ?_
    refine g_aload_n d_MO_keepData_69 rfl ?_
    refine g_getR d_MO_keepData_70 f_MO_39 z_1 (by decide) ?_
    refine g_iload d_MO_keepData_73 rfl ?_
    obtain ⟨q_3, e_4, H⟩ := H
    show Go _ _ _ [some (.ref q0), some (.int x1), some (.int x2), some (.int x3), some (.int x4)] [.int x4, va_rf (hR h q0 12), .int (((144 * x3) + x4) - x2), va_rf (hR h q0 34)] _ _ _
    rw [show va_rf (hR h q0 12) = Value.ref q_3 from by rw [e_4]; rfl]
    obtain ⟨N_5, H⟩ := H
    obtain ⟨j_6, H⟩ := H
    obtain ⟨z_7, H⟩ := H
    refine g_iald d_MO_keepData_75 z_7.1 z_7.2.1 z_7.2.2.1 z_7.2.2.2 ?_
    obtain ⟨q_8, e_9, H⟩ := H
    show Go _ _ _ [some (.ref q0), some (.int x1), some (.int x2), some (.int x3), some (.int x4)] [.int (hI h q_3 j_6), .int (((144 * x3) + x4) - x2), va_rf (hR h q0 34)] _ _ _
    rw [show va_rf (hR h q0 34) = Value.ref q_8 from by rw [e_9]; rfl]
    obtain ⟨N_10, H⟩ := H
    obtain ⟨j_11, H⟩ := H
    obtain ⟨z_12, H⟩ := H
    refine g_iast d_MO_keepData_76 z_12.1 z_12.2.1 z_12.2.2.1 z_12.2.2.2 ?_
    obtain ⟨x_13, ex_13⟩ : ∃ z : Int32, z = x4 + 1 := ⟨_, rfl⟩
    replace H := H x_13 ex_13
    refine g_iinc (v := x_13) (lv' := [some (.ref q0), some (.int x1), some (.int x2), some (.int x3), some (.int x_13)]) d_MO_keepData_77 rfl (by decide) (by rw [ex_13]; rfl) rfl ?_
    refine g_goto (tgt := 46) d_MO_keepData_80 (by decide) ?_
    refine g_msk [true, true, true, true, true] ?_
    exact hC46 _ _ H
set_option maxRecDepth 100000 in
set_option maxHeartbeats 4000000 in
def wL_MO_keepData_46 (G : Gx) (l : Launch) (d w : Nat) (P : Hp → Prop) (q0 : Nat) (x1 : Int32) (x2 : Int32) (x3 : Int32) (x4 : Int32) (h : Hp)  : Prop := ∃ (I : Int32 → Hp → Prop) (μ : Int32 → Hp → Nat), I x4 h ∧ ∀ (x4' : Int32) (h' : Hp), I x4' h' → wB_MO_keepData_46 G l d w P (fun x4_ h_ => I x4_ h_ ∧ μ x4_ h_ < μ x4' h') q0 x1 x2 x3 x4' h'
set_option maxRecDepth 100000 in
set_option maxHeartbeats 4000000 in
theorem okL_MO_keepData_46 {G : Gx} {l : Launch} {d w : Nat} {P : Hp → Prop} {p : Program} {e : Env} {s : State} {m : MethodId} {args : Array Value} {below : List Frame} {meth : Method} {c : Code} {q0 : Nat} {x1 : Int32} {x2 : Int32} {x3 : Int32} {x4 : Int32} {h : Hp}  (H : wL_MO_keepData_46 G l d w P  q0 x1 x2 x3 x4 h ) : Go M_MO_keepData (mkX G (fun r h' => r = none ∧ P h') (d + 0) (w + 0) 0 0 p l e s m args below meth c) 46 [some (.ref q0), some (.int x1), some (.int x2), some (.int x3), some (.int x4)] [] h 0 0 := by
  obtain ⟨I, μ, h0, hs⟩ := H
  have key : ∀ (N : Nat) (x4 : Int32) (h : Hp), I x4 h → μ x4 h < N → Go M_MO_keepData (mkX G (fun r h' => r = none ∧ P h') (d + 0) (w + 0) 0 0 p l e s m args below meth c) 46 [some (.ref q0), some (.int x1), some (.int x2), some (.int x3), some (.int x4)] [] h 0 0 := by
    intro N
    induction N with
    | zero => intro x4 h _ hN; exact absurd hN (Nat.not_lt_zero _)
    | succ N ih =>
      intro x4 h hI hN
      exact okB_MO_keepData_46 (fun x4_ h_ hh => ih x4_ h_ hh.1 (Nat.lt_of_lt_of_le hh.2 (Nat.le_of_lt_succ hN))) (hs x4 h hI)
  exact key _ _ _ h0 (Nat.lt_succ_self _)
set_option maxRecDepth 100000 in
set_option maxHeartbeats 4000000 in
def wB_MO_keepData_2 (G : Gx) (l : Launch) (d w : Nat) (P : Hp → Prop) (C2 : Int32 → Hp → Prop) (q0 : Nat) (x1 : Int32) (x2 : Int32) (x3 : Int32) (h : Hp)  : Prop := (hS h q0 = some (18, 0)) ∧ (∃ q_15 : Nat, (hR h q0 32) = some q_15 ∧ (∃ N_17 : Nat, ∃ j_18 : Nat, (hS h q_15 = some (2, N_17) ∧ x3 = nI j_18 ∧ j_18 < N_17 ∧ j_18 < 2147483648) ∧ (((hI h q_15 j_18) = 0 → ∃ q_21 : Nat, (hR h q0 32) = some q_21 ∧ (∃ N_23 : Nat, ∃ j_24 : Nat, (hS h q_21 = some (2, N_23) ∧ x3 = nI j_24 ∧ j_24 < N_23 ∧ j_24 < 2147483648) ∧ (∃ q_26 : Nat, (hR h q0 31) = some q_26 ∧ (∃ N_28 : Nat, ∃ j_29 : Nat, (hS h q_26 = some (0, N_28) ∧ x1 = nI j_29 ∧ j_29 < N_28 ∧ j_29 < 2147483648) ∧ (∃ q_31 : Nat, (hR h q0 33) = some q_31 ∧ (∃ N_33 : Nat, ∃ j_34 : Nat, (hS h q_31 = some (0, N_33) ∧ x3 = nI j_34 ∧ j_34 < N_33 ∧ j_34 < 2147483648) ∧ (wL_MO_keepData_46 G l d w P q0 x1 x2 x3 x2 (pI (pI (pI h q_21 j_24 1) q_26 j_29 x3) q_31 j_34 ((hI (pI (pI h q_21 j_24 1) q_26 j_29 x3) q0 11) - x2))))))))) ∧ (¬ (hI h q_15 j_18) = 0 → ∀ x_36 : Int32, x_36 = x3 + 1 → C2 x_36 h))))
set_option maxRecDepth 100000 in
set_option maxHeartbeats 4000000 in
theorem okB_MO_keepData_2 {G : Gx} {l : Launch} {d w : Nat} {P : Hp → Prop} {p : Program} {e : Env} {s : State} {m : MethodId} {args : Array Value} {below : List Frame} {meth : Method} {c : Code} {C2 : Int32 → Hp → Prop} {q0 : Nat} {x1 : Int32} {x2 : Int32} {x3 : Int32} (hC2 : ∀ (x3 : Int32) (h : Hp), C2 x3 h → Go M_MO_keepData (mkX G (fun r h' => r = none ∧ P h') (d + 0) (w + 0) 0 0 p l e s m args below meth c) 2 [some (.ref q0), some (.int x1), some (.int x2), some (.int x3), none] [] h 0 0) {h : Hp}  (H : wB_MO_keepData_2 G l d w P C2 q0 x1 x2 x3 h ) : Go M_MO_keepData (mkX G (fun r h' => r = none ∧ P h') (d + 0) (w + 0) 0 0 p l e s m args below meth c) 2 [some (.ref q0), some (.int x1), some (.int x2), some (.int x3), none] [] h 0 0 := by
  unfold wB_MO_keepData_2 at H
  refine g_aload_n d_MO_keepData_2 rfl ?_
  obtain ⟨z_14, H⟩ := H
  refine g_getR d_MO_keepData_3 f_MO_90 z_14 (by decide) ?_
  refine g_iload_n d_MO_keepData_6 rfl ?_
  obtain ⟨q_15, e_16, H⟩ := H
  show Go _ _ _ [some (.ref q0), some (.int x1), some (.int x2), some (.int x3), none] [.int x3, va_rf (hR h q0 32)] _ _ _
  rw [show va_rf (hR h q0 32) = Value.ref q_15 from by rw [e_16]; rfl]
  obtain ⟨N_17, H⟩ := H
  obtain ⟨j_18, H⟩ := H
  obtain ⟨z_19, H⟩ := H
  refine g_zald d_MO_keepData_7 z_19.1 z_19.2.1 z_19.2.2.1 z_19.2.2.2 ?_
  obtain ⟨H1, H2⟩ := H
  refine g_if_eq (tgt := 17) d_MO_keepData_8 (by decide) (fun c_20 => ?_) (fun c_20 => ?_)
  · have H := H1 c_20
    refine g_aload_n d_MO_keepData_17 rfl ?_
    refine g_getR d_MO_keepData_18 f_MO_90 z_14 (by decide) ?_
    refine g_iload_n d_MO_keepData_21 rfl ?_
    refine g_iconst (v := 1) d_MO_keepData_22 (by decide) ?_
    obtain ⟨q_21, e_22, H⟩ := H
    show Go _ _ _ [some (.ref q0), some (.int x1), some (.int x2), some (.int x3), none] [.int 1, .int x3, va_rf (hR h q0 32)] _ _ _
    rw [show va_rf (hR h q0 32) = Value.ref q_21 from by rw [e_22]; rfl]
    obtain ⟨N_23, H⟩ := H
    obtain ⟨j_24, H⟩ := H
    obtain ⟨z_25, H⟩ := H
    refine g_zast d_MO_keepData_23 z_25.1 z_25.2.1 z_25.2.2.1 z_25.2.2.2 (by decide) ?_
    refine g_aload_n d_MO_keepData_24 rfl ?_
    refine g_getR d_MO_keepData_25 f_MO_87 z_14 (by decide) ?_
    refine g_iload_n d_MO_keepData_28 rfl ?_
    refine g_iload_n d_MO_keepData_29 rfl ?_
    obtain ⟨q_26, e_27, H⟩ := H
    show Go _ _ _ [some (.ref q0), some (.int x1), some (.int x2), some (.int x3), none] [.int x3, .int x1, va_rf (hR h q0 31)] _ _ _
    rw [show va_rf (hR h q0 31) = Value.ref q_26 from by rw [e_27]; rfl]
    obtain ⟨N_28, H⟩ := H
    obtain ⟨j_29, H⟩ := H
    obtain ⟨z_30, H⟩ := H
    refine g_iast d_MO_keepData_30 z_30.1 z_30.2.1 z_30.2.2.1 z_30.2.2.2 ?_
    refine g_aload_n d_MO_keepData_31 rfl ?_
    refine g_getR d_MO_keepData_32 f_MO_93 z_14 (by decide) ?_
    refine g_iload_n d_MO_keepData_35 rfl ?_
    refine g_aload_n d_MO_keepData_36 rfl ?_
    refine g_getI d_MO_keepData_37 f_MO_131 z_14 ?_
    refine g_iload_n d_MO_keepData_40 rfl ?_
    refine g_isub d_MO_keepData_41 ?_
    obtain ⟨q_31, e_32, H⟩ := H
    show Go _ _ _ [some (.ref q0), some (.int x1), some (.int x2), some (.int x3), none] [.int ((hI (pI (pI h q_21 j_24 1) q_26 j_29 x3) q0 11) - x2), .int x3, va_rf (hR h q0 33)] _ _ _
    rw [show va_rf (hR h q0 33) = Value.ref q_31 from by rw [e_32]; rfl]
    obtain ⟨N_33, H⟩ := H
    obtain ⟨j_34, H⟩ := H
    obtain ⟨z_35, H⟩ := H
    refine g_iast d_MO_keepData_42 z_35.1 z_35.2.1 z_35.2.2.1 z_35.2.2.2 ?_
    refine g_iload_n d_MO_keepData_43 rfl ?_
    refine g_istore (lv' := [some (.ref q0), some (.int x1), some (.int x2), some (.int x3), some (.int x2)]) d_MO_keepData_44 (by decide) rfl ?_
    refine g_msk [true, true, true, true, true] ?_
    exact okL_MO_keepData_46 H
  · have H := H2 c_20
    obtain ⟨x_36, ex_36⟩ : ∃ z : Int32, z = x3 + 1 := ⟨_, rfl⟩
    replace H := H x_36 ex_36
    refine g_iinc (v := x_36) (lv' := [some (.ref q0), some (.int x1), some (.int x2), some (.int x_36), none]) d_MO_keepData_11 rfl (by decide) (by rw [ex_36]; rfl) rfl ?_
    refine g_goto (tgt := 2) d_MO_keepData_14 (by decide) ?_
    refine g_msk [true, true, true, true, false] ?_
    exact hC2 _ _ H
set_option maxRecDepth 100000 in
set_option maxHeartbeats 4000000 in
def wL_MO_keepData_2 (G : Gx) (l : Launch) (d w : Nat) (P : Hp → Prop) (q0 : Nat) (x1 : Int32) (x2 : Int32) (x3 : Int32) (h : Hp)  : Prop := ∃ (I : Int32 → Hp → Prop) (μ : Int32 → Hp → Nat), I x3 h ∧ ∀ (x3' : Int32) (h' : Hp), I x3' h' → wB_MO_keepData_2 G l d w P (fun x3_ h_ => I x3_ h_ ∧ μ x3_ h_ < μ x3' h') q0 x1 x2 x3' h'
set_option maxRecDepth 100000 in
set_option maxHeartbeats 4000000 in
theorem okL_MO_keepData_2 {G : Gx} {l : Launch} {d w : Nat} {P : Hp → Prop} {p : Program} {e : Env} {s : State} {m : MethodId} {args : Array Value} {below : List Frame} {meth : Method} {c : Code} {q0 : Nat} {x1 : Int32} {x2 : Int32} {x3 : Int32} {h : Hp}  (H : wL_MO_keepData_2 G l d w P  q0 x1 x2 x3 h ) : Go M_MO_keepData (mkX G (fun r h' => r = none ∧ P h') (d + 0) (w + 0) 0 0 p l e s m args below meth c) 2 [some (.ref q0), some (.int x1), some (.int x2), some (.int x3), none] [] h 0 0 := by
  obtain ⟨I, μ, h0, hs⟩ := H
  have key : ∀ (N : Nat) (x3 : Int32) (h : Hp), I x3 h → μ x3 h < N → Go M_MO_keepData (mkX G (fun r h' => r = none ∧ P h') (d + 0) (w + 0) 0 0 p l e s m args below meth c) 2 [some (.ref q0), some (.int x1), some (.int x2), some (.int x3), none] [] h 0 0 := by
    intro N
    induction N with
    | zero => intro x3 h _ hN; exact absurd hN (Nat.not_lt_zero _)
    | succ N ih =>
      intro x3 h hI hN
      exact okB_MO_keepData_2 (fun x3_ h_ hh => ih x3_ h_ hh.1 (Nat.lt_of_lt_of_le hh.2 (Nat.le_of_lt_succ hN))) (hs x3 h hI)
  exact key _ _ _ h0 (Nat.lt_succ_self _)
set_option maxRecDepth 100000 in
set_option maxHeartbeats 4000000 in
def wp_MO_keepData (G : Gx) (l : Launch) (d w : Nat) (P : Hp → Prop) (q0 : Nat) (x1 : Int32) (x2 : Int32) (h : Hp) : Prop := wL_MO_keepData_2 G l d w P q0 x1 x2 0 h
set_option maxRecDepth 100000 in
set_option maxHeartbeats 4000000 in
theorem ok_MO_keepData {G : Gx} {l : Launch} {d w : Nat} {P : Hp → Prop} {q0 : Nat} {x1 : Int32} {x2 : Int32} {h : Hp} (H : wp_MO_keepData G l d w P q0 x1 x2 h) : Cv G l M_MO_keepData (d + 0) (w + 0) [.ref q0, .int x1, .int x2] h 0 0 P := by
  unfold wp_MO_keepData at H
  refine Ct.of (lv := [some (.ref q0), some (.int x1), some (.int x2), none, none]) (by decide) (Nat.le_of_ble_eq_true rfl) rfl (fun p e s m args below meth c => ?_)
  refine g_iconst (v := 0) d_MO_keepData_0 (by decide) ?_
  refine g_istore_n (lv' := [some (.ref q0), some (.int x1), some (.int x2), some (.int 0), none]) d_MO_keepData_1 (by decide) rfl ?_
  refine g_msk [true, true, true, true, false] ?_
  exact okL_MO_keepData_2 H
set_option maxRecDepth 100000 in
set_option maxHeartbeats 4000000 in
def wJ_MO_owner_24 (G : Gx) (l : Launch) (d w : Nat) (P : Int32 → Hp → Prop) (q0 : Nat) (y1 : Int64) (x3 : Int32) (h : Hp)  : Prop := P x3 h
set_option maxRecDepth 100000 in
set_option maxHeartbeats 4000000 in
theorem okJ_MO_owner_24 {G : Gx} {l : Launch} {d w : Nat} {P : Int32 → Hp → Prop} {p : Program} {e : Env} {s : State} {m : MethodId} {args : Array Value} {below : List Frame} {meth : Method} {c : Code} {q0 : Nat} {y1 : Int64} {x3 : Int32} {h : Hp}  (H : wJ_MO_owner_24 G l d w P  q0 y1 x3 h ) : Go M_MO_owner (mkX G (fun r h' => ∃ x, r = some (.int x) ∧ P x h') (d + 0) (w + 0) 0 0 p l e s m args below meth c) 24 [some (.ref q0), some (.long y1), none, some (.int x3)] [] h 0 0 := by
  unfold wJ_MO_owner_24 at H
  refine g_iload_n d_MO_owner_24 rfl ?_
  exact g_ireturn d_MO_owner_25 rfl (Nat.le_refl _) (Nat.le_refl _) ⟨_, rfl, H⟩
set_option maxRecDepth 100000 in
set_option maxHeartbeats 4000000 in
def wB_MO_owner_2 (G : Gx) (l : Launch) (d w : Nat) (P : Int32 → Hp → Prop) (C2 : Int32 → Hp → Prop) (q0 : Nat) (y1 : Int64) (x3 : Int32) (h : Hp)  : Prop := (4 ≤ x3 → wJ_MO_owner_24 G l d w P q0 y1 x3 h) ∧ (¬ 4 ≤ x3 → (hS h q0 = some (18, 0)) ∧ (∃ q_3 : Nat, (hR h q0 4) = some q_3 ∧ (∃ N_5 : Nat, ∃ j_6 : Nat, (hS h q_3 = some (1, N_5) ∧ x3 = nI j_6 ∧ j_6 < N_5 ∧ j_6 < 2147483648) ∧ (((lg_cmp (hL h q_3 j_6) y1) = 0 → wJ_MO_owner_24 G l d w P q0 y1 x3 h) ∧ (¬ (lg_cmp (hL h q_3 j_6) y1) = 0 → ∀ x_9 : Int32, x_9 = x3 + 1 → C2 x_9 h)))))
set_option maxRecDepth 100000 in
set_option maxHeartbeats 4000000 in
theorem okB_MO_owner_2 {G : Gx} {l : Launch} {d w : Nat} {P : Int32 → Hp → Prop} {p : Program} {e : Env} {s : State} {m : MethodId} {args : Array Value} {below : List Frame} {meth : Method} {c : Code} {C2 : Int32 → Hp → Prop} {q0 : Nat} {y1 : Int64} {x3 : Int32} (hC2 : ∀ (x3 : Int32) (h : Hp), C2 x3 h → Go M_MO_owner (mkX G (fun r h' => ∃ x, r = some (.int x) ∧ P x h') (d + 0) (w + 0) 0 0 p l e s m args below meth c) 2 [some (.ref q0), some (.long y1), none, some (.int x3)] [] h 0 0) {h : Hp}  (H : wB_MO_owner_2 G l d w P C2 q0 y1 x3 h ) : Go M_MO_owner (mkX G (fun r h' => ∃ x, r = some (.int x) ∧ P x h') (d + 0) (w + 0) 0 0 p l e s m args below meth c) 2 [some (.ref q0), some (.long y1), none, some (.int x3)] [] h 0 0 := by
  unfold wB_MO_owner_2 at H
  refine g_iload_n d_MO_owner_2 rfl ?_
  refine g_iconst (v := 4) d_MO_owner_3 (by decide) ?_
  obtain ⟨H1, H2⟩ := H
  refine g_icmp_ge (tgt := 24) d_MO_owner_4 (by decide) (fun c_1 => ?_) (fun c_1 => ?_)
  · have H := H1 c_1
    refine g_msk [true, true, false, true] ?_
    exact okJ_MO_owner_24 H
  · have H := H2 c_1
    refine g_aload_n d_MO_owner_7 rfl ?_
    obtain ⟨z_2, H⟩ := H
    refine g_getR d_MO_owner_8 f_MO_16 z_2 (by decide) ?_
    refine g_iload_n d_MO_owner_11 rfl ?_
    obtain ⟨q_3, e_4, H⟩ := H
    show Go _ _ _ [some (.ref q0), some (.long y1), none, some (.int x3)] [.int x3, va_rf (hR h q0 4)] _ _ _
    rw [show va_rf (hR h q0 4) = Value.ref q_3 from by rw [e_4]; rfl]
    obtain ⟨N_5, H⟩ := H
    obtain ⟨j_6, H⟩ := H
    obtain ⟨z_7, H⟩ := H
    refine g_lald d_MO_owner_12 z_7.1 z_7.2.1 z_7.2.2.1 z_7.2.2.2 ?_
    refine g_lload_n d_MO_owner_13 rfl ?_
    refine g_lcmp d_MO_owner_14 ?_
    obtain ⟨H1, H2⟩ := H
    refine g_if_eq (tgt := 24) d_MO_owner_15 (by decide) (fun c_8 => ?_) (fun c_8 => ?_)
    · have H := H1 c_8
      refine g_msk [true, true, false, true] ?_
      exact okJ_MO_owner_24 H
    · have H := H2 c_8
      obtain ⟨x_9, ex_9⟩ : ∃ z : Int32, z = x3 + 1 := ⟨_, rfl⟩
      replace H := H x_9 ex_9
      refine g_iinc (v := x_9) (lv' := [some (.ref q0), some (.long y1), none, some (.int x_9)]) d_MO_owner_18 rfl (by decide) (by rw [ex_9]; rfl) rfl ?_
      refine g_goto (tgt := 2) d_MO_owner_21 (by decide) ?_
      refine g_msk [true, true, false, true] ?_
      exact hC2 _ _ H
set_option maxRecDepth 100000 in
set_option maxHeartbeats 4000000 in
def wL_MO_owner_2 (G : Gx) (l : Launch) (d w : Nat) (P : Int32 → Hp → Prop) (q0 : Nat) (y1 : Int64) (x3 : Int32) (h : Hp)  : Prop := ∃ (I : Int32 → Hp → Prop) (μ : Int32 → Hp → Nat), I x3 h ∧ ∀ (x3' : Int32) (h' : Hp), I x3' h' → wB_MO_owner_2 G l d w P (fun x3_ h_ => I x3_ h_ ∧ μ x3_ h_ < μ x3' h') q0 y1 x3' h'
set_option maxRecDepth 100000 in
set_option maxHeartbeats 4000000 in
theorem okL_MO_owner_2 {G : Gx} {l : Launch} {d w : Nat} {P : Int32 → Hp → Prop} {p : Program} {e : Env} {s : State} {m : MethodId} {args : Array Value} {below : List Frame} {meth : Method} {c : Code} {q0 : Nat} {y1 : Int64} {x3 : Int32} {h : Hp}  (H : wL_MO_owner_2 G l d w P  q0 y1 x3 h ) : Go M_MO_owner (mkX G (fun r h' => ∃ x, r = some (.int x) ∧ P x h') (d + 0) (w + 0) 0 0 p l e s m args below meth c) 2 [some (.ref q0), some (.long y1), none, some (.int x3)] [] h 0 0 := by
  obtain ⟨I, μ, h0, hs⟩ := H
  have key : ∀ (N : Nat) (x3 : Int32) (h : Hp), I x3 h → μ x3 h < N → Go M_MO_owner (mkX G (fun r h' => ∃ x, r = some (.int x) ∧ P x h') (d + 0) (w + 0) 0 0 p l e s m args below meth c) 2 [some (.ref q0), some (.long y1), none, some (.int x3)] [] h 0 0 := by
    intro N
    induction N with
    | zero => intro x3 h _ hN; exact absurd hN (Nat.not_lt_zero _)
    | succ N ih =>
      intro x3 h hI hN
      exact okB_MO_owner_2 (fun x3_ h_ hh => ih x3_ h_ hh.1 (Nat.lt_of_lt_of_le hh.2 (Nat.le_of_lt_succ hN))) (hs x3 h hI)
  exact key _ _ _ h0 (Nat.lt_succ_self _)
set_option maxRecDepth 100000 in
set_option maxHeartbeats 4000000 in
def wp_MO_owner (G : Gx) (l : Launch) (d w : Nat) (P : Int32 → Hp → Prop) (q0 : Nat) (y1 : Int64) (h : Hp) : Prop := wL_MO_owner_2 G l d w P q0 y1 0 h
set_option maxRecDepth 100000 in
set_option maxHeartbeats 4000000 in
theorem ok_MO_owner {G : Gx} {l : Launch} {d w : Nat} {P : Int32 → Hp → Prop} {q0 : Nat} {y1 : Int64} {h : Hp} (H : wp_MO_owner G l d w P q0 y1 h) : Ci G l M_MO_owner (d + 0) (w + 0) [.ref q0, .long y1] h 0 0 P := by
  unfold wp_MO_owner at H
  refine Ct.of (lv := [some (.ref q0), some (.long y1), none, none]) (by decide) (Nat.le_of_ble_eq_true rfl) rfl (fun p e s m args below meth c => ?_)
  refine g_iconst (v := 0) d_MO_owner_0 (by decide) ?_
  refine g_istore_n (lv' := [some (.ref q0), some (.long y1), none, some (.int 0)]) d_MO_owner_1 (by decide) rfl ?_
  refine g_msk [true, true, false, true] ?_
  exact okL_MO_owner_2 H
set_option maxRecDepth 100000 in
set_option maxHeartbeats 4000000 in
def wJ_MO_moment_30 (G : Gx) (l : Launch) (d w : Nat) (P : Int32 → Hp → Prop) (q0 : Nat) (x1 : Int32) (sx0 : Int32) (h : Hp)  : Prop := P sx0 h
set_option maxRecDepth 100000 in
set_option maxHeartbeats 4000000 in
theorem okJ_MO_moment_30 {G : Gx} {l : Launch} {d w : Nat} {P : Int32 → Hp → Prop} {p : Program} {e : Env} {s : State} {m : MethodId} {args : Array Value} {below : List Frame} {meth : Method} {c : Code} {q0 : Nat} {x1 : Int32} {sx0 : Int32} {h : Hp}  (H : wJ_MO_moment_30 G l d w P  q0 x1 sx0 h ) : Go M_MO_moment (mkX G (fun r h' => ∃ x, r = some (.int x) ∧ P x h') (d + 0) (w + 0) 0 0 p l e s m args below meth c) 30 [some (.ref q0), some (.int x1)] [.int sx0] h 0 0 := by
  unfold wJ_MO_moment_30 at H
  exact g_ireturn d_MO_moment_30 rfl (Nat.le_refl _) (Nat.le_refl _) ⟨_, rfl, H⟩
set_option maxRecDepth 100000 in
set_option maxHeartbeats 4000000 in
def wp_MO_moment (G : Gx) (l : Launch) (d w : Nat) (P : Int32 → Hp → Prop) (q0 : Nat) (x1 : Int32) (h : Hp) : Prop := (hS h q0 = some (18, 0)) ∧ (∃ q_2 : Nat, (hR h q0 28) = some q_2 ∧ (∃ N_4 : Nat, ∃ j_5 : Nat, (hS h q_2 = some (0, N_4) ∧ x1 = nI j_5 ∧ j_5 < N_4 ∧ j_5 < 2147483648) ∧ (∃ q_7 : Nat, (hR h q0 27) = some q_7 ∧ (∃ N_9 : Nat, ∃ j_10 : Nat, (hS h q_7 = some (0, N_9) ∧ x1 = nI j_10 ∧ j_10 < N_9 ∧ j_10 < 2147483648) ∧ (((hI h q_7 j_10) ≤ (hI h q_2 j_5) → ∃ q_13 : Nat, (hR h q0 27) = some q_13 ∧ (∃ N_15 : Nat, ∃ j_16 : Nat, (hS h q_13 = some (0, N_15) ∧ x1 = nI j_16 ∧ j_16 < N_15 ∧ j_16 < 2147483648) ∧ (wJ_MO_moment_30 G l d w P q0 x1 (hI h q_13 j_16) h))) ∧ (¬ (hI h q_7 j_10) ≤ (hI h q_2 j_5) → ∃ q_18 : Nat, (hR h q0 28) = some q_18 ∧ (∃ N_20 : Nat, ∃ j_21 : Nat, (hS h q_18 = some (0, N_20) ∧ x1 = nI j_21 ∧ j_21 < N_20 ∧ j_21 < 2147483648) ∧ (wJ_MO_moment_30 G l d w P q0 x1 (hI h q_18 j_21) h))))))))
set_option maxRecDepth 100000 in
set_option maxHeartbeats 4000000 in
theorem ok_MO_moment {G : Gx} {l : Launch} {d w : Nat} {P : Int32 → Hp → Prop} {q0 : Nat} {x1 : Int32} {h : Hp} (H : wp_MO_moment G l d w P q0 x1 h) : Ci G l M_MO_moment (d + 0) (w + 0) [.ref q0, .int x1] h 0 0 P := by
  unfold wp_MO_moment at H
  refine Ct.of (lv := [some (.ref q0), some (.int x1)]) (by decide) (Nat.le_of_ble_eq_true rfl) rfl (fun p e s m args below meth c => ?_)
  refine g_aload_n d_MO_moment_0 rfl ?_
  obtain ⟨z_1, H⟩ := H
  refine g_getR d_MO_moment_1 f_MO_78 z_1 (by decide) ?_
  refine g_iload_n d_MO_moment_4 rfl ?_
  obtain ⟨q_2, e_3, H⟩ := H
  show Go _ _ _ [some (.ref q0), some (.int x1)] [.int x1, va_rf (hR h q0 28)] _ _ _
  rw [show va_rf (hR h q0 28) = Value.ref q_2 from by rw [e_3]; rfl]
  obtain ⟨N_4, H⟩ := H
  obtain ⟨j_5, H⟩ := H
  obtain ⟨z_6, H⟩ := H
  refine g_iald d_MO_moment_5 z_6.1 z_6.2.1 z_6.2.2.1 z_6.2.2.2 ?_
  refine g_aload_n d_MO_moment_6 rfl ?_
  refine g_getR d_MO_moment_7 f_MO_75 z_1 (by decide) ?_
  refine g_iload_n d_MO_moment_10 rfl ?_
  obtain ⟨q_7, e_8, H⟩ := H
  show Go _ _ _ [some (.ref q0), some (.int x1)] [.int x1, va_rf (hR h q0 27), .int (hI h q_2 j_5)] _ _ _
  rw [show va_rf (hR h q0 27) = Value.ref q_7 from by rw [e_8]; rfl]
  obtain ⟨N_9, H⟩ := H
  obtain ⟨j_10, H⟩ := H
  obtain ⟨z_11, H⟩ := H
  refine g_iald d_MO_moment_11 z_11.1 z_11.2.1 z_11.2.2.1 z_11.2.2.2 ?_
  obtain ⟨H1, H2⟩ := H
  refine g_icmp_ge (tgt := 24) d_MO_moment_12 (by decide) (fun c_12 => ?_) (fun c_12 => ?_)
  · have H := H1 c_12
    refine g_aload_n d_MO_moment_24 rfl ?_
    refine g_getR d_MO_moment_25 f_MO_75 z_1 (by decide) ?_
    refine g_iload_n d_MO_moment_28 rfl ?_
    obtain ⟨q_13, e_14, H⟩ := H
    show Go _ _ _ [some (.ref q0), some (.int x1)] [.int x1, va_rf (hR h q0 27)] _ _ _
    rw [show va_rf (hR h q0 27) = Value.ref q_13 from by rw [e_14]; rfl]
    obtain ⟨N_15, H⟩ := H
    obtain ⟨j_16, H⟩ := H
    obtain ⟨z_17, H⟩ := H
    refine g_iald d_MO_moment_29 z_17.1 z_17.2.1 z_17.2.2.1 z_17.2.2.2 ?_
    refine g_msk [true, true] ?_
    exact okJ_MO_moment_30 H
  · have H := H2 c_12
    refine g_aload_n d_MO_moment_15 rfl ?_
    refine g_getR d_MO_moment_16 f_MO_78 z_1 (by decide) ?_
    refine g_iload_n d_MO_moment_19 rfl ?_
    obtain ⟨q_18, e_19, H⟩ := H
    show Go _ _ _ [some (.ref q0), some (.int x1)] [.int x1, va_rf (hR h q0 28)] _ _ _
    rw [show va_rf (hR h q0 28) = Value.ref q_18 from by rw [e_19]; rfl]
    obtain ⟨N_20, H⟩ := H
    obtain ⟨j_21, H⟩ := H
    obtain ⟨z_22, H⟩ := H
    refine g_iald d_MO_moment_20 z_22.1 z_22.2.1 z_22.2.2.1 z_22.2.2.2 ?_
    refine g_goto (tgt := 30) d_MO_moment_21 (by decide) ?_
    refine g_msk [true, true] ?_
    exact okJ_MO_moment_30 H
set_option maxRecDepth 100000 in
set_option maxHeartbeats 4000000 in
def wJ_MO_earliest_43 (G : Gx) (l : Launch) (d w : Nat) (P : Int32 → Hp → Prop) (C4 : Int32 → Int32 → Hp → Prop) (q0 : Nat) (x1 : Int32) (x2 : Int32) (sx0 : Int32) (h : Hp)  : Prop := ∀ x_1 : Int32, x_1 = x2 + 1 → C4 sx0 x_1 h
set_option maxRecDepth 100000 in
set_option maxHeartbeats 4000000 in
theorem okJ_MO_earliest_43 {G : Gx} {l : Launch} {d w : Nat} {P : Int32 → Hp → Prop} {p : Program} {e : Env} {s : State} {m : MethodId} {args : Array Value} {below : List Frame} {meth : Method} {c : Code} {C4 : Int32 → Int32 → Hp → Prop} {q0 : Nat} {x1 : Int32} {x2 : Int32} {sx0 : Int32} (hC4 : ∀ (x1 : Int32) (x2 : Int32) (h : Hp), C4 x1 x2 h → Go M_MO_earliest (mkX G (fun r h' => ∃ x, r = some (.int x) ∧ P x h') (d + 1) (w + 21) 0 0 p l e s m args below meth c) 4 [some (.ref q0), some (.int x1), some (.int x2)] [] h 0 0) {h : Hp}  (H : wJ_MO_earliest_43 G l d w P C4 q0 x1 x2 sx0 h ) : Go M_MO_earliest (mkX G (fun r h' => ∃ x, r = some (.int x) ∧ P x h') (d + 1) (w + 21) 0 0 p l e s m args below meth c) 43 [some (.ref q0), some (.int x1), some (.int x2)] [.int sx0] h 0 0 := by
  unfold wJ_MO_earliest_43 at H
  refine g_istore_n (lv' := [some (.ref q0), some (.int sx0), some (.int x2)]) d_MO_earliest_43 (by decide) rfl ?_
  obtain ⟨x_1, ex_1⟩ : ∃ z : Int32, z = x2 + 1 := ⟨_, rfl⟩
  replace H := H x_1 ex_1
  refine g_iinc (v := x_1) (lv' := [some (.ref q0), some (.int sx0), some (.int x_1)]) d_MO_earliest_44 rfl (by decide) (by rw [ex_1]; rfl) rfl ?_
  refine g_goto (tgt := 4) d_MO_earliest_47 (by decide) ?_
  refine g_msk [true, true, true] ?_
  exact hC4 _ _ _ H
set_option maxRecDepth 100000 in
set_option maxHeartbeats 4000000 in
def wJ_MO_earliest_42 (G : Gx) (l : Launch) (d w : Nat) (P : Int32 → Hp → Prop) (C4 : Int32 → Int32 → Hp → Prop) (q0 : Nat) (x1 : Int32) (x2 : Int32) (h : Hp)  : Prop := wJ_MO_earliest_43 G l d w P C4 q0 x1 x2 x1 h
set_option maxRecDepth 100000 in
set_option maxHeartbeats 4000000 in
theorem okJ_MO_earliest_42 {G : Gx} {l : Launch} {d w : Nat} {P : Int32 → Hp → Prop} {p : Program} {e : Env} {s : State} {m : MethodId} {args : Array Value} {below : List Frame} {meth : Method} {c : Code} {C4 : Int32 → Int32 → Hp → Prop} {q0 : Nat} {x1 : Int32} {x2 : Int32} (hC4 : ∀ (x1 : Int32) (x2 : Int32) (h : Hp), C4 x1 x2 h → Go M_MO_earliest (mkX G (fun r h' => ∃ x, r = some (.int x) ∧ P x h') (d + 1) (w + 21) 0 0 p l e s m args below meth c) 4 [some (.ref q0), some (.int x1), some (.int x2)] [] h 0 0) {h : Hp}  (H : wJ_MO_earliest_42 G l d w P C4 q0 x1 x2 h ) : Go M_MO_earliest (mkX G (fun r h' => ∃ x, r = some (.int x) ∧ P x h') (d + 1) (w + 21) 0 0 p l e s m args below meth c) 42 [some (.ref q0), some (.int x1), some (.int x2)] [] h 0 0 := by
  unfold wJ_MO_earliest_42 at H
  refine g_iload_n d_MO_earliest_42 rfl ?_
  refine g_msk [true, true, true] ?_
  exact okJ_MO_earliest_43 hC4 H
set_option maxRecDepth 100000 in
set_option maxHeartbeats 4000000 in
def wJ_MO_earliest_38 (G : Gx) (l : Launch) (d w : Nat) (P : Int32 → Hp → Prop) (C4 : Int32 → Int32 → Hp → Prop) (q0 : Nat) (x1 : Int32) (x2 : Int32) (h : Hp)  : Prop := wJ_MO_earliest_43 G l d w P C4 q0 x1 x2 x2 h
set_option maxRecDepth 100000 in
set_option maxHeartbeats 4000000 in
theorem okJ_MO_earliest_38 {G : Gx} {l : Launch} {d w : Nat} {P : Int32 → Hp → Prop} {p : Program} {e : Env} {s : State} {m : MethodId} {args : Array Value} {below : List Frame} {meth : Method} {c : Code} {C4 : Int32 → Int32 → Hp → Prop} {q0 : Nat} {x1 : Int32} {x2 : Int32} (hC4 : ∀ (x1 : Int32) (x2 : Int32) (h : Hp), C4 x1 x2 h → Go M_MO_earliest (mkX G (fun r h' => ∃ x, r = some (.int x) ∧ P x h') (d + 1) (w + 21) 0 0 p l e s m args below meth c) 4 [some (.ref q0), some (.int x1), some (.int x2)] [] h 0 0) {h : Hp}  (H : wJ_MO_earliest_38 G l d w P C4 q0 x1 x2 h ) : Go M_MO_earliest (mkX G (fun r h' => ∃ x, r = some (.int x) ∧ P x h') (d + 1) (w + 21) 0 0 p l e s m args below meth c) 38 [some (.ref q0), some (.int x1), some (.int x2)] [] h 0 0 := by
  unfold wJ_MO_earliest_38 at H
  refine g_iload_n d_MO_earliest_38 rfl ?_
  refine g_goto (tgt := 43) d_MO_earliest_39 (by decide) ?_
  refine g_msk [true, true, true] ?_
  exact okJ_MO_earliest_43 hC4 H
set_option maxRecDepth 100000 in
set_option maxHeartbeats 4000000 in
def wB_MO_earliest_4 (G : Gx) (l : Launch) (d w : Nat) (P : Int32 → Hp → Prop) (C4 : Int32 → Int32 → Hp → Prop) (q0 : Nat) (x1 : Int32) (x2 : Int32) (h : Hp)  : Prop := (hS h q0 = some (18, 0)) ∧ (((hI h q0 17) ≤ x2 → P x1 h) ∧ (¬ (hI h q0 17) ≤ x2 → ∃ q_4 : Nat, (hR h q0 30) = some q_4 ∧ (∃ N_6 : Nat, ∃ j_7 : Nat, (hS h q_4 = some (0, N_6) ∧ x2 = nI j_7 ∧ j_7 < N_6 ∧ j_7 < 2147483648) ∧ ((¬ (hI h q_4 j_7) = 0 → wJ_MO_earliest_42 G l d w P C4 q0 x1 x2 h) ∧ ((hI h q_4 j_7) = 0 → (x1 < 0 → wJ_MO_earliest_38 G l d w P C4 q0 x1 x2 h) ∧ (¬ x1 < 0 → ∃ P_11 : Int32 → Hp → Prop, (Ci G l M_MO_moment (d + 0) (w + 0) [.ref q0, .int x2] h 0 0 P_11) ∧ (∀ (x_15 : Int32) (h_13 : Hp), P_11 x_15 h_13 → (hS h_13 q0 = some (18, 0)) ∧ (∃ P_19 : Int32 → Hp → Prop, (Ci G l M_MO_moment (d + 0) (w + 0) [.ref q0, .int x1] h_13 0 0 P_19) ∧ (∀ (x_23 : Int32) (h_21 : Hp), P_19 x_23 h_21 → (x_23 ≤ x_15 → wJ_MO_earliest_42 G l d w P C4 q0 x1 x2 h_21) ∧ (¬ x_23 ≤ x_15 → wJ_MO_earliest_38 G l d w P C4 q0 x1 x2 h_21))))))))))
set_option maxRecDepth 100000 in
set_option maxHeartbeats 4000000 in
theorem okB_MO_earliest_4 {G : Gx} {l : Launch} {d w : Nat} {P : Int32 → Hp → Prop} {p : Program} {e : Env} {s : State} {m : MethodId} {args : Array Value} {below : List Frame} {meth : Method} {c : Code} {C4 : Int32 → Int32 → Hp → Prop} {q0 : Nat} {x1 : Int32} {x2 : Int32} (hC4 : ∀ (x1 : Int32) (x2 : Int32) (h : Hp), C4 x1 x2 h → Go M_MO_earliest (mkX G (fun r h' => ∃ x, r = some (.int x) ∧ P x h') (d + 1) (w + 21) 0 0 p l e s m args below meth c) 4 [some (.ref q0), some (.int x1), some (.int x2)] [] h 0 0) {h : Hp}  (H : wB_MO_earliest_4 G l d w P C4 q0 x1 x2 h ) : Go M_MO_earliest (mkX G (fun r h' => ∃ x, r = some (.int x) ∧ P x h') (d + 1) (w + 21) 0 0 p l e s m args below meth c) 4 [some (.ref q0), some (.int x1), some (.int x2)] [] h 0 0 := by
  unfold wB_MO_earliest_4 at H
  refine g_iload_n d_MO_earliest_4 rfl ?_
  refine g_aload_n d_MO_earliest_5 rfl ?_
  obtain ⟨z_2, H⟩ := H
  refine g_getI d_MO_earliest_6 f_MO_214 z_2 ?_
  obtain ⟨H1, H2⟩ := H
  refine g_icmp_ge (tgt := 50) d_MO_earliest_9 (by decide) (fun c_3 => ?_) (fun c_3 => ?_)
  · have H := H1 c_3
    refine g_iload_n d_MO_earliest_50 rfl ?_
    exact g_ireturn d_MO_earliest_51 rfl (Nat.le_refl _) (Nat.le_refl _) ⟨_, rfl, H⟩
  · have H := H2 c_3
    refine g_aload_n d_MO_earliest_12 rfl ?_
    refine g_getR d_MO_earliest_13 f_MO_84 z_2 (by decide) ?_
    refine g_iload_n d_MO_earliest_16 rfl ?_
    obtain ⟨q_4, e_5, H⟩ := H
    show Go _ _ _ [some (.ref q0), some (.int x1), some (.int x2)] [.int x2, va_rf (hR h q0 30)] _ _ _
    rw [show va_rf (hR h q0 30) = Value.ref q_4 from by rw [e_5]; rfl]
    obtain ⟨N_6, H⟩ := H
    obtain ⟨j_7, H⟩ := H
    obtain ⟨z_8, H⟩ := H
    refine g_iald d_MO_earliest_17 z_8.1 z_8.2.1 z_8.2.2.1 z_8.2.2.2 ?_
    obtain ⟨H1, H2⟩ := H
    refine g_if_ne (tgt := 42) d_MO_earliest_18 (by decide) (fun c_9 => ?_) (fun c_9 => ?_)
    · have H := H1 c_9
      refine g_msk [true, true, true] ?_
      exact okJ_MO_earliest_42 hC4 H
    · have H := H2 c_9
      refine g_iload_n d_MO_earliest_21 rfl ?_
      obtain ⟨H1, H2⟩ := H
      refine g_if_lt (tgt := 38) d_MO_earliest_22 (by decide) (fun c_10 => ?_) (fun c_10 => ?_)
      · have H := H1 c_10
        refine g_msk [true, true, true] ?_
        exact okJ_MO_earliest_38 hC4 H
      · have H := H2 c_10
        refine g_aload_n d_MO_earliest_25 rfl ?_
        refine g_iload_n d_MO_earliest_26 rfl ?_
        obtain ⟨P_11, C_12, H⟩ := H
        refine q_V (As := [.int x2]) (st := []) (nl := 2) d_MO_earliest_27 v_MO_232 C_12 z_2 rfl (catS_le (Nat.le_of_ble_eq_true rfl)) rfl ⟨by omega, by omega, Nat.le_refl _, Nat.le_refl _⟩ (fun r_17 h_13 p_14 => ?_)
        obtain ⟨x_15, rfl, p_14⟩ := p_14
        replace H := H x_15 h_13 p_14
        show Go _ _ _ _ [.int x_15] _ _ _
        refine g_aload_n d_MO_earliest_30 rfl ?_
        refine g_iload_n d_MO_earliest_31 rfl ?_
        obtain ⟨z_18, H⟩ := H
        obtain ⟨P_19, C_20, H⟩ := H
        refine q_V (As := [.int x1]) (st := [.int x_15]) (nl := 2) d_MO_earliest_32 v_MO_232 C_20 z_18 rfl (catS_le (Nat.le_of_ble_eq_true rfl)) rfl ⟨by omega, by omega, Nat.le_refl _, Nat.le_refl _⟩ (fun r_25 h_21 p_22 => ?_)
        obtain ⟨x_23, rfl, p_22⟩ := p_22
        replace H := H x_23 h_21 p_22
        show Go _ _ _ _ [.int x_23, .int x_15] _ _ _
        obtain ⟨H1, H2⟩ := H
        refine g_icmp_ge (tgt := 42) d_MO_earliest_35 (by decide) (fun c_26 => ?_) (fun c_26 => ?_)
        · have H := H1 c_26
          refine g_msk [true, true, true] ?_
          exact okJ_MO_earliest_42 hC4 H
        · have H := H2 c_26
          refine g_msk [true, true, true] ?_
          exact okJ_MO_earliest_38 hC4 H
set_option maxRecDepth 100000 in
set_option maxHeartbeats 4000000 in
def wL_MO_earliest_4 (G : Gx) (l : Launch) (d w : Nat) (P : Int32 → Hp → Prop) (q0 : Nat) (x1 : Int32) (x2 : Int32) (h : Hp)  : Prop := ∃ (I : Int32 → Int32 → Hp → Prop) (μ : Int32 → Int32 → Hp → Nat), I x1 x2 h ∧ ∀ (x1' : Int32) (x2' : Int32) (h' : Hp), I x1' x2' h' → wB_MO_earliest_4 G l d w P (fun x1_ x2_ h_ => I x1_ x2_ h_ ∧ μ x1_ x2_ h_ < μ x1' x2' h') q0 x1' x2' h'
set_option maxRecDepth 100000 in
set_option maxHeartbeats 4000000 in
theorem okL_MO_earliest_4 {G : Gx} {l : Launch} {d w : Nat} {P : Int32 → Hp → Prop} {p : Program} {e : Env} {s : State} {m : MethodId} {args : Array Value} {below : List Frame} {meth : Method} {c : Code} {q0 : Nat} {x1 : Int32} {x2 : Int32} {h : Hp}  (H : wL_MO_earliest_4 G l d w P  q0 x1 x2 h ) : Go M_MO_earliest (mkX G (fun r h' => ∃ x, r = some (.int x) ∧ P x h') (d + 1) (w + 21) 0 0 p l e s m args below meth c) 4 [some (.ref q0), some (.int x1), some (.int x2)] [] h 0 0 := by
  obtain ⟨I, μ, h0, hs⟩ := H
  have key : ∀ (N : Nat) (x1 : Int32) (x2 : Int32) (h : Hp), I x1 x2 h → μ x1 x2 h < N → Go M_MO_earliest (mkX G (fun r h' => ∃ x, r = some (.int x) ∧ P x h') (d + 1) (w + 21) 0 0 p l e s m args below meth c) 4 [some (.ref q0), some (.int x1), some (.int x2)] [] h 0 0 := by
    intro N
    induction N with
    | zero => intro x1 x2 h _ hN; exact absurd hN (Nat.not_lt_zero _)
    | succ N ih =>
      intro x1 x2 h hI hN
      exact okB_MO_earliest_4 (fun x1_ x2_ h_ hh => ih x1_ x2_ h_ hh.1 (Nat.lt_of_lt_of_le hh.2 (Nat.le_of_lt_succ hN))) (hs x1 x2 h hI)
  exact key _ _ _ _ h0 (Nat.lt_succ_self _)
set_option maxRecDepth 100000 in
set_option maxHeartbeats 4000000 in
def wp_MO_earliest (G : Gx) (l : Launch) (d w : Nat) (P : Int32 → Hp → Prop) (q0 : Nat) (h : Hp) : Prop := wL_MO_earliest_4 G l d w P q0 (-1) 0 h
set_option maxRecDepth 100000 in
set_option maxHeartbeats 4000000 in
theorem ok_MO_earliest {G : Gx} {l : Launch} {d w : Nat} {P : Int32 → Hp → Prop} {q0 : Nat} {h : Hp} (H : wp_MO_earliest G l d w P q0 h) : Ci G l M_MO_earliest (d + 1) (w + 21) [.ref q0] h 0 0 P := by
  unfold wp_MO_earliest at H
  refine Ct.of (lv := [some (.ref q0), none, none]) (by decide) (Nat.le_of_ble_eq_true rfl) rfl (fun p e s m args below meth c => ?_)
  refine g_iconst (v := (-1)) d_MO_earliest_0 (by decide) ?_
  refine g_istore_n (lv' := [some (.ref q0), some (.int (-1)), none]) d_MO_earliest_1 (by decide) rfl ?_
  refine g_iconst (v := 0) d_MO_earliest_2 (by decide) ?_
  refine g_istore_n (lv' := [some (.ref q0), some (.int (-1)), some (.int 0)]) d_MO_earliest_3 (by decide) rfl ?_
  refine g_msk [true, true, true] ?_
  exact okL_MO_earliest_4 H
set_option maxRecDepth 100000 in
set_option maxHeartbeats 4000000 in
def wJ_MO_settle_60 (G : Gx) (l : Launch) (d w : Nat) (P : Hp → Prop) (q0 : Nat) (x1 : Int32) (x2 : Int32) (x3 : Int32) (x4 : Int32) (h : Hp)  : Prop := P h
set_option maxRecDepth 100000 in
set_option maxHeartbeats 4000000 in
theorem okJ_MO_settle_60 {G : Gx} {l : Launch} {d w : Nat} {P : Hp → Prop} {p : Program} {e : Env} {s : State} {m : MethodId} {args : Array Value} {below : List Frame} {meth : Method} {c : Code} {q0 : Nat} {x1 : Int32} {x2 : Int32} {x3 : Int32} {x4 : Int32} {h : Hp}  (H : wJ_MO_settle_60 G l d w P  q0 x1 x2 x3 x4 h ) : Go M_MO_settle (mkX G (fun r h' => r = none ∧ P h') (d + 3) (w + 72) 0 0 p l e s m args below meth c) 60 [some (.ref q0), some (.int x1), some (.int x2), some (.int x3), some (.int x4)] [] h 0 0 := by
  unfold wJ_MO_settle_60 at H
  exact g_return d_MO_settle_60 rfl (Nat.le_refl _) (Nat.le_refl _) ⟨rfl, H⟩
set_option maxRecDepth 100000 in
set_option maxHeartbeats 4000000 in
def wJ_MO_settle_134 (G : Gx) (l : Launch) (d w : Nat) (P : Hp → Prop) (q0 : Nat) (x1 : Int32) (x2 : Int32) (x3 : Int32) (x4 : Int32) (sx0 : Int32) (sq1 : Nat) (h : Hp)  : Prop := (hS h sq1 = some (18, 0)) ∧ (∃ P_2 : Hp → Prop, (Cv G l M_MO_put (d + 0) (w + 0) [.ref sq1, .int sx0] h 0 0 P_2) ∧ (∀ h_4 : Hp, P_2 h_4 → (hS h_4 q0 = some (18, 0)) ∧ (∃ P_10 : Hp → Prop, (Cv G l M_MO_append (d + 1) (w + 20) [.ref q0, .int x4, .int 0] h_4 0 0 P_10) ∧ (∀ h_12 : Hp, P_10 h_12 → P h_12))))
set_option maxRecDepth 100000 in
set_option maxHeartbeats 4000000 in
theorem okJ_MO_settle_134 {G : Gx} {l : Launch} {d w : Nat} {P : Hp → Prop} {p : Program} {e : Env} {s : State} {m : MethodId} {args : Array Value} {below : List Frame} {meth : Method} {c : Code} {q0 : Nat} {x1 : Int32} {x2 : Int32} {x3 : Int32} {x4 : Int32} {sx0 : Int32} {sq1 : Nat} {h : Hp}  (H : wJ_MO_settle_134 G l d w P  q0 x1 x2 x3 x4 sx0 sq1 h ) : Go M_MO_settle (mkX G (fun r h' => r = none ∧ P h') (d + 3) (w + 72) 0 0 p l e s m args below meth c) 134 [some (.ref q0), some (.int x1), some (.int x2), some (.int x3), some (.int x4)] [.int sx0, .ref sq1] h 0 0 := by
  unfold wJ_MO_settle_134 at H
  obtain ⟨z_1, H⟩ := H
  obtain ⟨P_2, C_3, H⟩ := H
  refine q_V (As := [.int sx0]) (st := []) (nl := 2) d_MO_settle_134 v_MO_140 C_3 z_1 rfl (catS_le (Nat.le_of_ble_eq_true rfl)) rfl ⟨by omega, by omega, Nat.le_refl _, Nat.le_refl _⟩ (fun r_8 h_4 p_5 => ?_)
  obtain ⟨rfl, p_5⟩ := p_5
  replace H := H h_4 p_5
  show Go _ _ _ _ [] _ _ _
  refine g_aload_n d_MO_settle_137 rfl ?_
  refine g_iload d_MO_settle_138 rfl ?_
  refine g_iconst (v := 0) d_MO_settle_140 (by decide) ?_
  obtain ⟨z_9, H⟩ := H
  obtain ⟨P_10, C_11, H⟩ := H
  refine q_V (As := [.int x4, .int 0]) (st := []) (nl := 5) d_MO_settle_141 v_MO_208 C_11 z_9 rfl (catS_le (Nat.le_of_ble_eq_true rfl)) rfl ⟨by omega, by omega, Nat.le_refl _, Nat.le_refl _⟩ (fun r_16 h_12 p_13 => ?_)
  obtain ⟨rfl, p_13⟩ := p_13
  replace H := H h_12 p_13
  show Go _ _ _ _ [] _ _ _
  exact g_return d_MO_settle_144 rfl (Nat.le_refl _) (Nat.le_refl _) ⟨rfl, H⟩
set_option maxRecDepth 100000 in
set_option maxHeartbeats 4000000 in
def wp_MO_settle (G : Gx) (l : Launch) (d w : Nat) (P : Hp → Prop) (q0 : Nat) (x1 : Int32) (x2 : Int32) (x3 : Int32) (h : Hp) : Prop := (hS h q0 = some (18, 0)) ∧ (∃ q_18 : Nat, (hR h q0 30) = some q_18 ∧ (∃ N_20 : Nat, ∃ j_21 : Nat, (hS h q_18 = some (0, N_20) ∧ x1 = nI j_21 ∧ j_21 < N_20 ∧ j_21 < 2147483648) ∧ (∃ q_23 : Nat, (hR h q0 31) = some q_23 ∧ (∃ N_25 : Nat, ∃ j_26 : Nat, (hS h q_23 = some (0, N_25) ∧ x1 = nI j_26 ∧ j_26 < N_25 ∧ j_26 < 2147483648) ∧ (∃ q_28 : Nat, (hR h q0 32) = some q_28 ∧ (∃ N_30 : Nat, ∃ j_31 : Nat, (hS h q_28 = some (2, N_30) ∧ (hI (pI (pI h q_18 j_21 x2) q0 18 ((hI (pI h q_18 j_21 x2) q0 18) - 1)) q_23 j_26) = nI j_31 ∧ j_31 < N_30 ∧ j_31 < 2147483648) ∧ (∃ q_33 : Nat, (hR h q0 20) = some q_33 ∧ (∃ N_35 : Nat, ∃ j_36 : Nat, (hS h q_33 = some (0, N_35) ∧ x1 = nI j_36 ∧ j_36 < N_35 ∧ j_36 < 2147483648) ∧ (∀ x_38 : Int32, x_38 = (5 + (hI (pI (pI (pI h q_18 j_21 x2) q0 18 ((hI (pI h q_18 j_21 x2) q0 18) - 1)) q_28 j_31 0) q_33 j_36)) → ∃ q_39 : Nat, (hR h q0 24) = some q_39 ∧ (∃ N_41 : Nat, ∃ j_42 : Nat, (hS h q_39 = some (2, N_41) ∧ x1 = nI j_42 ∧ j_42 < N_41 ∧ j_42 < 2147483648) ∧ (((hI (pI (pI (pI h q_18 j_21 x2) q0 18 ((hI (pI h q_18 j_21 x2) q0 18) - 1)) q_28 j_31 0) q_39 j_42) = 0 → wJ_MO_settle_60 G l d w P q0 x1 x2 x3 x_38 (pI (pI (pI h q_18 j_21 x2) q0 18 ((hI (pI h q_18 j_21 x2) q0 18) - 1)) q_28 j_31 0)) ∧ (¬ (hI (pI (pI (pI h q_18 j_21 x2) q0 18 ((hI (pI h q_18 j_21 x2) q0 18) - 1)) q_28 j_31 0) q_39 j_42) = 0 → ∃ q_45 : Nat, (hR h q0 16) = some q_45 ∧ (∃ N_47 : Nat, ∃ j_48 : Nat, (hS h q_45 = some (0, N_47) ∧ x_38 = nI j_48 ∧ j_48 < N_47 ∧ j_48 < 2147483648) ∧ ((¬ (hI (pI (pI (pI h q_18 j_21 x2) q0 18 ((hI (pI h q_18 j_21 x2) q0 18) - 1)) q_28 j_31 0) q_45 j_48) = 6 → ∃ P_51 : Hp → Prop, (Cv G l M_MO_put (d + 0) (w + 0) [.ref q0, .int 2] (pI (pI (pI (pI h q_18 j_21 x2) q0 18 ((hI (pI h q_18 j_21 x2) q0 18) - 1)) q_28 j_31 0) q0 11 0) 0 0 P_51) ∧ (∀ h_53 : Hp, P_51 h_53 → (hS h_53 q0 = some (18, 0)) ∧ (∃ q_59 : Nat, (hR h_53 q0 21) = some q_59 ∧ (∃ N_61 : Nat, ∃ j_62 : Nat, (hS h_53 q_59 = some (0, N_61) ∧ x1 = nI j_62 ∧ j_62 < N_61 ∧ j_62 < 2147483648) ∧ (∃ P_64 : Hp → Prop, (Cv G l M_MO_put (d + 0) (w + 0) [.ref q0, .int (hI h_53 q_59 j_62)] h_53 0 0 P_64) ∧ (∀ h_66 : Hp, P_64 h_66 → (hS h_66 q0 = some (18, 0)) ∧ (∃ q_72 : Nat, (hR h_66 q0 23) = some q_72 ∧ (∃ N_74 : Nat, ∃ j_75 : Nat, (hS h_66 q_72 = some (1, N_74) ∧ x1 = nI j_75 ∧ j_75 < N_74 ∧ j_75 < 2147483648) ∧ (∃ P_77 : Hp → Prop, (Cv G l M_MO_putAddress (d + 2) (w + 49) [.ref q0, .long (hL h_66 q_72 j_75)] h_66 0 0 P_77) ∧ (∀ h_79 : Hp, P_77 h_79 → (hS h_79 q0 = some (18, 0)) ∧ (∃ q_85 : Nat, (hR h_79 q0 26) = some q_85 ∧ (∃ N_87 : Nat, ∃ j_88 : Nat, (hS h_79 q_85 = some (0, N_87) ∧ x1 = nI j_88 ∧ j_88 < N_87 ∧ j_88 < 2147483648) ∧ (∃ P_90 : Hp → Prop, (Cv G l M_MO_putDigits (d + 1) (w + 23) [.ref q0, .long ((hI h_79 q_85 j_88).toInt64), .int 14] h_79 0 0 P_90) ∧ (∀ h_92 : Hp, P_90 h_92 → (hS h_92 q0 = some (18, 0)) ∧ (∃ P_98 : Hp → Prop, (Cv G l M_MO_putDigits (d + 1) (w + 23) [.ref q0, .long x3.toInt64, .int 14] h_92 0 0 P_98) ∧ (∀ h_100 : Hp, P_98 h_100 → (¬ x2 = 1 → (¬ x2 = 2 → wJ_MO_settle_134 G l d w P q0 x1 x2 x3 x_38 73 q0 h_100) ∧ (x2 = 2 → wJ_MO_settle_134 G l d w P q0 x1 x2 x3 x_38 70 q0 h_100)) ∧ (x2 = 1 → wJ_MO_settle_134 G l d w P q0 x1 x2 x3 x_38 0 q0 h_100))))))))))))))))) ∧ ((hI (pI (pI (pI h q_18 j_21 x2) q0 18 ((hI (pI h q_18 j_21 x2) q0 18) - 1)) q_28 j_31 0) q_45 j_48) = 6 → wJ_MO_settle_60 G l d w P q0 x1 x2 x3 x_38 (pI (pI (pI h q_18 j_21 x2) q0 18 ((hI (pI h q_18 j_21 x2) q0 18) - 1)) q_28 j_31 0))))))))))))))))
set_option maxRecDepth 100000 in
set_option maxHeartbeats 4000000 in
theorem ok_MO_settle {G : Gx} {l : Launch} {d w : Nat} {P : Hp → Prop} {q0 : Nat} {x1 : Int32} {x2 : Int32} {x3 : Int32} {h : Hp} (H : wp_MO_settle G l d w P q0 x1 x2 x3 h) : Cv G l M_MO_settle (d + 3) (w + 72) [.ref q0, .int x1, .int x2, .int x3] h 0 0 P := by
  unfold wp_MO_settle at H
  refine Ct.of (lv := [some (.ref q0), some (.int x1), some (.int x2), some (.int x3), none]) (by decide) (Nat.le_of_ble_eq_true rfl) rfl (fun p e s m args below meth c => ?_)
  refine g_aload_n d_MO_settle_0 rfl ?_
  obtain ⟨z_17, H⟩ := H
  refine g_getR d_MO_settle_1 f_MO_84 z_17 (by decide) ?_
  refine g_iload_n d_MO_settle_4 rfl ?_
  refine g_iload_n d_MO_settle_5 rfl ?_
  obtain ⟨q_18, e_19, H⟩ := H
  show Go _ _ _ [some (.ref q0), some (.int x1), some (.int x2), some (.int x3), none] [.int x2, .int x1, va_rf (hR h q0 30)] _ _ _
  rw [show va_rf (hR h q0 30) = Value.ref q_18 from by rw [e_19]; rfl]
  obtain ⟨N_20, H⟩ := H
  obtain ⟨j_21, H⟩ := H
  obtain ⟨z_22, H⟩ := H
  refine g_iast d_MO_settle_6 z_22.1 z_22.2.1 z_22.2.2.1 z_22.2.2.2 ?_
  refine g_aload_n d_MO_settle_7 rfl ?_
  refine g_dup d_MO_settle_8 rfl ?_
  refine g_getI d_MO_settle_9 f_MO_211 z_17 ?_
  refine g_iconst (v := 1) d_MO_settle_12 (by decide) ?_
  refine g_isub d_MO_settle_13 ?_
  refine g_putI d_MO_settle_14 f_MO_211 (fo_8_18 _) z_17 ?_
  refine g_aload_n d_MO_settle_17 rfl ?_
  refine g_getR d_MO_settle_18 f_MO_90 z_17 (by decide) ?_
  refine g_aload_n d_MO_settle_21 rfl ?_
  refine g_getR d_MO_settle_22 f_MO_87 z_17 (by decide) ?_
  refine g_iload_n d_MO_settle_25 rfl ?_
  obtain ⟨q_23, e_24, H⟩ := H
  show Go _ _ _ [some (.ref q0), some (.int x1), some (.int x2), some (.int x3), none] [.int x1, va_rf (hR h q0 31), va_rf (hR h q0 32)] _ _ _
  rw [show va_rf (hR h q0 31) = Value.ref q_23 from by rw [e_24]; rfl]
  obtain ⟨N_25, H⟩ := H
  obtain ⟨j_26, H⟩ := H
  obtain ⟨z_27, H⟩ := H
  refine g_iald d_MO_settle_26 z_27.1 z_27.2.1 z_27.2.2.1 z_27.2.2.2 ?_
  refine g_iconst (v := 0) d_MO_settle_27 (by decide) ?_
  obtain ⟨q_28, e_29, H⟩ := H
  show Go _ _ _ [some (.ref q0), some (.int x1), some (.int x2), some (.int x3), none] [.int 0, .int (hI (pI (pI h q_18 j_21 x2) q0 18 ((hI (pI h q_18 j_21 x2) q0 18) - 1)) q_23 j_26), va_rf (hR h q0 32)] _ _ _
  rw [show va_rf (hR h q0 32) = Value.ref q_28 from by rw [e_29]; rfl]
  obtain ⟨N_30, H⟩ := H
  obtain ⟨j_31, H⟩ := H
  obtain ⟨z_32, H⟩ := H
  refine g_zast d_MO_settle_28 z_32.1 z_32.2.1 z_32.2.2.1 z_32.2.2.2 (by decide) ?_
  refine g_iconst (v := 5) d_MO_settle_29 (by decide) ?_
  refine g_aload_n d_MO_settle_30 rfl ?_
  refine g_getR d_MO_settle_31 f_MO_54 z_17 (by decide) ?_
  refine g_iload_n d_MO_settle_34 rfl ?_
  obtain ⟨q_33, e_34, H⟩ := H
  show Go _ _ _ [some (.ref q0), some (.int x1), some (.int x2), some (.int x3), none] [.int x1, va_rf (hR h q0 20), .int 5] _ _ _
  rw [show va_rf (hR h q0 20) = Value.ref q_33 from by rw [e_34]; rfl]
  obtain ⟨N_35, H⟩ := H
  obtain ⟨j_36, H⟩ := H
  obtain ⟨z_37, H⟩ := H
  refine g_iald d_MO_settle_35 z_37.1 z_37.2.1 z_37.2.2.1 z_37.2.2.2 ?_
  refine g_iadd d_MO_settle_36 ?_
  refine g_topi (fun x_38 ex_38 => ?_)
  replace H := H x_38 ex_38
  refine g_istore (lv' := [some (.ref q0), some (.int x1), some (.int x2), some (.int x3), some (.int x_38)]) d_MO_settle_37 (by decide) rfl ?_
  refine g_aload_n d_MO_settle_39 rfl ?_
  refine g_getR d_MO_settle_40 f_MO_66 z_17 (by decide) ?_
  refine g_iload_n d_MO_settle_43 rfl ?_
  obtain ⟨q_39, e_40, H⟩ := H
  show Go _ _ _ [some (.ref q0), some (.int x1), some (.int x2), some (.int x3), some (.int x_38)] [.int x1, va_rf (hR h q0 24)] _ _ _
  rw [show va_rf (hR h q0 24) = Value.ref q_39 from by rw [e_40]; rfl]
  obtain ⟨N_41, H⟩ := H
  obtain ⟨j_42, H⟩ := H
  obtain ⟨z_43, H⟩ := H
  refine g_zald d_MO_settle_44 z_43.1 z_43.2.1 z_43.2.2.1 z_43.2.2.2 ?_
  obtain ⟨H1, H2⟩ := H
  refine g_if_eq (tgt := 60) d_MO_settle_45 (by decide) (fun c_44 => ?_) (fun c_44 => ?_)
  · have H := H1 c_44
    refine g_msk [true, true, true, true, true] ?_
    exact okJ_MO_settle_60 H
  · have H := H2 c_44
    refine g_aload_n d_MO_settle_48 rfl ?_
    refine g_getR d_MO_settle_49 f_MO_51 z_17 (by decide) ?_
    refine g_iload d_MO_settle_52 rfl ?_
    obtain ⟨q_45, e_46, H⟩ := H
    show Go _ _ _ [some (.ref q0), some (.int x1), some (.int x2), some (.int x3), some (.int x_38)] [.int x_38, va_rf (hR h q0 16)] _ _ _
    rw [show va_rf (hR h q0 16) = Value.ref q_45 from by rw [e_46]; rfl]
    obtain ⟨N_47, H⟩ := H
    obtain ⟨j_48, H⟩ := H
    obtain ⟨z_49, H⟩ := H
    refine g_iald d_MO_settle_54 z_49.1 z_49.2.1 z_49.2.2.1 z_49.2.2.2 ?_
    refine g_bipush (v := 6) d_MO_settle_55 (by decide) ?_
    obtain ⟨H1, H2⟩ := H
    refine g_icmp_ne (tgt := 61) d_MO_settle_57 (by decide) (fun c_50 => ?_) (fun c_50 => ?_)
    · have H := H1 c_50
      refine g_aload_n d_MO_settle_61 rfl ?_
      refine g_iconst (v := 0) d_MO_settle_62 (by decide) ?_
      refine g_putI d_MO_settle_63 f_MO_131 (fo_8_11 _) z_17 ?_
      refine g_aload_n d_MO_settle_66 rfl ?_
      refine g_iconst (v := 2) d_MO_settle_67 (by decide) ?_
      obtain ⟨P_51, C_52, H⟩ := H
      refine q_V (As := [.int 2]) (st := []) (nl := 2) d_MO_settle_68 v_MO_140 C_52 z_17 rfl (catS_le (Nat.le_of_ble_eq_true rfl)) rfl ⟨by omega, by omega, Nat.le_refl _, Nat.le_refl _⟩ (fun r_57 h_53 p_54 => ?_)
      obtain ⟨rfl, p_54⟩ := p_54
      replace H := H h_53 p_54
      show Go _ _ _ _ [] _ _ _
      refine g_aload_n d_MO_settle_71 rfl ?_
      refine g_aload_n d_MO_settle_72 rfl ?_
      obtain ⟨z_58, H⟩ := H
      refine g_getR d_MO_settle_73 f_MO_57 z_58 (by decide) ?_
      refine g_iload_n d_MO_settle_76 rfl ?_
      obtain ⟨q_59, e_60, H⟩ := H
      show Go _ _ _ [some (.ref q0), some (.int x1), some (.int x2), some (.int x3), some (.int x_38)] [.int x1, va_rf (hR h_53 q0 21), .ref q0] _ _ _
      rw [show va_rf (hR h_53 q0 21) = Value.ref q_59 from by rw [e_60]; rfl]
      obtain ⟨N_61, H⟩ := H
      obtain ⟨j_62, H⟩ := H
      obtain ⟨z_63, H⟩ := H
      refine g_iald d_MO_settle_77 z_63.1 z_63.2.1 z_63.2.2.1 z_63.2.2.2 ?_
      obtain ⟨P_64, C_65, H⟩ := H
      refine q_V (As := [.int (hI h_53 q_59 j_62)]) (st := []) (nl := 2) d_MO_settle_78 v_MO_140 C_65 z_58 rfl (catS_le (Nat.le_of_ble_eq_true rfl)) rfl ⟨by omega, by omega, Nat.le_refl _, Nat.le_refl _⟩ (fun r_70 h_66 p_67 => ?_)
      obtain ⟨rfl, p_67⟩ := p_67
      replace H := H h_66 p_67
      show Go _ _ _ _ [] _ _ _
      refine g_aload_n d_MO_settle_81 rfl ?_
      refine g_aload_n d_MO_settle_82 rfl ?_
      obtain ⟨z_71, H⟩ := H
      refine g_getR d_MO_settle_83 f_MO_63 z_71 (by decide) ?_
      refine g_iload_n d_MO_settle_86 rfl ?_
      obtain ⟨q_72, e_73, H⟩ := H
      show Go _ _ _ [some (.ref q0), some (.int x1), some (.int x2), some (.int x3), some (.int x_38)] [.int x1, va_rf (hR h_66 q0 23), .ref q0] _ _ _
      rw [show va_rf (hR h_66 q0 23) = Value.ref q_72 from by rw [e_73]; rfl]
      obtain ⟨N_74, H⟩ := H
      obtain ⟨j_75, H⟩ := H
      obtain ⟨z_76, H⟩ := H
      refine g_lald d_MO_settle_87 z_76.1 z_76.2.1 z_76.2.2.1 z_76.2.2.2 ?_
      obtain ⟨P_77, C_78, H⟩ := H
      refine q_V (As := [.long (hL h_66 q_72 j_75)]) (st := []) (nl := 4) d_MO_settle_88 v_MO_151 C_78 z_71 rfl (catS_le (Nat.le_of_ble_eq_true rfl)) rfl ⟨by omega, by omega, Nat.le_refl _, Nat.le_refl _⟩ (fun r_83 h_79 p_80 => ?_)
      obtain ⟨rfl, p_80⟩ := p_80
      replace H := H h_79 p_80
      show Go _ _ _ _ [] _ _ _
      refine g_aload_n d_MO_settle_91 rfl ?_
      refine g_aload_n d_MO_settle_92 rfl ?_
      obtain ⟨z_84, H⟩ := H
      refine g_getR d_MO_settle_93 f_MO_72 z_84 (by decide) ?_
      refine g_iload_n d_MO_settle_96 rfl ?_
      obtain ⟨q_85, e_86, H⟩ := H
      show Go _ _ _ [some (.ref q0), some (.int x1), some (.int x2), some (.int x3), some (.int x_38)] [.int x1, va_rf (hR h_79 q0 26), .ref q0] _ _ _
      rw [show va_rf (hR h_79 q0 26) = Value.ref q_85 from by rw [e_86]; rfl]
      obtain ⟨N_87, H⟩ := H
      obtain ⟨j_88, H⟩ := H
      obtain ⟨z_89, H⟩ := H
      refine g_iald d_MO_settle_97 z_89.1 z_89.2.1 z_89.2.2.1 z_89.2.2.2 ?_
      refine g_i2l d_MO_settle_98 ?_
      refine g_bipush (v := 14) d_MO_settle_99 (by decide) ?_
      obtain ⟨P_90, C_91, H⟩ := H
      refine q_V (As := [.long ((hI h_79 q_85 j_88).toInt64), .int 14]) (st := []) (nl := 7) d_MO_settle_101 v_MO_144 C_91 z_84 rfl (catS_le (Nat.le_of_ble_eq_true rfl)) rfl ⟨by omega, by omega, Nat.le_refl _, Nat.le_refl _⟩ (fun r_96 h_92 p_93 => ?_)
      obtain ⟨rfl, p_93⟩ := p_93
      replace H := H h_92 p_93
      show Go _ _ _ _ [] _ _ _
      refine g_aload_n d_MO_settle_104 rfl ?_
      refine g_iload_n d_MO_settle_105 rfl ?_
      refine g_i2l d_MO_settle_106 ?_
      refine g_bipush (v := 14) d_MO_settle_107 (by decide) ?_
      obtain ⟨z_97, H⟩ := H
      obtain ⟨P_98, C_99, H⟩ := H
      refine q_V (As := [.long x3.toInt64, .int 14]) (st := []) (nl := 7) d_MO_settle_109 v_MO_144 C_99 z_97 rfl (catS_le (Nat.le_of_ble_eq_true rfl)) rfl ⟨by omega, by omega, Nat.le_refl _, Nat.le_refl _⟩ (fun r_104 h_100 p_101 => ?_)
      obtain ⟨rfl, p_101⟩ := p_101
      replace H := H h_100 p_101
      show Go _ _ _ _ [] _ _ _
      refine g_aload_n d_MO_settle_112 rfl ?_
      refine g_iload_n d_MO_settle_113 rfl ?_
      refine g_iconst (v := 1) d_MO_settle_114 (by decide) ?_
      obtain ⟨H1, H2⟩ := H
      refine g_icmp_ne (tgt := 122) d_MO_settle_115 (by decide) (fun c_105 => ?_) (fun c_105 => ?_)
      · have H := H1 c_105
        refine g_iload_n d_MO_settle_122 rfl ?_
        refine g_iconst (v := 2) d_MO_settle_123 (by decide) ?_
        obtain ⟨H1, H2⟩ := H
        refine g_icmp_ne (tgt := 132) d_MO_settle_124 (by decide) (fun c_106 => ?_) (fun c_106 => ?_)
        · have H := H1 c_106
          refine g_bipush (v := 73) d_MO_settle_132 (by decide) ?_
          refine g_msk [true, true, true, true, true] ?_
          exact okJ_MO_settle_134 H
        · have H := H2 c_106
          refine g_bipush (v := 70) d_MO_settle_127 (by decide) ?_
          refine g_goto (tgt := 134) d_MO_settle_129 (by decide) ?_
          refine g_msk [true, true, true, true, true] ?_
          exact okJ_MO_settle_134 H
      · have H := H2 c_105
        refine g_iconst (v := 0) d_MO_settle_118 (by decide) ?_
        refine g_goto (tgt := 134) d_MO_settle_119 (by decide) ?_
        refine g_msk [true, true, true, true, true] ?_
        exact okJ_MO_settle_134 H
    · have H := H2 c_50
      refine g_msk [true, true, true, true, true] ?_
      exact okJ_MO_settle_60 H
set_option maxRecDepth 100000 in
set_option maxHeartbeats 4000000 in
def wB_MO_deliver_59 (G : Gx) (l : Launch) (d w : Nat) (P : Hp → Prop) (C59 : Int32 → Hp → Prop) (q0 : Nat) (x1 : Int32) (x2 : Int32) (x3 : Int32) (h : Hp)  : Prop := (hS h q0 = some (18, 0)) ∧ (∃ q_2 : Nat, (hR h q0 31) = some q_2 ∧ (∃ N_4 : Nat, ∃ j_5 : Nat, (hS h q_2 = some (0, N_4) ∧ x1 = nI j_5 ∧ j_5 < N_4 ∧ j_5 < 2147483648) ∧ (∃ q_7 : Nat, (hR h q0 33) = some q_7 ∧ (∃ N_9 : Nat, ∃ j_10 : Nat, (hS h q_7 = some (0, N_9) ∧ (hI h q_2 j_5) = nI j_10 ∧ j_10 < N_9 ∧ j_10 < 2147483648) ∧ (((hI h q_7 j_10) ≤ x3 → ∃ P_13 : Hp → Prop, (Cv G l M_MO_append (d + 1) (w + 20) [.ref q0, .int (1 + x2), .int 0] h 0 0 P_13) ∧ (∀ h_15 : Hp, P_13 h_15 → P h_15)) ∧ (¬ (hI h q_7 j_10) ≤ x3 → ∃ q_20 : Nat, (hR h q0 31) = some q_20 ∧ (∃ N_22 : Nat, ∃ j_23 : Nat, (hS h q_20 = some (0, N_22) ∧ x1 = nI j_23 ∧ j_23 < N_22 ∧ j_23 < 2147483648) ∧ (∃ q_25 : Nat, (hR h q0 34) = some q_25 ∧ (∃ N_27 : Nat, ∃ j_28 : Nat, (hS h q_25 = some (0, N_27) ∧ ((144 * (hI h q_20 j_23)) + x3) = nI j_28 ∧ j_28 < N_27 ∧ j_28 < 2147483648) ∧ (∃ P_30 : Hp → Prop, (Cv G l M_MO_put (d + 0) (w + 0) [.ref q0, .int (hI h q_25 j_28)] h 0 0 P_30) ∧ (∀ h_32 : Hp, P_30 h_32 → ∀ x_37 : Int32, x_37 = x3 + 1 → C59 x_37 h_32)))))))))))
set_option maxRecDepth 100000 in
set_option maxHeartbeats 4000000 in
theorem okB_MO_deliver_59 {G : Gx} {l : Launch} {d w : Nat} {P : Hp → Prop} {p : Program} {e : Env} {s : State} {m : MethodId} {args : Array Value} {below : List Frame} {meth : Method} {c : Code} {C59 : Int32 → Hp → Prop} {q0 : Nat} {x1 : Int32} {x2 : Int32} {x3 : Int32} (hC59 : ∀ (x3 : Int32) (h : Hp), C59 x3 h → Go M_MO_deliver (mkX G (fun r h' => r = none ∧ P h') (d + 3) (w + 72) 0 0 p l e s m args below meth c) 59 [some (.ref q0), some (.int x1), some (.int x2), some (.int x3)] [] h 0 0) {h : Hp}  (H : wB_MO_deliver_59 G l d w P C59 q0 x1 x2 x3 h ) : Go M_MO_deliver (mkX G (fun r h' => r = none ∧ P h') (d + 3) (w + 72) 0 0 p l e s m args below meth c) 59 [some (.ref q0), some (.int x1), some (.int x2), some (.int x3)] [] h 0 0 := by
  unfold wB_MO_deliver_59 at H
  refine g_iload_n d_MO_deliver_59 rfl ?_
  refine g_aload_n d_MO_deliver_60 rfl ?_
  obtain ⟨z_1, H⟩ := H
  refine g_getR d_MO_deliver_61 f_MO_93 z_1 (by decide) ?_
  refine g_aload_n d_MO_deliver_64 rfl ?_
  refine g_getR d_MO_deliver_65 f_MO_87 z_1 (by decide) ?_
  refine g_iload_n d_MO_deliver_68 rfl ?_
  obtain ⟨q_2, e_3, H⟩ := H
  show Go _ _ _ [some (.ref q0), some (.int x1), some (.int x2), some (.int x3)] [.int x1, va_rf (hR h q0 31), va_rf (hR h q0 33), .int x3] _ _ _
  rw [show va_rf (hR h q0 31) = Value.ref q_2 from by rw [e_3]; rfl]
  obtain ⟨N_4, H⟩ := H
  obtain ⟨j_5, H⟩ := H
  obtain ⟨z_6, H⟩ := H
  refine g_iald d_MO_deliver_69 z_6.1 z_6.2.1 z_6.2.2.1 z_6.2.2.2 ?_
  obtain ⟨q_7, e_8, H⟩ := H
  show Go _ _ _ [some (.ref q0), some (.int x1), some (.int x2), some (.int x3)] [.int (hI h q_2 j_5), va_rf (hR h q0 33), .int x3] _ _ _
  rw [show va_rf (hR h q0 33) = Value.ref q_7 from by rw [e_8]; rfl]
  obtain ⟨N_9, H⟩ := H
  obtain ⟨j_10, H⟩ := H
  obtain ⟨z_11, H⟩ := H
  refine g_iald d_MO_deliver_70 z_11.1 z_11.2.1 z_11.2.2.1 z_11.2.2.2 ?_
  obtain ⟨H1, H2⟩ := H
  refine g_icmp_ge (tgt := 101) d_MO_deliver_71 (by decide) (fun c_12 => ?_) (fun c_12 => ?_)
  · have H := H1 c_12
    refine g_aload_n d_MO_deliver_101 rfl ?_
    refine g_iconst (v := 1) d_MO_deliver_102 (by decide) ?_
    refine g_iload_n d_MO_deliver_103 rfl ?_
    refine g_iadd d_MO_deliver_104 ?_
    refine g_iconst (v := 0) d_MO_deliver_105 (by decide) ?_
    obtain ⟨P_13, C_14, H⟩ := H
    refine q_V (As := [.int (1 + x2), .int 0]) (st := []) (nl := 5) d_MO_deliver_106 v_MO_208 C_14 z_1 rfl (catS_le (Nat.le_of_ble_eq_true rfl)) rfl ⟨by omega, by omega, Nat.le_refl _, Nat.le_refl _⟩ (fun r_19 h_15 p_16 => ?_)
    obtain ⟨rfl, p_16⟩ := p_16
    replace H := H h_15 p_16
    show Go _ _ _ _ [] _ _ _
    exact g_return d_MO_deliver_109 rfl (Nat.le_refl _) (Nat.le_refl _) ⟨rfl, H⟩
  · have H := H2 c_12
    refine g_aload_n d_MO_deliver_74 rfl ?_
    refine g_aload_n d_MO_deliver_75 rfl ?_
    refine g_getR d_MO_deliver_76 f_MO_96 z_1 (by decide) ?_
    refine g_sipush (v := 144) d_MO_deliver_79 (by decide) ?_
    refine g_aload_n d_MO_deliver_82 rfl ?_
    refine g_getR d_MO_deliver_83 f_MO_87 z_1 (by decide) ?_
    refine g_iload_n d_MO_deliver_86 rfl ?_
    obtain ⟨q_20, e_21, H⟩ := H
    show Go _ _ _ [some (.ref q0), some (.int x1), some (.int x2), some (.int x3)] [.int x1, va_rf (hR h q0 31), .int 144, va_rf (hR h q0 34), .ref q0] _ _ _
    rw [show va_rf (hR h q0 31) = Value.ref q_20 from by rw [e_21]; rfl]
    obtain ⟨N_22, H⟩ := H
    obtain ⟨j_23, H⟩ := H
    obtain ⟨z_24, H⟩ := H
    refine g_iald d_MO_deliver_87 z_24.1 z_24.2.1 z_24.2.2.1 z_24.2.2.2 ?_
    refine g_imul d_MO_deliver_88 ?_
    refine g_iload_n d_MO_deliver_89 rfl ?_
    refine g_iadd d_MO_deliver_90 ?_
    obtain ⟨q_25, e_26, H⟩ := H
    show Go _ _ _ [some (.ref q0), some (.int x1), some (.int x2), some (.int x3)] [.int ((144 * (hI h q_20 j_23)) + x3), va_rf (hR h q0 34), .ref q0] _ _ _
    rw [show va_rf (hR h q0 34) = Value.ref q_25 from by rw [e_26]; rfl]
    obtain ⟨N_27, H⟩ := H
    obtain ⟨j_28, H⟩ := H
    obtain ⟨z_29, H⟩ := H
    refine g_iald d_MO_deliver_91 z_29.1 z_29.2.1 z_29.2.2.1 z_29.2.2.2 ?_
    obtain ⟨P_30, C_31, H⟩ := H
    refine q_V (As := [.int (hI h q_25 j_28)]) (st := []) (nl := 2) d_MO_deliver_92 v_MO_140 C_31 z_1 rfl (catS_le (Nat.le_of_ble_eq_true rfl)) rfl ⟨by omega, by omega, Nat.le_refl _, Nat.le_refl _⟩ (fun r_36 h_32 p_33 => ?_)
    obtain ⟨rfl, p_33⟩ := p_33
    replace H := H h_32 p_33
    show Go _ _ _ _ [] _ _ _
    obtain ⟨x_37, ex_37⟩ : ∃ z : Int32, z = x3 + 1 := ⟨_, rfl⟩
    replace H := H x_37 ex_37
    refine g_iinc (v := x_37) (lv' := [some (.ref q0), some (.int x1), some (.int x2), some (.int x_37)]) d_MO_deliver_95 rfl (by decide) (by rw [ex_37]; rfl) rfl ?_
    refine g_goto (tgt := 59) d_MO_deliver_98 (by decide) ?_
    refine g_msk [true, true, true, true] ?_
    exact hC59 _ _ H
set_option maxRecDepth 100000 in
set_option maxHeartbeats 4000000 in
def wL_MO_deliver_59 (G : Gx) (l : Launch) (d w : Nat) (P : Hp → Prop) (q0 : Nat) (x1 : Int32) (x2 : Int32) (x3 : Int32) (h : Hp)  : Prop := ∃ (I : Int32 → Hp → Prop) (μ : Int32 → Hp → Nat), I x3 h ∧ ∀ (x3' : Int32) (h' : Hp), I x3' h' → wB_MO_deliver_59 G l d w P (fun x3_ h_ => I x3_ h_ ∧ μ x3_ h_ < μ x3' h') q0 x1 x2 x3' h'
set_option maxRecDepth 100000 in
set_option maxHeartbeats 4000000 in
theorem okL_MO_deliver_59 {G : Gx} {l : Launch} {d w : Nat} {P : Hp → Prop} {p : Program} {e : Env} {s : State} {m : MethodId} {args : Array Value} {below : List Frame} {meth : Method} {c : Code} {q0 : Nat} {x1 : Int32} {x2 : Int32} {x3 : Int32} {h : Hp}  (H : wL_MO_deliver_59 G l d w P  q0 x1 x2 x3 h ) : Go M_MO_deliver (mkX G (fun r h' => r = none ∧ P h') (d + 3) (w + 72) 0 0 p l e s m args below meth c) 59 [some (.ref q0), some (.int x1), some (.int x2), some (.int x3)] [] h 0 0 := by
  obtain ⟨I, μ, h0, hs⟩ := H
  have key : ∀ (N : Nat) (x3 : Int32) (h : Hp), I x3 h → μ x3 h < N → Go M_MO_deliver (mkX G (fun r h' => r = none ∧ P h') (d + 3) (w + 72) 0 0 p l e s m args below meth c) 59 [some (.ref q0), some (.int x1), some (.int x2), some (.int x3)] [] h 0 0 := by
    intro N
    induction N with
    | zero => intro x3 h _ hN; exact absurd hN (Nat.not_lt_zero _)
    | succ N ih =>
      intro x3 h hI hN
      exact okB_MO_deliver_59 (fun x3_ h_ hh => ih x3_ h_ hh.1 (Nat.lt_of_lt_of_le hh.2 (Nat.le_of_lt_succ hN))) (hs x3 h hI)
  exact key _ _ _ h0 (Nat.lt_succ_self _)
set_option maxRecDepth 100000 in
set_option maxHeartbeats 4000000 in
def wJ_MO_deliver_21 (G : Gx) (l : Launch) (d w : Nat) (P : Hp → Prop) (q0 : Nat) (x1 : Int32) (x2 : Int32) (sx0 : Int32) (sq1 : Nat) (h : Hp)  : Prop := (hS h sq1 = some (18, 0)) ∧ (∃ P_39 : Hp → Prop, (Cv G l M_MO_put (d + 0) (w + 0) [.ref sq1, .int sx0] h 0 0 P_39) ∧ (∀ h_41 : Hp, P_39 h_41 → (hS h_41 q0 = some (18, 0)) ∧ (∃ q_47 : Nat, (hR h_41 q0 22) = some q_47 ∧ (∃ N_49 : Nat, ∃ j_50 : Nat, (hS h_41 q_47 = some (1, N_49) ∧ x1 = nI j_50 ∧ j_50 < N_49 ∧ j_50 < 2147483648) ∧ (∃ P_52 : Hp → Prop, (Cv G l M_MO_putAddress (d + 2) (w + 49) [.ref q0, .long (hL h_41 q_47 j_50)] h_41 0 0 P_52) ∧ (∀ h_54 : Hp, P_52 h_54 → (hS h_54 q0 = some (18, 0)) ∧ (∃ P_60 : Hp → Prop, (Cv G l M_MO_put (d + 0) (w + 0) [.ref q0, .int 0] h_54 0 0 P_60) ∧ (∀ h_62 : Hp, P_60 h_62 → (hS h_62 q0 = some (18, 0)) ∧ (∃ P_68 : Hp → Prop, (Cv G l M_MO_put (d + 0) (w + 0) [.ref q0, .int 0] h_62 0 0 P_68) ∧ (∀ h_70 : Hp, P_68 h_70 → (hS h_70 q0 = some (18, 0)) ∧ (∃ q_76 : Nat, (hR h_70 q0 26) = some q_76 ∧ (∃ N_78 : Nat, ∃ j_79 : Nat, (hS h_70 q_76 = some (0, N_78) ∧ x1 = nI j_79 ∧ j_79 < N_78 ∧ j_79 < 2147483648) ∧ (∃ P_81 : Hp → Prop, (Cv G l M_MO_putDigits (d + 1) (w + 23) [.ref q0, .long ((hI h_70 q_76 j_79).toInt64), .int 14] h_70 0 0 P_81) ∧ (∀ h_83 : Hp, P_81 h_83 → wL_MO_deliver_59 G l d w P q0 x1 x2 0 h_83))))))))))))))
set_option maxRecDepth 100000 in
set_option maxHeartbeats 4000000 in
theorem okJ_MO_deliver_21 {G : Gx} {l : Launch} {d w : Nat} {P : Hp → Prop} {p : Program} {e : Env} {s : State} {m : MethodId} {args : Array Value} {below : List Frame} {meth : Method} {c : Code} {q0 : Nat} {x1 : Int32} {x2 : Int32} {sx0 : Int32} {sq1 : Nat} {h : Hp}  (H : wJ_MO_deliver_21 G l d w P  q0 x1 x2 sx0 sq1 h ) : Go M_MO_deliver (mkX G (fun r h' => r = none ∧ P h') (d + 3) (w + 72) 0 0 p l e s m args below meth c) 21 [some (.ref q0), some (.int x1), some (.int x2), none] [.int sx0, .ref sq1] h 0 0 := by
  unfold wJ_MO_deliver_21 at H
  obtain ⟨z_38, H⟩ := H
  obtain ⟨P_39, C_40, H⟩ := H
  refine q_V (As := [.int sx0]) (st := []) (nl := 2) d_MO_deliver_21 v_MO_140 C_40 z_38 rfl (catS_le (Nat.le_of_ble_eq_true rfl)) rfl ⟨by omega, by omega, Nat.le_refl _, Nat.le_refl _⟩ (fun r_45 h_41 p_42 => ?_)
  obtain ⟨rfl, p_42⟩ := p_42
  replace H := H h_41 p_42
  show Go _ _ _ _ [] _ _ _
  refine g_aload_n d_MO_deliver_24 rfl ?_
  refine g_aload_n d_MO_deliver_25 rfl ?_
  obtain ⟨z_46, H⟩ := H
  refine g_getR d_MO_deliver_26 f_MO_60 z_46 (by decide) ?_
  refine g_iload_n d_MO_deliver_29 rfl ?_
  obtain ⟨q_47, e_48, H⟩ := H
  show Go _ _ _ [some (.ref q0), some (.int x1), some (.int x2), none] [.int x1, va_rf (hR h_41 q0 22), .ref q0] _ _ _
  rw [show va_rf (hR h_41 q0 22) = Value.ref q_47 from by rw [e_48]; rfl]
  obtain ⟨N_49, H⟩ := H
  obtain ⟨j_50, H⟩ := H
  obtain ⟨z_51, H⟩ := H
  refine g_lald d_MO_deliver_30 z_51.1 z_51.2.1 z_51.2.2.1 z_51.2.2.2 ?_
  obtain ⟨P_52, C_53, H⟩ := H
  refine q_V (As := [.long (hL h_41 q_47 j_50)]) (st := []) (nl := 4) d_MO_deliver_31 v_MO_151 C_53 z_46 rfl (catS_le (Nat.le_of_ble_eq_true rfl)) rfl ⟨by omega, by omega, Nat.le_refl _, Nat.le_refl _⟩ (fun r_58 h_54 p_55 => ?_)
  obtain ⟨rfl, p_55⟩ := p_55
  replace H := H h_54 p_55
  show Go _ _ _ _ [] _ _ _
  refine g_aload_n d_MO_deliver_34 rfl ?_
  refine g_iconst (v := 0) d_MO_deliver_35 (by decide) ?_
  obtain ⟨z_59, H⟩ := H
  obtain ⟨P_60, C_61, H⟩ := H
  refine q_V (As := [.int 0]) (st := []) (nl := 2) d_MO_deliver_36 v_MO_140 C_61 z_59 rfl (catS_le (Nat.le_of_ble_eq_true rfl)) rfl ⟨by omega, by omega, Nat.le_refl _, Nat.le_refl _⟩ (fun r_66 h_62 p_63 => ?_)
  obtain ⟨rfl, p_63⟩ := p_63
  replace H := H h_62 p_63
  show Go _ _ _ _ [] _ _ _
  refine g_aload_n d_MO_deliver_39 rfl ?_
  refine g_iconst (v := 0) d_MO_deliver_40 (by decide) ?_
  obtain ⟨z_67, H⟩ := H
  obtain ⟨P_68, C_69, H⟩ := H
  refine q_V (As := [.int 0]) (st := []) (nl := 2) d_MO_deliver_41 v_MO_140 C_69 z_67 rfl (catS_le (Nat.le_of_ble_eq_true rfl)) rfl ⟨by omega, by omega, Nat.le_refl _, Nat.le_refl _⟩ (fun r_74 h_70 p_71 => ?_)
  obtain ⟨rfl, p_71⟩ := p_71
  replace H := H h_70 p_71
  show Go _ _ _ _ [] _ _ _
  refine g_aload_n d_MO_deliver_44 rfl ?_
  refine g_aload_n d_MO_deliver_45 rfl ?_
  obtain ⟨z_75, H⟩ := H
  refine g_getR d_MO_deliver_46 f_MO_72 z_75 (by decide) ?_
  refine g_iload_n d_MO_deliver_49 rfl ?_
  obtain ⟨q_76, e_77, H⟩ := H
  show Go _ _ _ [some (.ref q0), some (.int x1), some (.int x2), none] [.int x1, va_rf (hR h_70 q0 26), .ref q0] _ _ _
  rw [show va_rf (hR h_70 q0 26) = Value.ref q_76 from by rw [e_77]; rfl]
  obtain ⟨N_78, H⟩ := H
  obtain ⟨j_79, H⟩ := H
  obtain ⟨z_80, H⟩ := H
  refine g_iald d_MO_deliver_50 z_80.1 z_80.2.1 z_80.2.2.1 z_80.2.2.2 ?_
  refine g_i2l d_MO_deliver_51 ?_
  refine g_bipush (v := 14) d_MO_deliver_52 (by decide) ?_
  obtain ⟨P_81, C_82, H⟩ := H
  refine q_V (As := [.long ((hI h_70 q_76 j_79).toInt64), .int 14]) (st := []) (nl := 7) d_MO_deliver_54 v_MO_144 C_82 z_75 rfl (catS_le (Nat.le_of_ble_eq_true rfl)) rfl ⟨by omega, by omega, Nat.le_refl _, Nat.le_refl _⟩ (fun r_87 h_83 p_84 => ?_)
  obtain ⟨rfl, p_84⟩ := p_84
  replace H := H h_83 p_84
  show Go _ _ _ _ [] _ _ _
  refine g_iconst (v := 0) d_MO_deliver_57 (by decide) ?_
  refine g_istore_n (lv' := [some (.ref q0), some (.int x1), some (.int x2), some (.int 0)]) d_MO_deliver_58 (by decide) rfl ?_
  refine g_msk [true, true, true, true] ?_
  exact okL_MO_deliver_59 H
set_option maxRecDepth 100000 in
set_option maxHeartbeats 4000000 in
def wp_MO_deliver (G : Gx) (l : Launch) (d w : Nat) (P : Hp → Prop) (q0 : Nat) (x1 : Int32) (x2 : Int32) (h : Hp) : Prop := (hS h q0 = some (18, 0)) ∧ (∃ q_89 : Nat, (hR h q0 25) = some q_89 ∧ (∃ N_91 : Nat, ∃ j_92 : Nat, (hS h q_89 = some (2, N_91) ∧ x1 = nI j_92 ∧ j_92 < N_91 ∧ j_92 < 2147483648) ∧ (((hI (pI h q0 11 0) q_89 j_92) = 0 → wJ_MO_deliver_21 G l d w P q0 x1 x2 4 q0 (pI h q0 11 0)) ∧ (¬ (hI (pI h q0 11 0) q_89 j_92) = 0 → wJ_MO_deliver_21 G l d w P q0 x1 x2 68 q0 (pI h q0 11 0)))))
set_option maxRecDepth 100000 in
set_option maxHeartbeats 4000000 in
theorem ok_MO_deliver {G : Gx} {l : Launch} {d w : Nat} {P : Hp → Prop} {q0 : Nat} {x1 : Int32} {x2 : Int32} {h : Hp} (H : wp_MO_deliver G l d w P q0 x1 x2 h) : Cv G l M_MO_deliver (d + 3) (w + 72) [.ref q0, .int x1, .int x2] h 0 0 P := by
  unfold wp_MO_deliver at H
  refine Ct.of (lv := [some (.ref q0), some (.int x1), some (.int x2), none]) (by decide) (Nat.le_of_ble_eq_true rfl) rfl (fun p e s m args below meth c => ?_)
  refine g_aload_n d_MO_deliver_0 rfl ?_
  refine g_iconst (v := 0) d_MO_deliver_1 (by decide) ?_
  obtain ⟨z_88, H⟩ := H
  refine g_putI d_MO_deliver_2 f_MO_131 (fo_8_11 _) z_88 ?_
  refine g_aload_n d_MO_deliver_5 rfl ?_
  refine g_aload_n d_MO_deliver_6 rfl ?_
  refine g_getR d_MO_deliver_7 f_MO_69 z_88 (by decide) ?_
  refine g_iload_n d_MO_deliver_10 rfl ?_
  obtain ⟨q_89, e_90, H⟩ := H
  show Go _ _ _ [some (.ref q0), some (.int x1), some (.int x2), none] [.int x1, va_rf (hR h q0 25), .ref q0] _ _ _
  rw [show va_rf (hR h q0 25) = Value.ref q_89 from by rw [e_90]; rfl]
  obtain ⟨N_91, H⟩ := H
  obtain ⟨j_92, H⟩ := H
  obtain ⟨z_93, H⟩ := H
  refine g_zald d_MO_deliver_11 z_93.1 z_93.2.1 z_93.2.2.1 z_93.2.2.2 ?_
  obtain ⟨H1, H2⟩ := H
  refine g_if_eq (tgt := 20) d_MO_deliver_12 (by decide) (fun c_94 => ?_) (fun c_94 => ?_)
  · have H := H1 c_94
    refine g_iconst (v := 4) d_MO_deliver_20 (by decide) ?_
    refine g_msk [true, true, true, false] ?_
    exact okJ_MO_deliver_21 H
  · have H := H2 c_94
    refine g_bipush (v := 68) d_MO_deliver_15 (by decide) ?_
    refine g_goto (tgt := 21) d_MO_deliver_17 (by decide) ?_
    refine g_msk [true, true, true, false] ?_
    exact okJ_MO_deliver_21 H
set_option maxRecDepth 100000 in
set_option maxHeartbeats 4000000 in
def wJ_MO_deal_133 (G : Gx) (l : Launch) (d w : Nat) (P : Int32 → Hp → Prop) (q0 : Nat) (x1 : Int32) (x2 : Int32) (x3 : Int32) (sx0 : Int32) (sx1 : Int32) (sx2 : Int32) (so3 : Option Nat) (h : Hp)  : Prop := ∃ q_1 : Nat, so3 = some q_1 ∧ (∃ N_3 : Nat, ∃ j_4 : Nat, (hS h q_1 = some (0, N_3) ∧ sx2 = nI j_4 ∧ j_4 < N_3 ∧ j_4 < 2147483648) ∧ (P 0 (pI h q_1 j_4 (sx1 + sx0))))
set_option maxRecDepth 100000 in
set_option maxHeartbeats 4000000 in
theorem okJ_MO_deal_133 {G : Gx} {l : Launch} {d w : Nat} {P : Int32 → Hp → Prop} {p : Program} {e : Env} {s : State} {m : MethodId} {args : Array Value} {below : List Frame} {meth : Method} {c : Code} {q0 : Nat} {x1 : Int32} {x2 : Int32} {x3 : Int32} {sx0 : Int32} {sx1 : Int32} {sx2 : Int32} {so3 : Option Nat} {h : Hp}  (H : wJ_MO_deal_133 G l d w P  q0 x1 x2 x3 sx0 sx1 sx2 so3 h ) : Go M_MO_deal (mkX G (fun r h' => ∃ x, r = some (.int x) ∧ P x h') (d + 4) (w + 96) 0 0 p l e s m args below meth c) 133 [some (.ref q0), some (.int x1), some (.int x2), some (.int x3)] [.int sx0, .int sx1, .int sx2, va_rf so3] h 0 0 := by
  unfold wJ_MO_deal_133 at H
  refine g_iadd d_MO_deal_133 ?_
  obtain ⟨q_1, e_2, H⟩ := H
  show Go _ _ _ [some (.ref q0), some (.int x1), some (.int x2), some (.int x3)] [.int (sx1 + sx0), .int sx2, va_rf so3] _ _ _
  rw [show va_rf so3 = Value.ref q_1 from by rw [e_2]; rfl]
  obtain ⟨N_3, H⟩ := H
  obtain ⟨j_4, H⟩ := H
  obtain ⟨z_5, H⟩ := H
  refine g_iast d_MO_deal_134 z_5.1 z_5.2.1 z_5.2.2.1 z_5.2.2.2 ?_
  refine g_iconst (v := 0) d_MO_deal_135 (by decide) ?_
  exact g_zreturn d_MO_deal_136 rfl (by decide) (Nat.le_refl _) (Nat.le_refl _) ⟨_, rfl, H⟩
set_option maxRecDepth 100000 in
set_option maxHeartbeats 4000000 in
def wJ_MO_deal_97 (G : Gx) (l : Launch) (d w : Nat) (P : Int32 → Hp → Prop) (q0 : Nat) (x1 : Int32) (x2 : Int32) (x3 : Int32) (h : Hp)  : Prop := (hS h q0 = some (18, 0)) ∧ (∃ q_7 : Nat, (hR h q0 29) = some q_7 ∧ (∃ N_9 : Nat, ∃ j_10 : Nat, (hS h q_7 = some (0, N_9) ∧ x1 = nI j_10 ∧ j_10 < N_9 ∧ j_10 < 2147483648) ∧ ((¬ (hI h q_7 j_10) = 1 → ∃ q_13 : Nat, (hR h q0 29) = some q_13 ∧ (∃ N_15 : Nat, ∃ j_16 : Nat, (hS h q_13 = some (0, N_15) ∧ x1 = nI j_16 ∧ j_16 < N_15 ∧ j_16 < 2147483648) ∧ ((¬ (hI h q_13 j_16) = 2 → wJ_MO_deal_133 G l d w P q0 x1 x2 x3 16 x2 x1 (hR h q0 28) h) ∧ ((hI h q_13 j_16) = 2 → wJ_MO_deal_133 G l d w P q0 x1 x2 x3 4 x2 x1 (hR h q0 28) h)))) ∧ ((hI h q_7 j_10) = 1 → wJ_MO_deal_133 G l d w P q0 x1 x2 x3 1 x2 x1 (hR h q0 28) h))))
set_option maxRecDepth 100000 in
set_option maxHeartbeats 4000000 in
theorem okJ_MO_deal_97 {G : Gx} {l : Launch} {d w : Nat} {P : Int32 → Hp → Prop} {p : Program} {e : Env} {s : State} {m : MethodId} {args : Array Value} {below : List Frame} {meth : Method} {c : Code} {q0 : Nat} {x1 : Int32} {x2 : Int32} {x3 : Int32} {h : Hp}  (H : wJ_MO_deal_97 G l d w P  q0 x1 x2 x3 h ) : Go M_MO_deal (mkX G (fun r h' => ∃ x, r = some (.int x) ∧ P x h') (d + 4) (w + 96) 0 0 p l e s m args below meth c) 97 [some (.ref q0), some (.int x1), some (.int x2), some (.int x3)] [] h 0 0 := by
  unfold wJ_MO_deal_97 at H
  refine g_aload_n d_MO_deal_97 rfl ?_
  obtain ⟨z_6, H⟩ := H
  refine g_getR d_MO_deal_98 f_MO_78 z_6 (by decide) ?_
  refine g_iload_n d_MO_deal_101 rfl ?_
  refine g_iload_n d_MO_deal_102 rfl ?_
  refine g_aload_n d_MO_deal_103 rfl ?_
  refine g_getR d_MO_deal_104 f_MO_81 z_6 (by decide) ?_
  refine g_iload_n d_MO_deal_107 rfl ?_
  obtain ⟨q_7, e_8, H⟩ := H
  show Go _ _ _ [some (.ref q0), some (.int x1), some (.int x2), some (.int x3)] [.int x1, va_rf (hR h q0 29), .int x2, .int x1, va_rf (hR h q0 28)] _ _ _
  rw [show va_rf (hR h q0 29) = Value.ref q_7 from by rw [e_8]; rfl]
  obtain ⟨N_9, H⟩ := H
  obtain ⟨j_10, H⟩ := H
  obtain ⟨z_11, H⟩ := H
  refine g_iald d_MO_deal_108 z_11.1 z_11.2.1 z_11.2.2.1 z_11.2.2.2 ?_
  refine g_iconst (v := 1) d_MO_deal_109 (by decide) ?_
  obtain ⟨H1, H2⟩ := H
  refine g_icmp_ne (tgt := 117) d_MO_deal_110 (by decide) (fun c_12 => ?_) (fun c_12 => ?_)
  · have H := H1 c_12
    refine g_aload_n d_MO_deal_117 rfl ?_
    refine g_getR d_MO_deal_118 f_MO_81 z_6 (by decide) ?_
    refine g_iload_n d_MO_deal_121 rfl ?_
    obtain ⟨q_13, e_14, H⟩ := H
    show Go _ _ _ [some (.ref q0), some (.int x1), some (.int x2), some (.int x3)] [.int x1, va_rf (hR h q0 29), .int x2, .int x1, va_rf (hR h q0 28)] _ _ _
    rw [show va_rf (hR h q0 29) = Value.ref q_13 from by rw [e_14]; rfl]
    obtain ⟨N_15, H⟩ := H
    obtain ⟨j_16, H⟩ := H
    obtain ⟨z_17, H⟩ := H
    refine g_iald d_MO_deal_122 z_17.1 z_17.2.1 z_17.2.2.1 z_17.2.2.2 ?_
    refine g_iconst (v := 2) d_MO_deal_123 (by decide) ?_
    obtain ⟨H1, H2⟩ := H
    refine g_icmp_ne (tgt := 131) d_MO_deal_124 (by decide) (fun c_18 => ?_) (fun c_18 => ?_)
    · have H := H1 c_18
      refine g_bipush (v := 16) d_MO_deal_131 (by decide) ?_
      refine g_msk [true, true, true, true] ?_
      exact okJ_MO_deal_133 H
    · have H := H2 c_18
      refine g_iconst (v := 4) d_MO_deal_127 (by decide) ?_
      refine g_goto (tgt := 133) d_MO_deal_128 (by decide) ?_
      refine g_msk [true, true, true, true] ?_
      exact okJ_MO_deal_133 H
  · have H := H2 c_12
    refine g_iconst (v := 1) d_MO_deal_113 (by decide) ?_
    refine g_goto (tgt := 133) d_MO_deal_114 (by decide) ?_
    refine g_msk [true, true, true, true] ?_
    exact okJ_MO_deal_133 H
set_option maxRecDepth 100000 in
set_option maxHeartbeats 4000000 in
def wp_MO_deal (G : Gx) (l : Launch) (d w : Nat) (P : Int32 → Hp → Prop) (q0 : Nat) (x1 : Int32) (h : Hp) : Prop := (hS h q0 = some (18, 0)) ∧ (∃ P_20 : Int32 → Hp → Prop, (Ci G l M_MO_moment (d + 0) (w + 0) [.ref q0, .int x1] h 0 0 P_20) ∧ (∀ (x_24 : Int32) (h_22 : Hp), P_20 x_24 h_22 → (hS h_22 q0 = some (18, 0)) ∧ (∃ q_28 : Nat, (hR h_22 q0 27) = some q_28 ∧ (∃ N_30 : Nat, ∃ j_31 : Nat, (hS h_22 q_28 = some (0, N_30) ∧ x1 = nI j_31 ∧ j_31 < N_30 ∧ j_31 < 2147483648) ∧ ((¬ x_24 = (hI h_22 q_28 j_31) → ∃ q_34 : Nat, (hR h_22 q0 29) = some q_34 ∧ (∃ N_36 : Nat, ∃ j_37 : Nat, (hS h_22 q_34 = some (0, N_36) ∧ x1 = nI j_37 ∧ j_37 < N_36 ∧ j_37 < 2147483648) ∧ (∃ q_39 : Nat, (hR h_22 q0 23) = some q_39 ∧ (∃ N_41 : Nat, ∃ j_42 : Nat, (hS h_22 q_39 = some (1, N_41) ∧ x1 = nI j_42 ∧ j_42 < N_41 ∧ j_42 < 2147483648) ∧ (∃ P_44 : Int32 → Hp → Prop, (Ci G l M_MO_owner (d + 0) (w + 0) [.ref q0, .long (hL h_22 q_39 j_42)] (pI h_22 q_34 j_37 ((hI h_22 q_34 j_37) + 1)) 0 0 P_44) ∧ (∀ (x_48 : Int32) (h_46 : Hp), P_44 x_48 h_46 → (¬ x_48 = 4 → (hS h_46 q0 = some (18, 0)) ∧ (∃ q_53 : Nat, (hR h_46 q0 5) = some q_53 ∧ (∃ N_55 : Nat, ∃ j_56 : Nat, (hS h_46 q_53 = some (2, N_55) ∧ x_48 = nI j_56 ∧ j_56 < N_55 ∧ j_56 < 2147483648) ∧ (((hI h_46 q_53 j_56) = 0 → wJ_MO_deal_97 G l d w P q0 x1 x_24 x_48 h_46) ∧ (¬ (hI h_46 q_53 j_56) = 0 → ∃ q_59 : Nat, (hR h_46 q0 16) = some q_59 ∧ (∃ N_61 : Nat, ∃ j_62 : Nat, (hS h_46 q_59 = some (0, N_61) ∧ (1 + x_48) = nI j_62 ∧ j_62 < N_61 ∧ j_62 < 2147483648) ∧ ((6 ≤ (hI h_46 q_59 j_62) → wJ_MO_deal_97 G l d w P q0 x1 x_24 x_48 h_46) ∧ (¬ 6 ≤ (hI h_46 q_59 j_62) → ∃ P_65 : Hp → Prop, (Cv G l M_MO_deliver (d + 3) (w + 72) [.ref q0, .int x1, .int x_48] h_46 0 0 P_65) ∧ (∀ h_67 : Hp, P_65 h_67 → (hS h_67 q0 = some (18, 0)) ∧ (∃ P_73 : Hp → Prop, (Cv G l M_MO_settle (d + 3) (w + 72) [.ref q0, .int x1, .int 1, .int x_24] h_67 0 0 P_73) ∧ (∀ h_75 : Hp, P_73 h_75 → P 1 h_75))))))))))) ∧ (x_48 = 4 → (hS h_46 q0 = some (18, 0)) ∧ (∃ P_81 : Hp → Prop, (Cv G l M_MO_settle (d + 3) (w + 72) [.ref q0, .int x1, .int 3, .int x_24] h_46 0 0 P_81) ∧ (∀ h_83 : Hp, P_81 h_83 → P 1 h_83))))))))) ∧ (x_24 = (hI h_22 q_28 j_31) → ∃ P_88 : Hp → Prop, (Cv G l M_MO_settle (d + 3) (w + 72) [.ref q0, .int x1, .int 2, .int x_24] h_22 0 0 P_88) ∧ (∀ h_90 : Hp, P_88 h_90 → P 1 h_90)))))))
set_option maxRecDepth 100000 in
set_option maxHeartbeats 4000000 in
theorem ok_MO_deal {G : Gx} {l : Launch} {d w : Nat} {P : Int32 → Hp → Prop} {q0 : Nat} {x1 : Int32} {h : Hp} (H : wp_MO_deal G l d w P q0 x1 h) : Ci G l M_MO_deal (d + 4) (w + 96) [.ref q0, .int x1] h 0 0 P := by
  unfold wp_MO_deal at H
  refine Ct.of (lv := [some (.ref q0), some (.int x1), none, none]) (by decide) (Nat.le_of_ble_eq_true rfl) rfl (fun p e s m args below meth c => ?_)
  refine g_aload_n d_MO_deal_0 rfl ?_
  refine g_iload_n d_MO_deal_1 rfl ?_
  obtain ⟨z_19, H⟩ := H
  obtain ⟨P_20, C_21, H⟩ := H
  refine q_V (As := [.int x1]) (st := []) (nl := 2) d_MO_deal_2 v_MO_232 C_21 z_19 rfl (catS_le (Nat.le_of_ble_eq_true rfl)) rfl ⟨by omega, by omega, Nat.le_refl _, Nat.le_refl _⟩ (fun r_26 h_22 p_23 => ?_)
  obtain ⟨x_24, rfl, p_23⟩ := p_23
  replace H := H x_24 h_22 p_23
  show Go _ _ _ _ [.int x_24] _ _ _
  refine g_istore_n (lv' := [some (.ref q0), some (.int x1), some (.int x_24), none]) d_MO_deal_5 (by decide) rfl ?_
  refine g_iload_n d_MO_deal_6 rfl ?_
  refine g_aload_n d_MO_deal_7 rfl ?_
  obtain ⟨z_27, H⟩ := H
  refine g_getR d_MO_deal_8 f_MO_75 z_27 (by decide) ?_
  refine g_iload_n d_MO_deal_11 rfl ?_
  obtain ⟨q_28, e_29, H⟩ := H
  show Go _ _ _ [some (.ref q0), some (.int x1), some (.int x_24), none] [.int x1, va_rf (hR h_22 q0 27), .int x_24] _ _ _
  rw [show va_rf (hR h_22 q0 27) = Value.ref q_28 from by rw [e_29]; rfl]
  obtain ⟨N_30, H⟩ := H
  obtain ⟨j_31, H⟩ := H
  obtain ⟨z_32, H⟩ := H
  refine g_iald d_MO_deal_12 z_32.1 z_32.2.1 z_32.2.2.1 z_32.2.2.2 ?_
  obtain ⟨H1, H2⟩ := H
  refine g_icmp_ne (tgt := 25) d_MO_deal_13 (by decide) (fun c_33 => ?_) (fun c_33 => ?_)
  · have H := H1 c_33
    refine g_aload_n d_MO_deal_25 rfl ?_
    refine g_getR d_MO_deal_26 f_MO_81 z_27 (by decide) ?_
    refine g_iload_n d_MO_deal_29 rfl ?_
    refine g_dup2 d_MO_deal_30 rfl (vcat _) ?_
    obtain ⟨q_34, e_35, H⟩ := H
    show Go _ _ _ [some (.ref q0), some (.int x1), some (.int x_24), none] [.int x1, va_rf (hR h_22 q0 29), .int x1, va_rf (hR h_22 q0 29)] _ _ _
    rw [show va_rf (hR h_22 q0 29) = Value.ref q_34 from by rw [e_35]; rfl]
    obtain ⟨N_36, H⟩ := H
    obtain ⟨j_37, H⟩ := H
    obtain ⟨z_38, H⟩ := H
    refine g_iald d_MO_deal_31 z_38.1 z_38.2.1 z_38.2.2.1 z_38.2.2.2 ?_
    refine g_iconst (v := 1) d_MO_deal_32 (by decide) ?_
    refine g_iadd d_MO_deal_33 ?_
    refine g_iast d_MO_deal_34 z_38.1 z_38.2.1 z_38.2.2.1 z_38.2.2.2 ?_
    refine g_aload_n d_MO_deal_35 rfl ?_
    refine g_aload_n d_MO_deal_36 rfl ?_
    refine g_getR d_MO_deal_37 f_MO_63 z_27 (by decide) ?_
    refine g_iload_n d_MO_deal_40 rfl ?_
    obtain ⟨q_39, e_40, H⟩ := H
    show Go _ _ _ [some (.ref q0), some (.int x1), some (.int x_24), none] [.int x1, va_rf (hR h_22 q0 23), .ref q0] _ _ _
    rw [show va_rf (hR h_22 q0 23) = Value.ref q_39 from by rw [e_40]; rfl]
    obtain ⟨N_41, H⟩ := H
    obtain ⟨j_42, H⟩ := H
    obtain ⟨z_43, H⟩ := H
    refine g_lald d_MO_deal_41 z_43.1 z_43.2.1 z_43.2.2.1 z_43.2.2.2 ?_
    obtain ⟨P_44, C_45, H⟩ := H
    refine q_V (As := [.long (hL h_22 q_39 j_42)]) (st := []) (nl := 4) d_MO_deal_42 v_MO_239 C_45 z_27 rfl (catS_le (Nat.le_of_ble_eq_true rfl)) rfl ⟨by omega, by omega, Nat.le_refl _, Nat.le_refl _⟩ (fun r_50 h_46 p_47 => ?_)
    obtain ⟨x_48, rfl, p_47⟩ := p_47
    replace H := H x_48 h_46 p_47
    show Go _ _ _ _ [.int x_48] _ _ _
    refine g_istore_n (lv' := [some (.ref q0), some (.int x1), some (.int x_24), some (.int x_48)]) d_MO_deal_45 (by decide) rfl ?_
    refine g_iload_n d_MO_deal_46 rfl ?_
    refine g_iconst (v := 4) d_MO_deal_47 (by decide) ?_
    obtain ⟨H1, H2⟩ := H
    refine g_icmp_ne (tgt := 60) d_MO_deal_48 (by decide) (fun c_51 => ?_) (fun c_51 => ?_)
    · have H := H1 c_51
      refine g_aload_n d_MO_deal_60 rfl ?_
      obtain ⟨z_52, H⟩ := H
      refine g_getR d_MO_deal_61 f_MO_20 z_52 (by decide) ?_
      refine g_iload_n d_MO_deal_64 rfl ?_
      obtain ⟨q_53, e_54, H⟩ := H
      show Go _ _ _ [some (.ref q0), some (.int x1), some (.int x_24), some (.int x_48)] [.int x_48, va_rf (hR h_46 q0 5)] _ _ _
      rw [show va_rf (hR h_46 q0 5) = Value.ref q_53 from by rw [e_54]; rfl]
      obtain ⟨N_55, H⟩ := H
      obtain ⟨j_56, H⟩ := H
      obtain ⟨z_57, H⟩ := H
      refine g_zald d_MO_deal_65 z_57.1 z_57.2.1 z_57.2.2.1 z_57.2.2.2 ?_
      obtain ⟨H1, H2⟩ := H
      refine g_if_eq (tgt := 97) d_MO_deal_66 (by decide) (fun c_58 => ?_) (fun c_58 => ?_)
      · have H := H1 c_58
        refine g_msk [true, true, true, true] ?_
        exact okJ_MO_deal_97 H
      · have H := H2 c_58
        refine g_aload_n d_MO_deal_69 rfl ?_
        refine g_getR d_MO_deal_70 f_MO_51 z_52 (by decide) ?_
        refine g_iconst (v := 1) d_MO_deal_73 (by decide) ?_
        refine g_iload_n d_MO_deal_74 rfl ?_
        refine g_iadd d_MO_deal_75 ?_
        obtain ⟨q_59, e_60, H⟩ := H
        show Go _ _ _ [some (.ref q0), some (.int x1), some (.int x_24), some (.int x_48)] [.int (1 + x_48), va_rf (hR h_46 q0 16)] _ _ _
        rw [show va_rf (hR h_46 q0 16) = Value.ref q_59 from by rw [e_60]; rfl]
        obtain ⟨N_61, H⟩ := H
        obtain ⟨j_62, H⟩ := H
        obtain ⟨z_63, H⟩ := H
        refine g_iald d_MO_deal_76 z_63.1 z_63.2.1 z_63.2.2.1 z_63.2.2.2 ?_
        refine g_bipush (v := 6) d_MO_deal_77 (by decide) ?_
        obtain ⟨H1, H2⟩ := H
        refine g_icmp_ge (tgt := 97) d_MO_deal_79 (by decide) (fun c_64 => ?_) (fun c_64 => ?_)
        · have H := H1 c_64
          refine g_msk [true, true, true, true] ?_
          exact okJ_MO_deal_97 H
        · have H := H2 c_64
          refine g_aload_n d_MO_deal_82 rfl ?_
          refine g_iload_n d_MO_deal_83 rfl ?_
          refine g_iload_n d_MO_deal_84 rfl ?_
          obtain ⟨P_65, C_66, H⟩ := H
          refine q_V (As := [.int x1, .int x_48]) (st := []) (nl := 4) d_MO_deal_85 v_MO_243 C_66 z_52 rfl (catS_le (Nat.le_of_ble_eq_true rfl)) rfl ⟨by omega, by omega, Nat.le_refl _, Nat.le_refl _⟩ (fun r_71 h_67 p_68 => ?_)
          obtain ⟨rfl, p_68⟩ := p_68
          replace H := H h_67 p_68
          show Go _ _ _ _ [] _ _ _
          refine g_aload_n d_MO_deal_88 rfl ?_
          refine g_iload_n d_MO_deal_89 rfl ?_
          refine g_iconst (v := 1) d_MO_deal_90 (by decide) ?_
          refine g_iload_n d_MO_deal_91 rfl ?_
          obtain ⟨z_72, H⟩ := H
          obtain ⟨P_73, C_74, H⟩ := H
          refine q_V (As := [.int x1, .int 1, .int x_24]) (st := []) (nl := 5) d_MO_deal_92 v_MO_235 C_74 z_72 rfl (catS_le (Nat.le_of_ble_eq_true rfl)) rfl ⟨by omega, by omega, Nat.le_refl _, Nat.le_refl _⟩ (fun r_79 h_75 p_76 => ?_)
          obtain ⟨rfl, p_76⟩ := p_76
          replace H := H h_75 p_76
          show Go _ _ _ _ [] _ _ _
          refine g_iconst (v := 1) d_MO_deal_95 (by decide) ?_
          exact g_zreturn d_MO_deal_96 rfl (by decide) (Nat.le_refl _) (Nat.le_refl _) ⟨_, rfl, H⟩
    · have H := H2 c_51
      refine g_aload_n d_MO_deal_51 rfl ?_
      refine g_iload_n d_MO_deal_52 rfl ?_
      refine g_iconst (v := 3) d_MO_deal_53 (by decide) ?_
      refine g_iload_n d_MO_deal_54 rfl ?_
      obtain ⟨z_80, H⟩ := H
      obtain ⟨P_81, C_82, H⟩ := H
      refine q_V (As := [.int x1, .int 3, .int x_24]) (st := []) (nl := 5) d_MO_deal_55 v_MO_235 C_82 z_80 rfl (catS_le (Nat.le_of_ble_eq_true rfl)) rfl ⟨by omega, by omega, Nat.le_refl _, Nat.le_refl _⟩ (fun r_87 h_83 p_84 => ?_)
      obtain ⟨rfl, p_84⟩ := p_84
      replace H := H h_83 p_84
      show Go _ _ _ _ [] _ _ _
      refine g_iconst (v := 1) d_MO_deal_58 (by decide) ?_
      exact g_zreturn d_MO_deal_59 rfl (by decide) (Nat.le_refl _) (Nat.le_refl _) ⟨_, rfl, H⟩
  · have H := H2 c_33
    refine g_aload_n d_MO_deal_16 rfl ?_
    refine g_iload_n d_MO_deal_17 rfl ?_
    refine g_iconst (v := 2) d_MO_deal_18 (by decide) ?_
    refine g_iload_n d_MO_deal_19 rfl ?_
    obtain ⟨P_88, C_89, H⟩ := H
    refine q_V (As := [.int x1, .int 2, .int x_24]) (st := []) (nl := 5) d_MO_deal_20 v_MO_235 C_89 z_27 rfl (catS_le (Nat.le_of_ble_eq_true rfl)) rfl ⟨by omega, by omega, Nat.le_refl _, Nat.le_refl _⟩ (fun r_94 h_90 p_91 => ?_)
    obtain ⟨rfl, p_91⟩ := p_91
    replace H := H h_90 p_91
    show Go _ _ _ _ [] _ _ _
    refine g_iconst (v := 1) d_MO_deal_23 (by decide) ?_
    exact g_zreturn d_MO_deal_24 rfl (by decide) (Nat.le_refl _) (Nat.le_refl _) ⟨_, rfl, H⟩
set_option maxRecDepth 100000 in
set_option maxHeartbeats 4000000 in
def wJ_MO_advance_10 (G : Gx) (l : Launch) (d w : Nat) (P : Int32 → Hp → Prop) (q0 : Nat) (x1 : Int32) (h : Hp)  : Prop := P (-1) h
set_option maxRecDepth 100000 in
set_option maxHeartbeats 4000000 in
theorem okJ_MO_advance_10 {G : Gx} {l : Launch} {d w : Nat} {P : Int32 → Hp → Prop} {p : Program} {e : Env} {s : State} {m : MethodId} {args : Array Value} {below : List Frame} {meth : Method} {c : Code} {q0 : Nat} {x1 : Int32} {h : Hp}  (H : wJ_MO_advance_10 G l d w P  q0 x1 h ) : Go M_MO_advance (mkX G (fun r h' => ∃ x, r = some (.int x) ∧ P x h') (d + 5) (w + 119) 0 0 p l e s m args below meth c) 10 [some (.ref q0), some (.int x1), none, none] [] h 0 0 := by
  unfold wJ_MO_advance_10 at H
  refine g_iconst (v := (-1)) d_MO_advance_10 (by decide) ?_
  exact g_ireturn d_MO_advance_11 rfl (Nat.le_refl _) (Nat.le_refl _) ⟨_, rfl, H⟩
set_option maxRecDepth 100000 in
set_option maxHeartbeats 4000000 in
def wJ_MO_advance_69 (G : Gx) (l : Launch) (d w : Nat) (P : Int32 → Hp → Prop) (q0 : Nat) (x1 : Int32) (x2 : Int32) (x3 : Int32) (h : Hp)  : Prop := P x2 h
set_option maxRecDepth 100000 in
set_option maxHeartbeats 4000000 in
theorem okJ_MO_advance_69 {G : Gx} {l : Launch} {d w : Nat} {P : Int32 → Hp → Prop} {p : Program} {e : Env} {s : State} {m : MethodId} {args : Array Value} {below : List Frame} {meth : Method} {c : Code} {q0 : Nat} {x1 : Int32} {x2 : Int32} {x3 : Int32} {h : Hp}  (H : wJ_MO_advance_69 G l d w P  q0 x1 x2 x3 h ) : Go M_MO_advance (mkX G (fun r h' => ∃ x, r = some (.int x) ∧ P x h') (d + 5) (w + 119) 0 0 p l e s m args below meth c) 69 [some (.ref q0), some (.int x1), some (.int x2), some (.int x3)] [] h 0 0 := by
  unfold wJ_MO_advance_69 at H
  refine g_iload_n d_MO_advance_69 rfl ?_
  exact g_ireturn d_MO_advance_70 rfl (Nat.le_refl _) (Nat.le_refl _) ⟨_, rfl, H⟩
set_option maxRecDepth 100000 in
set_option maxHeartbeats 4000000 in
def wJ_MO_advance_60 (G : Gx) (l : Launch) (d w : Nat) (P : Int32 → Hp → Prop) (C29 : Int32 → Int32 → Hp → Prop) (q0 : Nat) (x1 : Int32) (x2 : Int32) (x3 : Int32) (sx0 : Int32) (h : Hp)  : Prop := (hS h q0 = some (18, 0)) ∧ (∃ P_2 : Int32 → Hp → Prop, (Ci G l M_MO_earliest (d + 1) (w + 21) [.ref q0] h 0 0 P_2) ∧ (∀ (x_6 : Int32) (h_4 : Hp), P_2 x_6 h_4 → C29 sx0 x_6 h_4))
set_option maxRecDepth 100000 in
set_option maxHeartbeats 4000000 in
theorem okJ_MO_advance_60 {G : Gx} {l : Launch} {d w : Nat} {P : Int32 → Hp → Prop} {p : Program} {e : Env} {s : State} {m : MethodId} {args : Array Value} {below : List Frame} {meth : Method} {c : Code} {C29 : Int32 → Int32 → Hp → Prop} {q0 : Nat} {x1 : Int32} {x2 : Int32} {x3 : Int32} {sx0 : Int32} (hC29 : ∀ (x2 : Int32) (x3 : Int32) (h : Hp), C29 x2 x3 h → Go M_MO_advance (mkX G (fun r h' => ∃ x, r = some (.int x) ∧ P x h') (d + 5) (w + 119) 0 0 p l e s m args below meth c) 29 [some (.ref q0), some (.int x1), some (.int x2), some (.int x3)] [] h 0 0) {h : Hp}  (H : wJ_MO_advance_60 G l d w P C29 q0 x1 x2 x3 sx0 h ) : Go M_MO_advance (mkX G (fun r h' => ∃ x, r = some (.int x) ∧ P x h') (d + 5) (w + 119) 0 0 p l e s m args below meth c) 60 [some (.ref q0), some (.int x1), some (.int x2), some (.int x3)] [.int sx0] h 0 0 := by
  unfold wJ_MO_advance_60 at H
  refine g_istore_n (lv' := [some (.ref q0), some (.int x1), some (.int sx0), some (.int x3)]) d_MO_advance_60 (by decide) rfl ?_
  refine g_aload_n d_MO_advance_61 rfl ?_
  obtain ⟨z_1, H⟩ := H
  obtain ⟨P_2, C_3, H⟩ := H
  refine q_V (As := []) (st := []) (nl := 3) d_MO_advance_62 v_MO_247 C_3 z_1 rfl (catS_le (Nat.le_of_ble_eq_true rfl)) rfl ⟨by omega, by omega, Nat.le_refl _, Nat.le_refl _⟩ (fun r_8 h_4 p_5 => ?_)
  obtain ⟨x_6, rfl, p_5⟩ := p_5
  replace H := H x_6 h_4 p_5
  show Go _ _ _ _ [.int x_6] _ _ _
  refine g_istore_n (lv' := [some (.ref q0), some (.int x1), some (.int sx0), some (.int x_6)]) d_MO_advance_65 (by decide) rfl ?_
  refine g_goto (tgt := 29) d_MO_advance_66 (by decide) ?_
  refine g_msk [true, true, true, true] ?_
  exact hC29 _ _ _ H
set_option maxRecDepth 100000 in
set_option maxHeartbeats 4000000 in
def wB_MO_advance_29 (G : Gx) (l : Launch) (d w : Nat) (P : Int32 → Hp → Prop) (C29 : Int32 → Int32 → Hp → Prop) (q0 : Nat) (x1 : Int32) (x2 : Int32) (x3 : Int32) (h : Hp)  : Prop := (x3 < 0 → wJ_MO_advance_69 G l d w P q0 x1 x2 x3 h) ∧ (¬ x3 < 0 → (hS h q0 = some (18, 0)) ∧ (∃ P_11 : Int32 → Hp → Prop, (Ci G l M_MO_moment (d + 0) (w + 0) [.ref q0, .int x3] h 0 0 P_11) ∧ (∀ (x_15 : Int32) (h_13 : Hp), P_11 x_15 h_13 → (hS h_13 q0 = some (18, 0)) ∧ (((hI h_13 q0 19) < x_15 → wJ_MO_advance_69 G l d w P q0 x1 x2 x3 h_13) ∧ (¬ (hI h_13 q0 19) < x_15 → ∃ P_20 : Int32 → Hp → Prop, (Ci G l M_MO_deal (d + 4) (w + 96) [.ref q0, .int x3] h_13 0 0 P_20) ∧ (∀ (x_24 : Int32) (h_22 : Hp), P_20 x_24 h_22 → (x_24 = 0 → wJ_MO_advance_60 G l d w P C29 q0 x1 x2 x3 x2 h_22) ∧ (¬ x_24 = 0 → wJ_MO_advance_60 G l d w P C29 q0 x1 x2 x3 (x2 + 1) h_22)))))))
set_option maxRecDepth 100000 in
set_option maxHeartbeats 4000000 in
theorem okB_MO_advance_29 {G : Gx} {l : Launch} {d w : Nat} {P : Int32 → Hp → Prop} {p : Program} {e : Env} {s : State} {m : MethodId} {args : Array Value} {below : List Frame} {meth : Method} {c : Code} {C29 : Int32 → Int32 → Hp → Prop} {q0 : Nat} {x1 : Int32} {x2 : Int32} {x3 : Int32} (hC29 : ∀ (x2 : Int32) (x3 : Int32) (h : Hp), C29 x2 x3 h → Go M_MO_advance (mkX G (fun r h' => ∃ x, r = some (.int x) ∧ P x h') (d + 5) (w + 119) 0 0 p l e s m args below meth c) 29 [some (.ref q0), some (.int x1), some (.int x2), some (.int x3)] [] h 0 0) {h : Hp}  (H : wB_MO_advance_29 G l d w P C29 q0 x1 x2 x3 h ) : Go M_MO_advance (mkX G (fun r h' => ∃ x, r = some (.int x) ∧ P x h') (d + 5) (w + 119) 0 0 p l e s m args below meth c) 29 [some (.ref q0), some (.int x1), some (.int x2), some (.int x3)] [] h 0 0 := by
  unfold wB_MO_advance_29 at H
  refine g_iload_n d_MO_advance_29 rfl ?_
  obtain ⟨H1, H2⟩ := H
  refine g_if_lt (tgt := 69) d_MO_advance_30 (by decide) (fun c_9 => ?_) (fun c_9 => ?_)
  · have H := H1 c_9
    refine g_msk [true, true, true, true] ?_
    exact okJ_MO_advance_69 H
  · have H := H2 c_9
    refine g_aload_n d_MO_advance_33 rfl ?_
    refine g_iload_n d_MO_advance_34 rfl ?_
    obtain ⟨z_10, H⟩ := H
    obtain ⟨P_11, C_12, H⟩ := H
    refine q_V (As := [.int x3]) (st := []) (nl := 2) d_MO_advance_35 v_MO_232 C_12 z_10 rfl (catS_le (Nat.le_of_ble_eq_true rfl)) rfl ⟨by omega, by omega, Nat.le_refl _, Nat.le_refl _⟩ (fun r_17 h_13 p_14 => ?_)
    obtain ⟨x_15, rfl, p_14⟩ := p_14
    replace H := H x_15 h_13 p_14
    show Go _ _ _ _ [.int x_15] _ _ _
    refine g_aload_n d_MO_advance_38 rfl ?_
    obtain ⟨z_18, H⟩ := H
    refine g_getI d_MO_advance_39 f_MO_226 z_18 ?_
    obtain ⟨H1, H2⟩ := H
    refine g_icmp_gt (tgt := 69) d_MO_advance_42 (by decide) (fun c_19 => ?_) (fun c_19 => ?_)
    · have H := H1 c_19
      refine g_msk [true, true, true, true] ?_
      exact okJ_MO_advance_69 H
    · have H := H2 c_19
      refine g_aload_n d_MO_advance_45 rfl ?_
      refine g_iload_n d_MO_advance_46 rfl ?_
      obtain ⟨P_20, C_21, H⟩ := H
      refine q_V (As := [.int x3]) (st := []) (nl := 4) d_MO_advance_47 v_MO_250 C_21 z_18 rfl (catS_le (Nat.le_of_ble_eq_true rfl)) rfl ⟨by omega, by omega, Nat.le_refl _, Nat.le_refl _⟩ (fun r_26 h_22 p_23 => ?_)
      obtain ⟨x_24, rfl, p_23⟩ := p_23
      replace H := H x_24 h_22 p_23
      show Go _ _ _ _ [.int x_24] _ _ _
      obtain ⟨H1, H2⟩ := H
      refine g_if_eq (tgt := 59) d_MO_advance_50 (by decide) (fun c_27 => ?_) (fun c_27 => ?_)
      · have H := H1 c_27
        refine g_iload_n d_MO_advance_59 rfl ?_
        refine g_msk [true, true, true, true] ?_
        exact okJ_MO_advance_60 hC29 H
      · have H := H2 c_27
        refine g_iload_n d_MO_advance_53 rfl ?_
        refine g_iconst (v := 1) d_MO_advance_54 (by decide) ?_
        refine g_iadd d_MO_advance_55 ?_
        refine g_goto (tgt := 60) d_MO_advance_56 (by decide) ?_
        refine g_msk [true, true, true, true] ?_
        exact okJ_MO_advance_60 hC29 H
set_option maxRecDepth 100000 in
set_option maxHeartbeats 4000000 in
def wL_MO_advance_29 (G : Gx) (l : Launch) (d w : Nat) (P : Int32 → Hp → Prop) (q0 : Nat) (x1 : Int32) (x2 : Int32) (x3 : Int32) (h : Hp)  : Prop := ∃ (I : Int32 → Int32 → Hp → Prop) (μ : Int32 → Int32 → Hp → Nat), I x2 x3 h ∧ ∀ (x2' : Int32) (x3' : Int32) (h' : Hp), I x2' x3' h' → wB_MO_advance_29 G l d w P (fun x2_ x3_ h_ => I x2_ x3_ h_ ∧ μ x2_ x3_ h_ < μ x2' x3' h') q0 x1 x2' x3' h'
set_option maxRecDepth 100000 in
set_option maxHeartbeats 4000000 in
theorem okL_MO_advance_29 {G : Gx} {l : Launch} {d w : Nat} {P : Int32 → Hp → Prop} {p : Program} {e : Env} {s : State} {m : MethodId} {args : Array Value} {below : List Frame} {meth : Method} {c : Code} {q0 : Nat} {x1 : Int32} {x2 : Int32} {x3 : Int32} {h : Hp}  (H : wL_MO_advance_29 G l d w P  q0 x1 x2 x3 h ) : Go M_MO_advance (mkX G (fun r h' => ∃ x, r = some (.int x) ∧ P x h') (d + 5) (w + 119) 0 0 p l e s m args below meth c) 29 [some (.ref q0), some (.int x1), some (.int x2), some (.int x3)] [] h 0 0 := by
  obtain ⟨I, μ, h0, hs⟩ := H
  have key : ∀ (N : Nat) (x2 : Int32) (x3 : Int32) (h : Hp), I x2 x3 h → μ x2 x3 h < N → Go M_MO_advance (mkX G (fun r h' => ∃ x, r = some (.int x) ∧ P x h') (d + 5) (w + 119) 0 0 p l e s m args below meth c) 29 [some (.ref q0), some (.int x1), some (.int x2), some (.int x3)] [] h 0 0 := by
    intro N
    induction N with
    | zero => intro x2 x3 h _ hN; exact absurd hN (Nat.not_lt_zero _)
    | succ N ih =>
      intro x2 x3 h hI hN
      exact okB_MO_advance_29 (fun x2_ x3_ h_ hh => ih x2_ x3_ h_ hh.1 (Nat.lt_of_lt_of_le hh.2 (Nat.le_of_lt_succ hN))) (hs x2 x3 h hI)
  exact key _ _ _ _ h0 (Nat.lt_succ_self _)
set_option maxRecDepth 100000 in
set_option maxHeartbeats 4000000 in
def wp_MO_advance (G : Gx) (l : Launch) (d w : Nat) (P : Int32 → Hp → Prop) (q0 : Nat) (x1 : Int32) (h : Hp) : Prop := (x1 < 0 → wJ_MO_advance_10 G l d w P q0 x1 h) ∧ (¬ x1 < 0 → (x1 ≤ 100000 → (hS h q0 = some (18, 0)) ∧ (∃ P_31 : Int32 → Hp → Prop, (Ci G l M_MO_earliest (d + 1) (w + 21) [.ref q0] (pI h q0 19 ((hI h q0 19) + x1)) 0 0 P_31) ∧ (∀ (x_35 : Int32) (h_33 : Hp), P_31 x_35 h_33 → wL_MO_advance_29 G l d w P q0 x1 0 x_35 h_33))) ∧ (¬ x1 ≤ 100000 → wJ_MO_advance_10 G l d w P q0 x1 h))
set_option maxRecDepth 100000 in
set_option maxHeartbeats 4000000 in
theorem ok_MO_advance {G : Gx} {l : Launch} {d w : Nat} {P : Int32 → Hp → Prop} {q0 : Nat} {x1 : Int32} {h : Hp} (H : wp_MO_advance G l d w P q0 x1 h) : Ci G l M_MO_advance (d + 5) (w + 119) [.ref q0, .int x1] h 0 0 P := by
  unfold wp_MO_advance at H
  refine Ct.of (lv := [some (.ref q0), some (.int x1), none, none]) (by decide) (Nat.le_of_ble_eq_true rfl) rfl (fun p e s m args below meth c => ?_)
  refine g_iload_n d_MO_advance_0 rfl ?_
  obtain ⟨H1, H2⟩ := H
  refine g_if_lt (tgt := 10) d_MO_advance_1 (by decide) (fun c_28 => ?_) (fun c_28 => ?_)
  · have H := H1 c_28
    refine g_msk [true, true, false, false] ?_
    exact okJ_MO_advance_10 H
  · have H := H2 c_28
    refine g_iload_n d_MO_advance_4 rfl ?_
    refine g_ldc d_MO_advance_5 k_MO_246 ?_
    obtain ⟨H1, H2⟩ := H
    refine g_icmp_le (tgt := 12) d_MO_advance_7 (by decide) (fun c_29 => ?_) (fun c_29 => ?_)
    · have H := H1 c_29
      refine g_aload_n d_MO_advance_12 rfl ?_
      refine g_aload_n d_MO_advance_13 rfl ?_
      obtain ⟨z_30, H⟩ := H
      refine g_getI d_MO_advance_14 f_MO_226 z_30 ?_
      refine g_iload_n d_MO_advance_17 rfl ?_
      refine g_iadd d_MO_advance_18 ?_
      refine g_putI d_MO_advance_19 f_MO_226 (fo_8_19 _) z_30 ?_
      refine g_iconst (v := 0) d_MO_advance_22 (by decide) ?_
      refine g_istore_n (lv' := [some (.ref q0), some (.int x1), some (.int 0), none]) d_MO_advance_23 (by decide) rfl ?_
      refine g_aload_n d_MO_advance_24 rfl ?_
      obtain ⟨P_31, C_32, H⟩ := H
      refine q_V (As := []) (st := []) (nl := 3) d_MO_advance_25 v_MO_247 C_32 z_30 rfl (catS_le (Nat.le_of_ble_eq_true rfl)) rfl ⟨by omega, by omega, Nat.le_refl _, Nat.le_refl _⟩ (fun r_37 h_33 p_34 => ?_)
      obtain ⟨x_35, rfl, p_34⟩ := p_34
      replace H := H x_35 h_33 p_34
      show Go _ _ _ _ [.int x_35] _ _ _
      refine g_istore_n (lv' := [some (.ref q0), some (.int x1), some (.int 0), some (.int x_35)]) d_MO_advance_28 (by decide) rfl ?_
      refine g_msk [true, true, true, true] ?_
      exact okL_MO_advance_29 H
    · have H := H2 c_29
      refine g_msk [true, true, false, false] ?_
      exact okJ_MO_advance_10 H
set_option maxRecDepth 100000 in
set_option maxHeartbeats 4000000 in
def wJ_MO_decode_103 (G : Gx) (l : Launch) (d w : Nat) (P : Int32 → Hp → Prop) (C5 : Int32 → Int32 → Hp → Prop) (q0 : Nat) (x1 : Int32) (x2 : Int32) (x3 : Int32) (x4 : Int32) (x5 : Int32) (h : Hp)  : Prop := ∀ x_1 : Int32, x_1 = x3 + 1 → ∀ x_2 : Int32, x_2 = x4 + 1 → C5 x_1 x_2 h
set_option maxRecDepth 100000 in
set_option maxHeartbeats 4000000 in
theorem okJ_MO_decode_103 {G : Gx} {l : Launch} {d w : Nat} {P : Int32 → Hp → Prop} {p : Program} {e : Env} {s : State} {m : MethodId} {args : Array Value} {below : List Frame} {meth : Method} {c : Code} {C5 : Int32 → Int32 → Hp → Prop} {q0 : Nat} {x1 : Int32} {x2 : Int32} {x3 : Int32} {x4 : Int32} {x5 : Int32} (hC5 : ∀ (x3 : Int32) (x4 : Int32) (h : Hp), C5 x3 x4 h → Go M_MO_decode (mkX G (fun r h' => ∃ x, r = some (.int x) ∧ P x h') (d + 2) (w + 40) 0 0 p l e s m args below meth c) 5 [some (.ref q0), some (.int x1), some (.int x2), some (.int x3), some (.int x4), none] [] h 0 0) {h : Hp}  (H : wJ_MO_decode_103 G l d w P C5 q0 x1 x2 x3 x4 x5 h ) : Go M_MO_decode (mkX G (fun r h' => ∃ x, r = some (.int x) ∧ P x h') (d + 2) (w + 40) 0 0 p l e s m args below meth c) 103 [some (.ref q0), some (.int x1), some (.int x2), some (.int x3), some (.int x4), some (.int x5)] [] h 0 0 := by
  unfold wJ_MO_decode_103 at H
  obtain ⟨x_1, ex_1⟩ : ∃ z : Int32, z = x3 + 1 := ⟨_, rfl⟩
  replace H := H x_1 ex_1
  refine g_iinc (v := x_1) (lv' := [some (.ref q0), some (.int x1), some (.int x2), some (.int x_1), some (.int x4), some (.int x5)]) d_MO_decode_103 rfl (by decide) (by rw [ex_1]; rfl) rfl ?_
  obtain ⟨x_2, ex_2⟩ : ∃ z : Int32, z = x4 + 1 := ⟨_, rfl⟩
  replace H := H x_2 ex_2
  refine g_iinc (v := x_2) (lv' := [some (.ref q0), some (.int x1), some (.int x2), some (.int x_1), some (.int x_2), some (.int x5)]) d_MO_decode_106 rfl (by decide) (by rw [ex_2]; rfl) rfl ?_
  refine g_goto (tgt := 5) d_MO_decode_109 (by decide) ?_
  refine g_msk [true, true, true, true, true, false] ?_
  exact hC5 _ _ _ H
set_option maxRecDepth 100000 in
set_option maxHeartbeats 4000000 in
def wJ_MO_decode_74 (G : Gx) (l : Launch) (d w : Nat) (P : Int32 → Hp → Prop) (C5 : Int32 → Int32 → Hp → Prop) (q0 : Nat) (x1 : Int32) (x2 : Int32) (x3 : Int32) (x4 : Int32) (x5 : Int32) (sx0 : Int32) (h : Hp)  : Prop := (x2 = 0 → (hS h q0 = some (18, 0)) ∧ (∃ q_5 : Nat, (hR h q0 40) = some q_5 ∧ (∃ N_7 : Nat, ∃ j_8 : Nat, (hS h q_5 = some (0, N_7) ∧ (x1 + x3) = nI j_8 ∧ j_8 < N_7 ∧ j_8 < 2147483648) ∧ (wJ_MO_decode_103 G l d w P C5 q0 x1 x2 x3 sx0 x5 (pI h q_5 j_8 x5))))) ∧ (¬ x2 = 0 → (hS h q0 = some (18, 0)) ∧ (∃ q_11 : Nat, (hR h q0 9) = some q_11 ∧ (∃ N_13 : Nat, ∃ j_14 : Nat, (hS h q_11 = some (0, N_13) ∧ (x1 + x3) = nI j_14 ∧ j_14 < N_13 ∧ j_14 < 2147483648) ∧ (wJ_MO_decode_103 G l d w P C5 q0 x1 x2 x3 sx0 x5 (pI h q_11 j_14 x5)))))
set_option maxRecDepth 100000 in
set_option maxHeartbeats 4000000 in
theorem okJ_MO_decode_74 {G : Gx} {l : Launch} {d w : Nat} {P : Int32 → Hp → Prop} {p : Program} {e : Env} {s : State} {m : MethodId} {args : Array Value} {below : List Frame} {meth : Method} {c : Code} {C5 : Int32 → Int32 → Hp → Prop} {q0 : Nat} {x1 : Int32} {x2 : Int32} {x3 : Int32} {x4 : Int32} {x5 : Int32} {sx0 : Int32} (hC5 : ∀ (x3 : Int32) (x4 : Int32) (h : Hp), C5 x3 x4 h → Go M_MO_decode (mkX G (fun r h' => ∃ x, r = some (.int x) ∧ P x h') (d + 2) (w + 40) 0 0 p l e s m args below meth c) 5 [some (.ref q0), some (.int x1), some (.int x2), some (.int x3), some (.int x4), none] [] h 0 0) {h : Hp}  (H : wJ_MO_decode_74 G l d w P C5 q0 x1 x2 x3 x4 x5 sx0 h ) : Go M_MO_decode (mkX G (fun r h' => ∃ x, r = some (.int x) ∧ P x h') (d + 2) (w + 40) 0 0 p l e s m args below meth c) 74 [some (.ref q0), some (.int x1), some (.int x2), some (.int x3), some (.int x4), some (.int x5)] [.int sx0] h 0 0 := by
  unfold wJ_MO_decode_74 at H
  refine g_istore (lv' := [some (.ref q0), some (.int x1), some (.int x2), some (.int x3), some (.int sx0), some (.int x5)]) d_MO_decode_74 (by decide) rfl ?_
  refine g_iload_n d_MO_decode_76 rfl ?_
  obtain ⟨H1, H2⟩ := H
  refine g_if_eq (tgt := 93) d_MO_decode_77 (by decide) (fun c_3 => ?_) (fun c_3 => ?_)
  · have H := H1 c_3
    refine g_aload_n d_MO_decode_93 rfl ?_
    obtain ⟨z_4, H⟩ := H
    refine g_getR d_MO_decode_94 f_MO_114 z_4 (by decide) ?_
    refine g_iload_n d_MO_decode_97 rfl ?_
    refine g_iload_n d_MO_decode_98 rfl ?_
    refine g_iadd d_MO_decode_99 ?_
    refine g_iload d_MO_decode_100 rfl ?_
    obtain ⟨q_5, e_6, H⟩ := H
    show Go _ _ _ [some (.ref q0), some (.int x1), some (.int x2), some (.int x3), some (.int sx0), some (.int x5)] [.int x5, .int (x1 + x3), va_rf (hR h q0 40)] _ _ _
    rw [show va_rf (hR h q0 40) = Value.ref q_5 from by rw [e_6]; rfl]
    obtain ⟨N_7, H⟩ := H
    obtain ⟨j_8, H⟩ := H
    obtain ⟨z_9, H⟩ := H
    refine g_iast d_MO_decode_102 z_9.1 z_9.2.1 z_9.2.2.1 z_9.2.2.2 ?_
    refine g_msk [true, true, true, true, true, true] ?_
    exact okJ_MO_decode_103 hC5 H
  · have H := H2 c_3
    refine g_aload_n d_MO_decode_80 rfl ?_
    obtain ⟨z_10, H⟩ := H
    refine g_getR d_MO_decode_81 f_MO_33 z_10 (by decide) ?_
    refine g_iload_n d_MO_decode_84 rfl ?_
    refine g_iload_n d_MO_decode_85 rfl ?_
    refine g_iadd d_MO_decode_86 ?_
    refine g_iload d_MO_decode_87 rfl ?_
    obtain ⟨q_11, e_12, H⟩ := H
    show Go _ _ _ [some (.ref q0), some (.int x1), some (.int x2), some (.int x3), some (.int sx0), some (.int x5)] [.int x5, .int (x1 + x3), va_rf (hR h q0 9)] _ _ _
    rw [show va_rf (hR h q0 9) = Value.ref q_11 from by rw [e_12]; rfl]
    obtain ⟨N_13, H⟩ := H
    obtain ⟨j_14, H⟩ := H
    obtain ⟨z_15, H⟩ := H
    refine g_iast d_MO_decode_89 z_15.1 z_15.2.1 z_15.2.2.1 z_15.2.2.2 ?_
    refine g_goto (tgt := 103) d_MO_decode_90 (by decide) ?_
    refine g_msk [true, true, true, true, true, true] ?_
    exact okJ_MO_decode_103 hC5 H
set_option maxRecDepth 100000 in
set_option maxHeartbeats 4000000 in
def wJ_MO_decode_51 (G : Gx) (l : Launch) (d w : Nat) (P : Int32 → Hp → Prop) (C5 : Int32 → Int32 → Hp → Prop) (q0 : Nat) (x1 : Int32) (x2 : Int32) (x3 : Int32) (x4 : Int32) (sx0 : Int32) (h : Hp)  : Prop := (hS h q0 = some (18, 0)) ∧ (∃ q_17 : Nat, (hR h q0 3) = some q_17 ∧ (∃ N_19 : Nat, ∃ j_20 : Nat, (hS h q_17 = some (0, N_19) ∧ x4 = nI j_20 ∧ j_20 < N_19 ∧ j_20 < 2147483648) ∧ ((¬ (hI h q_17 j_20) = 27 → wJ_MO_decode_74 G l d w P C5 q0 x1 x2 x3 x4 sx0 x4 h) ∧ ((hI h q_17 j_20) = 27 → wJ_MO_decode_74 G l d w P C5 q0 x1 x2 x3 x4 sx0 (x4 + 1) h))))
set_option maxRecDepth 100000 in
set_option maxHeartbeats 4000000 in
theorem okJ_MO_decode_51 {G : Gx} {l : Launch} {d w : Nat} {P : Int32 → Hp → Prop} {p : Program} {e : Env} {s : State} {m : MethodId} {args : Array Value} {below : List Frame} {meth : Method} {c : Code} {C5 : Int32 → Int32 → Hp → Prop} {q0 : Nat} {x1 : Int32} {x2 : Int32} {x3 : Int32} {x4 : Int32} {sx0 : Int32} (hC5 : ∀ (x3 : Int32) (x4 : Int32) (h : Hp), C5 x3 x4 h → Go M_MO_decode (mkX G (fun r h' => ∃ x, r = some (.int x) ∧ P x h') (d + 2) (w + 40) 0 0 p l e s m args below meth c) 5 [some (.ref q0), some (.int x1), some (.int x2), some (.int x3), some (.int x4), none] [] h 0 0) {h : Hp}  (H : wJ_MO_decode_51 G l d w P C5 q0 x1 x2 x3 x4 sx0 h ) : Go M_MO_decode (mkX G (fun r h' => ∃ x, r = some (.int x) ∧ P x h') (d + 2) (w + 40) 0 0 p l e s m args below meth c) 51 [some (.ref q0), some (.int x1), some (.int x2), some (.int x3), some (.int x4), none] [.int sx0] h 0 0 := by
  unfold wJ_MO_decode_51 at H
  refine g_istore (lv' := [some (.ref q0), some (.int x1), some (.int x2), some (.int x3), some (.int x4), some (.int sx0)]) d_MO_decode_51 (by decide) rfl ?_
  refine g_aload_n d_MO_decode_53 rfl ?_
  obtain ⟨z_16, H⟩ := H
  refine g_getR d_MO_decode_54 f_MO_13 z_16 (by decide) ?_
  refine g_iload d_MO_decode_57 rfl ?_
  obtain ⟨q_17, e_18, H⟩ := H
  show Go _ _ _ [some (.ref q0), some (.int x1), some (.int x2), some (.int x3), some (.int x4), some (.int sx0)] [.int x4, va_rf (hR h q0 3)] _ _ _
  rw [show va_rf (hR h q0 3) = Value.ref q_17 from by rw [e_18]; rfl]
  obtain ⟨N_19, H⟩ := H
  obtain ⟨j_20, H⟩ := H
  obtain ⟨z_21, H⟩ := H
  refine g_iald d_MO_decode_59 z_21.1 z_21.2.1 z_21.2.2.1 z_21.2.2.2 ?_
  refine g_bipush (v := 27) d_MO_decode_60 (by decide) ?_
  obtain ⟨H1, H2⟩ := H
  refine g_icmp_ne (tgt := 72) d_MO_decode_62 (by decide) (fun c_22 => ?_) (fun c_22 => ?_)
  · have H := H1 c_22
    refine g_iload d_MO_decode_72 rfl ?_
    refine g_msk [true, true, true, true, true, true] ?_
    exact okJ_MO_decode_74 hC5 H
  · have H := H2 c_22
    refine g_iload d_MO_decode_65 rfl ?_
    refine g_iconst (v := 1) d_MO_decode_67 (by decide) ?_
    refine g_iadd d_MO_decode_68 ?_
    refine g_goto (tgt := 74) d_MO_decode_69 (by decide) ?_
    refine g_msk [true, true, true, true, true, true] ?_
    exact okJ_MO_decode_74 hC5 H
set_option maxRecDepth 100000 in
set_option maxHeartbeats 4000000 in
def wB_MO_decode_5 (G : Gx) (l : Launch) (d w : Nat) (P : Int32 → Hp → Prop) (C5 : Int32 → Int32 → Hp → Prop) (q0 : Nat) (x1 : Int32) (x2 : Int32) (x3 : Int32) (x4 : Int32) (h : Hp)  : Prop := (hS h q0 = some (18, 0)) ∧ (((hI h q0 2) ≤ x4 → P x3 h) ∧ (¬ (hI h q0 2) ≤ x4 → ∃ q_25 : Nat, (hR h q0 3) = some q_25 ∧ (∃ N_27 : Nat, ∃ j_28 : Nat, (hS h q_25 = some (0, N_27) ∧ x4 = nI j_28 ∧ j_28 < N_27 ∧ j_28 < 2147483648) ∧ ((¬ (hI h q_25 j_28) = 27 → ∃ q_31 : Nat, (hR h q0 3) = some q_31 ∧ (∃ N_33 : Nat, ∃ j_34 : Nat, (hS h q_31 = some (0, N_33) ∧ x4 = nI j_34 ∧ j_34 < N_33 ∧ j_34 < 2147483648) ∧ (∃ P_36 : Int32 → Hp → Prop, (Ci G l M_MO_plain (d + 1) (w + 20) [.int (hI h q_31 j_34)] h 0 0 P_36) ∧ (∀ (x_40 : Int32) (h_38 : Hp), P_36 x_40 h_38 → wJ_MO_decode_51 G l d w P C5 q0 x1 x2 x3 x4 x_40 h_38)))) ∧ ((hI h q_25 j_28) = 27 → ∃ q_43 : Nat, (hR h q0 3) = some q_43 ∧ (∃ N_45 : Nat, ∃ j_46 : Nat, (hS h q_43 = some (0, N_45) ∧ (x4 + 1) = nI j_46 ∧ j_46 < N_45 ∧ j_46 < 2147483648) ∧ (∃ P_48 : Int32 → Hp → Prop, (Ci G l M_MO_escaped (d + 0) (w + 0) [.int (hI h q_43 j_46)] h 0 0 P_48) ∧ (∀ (x_52 : Int32) (h_50 : Hp), P_48 x_52 h_50 → wJ_MO_decode_51 G l d w P C5 q0 x1 x2 x3 x4 x_52 h_50))))))))
set_option maxRecDepth 100000 in
set_option maxHeartbeats 4000000 in
theorem okB_MO_decode_5 {G : Gx} {l : Launch} {d w : Nat} {P : Int32 → Hp → Prop} {p : Program} {e : Env} {s : State} {m : MethodId} {args : Array Value} {below : List Frame} {meth : Method} {c : Code} {C5 : Int32 → Int32 → Hp → Prop} {q0 : Nat} {x1 : Int32} {x2 : Int32} {x3 : Int32} {x4 : Int32} (hC5 : ∀ (x3 : Int32) (x4 : Int32) (h : Hp), C5 x3 x4 h → Go M_MO_decode (mkX G (fun r h' => ∃ x, r = some (.int x) ∧ P x h') (d + 2) (w + 40) 0 0 p l e s m args below meth c) 5 [some (.ref q0), some (.int x1), some (.int x2), some (.int x3), some (.int x4), none] [] h 0 0) {h : Hp}  (H : wB_MO_decode_5 G l d w P C5 q0 x1 x2 x3 x4 h ) : Go M_MO_decode (mkX G (fun r h' => ∃ x, r = some (.int x) ∧ P x h') (d + 2) (w + 40) 0 0 p l e s m args below meth c) 5 [some (.ref q0), some (.int x1), some (.int x2), some (.int x3), some (.int x4), none] [] h 0 0 := by
  unfold wB_MO_decode_5 at H
  refine g_iload d_MO_decode_5 rfl ?_
  refine g_aload_n d_MO_decode_7 rfl ?_
  obtain ⟨z_23, H⟩ := H
  refine g_getI d_MO_decode_8 f_MO_124 z_23 ?_
  obtain ⟨H1, H2⟩ := H
  refine g_icmp_ge (tgt := 112) d_MO_decode_11 (by decide) (fun c_24 => ?_) (fun c_24 => ?_)
  · have H := H1 c_24
    refine g_iload_n d_MO_decode_112 rfl ?_
    exact g_ireturn d_MO_decode_113 rfl (Nat.le_refl _) (Nat.le_refl _) ⟨_, rfl, H⟩
  · have H := H2 c_24
    refine g_aload_n d_MO_decode_14 rfl ?_
    refine g_getR d_MO_decode_15 f_MO_13 z_23 (by decide) ?_
    refine g_iload d_MO_decode_18 rfl ?_
    obtain ⟨q_25, e_26, H⟩ := H
    show Go _ _ _ [some (.ref q0), some (.int x1), some (.int x2), some (.int x3), some (.int x4), none] [.int x4, va_rf (hR h q0 3)] _ _ _
    rw [show va_rf (hR h q0 3) = Value.ref q_25 from by rw [e_26]; rfl]
    obtain ⟨N_27, H⟩ := H
    obtain ⟨j_28, H⟩ := H
    obtain ⟨z_29, H⟩ := H
    refine g_iald d_MO_decode_20 z_29.1 z_29.2.1 z_29.2.2.1 z_29.2.2.2 ?_
    refine g_bipush (v := 27) d_MO_decode_21 (by decide) ?_
    obtain ⟨H1, H2⟩ := H
    refine g_icmp_ne (tgt := 41) d_MO_decode_23 (by decide) (fun c_30 => ?_) (fun c_30 => ?_)
    · have H := H1 c_30
      refine g_aload_n d_MO_decode_41 rfl ?_
      refine g_getR d_MO_decode_42 f_MO_13 z_23 (by decide) ?_
      refine g_iload d_MO_decode_45 rfl ?_
      obtain ⟨q_31, e_32, H⟩ := H
      show Go _ _ _ [some (.ref q0), some (.int x1), some (.int x2), some (.int x3), some (.int x4), none] [.int x4, va_rf (hR h q0 3)] _ _ _
      rw [show va_rf (hR h q0 3) = Value.ref q_31 from by rw [e_32]; rfl]
      obtain ⟨N_33, H⟩ := H
      obtain ⟨j_34, H⟩ := H
      obtain ⟨z_35, H⟩ := H
      refine g_iald d_MO_decode_47 z_35.1 z_35.2.1 z_35.2.2.1 z_35.2.2.2 ?_
      obtain ⟨P_36, C_37, H⟩ := H
      refine q_S (As := [.int (hI h q_31 j_34)]) (st := []) (nl := 1) d_MO_decode_48 v_MO_121 C_37 rfl (catS_le (Nat.le_of_ble_eq_true rfl)) rfl ⟨by omega, by omega, Nat.le_refl _, Nat.le_refl _⟩ (fun r_42 h_38 p_39 => ?_)
      obtain ⟨x_40, rfl, p_39⟩ := p_39
      replace H := H x_40 h_38 p_39
      show Go _ _ _ _ [.int x_40] _ _ _
      refine g_msk [true, true, true, true, true, false] ?_
      exact okJ_MO_decode_51 hC5 H
    · have H := H2 c_30
      refine g_aload_n d_MO_decode_26 rfl ?_
      refine g_getR d_MO_decode_27 f_MO_13 z_23 (by decide) ?_
      refine g_iload d_MO_decode_30 rfl ?_
      refine g_iconst (v := 1) d_MO_decode_32 (by decide) ?_
      refine g_iadd d_MO_decode_33 ?_
      obtain ⟨q_43, e_44, H⟩ := H
      show Go _ _ _ [some (.ref q0), some (.int x1), some (.int x2), some (.int x3), some (.int x4), none] [.int (x4 + 1), va_rf (hR h q0 3)] _ _ _
      rw [show va_rf (hR h q0 3) = Value.ref q_43 from by rw [e_44]; rfl]
      obtain ⟨N_45, H⟩ := H
      obtain ⟨j_46, H⟩ := H
      obtain ⟨z_47, H⟩ := H
      refine g_iald d_MO_decode_34 z_47.1 z_47.2.1 z_47.2.2.1 z_47.2.2.2 ?_
      obtain ⟨P_48, C_49, H⟩ := H
      refine q_S (As := [.int (hI h q_43 j_46)]) (st := []) (nl := 1) d_MO_decode_35 v_MO_128 C_49 rfl (catS_le (Nat.le_of_ble_eq_true rfl)) rfl ⟨by omega, by omega, Nat.le_refl _, Nat.le_refl _⟩ (fun r_54 h_50 p_51 => ?_)
      obtain ⟨x_52, rfl, p_51⟩ := p_51
      replace H := H x_52 h_50 p_51
      show Go _ _ _ _ [.int x_52] _ _ _
      refine g_goto (tgt := 51) d_MO_decode_38 (by decide) ?_
      refine g_msk [true, true, true, true, true, false] ?_
      exact okJ_MO_decode_51 hC5 H
set_option maxRecDepth 100000 in
set_option maxHeartbeats 4000000 in
def wL_MO_decode_5 (G : Gx) (l : Launch) (d w : Nat) (P : Int32 → Hp → Prop) (q0 : Nat) (x1 : Int32) (x2 : Int32) (x3 : Int32) (x4 : Int32) (h : Hp)  : Prop := ∃ (I : Int32 → Int32 → Hp → Prop) (μ : Int32 → Int32 → Hp → Nat), I x3 x4 h ∧ ∀ (x3' : Int32) (x4' : Int32) (h' : Hp), I x3' x4' h' → wB_MO_decode_5 G l d w P (fun x3_ x4_ h_ => I x3_ x4_ h_ ∧ μ x3_ x4_ h_ < μ x3' x4' h') q0 x1 x2 x3' x4' h'
set_option maxRecDepth 100000 in
set_option maxHeartbeats 4000000 in
theorem okL_MO_decode_5 {G : Gx} {l : Launch} {d w : Nat} {P : Int32 → Hp → Prop} {p : Program} {e : Env} {s : State} {m : MethodId} {args : Array Value} {below : List Frame} {meth : Method} {c : Code} {q0 : Nat} {x1 : Int32} {x2 : Int32} {x3 : Int32} {x4 : Int32} {h : Hp}  (H : wL_MO_decode_5 G l d w P  q0 x1 x2 x3 x4 h ) : Go M_MO_decode (mkX G (fun r h' => ∃ x, r = some (.int x) ∧ P x h') (d + 2) (w + 40) 0 0 p l e s m args below meth c) 5 [some (.ref q0), some (.int x1), some (.int x2), some (.int x3), some (.int x4), none] [] h 0 0 := by
  obtain ⟨I, μ, h0, hs⟩ := H
  have key : ∀ (N : Nat) (x3 : Int32) (x4 : Int32) (h : Hp), I x3 x4 h → μ x3 x4 h < N → Go M_MO_decode (mkX G (fun r h' => ∃ x, r = some (.int x) ∧ P x h') (d + 2) (w + 40) 0 0 p l e s m args below meth c) 5 [some (.ref q0), some (.int x1), some (.int x2), some (.int x3), some (.int x4), none] [] h 0 0 := by
    intro N
    induction N with
    | zero => intro x3 x4 h _ hN; exact absurd hN (Nat.not_lt_zero _)
    | succ N ih =>
      intro x3 x4 h hI hN
      exact okB_MO_decode_5 (fun x3_ x4_ h_ hh => ih x3_ x4_ h_ hh.1 (Nat.lt_of_lt_of_le hh.2 (Nat.le_of_lt_succ hN))) (hs x3 x4 h hI)
  exact key _ _ _ _ h0 (Nat.lt_succ_self _)
set_option maxRecDepth 100000 in
set_option maxHeartbeats 4000000 in
def wp_MO_decode (G : Gx) (l : Launch) (d w : Nat) (P : Int32 → Hp → Prop) (q0 : Nat) (x1 : Int32) (x2 : Int32) (h : Hp) : Prop := wL_MO_decode_5 G l d w P q0 x1 x2 0 0 h
set_option maxRecDepth 100000 in
set_option maxHeartbeats 4000000 in
theorem ok_MO_decode {G : Gx} {l : Launch} {d w : Nat} {P : Int32 → Hp → Prop} {q0 : Nat} {x1 : Int32} {x2 : Int32} {h : Hp} (H : wp_MO_decode G l d w P q0 x1 x2 h) : Ci G l M_MO_decode (d + 2) (w + 40) [.ref q0, .int x1, .int x2] h 0 0 P := by
  unfold wp_MO_decode at H
  refine Ct.of (lv := [some (.ref q0), some (.int x1), some (.int x2), none, none, none]) (by decide) (Nat.le_of_ble_eq_true rfl) rfl (fun p e s m args below meth c => ?_)
  refine g_iconst (v := 0) d_MO_decode_0 (by decide) ?_
  refine g_istore_n (lv' := [some (.ref q0), some (.int x1), some (.int x2), some (.int 0), none, none]) d_MO_decode_1 (by decide) rfl ?_
  refine g_iconst (v := 0) d_MO_decode_2 (by decide) ?_
  refine g_istore (lv' := [some (.ref q0), some (.int x1), some (.int x2), some (.int 0), some (.int 0), none]) d_MO_decode_3 (by decide) rfl ?_
  refine g_msk [true, true, true, true, true, false] ?_
  exact okL_MO_decode_5 H
set_option maxRecDepth 100000 in
set_option maxHeartbeats 4000000 in
def wB_MO_movePile_71 (G : Gx) (l : Launch) (d w : Nat) (P : Hp → Prop) (C71 : Int32 → Hp → Prop) (q0 : Nat) (x1 : Int32) (x2 : Int32) (x3 : Int32) (h : Hp)  : Prop := (459 ≤ x3 → P h) ∧ (¬ 459 ≤ x3 → (hS h q0 = some (18, 0)) ∧ (∃ q_3 : Nat, (hR h q0 40) = some q_3 ∧ (∃ N_5 : Nat, ∃ j_6 : Nat, (hS h q_3 = some (0, N_5) ∧ ((459 * x2) + x3) = nI j_6 ∧ j_6 < N_5 ∧ j_6 < 2147483648) ∧ (∃ N_8 : Nat, ∃ j_9 : Nat, (hS h q_3 = some (0, N_8) ∧ ((459 * x1) + x3) = nI j_9 ∧ j_9 < N_8 ∧ j_9 < 2147483648) ∧ (∀ x_11 : Int32, x_11 = x3 + 1 → C71 x_11 (pI h q_3 j_9 (hI h q_3 j_6)))))))
set_option maxRecDepth 100000 in
set_option maxHeartbeats 4000000 in
theorem okB_MO_movePile_71 {G : Gx} {l : Launch} {d w : Nat} {P : Hp → Prop} {p : Program} {e : Env} {s : State} {m : MethodId} {args : Array Value} {below : List Frame} {meth : Method} {c : Code} {C71 : Int32 → Hp → Prop} {q0 : Nat} {x1 : Int32} {x2 : Int32} {x3 : Int32} (hC71 : ∀ (x3 : Int32) (h : Hp), C71 x3 h → Go M_MO_movePile (mkX G (fun r h' => r = none ∧ P h') (d + 0) (w + 0) 0 0 p l e s m args below meth c) 71 [some (.ref q0), some (.int x1), some (.int x2), some (.int x3)] [] h 0 0) {h : Hp}  (H : wB_MO_movePile_71 G l d w P C71 q0 x1 x2 x3 h ) : Go M_MO_movePile (mkX G (fun r h' => r = none ∧ P h') (d + 0) (w + 0) 0 0 p l e s m args below meth c) 71 [some (.ref q0), some (.int x1), some (.int x2), some (.int x3)] [] h 0 0 := by
  unfold wB_MO_movePile_71 at H
  refine g_iload_n d_MO_movePile_71 rfl ?_
  refine g_sipush (v := 459) d_MO_movePile_72 (by decide) ?_
  obtain ⟨H1, H2⟩ := H
  refine g_icmp_ge (tgt := 108) d_MO_movePile_75 (by decide) (fun c_1 => ?_) (fun c_1 => ?_)
  · have H := H1 c_1
    exact g_return d_MO_movePile_108 rfl (Nat.le_refl _) (Nat.le_refl _) ⟨rfl, H⟩
  · have H := H2 c_1
    refine g_aload_n d_MO_movePile_78 rfl ?_
    obtain ⟨z_2, H⟩ := H
    refine g_getR d_MO_movePile_79 f_MO_114 z_2 (by decide) ?_
    refine g_sipush (v := 459) d_MO_movePile_82 (by decide) ?_
    refine g_iload_n d_MO_movePile_85 rfl ?_
    refine g_imul d_MO_movePile_86 ?_
    refine g_iload_n d_MO_movePile_87 rfl ?_
    refine g_iadd d_MO_movePile_88 ?_
    refine g_aload_n d_MO_movePile_89 rfl ?_
    refine g_getR d_MO_movePile_90 f_MO_114 z_2 (by decide) ?_
    refine g_sipush (v := 459) d_MO_movePile_93 (by decide) ?_
    refine g_iload_n d_MO_movePile_96 rfl ?_
    refine g_imul d_MO_movePile_97 ?_
    refine g_iload_n d_MO_movePile_98 rfl ?_
    refine g_iadd d_MO_movePile_99 ?_
    obtain ⟨q_3, e_4, H⟩ := H
    show Go _ _ _ [some (.ref q0), some (.int x1), some (.int x2), some (.int x3)] [.int ((459 * x2) + x3), va_rf (hR h q0 40), .int ((459 * x1) + x3), va_rf (hR h q0 40)] _ _ _
    rw [show va_rf (hR h q0 40) = Value.ref q_3 from by rw [e_4]; rfl]
    obtain ⟨N_5, H⟩ := H
    obtain ⟨j_6, H⟩ := H
    obtain ⟨z_7, H⟩ := H
    refine g_iald d_MO_movePile_100 z_7.1 z_7.2.1 z_7.2.2.1 z_7.2.2.2 ?_
    obtain ⟨N_8, H⟩ := H
    obtain ⟨j_9, H⟩ := H
    obtain ⟨z_10, H⟩ := H
    refine g_iast d_MO_movePile_101 z_10.1 z_10.2.1 z_10.2.2.1 z_10.2.2.2 ?_
    obtain ⟨x_11, ex_11⟩ : ∃ z : Int32, z = x3 + 1 := ⟨_, rfl⟩
    replace H := H x_11 ex_11
    refine g_iinc (v := x_11) (lv' := [some (.ref q0), some (.int x1), some (.int x2), some (.int x_11)]) d_MO_movePile_102 rfl (by decide) (by rw [ex_11]; rfl) rfl ?_
    refine g_goto (tgt := 71) d_MO_movePile_105 (by decide) ?_
    refine g_msk [true, true, true, true] ?_
    exact hC71 _ _ H
set_option maxRecDepth 100000 in
set_option maxHeartbeats 4000000 in
def wL_MO_movePile_71 (G : Gx) (l : Launch) (d w : Nat) (P : Hp → Prop) (q0 : Nat) (x1 : Int32) (x2 : Int32) (x3 : Int32) (h : Hp)  : Prop := ∃ (I : Int32 → Hp → Prop) (μ : Int32 → Hp → Nat), I x3 h ∧ ∀ (x3' : Int32) (h' : Hp), I x3' h' → wB_MO_movePile_71 G l d w P (fun x3_ h_ => I x3_ h_ ∧ μ x3_ h_ < μ x3' h') q0 x1 x2 x3' h'
set_option maxRecDepth 100000 in
set_option maxHeartbeats 4000000 in
theorem okL_MO_movePile_71 {G : Gx} {l : Launch} {d w : Nat} {P : Hp → Prop} {p : Program} {e : Env} {s : State} {m : MethodId} {args : Array Value} {below : List Frame} {meth : Method} {c : Code} {q0 : Nat} {x1 : Int32} {x2 : Int32} {x3 : Int32} {h : Hp}  (H : wL_MO_movePile_71 G l d w P  q0 x1 x2 x3 h ) : Go M_MO_movePile (mkX G (fun r h' => r = none ∧ P h') (d + 0) (w + 0) 0 0 p l e s m args below meth c) 71 [some (.ref q0), some (.int x1), some (.int x2), some (.int x3)] [] h 0 0 := by
  obtain ⟨I, μ, h0, hs⟩ := H
  have key : ∀ (N : Nat) (x3 : Int32) (h : Hp), I x3 h → μ x3 h < N → Go M_MO_movePile (mkX G (fun r h' => r = none ∧ P h') (d + 0) (w + 0) 0 0 p l e s m args below meth c) 71 [some (.ref q0), some (.int x1), some (.int x2), some (.int x3)] [] h 0 0 := by
    intro N
    induction N with
    | zero => intro x3 h _ hN; exact absurd hN (Nat.not_lt_zero _)
    | succ N ih =>
      intro x3 h hI hN
      exact okB_MO_movePile_71 (fun x3_ h_ hh => ih x3_ h_ hh.1 (Nat.lt_of_lt_of_le hh.2 (Nat.le_of_lt_succ hN))) (hs x3 h hI)
  exact key _ _ _ h0 (Nat.lt_succ_self _)
set_option maxRecDepth 100000 in
set_option maxHeartbeats 4000000 in
def wB_MO_movePile_38 (G : Gx) (l : Launch) (d w : Nat) (P : Hp → Prop) (C38 : Int32 → Hp → Prop) (q0 : Nat) (x1 : Int32) (x2 : Int32) (x3 : Int32) (h : Hp)  : Prop := (3 ≤ x3 → wL_MO_movePile_71 G l d w P q0 x1 x2 0 h) ∧ (¬ 3 ≤ x3 → (hS h q0 = some (18, 0)) ∧ (∃ q_14 : Nat, (hR h q0 39) = some q_14 ∧ (∃ N_16 : Nat, ∃ j_17 : Nat, (hS h q_14 = some (0, N_16) ∧ ((3 * x2) + x3) = nI j_17 ∧ j_17 < N_16 ∧ j_17 < 2147483648) ∧ (∃ N_19 : Nat, ∃ j_20 : Nat, (hS h q_14 = some (0, N_19) ∧ ((3 * x1) + x3) = nI j_20 ∧ j_20 < N_19 ∧ j_20 < 2147483648) ∧ (∀ x_22 : Int32, x_22 = x3 + 1 → C38 x_22 (pI h q_14 j_20 (hI h q_14 j_17)))))))
set_option maxRecDepth 100000 in
set_option maxHeartbeats 4000000 in
theorem okB_MO_movePile_38 {G : Gx} {l : Launch} {d w : Nat} {P : Hp → Prop} {p : Program} {e : Env} {s : State} {m : MethodId} {args : Array Value} {below : List Frame} {meth : Method} {c : Code} {C38 : Int32 → Hp → Prop} {q0 : Nat} {x1 : Int32} {x2 : Int32} {x3 : Int32} (hC38 : ∀ (x3 : Int32) (h : Hp), C38 x3 h → Go M_MO_movePile (mkX G (fun r h' => r = none ∧ P h') (d + 0) (w + 0) 0 0 p l e s m args below meth c) 38 [some (.ref q0), some (.int x1), some (.int x2), some (.int x3)] [] h 0 0) {h : Hp}  (H : wB_MO_movePile_38 G l d w P C38 q0 x1 x2 x3 h ) : Go M_MO_movePile (mkX G (fun r h' => r = none ∧ P h') (d + 0) (w + 0) 0 0 p l e s m args below meth c) 38 [some (.ref q0), some (.int x1), some (.int x2), some (.int x3)] [] h 0 0 := by
  unfold wB_MO_movePile_38 at H
  refine g_iload_n d_MO_movePile_38 rfl ?_
  refine g_iconst (v := 3) d_MO_movePile_39 (by decide) ?_
  obtain ⟨H1, H2⟩ := H
  refine g_icmp_ge (tgt := 69) d_MO_movePile_40 (by decide) (fun c_12 => ?_) (fun c_12 => ?_)
  · have H := H1 c_12
    refine g_iconst (v := 0) d_MO_movePile_69 (by decide) ?_
    refine g_istore_n (lv' := [some (.ref q0), some (.int x1), some (.int x2), some (.int 0)]) d_MO_movePile_70 (by decide) rfl ?_
    refine g_msk [true, true, true, true] ?_
    exact okL_MO_movePile_71 H
  · have H := H2 c_12
    refine g_aload_n d_MO_movePile_43 rfl ?_
    obtain ⟨z_13, H⟩ := H
    refine g_getR d_MO_movePile_44 f_MO_111 z_13 (by decide) ?_
    refine g_iconst (v := 3) d_MO_movePile_47 (by decide) ?_
    refine g_iload_n d_MO_movePile_48 rfl ?_
    refine g_imul d_MO_movePile_49 ?_
    refine g_iload_n d_MO_movePile_50 rfl ?_
    refine g_iadd d_MO_movePile_51 ?_
    refine g_aload_n d_MO_movePile_52 rfl ?_
    refine g_getR d_MO_movePile_53 f_MO_111 z_13 (by decide) ?_
    refine g_iconst (v := 3) d_MO_movePile_56 (by decide) ?_
    refine g_iload_n d_MO_movePile_57 rfl ?_
    refine g_imul d_MO_movePile_58 ?_
    refine g_iload_n d_MO_movePile_59 rfl ?_
    refine g_iadd d_MO_movePile_60 ?_
    obtain ⟨q_14, e_15, H⟩ := H
    show Go _ _ _ [some (.ref q0), some (.int x1), some (.int x2), some (.int x3)] [.int ((3 * x2) + x3), va_rf (hR h q0 39), .int ((3 * x1) + x3), va_rf (hR h q0 39)] _ _ _
    rw [show va_rf (hR h q0 39) = Value.ref q_14 from by rw [e_15]; rfl]
    obtain ⟨N_16, H⟩ := H
    obtain ⟨j_17, H⟩ := H
    obtain ⟨z_18, H⟩ := H
    refine g_iald d_MO_movePile_61 z_18.1 z_18.2.1 z_18.2.2.1 z_18.2.2.2 ?_
    obtain ⟨N_19, H⟩ := H
    obtain ⟨j_20, H⟩ := H
    obtain ⟨z_21, H⟩ := H
    refine g_iast d_MO_movePile_62 z_21.1 z_21.2.1 z_21.2.2.1 z_21.2.2.2 ?_
    obtain ⟨x_22, ex_22⟩ : ∃ z : Int32, z = x3 + 1 := ⟨_, rfl⟩
    replace H := H x_22 ex_22
    refine g_iinc (v := x_22) (lv' := [some (.ref q0), some (.int x1), some (.int x2), some (.int x_22)]) d_MO_movePile_63 rfl (by decide) (by rw [ex_22]; rfl) rfl ?_
    refine g_goto (tgt := 38) d_MO_movePile_66 (by decide) ?_
    refine g_msk [true, true, true, true] ?_
    exact hC38 _ _ H
set_option maxRecDepth 100000 in
set_option maxHeartbeats 4000000 in
def wL_MO_movePile_38 (G : Gx) (l : Launch) (d w : Nat) (P : Hp → Prop) (q0 : Nat) (x1 : Int32) (x2 : Int32) (x3 : Int32) (h : Hp)  : Prop := ∃ (I : Int32 → Hp → Prop) (μ : Int32 → Hp → Nat), I x3 h ∧ ∀ (x3' : Int32) (h' : Hp), I x3' h' → wB_MO_movePile_38 G l d w P (fun x3_ h_ => I x3_ h_ ∧ μ x3_ h_ < μ x3' h') q0 x1 x2 x3' h'
set_option maxRecDepth 100000 in
set_option maxHeartbeats 4000000 in
theorem okL_MO_movePile_38 {G : Gx} {l : Launch} {d w : Nat} {P : Hp → Prop} {p : Program} {e : Env} {s : State} {m : MethodId} {args : Array Value} {below : List Frame} {meth : Method} {c : Code} {q0 : Nat} {x1 : Int32} {x2 : Int32} {x3 : Int32} {h : Hp}  (H : wL_MO_movePile_38 G l d w P  q0 x1 x2 x3 h ) : Go M_MO_movePile (mkX G (fun r h' => r = none ∧ P h') (d + 0) (w + 0) 0 0 p l e s m args below meth c) 38 [some (.ref q0), some (.int x1), some (.int x2), some (.int x3)] [] h 0 0 := by
  obtain ⟨I, μ, h0, hs⟩ := H
  have key : ∀ (N : Nat) (x3 : Int32) (h : Hp), I x3 h → μ x3 h < N → Go M_MO_movePile (mkX G (fun r h' => r = none ∧ P h') (d + 0) (w + 0) 0 0 p l e s m args below meth c) 38 [some (.ref q0), some (.int x1), some (.int x2), some (.int x3)] [] h 0 0 := by
    intro N
    induction N with
    | zero => intro x3 h _ hN; exact absurd hN (Nat.not_lt_zero _)
    | succ N ih =>
      intro x3 h hI hN
      exact okB_MO_movePile_38 (fun x3_ h_ hh => ih x3_ h_ hh.1 (Nat.lt_of_lt_of_le hh.2 (Nat.le_of_lt_succ hN))) (hs x3 h hI)
  exact key _ _ _ h0 (Nat.lt_succ_self _)
set_option maxRecDepth 100000 in
set_option maxHeartbeats 4000000 in
def wp_MO_movePile (G : Gx) (l : Launch) (d w : Nat) (P : Hp → Prop) (q0 : Nat) (x1 : Int32) (x2 : Int32) (h : Hp) : Prop := (hS h q0 = some (18, 0)) ∧ (∃ q_24 : Nat, (hR h q0 35) = some q_24 ∧ (∃ N_26 : Nat, ∃ j_27 : Nat, (hS h q_24 = some (1, N_26) ∧ x2 = nI j_27 ∧ j_27 < N_26 ∧ j_27 < 2147483648) ∧ (∃ N_29 : Nat, ∃ j_30 : Nat, (hS h q_24 = some (1, N_29) ∧ x1 = nI j_30 ∧ j_30 < N_29 ∧ j_30 < 2147483648) ∧ (∃ q_32 : Nat, (hR h q0 36) = some q_32 ∧ (∃ N_34 : Nat, ∃ j_35 : Nat, (hS h q_32 = some (0, N_34) ∧ x2 = nI j_35 ∧ j_35 < N_34 ∧ j_35 < 2147483648) ∧ (∃ N_37 : Nat, ∃ j_38 : Nat, (hS h q_32 = some (0, N_37) ∧ x1 = nI j_38 ∧ j_38 < N_37 ∧ j_38 < 2147483648) ∧ (∃ q_40 : Nat, (hR h q0 37) = some q_40 ∧ (∃ N_42 : Nat, ∃ j_43 : Nat, (hS h q_40 = some (0, N_42) ∧ x2 = nI j_43 ∧ j_43 < N_42 ∧ j_43 < 2147483648) ∧ (∃ N_45 : Nat, ∃ j_46 : Nat, (hS h q_40 = some (0, N_45) ∧ x1 = nI j_46 ∧ j_46 < N_45 ∧ j_46 < 2147483648) ∧ (wL_MO_movePile_38 G l d w P q0 x1 x2 0 (pI (pI (pL h q_24 j_30 (hL h q_24 j_27)) q_32 j_38 (hI h q_32 j_35)) q_40 j_46 (hI (pI h q_32 j_38 (hI h q_32 j_35)) q_40 j_43))))))))))))
set_option maxRecDepth 100000 in
set_option maxHeartbeats 4000000 in
theorem ok_MO_movePile {G : Gx} {l : Launch} {d w : Nat} {P : Hp → Prop} {q0 : Nat} {x1 : Int32} {x2 : Int32} {h : Hp} (H : wp_MO_movePile G l d w P q0 x1 x2 h) : Cv G l M_MO_movePile (d + 0) (w + 0) [.ref q0, .int x1, .int x2] h 0 0 P := by
  unfold wp_MO_movePile at H
  refine Ct.of (lv := [some (.ref q0), some (.int x1), some (.int x2), none]) (by decide) (Nat.le_of_ble_eq_true rfl) rfl (fun p e s m args below meth c => ?_)
  refine g_aload_n d_MO_movePile_0 rfl ?_
  obtain ⟨z_23, H⟩ := H
  refine g_getR d_MO_movePile_1 f_MO_99 z_23 (by decide) ?_
  refine g_iload_n d_MO_movePile_4 rfl ?_
  refine g_aload_n d_MO_movePile_5 rfl ?_
  refine g_getR d_MO_movePile_6 f_MO_99 z_23 (by decide) ?_
  refine g_iload_n d_MO_movePile_9 rfl ?_
  obtain ⟨q_24, e_25, H⟩ := H
  show Go _ _ _ [some (.ref q0), some (.int x1), some (.int x2), none] [.int x2, va_rf (hR h q0 35), .int x1, va_rf (hR h q0 35)] _ _ _
  rw [show va_rf (hR h q0 35) = Value.ref q_24 from by rw [e_25]; rfl]
  obtain ⟨N_26, H⟩ := H
  obtain ⟨j_27, H⟩ := H
  obtain ⟨z_28, H⟩ := H
  refine g_lald d_MO_movePile_10 z_28.1 z_28.2.1 z_28.2.2.1 z_28.2.2.2 ?_
  obtain ⟨N_29, H⟩ := H
  obtain ⟨j_30, H⟩ := H
  obtain ⟨z_31, H⟩ := H
  refine g_last d_MO_movePile_11 z_31.1 z_31.2.1 z_31.2.2.1 z_31.2.2.2 ?_
  refine g_aload_n d_MO_movePile_12 rfl ?_
  refine g_getR d_MO_movePile_13 f_MO_102 z_23 (by decide) ?_
  refine g_iload_n d_MO_movePile_16 rfl ?_
  refine g_aload_n d_MO_movePile_17 rfl ?_
  refine g_getR d_MO_movePile_18 f_MO_102 z_23 (by decide) ?_
  refine g_iload_n d_MO_movePile_21 rfl ?_
  obtain ⟨q_32, e_33, H⟩ := H
  show Go _ _ _ [some (.ref q0), some (.int x1), some (.int x2), none] [.int x2, va_rf (hR h q0 36), .int x1, va_rf (hR h q0 36)] _ _ _
  rw [show va_rf (hR h q0 36) = Value.ref q_32 from by rw [e_33]; rfl]
  obtain ⟨N_34, H⟩ := H
  obtain ⟨j_35, H⟩ := H
  obtain ⟨z_36, H⟩ := H
  refine g_iald d_MO_movePile_22 z_36.1 z_36.2.1 z_36.2.2.1 z_36.2.2.2 ?_
  obtain ⟨N_37, H⟩ := H
  obtain ⟨j_38, H⟩ := H
  obtain ⟨z_39, H⟩ := H
  refine g_iast d_MO_movePile_23 z_39.1 z_39.2.1 z_39.2.2.1 z_39.2.2.2 ?_
  refine g_aload_n d_MO_movePile_24 rfl ?_
  refine g_getR d_MO_movePile_25 f_MO_105 z_23 (by decide) ?_
  refine g_iload_n d_MO_movePile_28 rfl ?_
  refine g_aload_n d_MO_movePile_29 rfl ?_
  refine g_getR d_MO_movePile_30 f_MO_105 z_23 (by decide) ?_
  refine g_iload_n d_MO_movePile_33 rfl ?_
  obtain ⟨q_40, e_41, H⟩ := H
  show Go _ _ _ [some (.ref q0), some (.int x1), some (.int x2), none] [.int x2, va_rf (hR h q0 37), .int x1, va_rf (hR h q0 37)] _ _ _
  rw [show va_rf (hR h q0 37) = Value.ref q_40 from by rw [e_41]; rfl]
  obtain ⟨N_42, H⟩ := H
  obtain ⟨j_43, H⟩ := H
  obtain ⟨z_44, H⟩ := H
  refine g_iald d_MO_movePile_34 z_44.1 z_44.2.1 z_44.2.2.1 z_44.2.2.2 ?_
  obtain ⟨N_45, H⟩ := H
  obtain ⟨j_46, H⟩ := H
  obtain ⟨z_47, H⟩ := H
  refine g_iast d_MO_movePile_35 z_47.1 z_47.2.1 z_47.2.2.1 z_47.2.2.2 ?_
  refine g_iconst (v := 0) d_MO_movePile_36 (by decide) ?_
  refine g_istore_n (lv' := [some (.ref q0), some (.int x1), some (.int x2), some (.int 0)]) d_MO_movePile_37 (by decide) rfl ?_
  refine g_msk [true, true, true, true] ?_
  exact okL_MO_movePile_38 H
