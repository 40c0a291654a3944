set_option maxRecDepth 100000 in
set_option maxHeartbeats 4000000 in
def wp_AbC_init (G : Gx) (l : Launch) (d w : Nat) (P : Hp → Prop) (q0 : Nat) (h : Hp) : Prop := P h
set_option maxRecDepth 100000 in
set_option maxHeartbeats 4000000 in
theorem ok_AbC_init {G : Gx} {l : Launch} {d w : Nat} {P : Hp → Prop} {q0 : Nat} {h : Hp} (H : wp_AbC_init G l d w P q0 h) : Cv G l M_AbC_init (d + 1) (w + 20) [.ref q0] h 0 0 P := by
  unfold wp_AbC_init at H
  refine Ct.of (lv := [some (.ref q0)]) (by decide) (Nat.le_of_ble_eq_true rfl) rfl (fun p e s m args below meth c => ?_)
  refine g_aload_n d_AbC_init_0 rfl ?_
  refine g_objInit d_AbC_init_1 kx_AbC kx_n kx_c (catS_le (Nat.le_of_ble_eq_true rfl)) ⟨show 1 ≤ d + 1 by omega, show 20 ≤ w + 20 by omega⟩ ?_
  exact g_return d_AbC_init_4 rfl (Nat.le_refl _) (Nat.le_refl _) ⟨rfl, H⟩
set_option maxRecDepth 100000 in
set_option maxHeartbeats 4000000 in
def wp_AbL_init (G : Gx) (l : Launch) (d w : Nat) (P : Hp → Prop) (q0 : Nat) (h : Hp) : Prop := ∃ P_1 : Hp → Prop, (Cv G l M_AbC_init (d + 1) (w + 20) [.ref q0] h 0 0 P_1) ∧ (∀ h_3 : Hp, P_1 h_3 → (hS h_3 q0 = some (12, 0)) ∧ (P (pI h_3 q0 2 0)))
set_option maxRecDepth 100000 in
set_option maxHeartbeats 4000000 in
theorem ok_AbL_init {G : Gx} {l : Launch} {d w : Nat} {P : Hp → Prop} {q0 : Nat} {h : Hp} (H : wp_AbL_init G l d w P q0 h) : Cv G l M_AbL_init (d + 2) (w + 40) [.ref q0] h 0 0 P := by
  unfold wp_AbL_init at H
  refine Ct.of (lv := [some (.ref q0)]) (by decide) (Nat.le_of_ble_eq_true rfl) rfl (fun p e s m args below meth c => ?_)
  refine g_aload_n d_AbL_init_0 rfl ?_
  obtain ⟨P_1, C_2, H⟩ := H
  refine q_I (As := []) (st := []) (nl := 1) d_AbL_init_1 v_AbL_1 C_2 rfl (catS_le (Nat.le_of_ble_eq_true rfl)) rfl ⟨by omega, by omega, Nat.le_refl _, Nat.le_refl _⟩ (fun r_7 h_3 p_4 => ?_)
  obtain ⟨rfl, p_4⟩ := p_4
  replace H := H h_3 p_4
  show Go _ _ _ _ [] _ _ _
  refine g_aload_n d_AbL_init_4 rfl ?_
  refine g_iconst (v := 0) d_AbL_init_5 (by decide) ?_
  obtain ⟨z_8, H⟩ := H
  refine g_putI d_AbL_init_6 f_AbL_7 (fo_2_2 _) z_8 ?_
  exact g_return d_AbL_init_9 rfl (Nat.le_refl _) (Nat.le_refl _) ⟨rfl, H⟩
set_option maxRecDepth 100000 in
set_option maxHeartbeats 4000000 in
def wp_AL_init (G : Gx) (l : Launch) (d w : Nat) (P : Hp → Prop) (q0 : Nat) (h : Hp) : Prop := ∃ P_1 : Hp → Prop, (Cv G l M_AbL_init (d + 2) (w + 40) [.ref q0] h 0 0 P_1) ∧ (∀ h_3 : Hp, P_1 h_3 → (hS h_3 q0 = some (12, 0)) ∧ (P (pR h_3 q0 0 (some (gK G 0)))))
set_option maxRecDepth 100000 in
set_option maxHeartbeats 4000000 in
theorem ok_AL_init {G : Gx} {l : Launch} {d w : Nat} {P : Hp → Prop} {q0 : Nat} {h : Hp} (H : wp_AL_init G l d w P q0 h) : Cv G l M_AL_init (d + 3) (w + 60) [.ref q0] h 0 0 P := by
  unfold wp_AL_init at H
  refine Ct.of (lv := [some (.ref q0)]) (by decide) (Nat.le_of_ble_eq_true rfl) rfl (fun p e s m args below meth c => ?_)
  refine g_aload_n d_AL_init_0 rfl ?_
  obtain ⟨P_1, C_2, H⟩ := H
  refine q_I (As := []) (st := []) (nl := 1) d_AL_init_1 v_AL_1 C_2 rfl (catS_le (Nat.le_of_ble_eq_true rfl)) rfl ⟨by omega, by omega, Nat.le_refl _, Nat.le_refl _⟩ (fun r_7 h_3 p_4 => ?_)
  obtain ⟨rfl, p_4⟩ := p_4
  replace H := H h_3 p_4
  show Go _ _ _ _ [] _ _ _
  refine g_aload_n d_AL_init_4 rfl ?_
  refine g_gets (t := 0) d_AL_init_5 f_AL_39 (fun hz => hz.1.1) ?_
  obtain ⟨z_8, H⟩ := H
  refine g_putR (x := (some (gK G 0))) (ty := .array (.object "java/lang/Object")) d_AL_init_8 f_AL_9 (fo_2_0 _) z_8 (by decide) (by decide +kernel) (Or.inr ⟨_, rfl⟩) ?_
  exact g_return d_AL_init_11 rfl (Nat.le_refl _) (Nat.le_refl _) ⟨rfl, H⟩
set_option maxRecDepth 100000 in
set_option maxHeartbeats 4000000 in
def wp_AL_add (G : Gx) (l : Launch) (d w mc ms : Nat) (P : Int32 → Hp → Prop) (q0 : Nat) (q1 : Nat) (h : Hp) : Prop := (hS h q0 = some (12, 0)) ∧ (∃ q_2 : Nat, (hR h q0 0) = some q_2 ∧ (∃ mc_9 : Nat, ∃ ms_10 : Nat, ∃ P_4 : Hp → Prop, (Cv G l M_AL_add1 (d + 5) (w + 118) [.ref q0, .ref q1, .ref q_2, .int (hI (pI h q0 2 ((hI h q0 2) + 1)) q0 1)] (pI h q0 2 ((hI h q0 2) + 1)) mc_9 ms_10 P_4) ∧ ((0 + mc_9 ≤ mc ∧ 0 + ms_10 ≤ ms) ∧ (∀ h_6 : Hp, P_4 h_6 → ((0 + mc_9) ≤ mc ∧ (0 + ms_10) ≤ ms) ∧ (P 1 h_6)))))
set_option maxRecDepth 100000 in
set_option maxHeartbeats 4000000 in
theorem ok_AL_add {G : Gx} {l : Launch} {d w : Nat} {mc ms : Nat} {P : Int32 → Hp → Prop} {q0 : Nat} {q1 : Nat} {h : Hp} (H : wp_AL_add G l d w mc ms P q0 q1 h) : Ci G l M_AL_add (d + 6) (w + 141) [.ref q0, .ref q1] h mc ms P := by
  unfold wp_AL_add at H
  refine Ct.of (lv := [some (.ref q0), some (.ref q1)]) (by decide) (Nat.le_of_ble_eq_true rfl) rfl (fun p e s m args below meth c => ?_)
  refine g_aload_n d_AL_add_0 rfl ?_
  refine g_dup d_AL_add_1 rfl ?_
  obtain ⟨z_1, H⟩ := H
  refine g_getI d_AL_add_2 f_AL_63 z_1 ?_
  refine g_iconst (v := 1) d_AL_add_5 (by decide) ?_
  refine g_iadd d_AL_add_6 ?_
  refine g_putI d_AL_add_7 f_AL_63 (fo_2_2 _) z_1 ?_
  refine g_aload_n d_AL_add_10 rfl ?_
  refine g_aload_n d_AL_add_11 rfl ?_
  refine g_aload_n d_AL_add_12 rfl ?_
  refine g_getR d_AL_add_13 f_AL_9 z_1 (by decide) ?_
  refine g_aload_n d_AL_add_16 rfl ?_
  refine g_getI d_AL_add_17 f_AL_48 z_1 ?_
  obtain ⟨q_2, e_3, H⟩ := H
  show Go _ _ _ [some (.ref q0), some (.ref q1)] [.int (hI (pI h q0 2 ((hI h q0 2) + 1)) q0 1), va_rf (hR h q0 0), .ref q1, .ref q0] _ _ _
  rw [show va_rf (hR h q0 0) = Value.ref q_2 from by rw [e_3]; rfl]
  obtain ⟨mc_9, H⟩ := H
  obtain ⟨ms_10, H⟩ := H
  obtain ⟨P_4, C_5, H⟩ := H
  obtain ⟨b_11, H⟩ := H
  refine q_V (As := [.ref q1, .ref q_2, .int (hI (pI h q0 2 ((hI h q0 2) + 1)) q0 1)]) (st := []) (nl := 4) d_AL_add_20 v_AL_131 C_5 z_1 rfl (catS_le (Nat.le_of_ble_eq_true rfl)) rfl ⟨by omega, by omega, b_11.1, b_11.2⟩ (fun r_12 h_6 p_7 => ?_)
  obtain ⟨rfl, p_7⟩ := p_7
  replace H := H h_6 p_7
  show Go _ _ _ _ [] _ _ _
  refine g_iconst (v := 1) d_AL_add_23 (by decide) ?_
  obtain ⟨b_13, H⟩ := H
  exact g_zreturn d_AL_add_24 rfl (by decide) b_13.1 b_13.2 ⟨_, rfl, H⟩
set_option maxRecDepth 100000 in
set_option maxHeartbeats 4000000 in
def wJ_AL_add1_11 (G : Gx) (l : Launch) (d w mc ms : Nat) (P : Hp → Prop) (q0 : Nat) (q1 : Nat) (o2 : Option Nat) (x3 : Int32) (h : Hp) (k n : Nat) : Prop := ∃ q_1 : Nat, o2 = some q_1 ∧ (∃ N_3 : Nat, ∃ j_4 : Nat, (hS h q_1 = some (3, N_3) ∧ x3 = nI j_4 ∧ j_4 < N_3 ∧ j_4 < 2147483648) ∧ ((ObjA G h q1 3) ∧ ((hS h q0 = some (12, 0)) ∧ ((k ≤ mc ∧ n ≤ ms) ∧ (P (pI (pR h q_1 j_4 (some q1)) q0 1 (x3 + 1)))))))
set_option maxRecDepth 100000 in
set_option maxHeartbeats 4000000 in
theorem okJ_AL_add1_11 {G : Gx} {l : Launch} {d w : Nat} {mc ms : Nat} {P : Hp → Prop} {p : Program} {e : Env} {s : State} {m : MethodId} {args : Array Value} {below : List Frame} {meth : Method} {c : Code} {q0 : Nat} {q1 : Nat} {o2 : Option Nat} {x3 : Int32} {h : Hp} {k n : Nat} (H : wJ_AL_add1_11 G l d w mc ms P  q0 q1 o2 x3 h k n) : Go M_AL_add1 (mkX G (fun r h' => r = none ∧ P h') (d + 5) (w + 118) mc ms p l e s m args below meth c) 11 [some (.ref q0), some (.ref q1), some (va_rf o2), some (.int x3)] [] h k n := by
  unfold wJ_AL_add1_11 at H
  refine g_aload_nV d_AL_add1_11 rfl ?_
  refine g_iload_n d_AL_add1_12 rfl ?_
  refine g_aload_n d_AL_add1_13 rfl ?_
  obtain ⟨q_1, e_2, H⟩ := H
  show Go _ _ _ [some (.ref q0), some (.ref q1), some (va_rf o2), some (.int x3)] [.ref q1, .int x3, va_rf o2] _ _ _
  rw [show va_rf o2 = Value.ref q_1 from by rw [e_2]; rfl]
  obtain ⟨N_3, H⟩ := H
  obtain ⟨j_4, H⟩ := H
  obtain ⟨z_5, H⟩ := H
  obtain ⟨u_6, H⟩ := H
  obtain ⟨u_6a, u_6b, u_6c, u_6d, u_6e⟩ := u_6
  refine g_aast d_AL_add1_14 z_5.1 (by decide) u_6c u_6d u_6e z_5.2.1 z_5.2.2.1 z_5.2.2.2 ?_
  refine g_aload_n d_AL_add1_15 rfl ?_
  refine g_iload_n d_AL_add1_16 rfl ?_
  refine g_iconst (v := 1) d_AL_add1_17 (by decide) ?_
  refine g_iadd d_AL_add1_18 ?_
  obtain ⟨z_7, H⟩ := H
  refine g_putI d_AL_add1_19 f_AL_48 (fo_2_1 _) z_7 ?_
  obtain ⟨b_8, H⟩ := H
  exact g_return d_AL_add1_22 rfl b_8.1 b_8.2 ⟨rfl, H⟩
set_option maxRecDepth 100000 in
set_option maxHeartbeats 4000000 in
def wp_AL_add1 (G : Gx) (l : Launch) (d w mc ms : Nat) (P : Hp → Prop) (q0 : Nat) (q1 : Nat) (q2 : Nat) (x3 : Int32) (h : Hp) : Prop := ∃ N_9 : Nat, (hS h q2 = some (3, N_9) ∨ (q2 = gK G 0 ∧ N_9 = 0)) ∧ ((¬ x3 = (nI N_9) → wJ_AL_add1_11 G l d w mc ms P q0 q1 (some q2) x3 h 0 0) ∧ (x3 = (nI N_9) → (hS h q0 = some (12, 0)) ∧ (∃ mc_18 : Nat, ∃ ms_19 : Nat, ∃ P_13 : Option Nat → Hp → Prop, (Cr G l M_AL_grow (d + 4) (w + 98) [.ref q0] h mc_18 ms_19 P_13) ∧ ((0 + mc_18 ≤ mc ∧ 0 + ms_19 ≤ ms) ∧ (∀ (o_17 : Option Nat) (h_15 : Hp), P_13 o_17 h_15 → wJ_AL_add1_11 G l d w mc ms P q0 q1 o_17 x3 h_15 (0 + mc_18) (0 + ms_19))))))
set_option maxRecDepth 100000 in
set_option maxHeartbeats 4000000 in
theorem ok_AL_add1 {G : Gx} {l : Launch} {d w : Nat} {mc ms : Nat} {P : Hp → Prop} {q0 : Nat} {q1 : Nat} {q2 : Nat} {x3 : Int32} {h : Hp} (H : wp_AL_add1 G l d w mc ms P q0 q1 q2 x3 h) : Cv G l M_AL_add1 (d + 5) (w + 118) [.ref q0, .ref q1, .ref q2, .int x3] h mc ms P := by
  unfold wp_AL_add1 at H
  refine Ct.of (lv := [some (.ref q0), some (.ref q1), some (.ref q2), some (.int x3)]) (by decide) (Nat.le_of_ble_eq_true rfl) rfl (fun p e s m args below meth c => ?_)
  refine g_iload_n d_AL_add1_0 rfl ?_
  refine g_aload_n d_AL_add1_1 rfl ?_
  obtain ⟨N_9, H⟩ := H
  obtain ⟨z_10, H⟩ := H
  refine g_alenO d_AL_add1_2 z_10 ?_
  obtain ⟨H1, H2⟩ := H
  refine g_icmp_ne (tgt := 11) d_AL_add1_3 (by decide) (fun c_11 => ?_) (fun c_11 => ?_)
  · have H := H1 c_11
    refine g_msk [true, true, true, true] ?_
    exact okJ_AL_add1_11 H
  · have H := H2 c_11
    refine g_aload_n d_AL_add1_6 rfl ?_
    obtain ⟨z_12, H⟩ := H
    obtain ⟨mc_18, H⟩ := H
    obtain ⟨ms_19, H⟩ := H
    obtain ⟨P_13, C_14, H⟩ := H
    obtain ⟨b_20, H⟩ := H
    refine q_V (As := []) (st := []) (nl := 1) d_AL_add1_7 v_AL_129 C_14 z_12 rfl (catS_le (Nat.le_of_ble_eq_true rfl)) rfl ⟨by omega, by omega, b_20.1, b_20.2⟩ (fun r_21 h_15 p_16 => ?_)
    obtain ⟨o_17, rfl, p_16⟩ := p_16
    replace H := H o_17 h_15 p_16
    show Go _ _ _ _ [va_rf o_17] _ _ _
    refine g_astore_nV (lv' := [some (.ref q0), some (.ref q1), some (va_rf o_17), some (.int x3)]) d_AL_add1_10 (by decide) rfl ?_
    refine g_msk [true, true, true, true] ?_
    exact okJ_AL_add1_11 H
set_option maxRecDepth 100000 in
set_option maxHeartbeats 4000000 in
def wp_AL_elementData (G : Gx) (l : Launch) (d w : Nat) (P : Option Nat → Hp → Prop) (q0 : Nat) (x1 : Int32) (h : Hp) : Prop := (hS h q0 = some (12, 0)) ∧ (∃ q_2 : Nat, (hR h q0 0) = some q_2 ∧ (∃ N_4 : Nat, ∃ j_5 : Nat, (hS h q_2 = some (3, N_4) ∧ x1 = nI j_5 ∧ j_5 < N_4 ∧ j_5 < 2147483648) ∧ (P (hR h q_2 j_5) h)))
set_option maxRecDepth 100000 in
set_option maxHeartbeats 4000000 in
theorem ok_AL_elementData {G : Gx} {l : Launch} {d w : Nat} {P : Option Nat → Hp → Prop} {q0 : Nat} {x1 : Int32} {h : Hp} (H : wp_AL_elementData G l d w P q0 x1 h) : Cr G l M_AL_elementData (d + 0) (w + 0) [.ref q0, .int x1] h 0 0 P := by
  unfold wp_AL_elementData at H
  refine Ct.of (lv := [some (.ref q0), some (.int x1)]) (by decide) (Nat.le_of_ble_eq_true rfl) rfl (fun p e s m args below meth c => ?_)
  refine g_aload_n d_AL_elementData_0 rfl ?_
  obtain ⟨z_1, H⟩ := H
  refine g_getR d_AL_elementData_1 f_AL_9 z_1 (by decide) ?_
  refine g_iload_n d_AL_elementData_4 rfl ?_
  obtain ⟨q_2, e_3, H⟩ := H
  show Go _ _ _ [some (.ref q0), some (.int x1)] [.int x1, va_rf (hR h q0 0)] _ _ _
  rw [show va_rf (hR h q0 0) = Value.ref q_2 from by rw [e_3]; rfl]
  obtain ⟨N_4, H⟩ := H
  obtain ⟨j_5, H⟩ := H
  obtain ⟨z_6, H⟩ := H
  refine g_aald d_AL_elementData_5 z_6.1 (by decide) z_6.2.1 z_6.2.2.1 z_6.2.2.2 ?_
  exact g_areturn (x := (hR h q_2 j_5)) d_AL_elementData_6 rfl (Or.inl ⟨_, rfl⟩) (Nat.le_refl _) (Nat.le_refl _) ⟨_, rfl, H⟩
set_option maxRecDepth 100000 in
set_option maxHeartbeats 4000000 in
def wJ_AL_fastRemove_34 (G : Gx) (l : Launch) (d w : Nat) (P : Hp → Prop) (q0 : Nat) (q1 : Nat) (x2 : Int32) (x3 : Int32) (h : Hp)  : Prop := (hS h q0 = some (12, 0)) ∧ (∃ N_2 : Nat, ∃ j_3 : Nat, (hS h q1 = some (3, N_2) ∧ x3 = nI j_3 ∧ j_3 < N_2 ∧ j_3 < 2147483648) ∧ (P (pR (pI h q0 1 x3) q1 j_3 none)))
set_option maxRecDepth 100000 in
set_option maxHeartbeats 4000000 in
theorem okJ_AL_fastRemove_34 {G : Gx} {l : Launch} {d w : Nat} {P : Hp → Prop} {p : Program} {e : Env} {s : State} {m : MethodId} {args : Array Value} {below : List Frame} {meth : Method} {c : Code} {q0 : Nat} {q1 : Nat} {x2 : Int32} {x3 : Int32} {h : Hp}  (H : wJ_AL_fastRemove_34 G l d w P  q0 q1 x2 x3 h ) : Go M_AL_fastRemove (mkX G (fun r h' => r = none ∧ P h') (d + 1) (w + 30) 0 0 p l e s m args below meth c) 34 [some (.ref q0), some (.ref q1), some (.int x2), some (.int x3)] [] h 0 0 := by
  unfold wJ_AL_fastRemove_34 at H
  refine g_aload_n d_AL_fastRemove_34 rfl ?_
  refine g_aload_n d_AL_fastRemove_35 rfl ?_
  refine g_iload_n d_AL_fastRemove_36 rfl ?_
  refine g_dup_x1 d_AL_fastRemove_37 rfl rfl ?_
  obtain ⟨z_1, H⟩ := H
  refine g_putI d_AL_fastRemove_38 f_AL_48 (fo_2_1 _) z_1 ?_
  refine g_null d_AL_fastRemove_41 ?_
  obtain ⟨N_2, H⟩ := H
  obtain ⟨j_3, H⟩ := H
  obtain ⟨z_4, H⟩ := H
  refine g_aastN d_AL_fastRemove_42 z_4.1 (by decide) z_4.2.1 z_4.2.2.1 z_4.2.2.2 ?_
  exact g_return d_AL_fastRemove_43 rfl (Nat.le_refl _) (Nat.le_refl _) ⟨rfl, H⟩
set_option maxRecDepth 100000 in
set_option maxHeartbeats 4000000 in
def wp_AL_fastRemove (G : Gx) (l : Launch) (d w : Nat) (P : Hp → Prop) (q0 : Nat) (q1 : Nat) (x2 : Int32) (h : Hp) : Prop := (hS h q0 = some (12, 0)) ∧ (∀ x_6 : Int32, x_6 = ((hI (pI h q0 2 ((hI h q0 2) + 1)) q0 1) - 1) → (((hI (pI h q0 2 ((hI h q0 2) + 1)) q0 1) - 1) ≤ x2 → wJ_AL_fastRemove_34 G l d w P q0 q1 x2 x_6 (pI h q0 2 ((hI h q0 2) + 1))) ∧ (¬ ((hI (pI h q0 2 ((hI h q0 2) + 1)) q0 1) - 1) ≤ x2 → ∃ N_9 : Nat, ∃ N_10 : Nat, ∃ j_11 : Nat, ∃ j_12 : Nat, ∃ j_13 : Nat, (hS h q1 = some (3, N_9) ∧ hS h q1 = some (3, N_10) ∧ (x2 + 1) = nI j_11 ∧ x2 = nI j_12 ∧ (x_6 - x2) = nI j_13 ∧ j_11 + j_13 ≤ N_9 ∧ j_12 + j_13 ≤ N_10 ∧ N_9 < 2147483648 ∧ N_10 < 2147483648 ∧ ∀ i, i < j_13 → ∀ y, hR h q1 (j_11 + i) = some y → ObjA G h y 3) ∧ (wJ_AL_fastRemove_34 G l d w P q0 q1 x2 x_6 (pA (pI h q0 2 ((hI h q0 2) + 1)) q1 (va_cpy (hR h q1) (hR h q1) j_11 j_12 j_13)))))
set_option maxRecDepth 100000 in
set_option maxHeartbeats 4000000 in
theorem ok_AL_fastRemove {G : Gx} {l : Launch} {d w : Nat} {P : Hp → Prop} {q0 : Nat} {q1 : Nat} {x2 : Int32} {h : Hp} (H : wp_AL_fastRemove G l d w P q0 q1 x2 h) : Cv G l M_AL_fastRemove (d + 1) (w + 30) [.ref q0, .ref q1, .int x2] h 0 0 P := by
  unfold wp_AL_fastRemove at H
  refine Ct.of (lv := [some (.ref q0), some (.ref q1), some (.int x2), none]) (by decide) (Nat.le_of_ble_eq_true rfl) rfl (fun p e s m args below meth c => ?_)
  refine g_aload_n d_AL_fastRemove_0 rfl ?_
  refine g_dup d_AL_fastRemove_1 rfl ?_
  obtain ⟨z_5, H⟩ := H
  refine g_getI d_AL_fastRemove_2 f_AL_63 z_5 ?_
  refine g_iconst (v := 1) d_AL_fastRemove_5 (by decide) ?_
  refine g_iadd d_AL_fastRemove_6 ?_
  refine g_putI d_AL_fastRemove_7 f_AL_63 (fo_2_2 _) z_5 ?_
  refine g_aload_n d_AL_fastRemove_10 rfl ?_
  refine g_getI d_AL_fastRemove_11 f_AL_48 z_5 ?_
  refine g_iconst (v := 1) d_AL_fastRemove_14 (by decide) ?_
  refine g_isub d_AL_fastRemove_15 ?_
  refine g_dup d_AL_fastRemove_16 rfl ?_
  refine g_topi (fun x_6 ex_6 => ?_)
  replace H := H x_6 ex_6
  refine g_istore_n (lv' := [some (.ref q0), some (.ref q1), some (.int x2), some (.int x_6)]) d_AL_fastRemove_17 (by decide) rfl ?_
  refine g_iload_n d_AL_fastRemove_18 rfl ?_
  obtain ⟨H1, H2⟩ := H
  refine g_icmp_le (tgt := 34) d_AL_fastRemove_19 (by decide) (fun c_7 => ?_) (fun c_7 => ?_)
  · have H := H1 c_7
    refine g_msk [true, true, true, true] ?_
    exact okJ_AL_fastRemove_34 H
  · have H := H2 c_7
    refine g_aload_n d_AL_fastRemove_22 rfl ?_
    refine g_iload_n d_AL_fastRemove_23 rfl ?_
    refine g_iconst (v := 1) d_AL_fastRemove_24 (by decide) ?_
    refine g_iadd d_AL_fastRemove_25 ?_
    refine g_aload_n d_AL_fastRemove_26 rfl ?_
    refine g_iload_n d_AL_fastRemove_27 rfl ?_
    refine g_iload_n d_AL_fastRemove_28 rfl ?_
    refine g_iload_n d_AL_fastRemove_29 rfl ?_
    refine g_isub d_AL_fastRemove_30 ?_
    obtain ⟨N_9, H⟩ := H
    obtain ⟨N_10, H⟩ := H
    obtain ⟨j_11, H⟩ := H
    obtain ⟨j_12, H⟩ := H
    obtain ⟨j_13, H⟩ := H
    obtain ⟨z_8, H⟩ := H
    refine g_acopy d_AL_fastRemove_31 kz_AL_112 kz_nc kz_sc kz_is z_8.1 z_8.2.1 z_8.2.2.1 z_8.2.2.2.1 z_8.2.2.2.2.1 z_8.2.2.2.2.2.1 z_8.2.2.2.2.2.2.1 ⟨z_8.2.2.2.2.2.2.2.1, z_8.2.2.2.2.2.2.2.2.1⟩ z_8.2.2.2.2.2.2.2.2.2 (catS_le (Nat.le_of_ble_eq_true rfl)) ⟨show 1 ≤ d + 1 by omega, show _ ≤ w + 30 from Nat.le_trans (by decide : _ ≤ 30) (by omega)⟩ ?_
    refine g_msk [true, true, true, true] ?_
    exact okJ_AL_fastRemove_34 H
set_option maxRecDepth 100000 in
set_option maxHeartbeats 4000000 in
def wp_AL_get (G : Gx) (l : Launch) (d w : Nat) (P : Option Nat → Hp → Prop) (q0 : Nat) (x1 : Int32) (h : Hp) : Prop := (hS h q0 = some (12, 0)) ∧ (∃ P_2 : Int32 → Hp → Prop, (Ci G l M_Ob_checkIndex (d + 2) (w + 52) [.int x1, .int (hI h q0 1)] h 0 0 P_2) ∧ (∀ (x_6 : Int32) (h_4 : Hp), P_2 x_6 h_4 → (hS h_4 q0 = some (12, 0)) ∧ (∃ P_10 : Option Nat → Hp → Prop, (Cr G l M_AL_elementData (d + 0) (w + 0) [.ref q0, .int x1] h_4 0 0 P_10) ∧ (∀ (o_14 : Option Nat) (h_12 : Hp), P_10 o_14 h_12 → P o_14 h_12))))
set_option maxRecDepth 100000 in
set_option maxHeartbeats 4000000 in
theorem ok_AL_get {G : Gx} {l : Launch} {d w : Nat} {P : Option Nat → Hp → Prop} {q0 : Nat} {x1 : Int32} {h : Hp} (H : wp_AL_get G l d w P q0 x1 h) : Cr G l M_AL_get (d + 3) (w + 73) [.ref q0, .int x1] h 0 0 P := by
  unfold wp_AL_get at H
  refine Ct.of (lv := [some (.ref q0), some (.int x1)]) (by decide) (Nat.le_of_ble_eq_true rfl) rfl (fun p e s m args below meth c => ?_)
  refine g_iload_n d_AL_get_0 rfl ?_
  refine g_aload_n d_AL_get_1 rfl ?_
  obtain ⟨z_1, H⟩ := H
  refine g_getI d_AL_get_2 f_AL_48 z_1 ?_
  obtain ⟨P_2, C_3, H⟩ := H
  refine q_S (As := [.int x1, .int (hI h q0 1)]) (st := []) (nl := 2) d_AL_get_5 v_AL_118 C_3 rfl (catS_le (Nat.le_of_ble_eq_true rfl)) rfl ⟨by omega, by omega, Nat.le_refl _, Nat.le_refl _⟩ (fun r_8 h_4 p_5 => ?_)
  obtain ⟨x_6, rfl, p_5⟩ := p_5
  replace H := H x_6 h_4 p_5
  show Go _ _ _ _ [.int x_6] _ _ _
  refine g_pop d_AL_get_8 rfl ?_
  refine g_aload_n d_AL_get_9 rfl ?_
  refine g_iload_n d_AL_get_10 rfl ?_
  obtain ⟨z_9, H⟩ := H
  obtain ⟨P_10, C_11, H⟩ := H
  refine q_V (As := [.int x1]) (st := []) (nl := 2) d_AL_get_11 v_AL_123 C_11 z_9 rfl (catS_le (Nat.le_of_ble_eq_true rfl)) rfl ⟨by omega, by omega, Nat.le_refl _, Nat.le_refl _⟩ (fun r_16 h_12 p_13 => ?_)
  obtain ⟨o_14, rfl, p_13⟩ := p_13
  replace H := H o_14 h_12 p_13
  show Go _ _ _ _ [va_rf o_14] _ _ _
  exact g_areturn (x := o_14) d_AL_get_14 rfl (Or.inl ⟨_, rfl⟩) (Nat.le_refl _) (Nat.le_refl _) ⟨_, rfl, H⟩
set_option maxRecDepth 100000 in
set_option maxHeartbeats 4000000 in
def wp_AL_grow (G : Gx) (l : Launch) (d w mc ms : Nat) (P : Option Nat → Hp → Prop) (q0 : Nat) (h : Hp) : Prop := (hS h q0 = some (12, 0)) ∧ (∃ mc_7 : Nat, ∃ ms_8 : Nat, ∃ P_2 : Option Nat → Hp → Prop, (Cr G l M_AL_grow1 (d + 3) (w + 75) [.ref q0, .int ((hI h q0 1) + 1)] h mc_7 ms_8 P_2) ∧ ((0 + mc_7 ≤ mc ∧ 0 + ms_8 ≤ ms) ∧ (∀ (o_6 : Option Nat) (h_4 : Hp), P_2 o_6 h_4 → ((0 + mc_7) ≤ mc ∧ (0 + ms_8) ≤ ms) ∧ (P o_6 h_4))))
set_option maxRecDepth 100000 in
set_option maxHeartbeats 4000000 in
theorem ok_AL_grow {G : Gx} {l : Launch} {d w : Nat} {mc ms : Nat} {P : Option Nat → Hp → Prop} {q0 : Nat} {h : Hp} (H : wp_AL_grow G l d w mc ms P q0 h) : Cr G l M_AL_grow (d + 4) (w + 98) [.ref q0] h mc ms P := by
  unfold wp_AL_grow at H
  refine Ct.of (lv := [some (.ref q0)]) (by decide) (Nat.le_of_ble_eq_true rfl) rfl (fun p e s m args below meth c => ?_)
  refine g_aload_n d_AL_grow_0 rfl ?_
  refine g_aload_n d_AL_grow_1 rfl ?_
  obtain ⟨z_1, H⟩ := H
  refine g_getI d_AL_grow_2 f_AL_48 z_1 ?_
  refine g_iconst (v := 1) d_AL_grow_5 (by decide) ?_
  refine g_iadd d_AL_grow_6 ?_
  obtain ⟨mc_7, H⟩ := H
  obtain ⟨ms_8, H⟩ := H
  obtain ⟨P_2, C_3, H⟩ := H
  obtain ⟨b_9, H⟩ := H
  refine q_V (As := [.int ((hI h q0 1) + 1)]) (st := []) (nl := 4) d_AL_grow_7 v_AL_69 C_3 z_1 rfl (catS_le (Nat.le_of_ble_eq_true rfl)) rfl ⟨by omega, by omega, b_9.1, b_9.2⟩ (fun r_10 h_4 p_5 => ?_)
  obtain ⟨o_6, rfl, p_5⟩ := p_5
  replace H := H o_6 h_4 p_5
  show Go _ _ _ _ [va_rf o_6] _ _ _
  obtain ⟨b_11, H⟩ := H
  exact g_areturn (x := o_6) d_AL_grow_10 rfl (Or.inr ⟨_, rfl⟩) b_11.1 b_11.2 ⟨_, rfl, H⟩
set_option maxRecDepth 100000 in
set_option maxHeartbeats 4000000 in
def wJ_AL_grow1_20 (G : Gx) (l : Launch) (d w mc ms : Nat) (P : Option Nat → Hp → Prop) (q0 : Nat) (x1 : Int32) (x2 : Int32) (h : Hp) (k n : Nat) : Prop := ∃ P_1 : Int32 → Hp → Prop, (Ci G l M_AS_newLength (d + 2) (w + 52) [.int x2, .int (x1 - x2), .int (x2 >>> (1 &&& 31))] h 0 0 P_1) ∧ ((k ≤ mc ∧ n ≤ ms) ∧ (∀ (x_5 : Int32) (h_3 : Hp), P_1 x_5 h_3 → (hS h_3 q0 = some (12, 0)) ∧ (∃ q_9 : Nat, (hR h_3 q0 0) = some q_9 ∧ (∃ mc_16 : Nat, ∃ ms_17 : Nat, ∃ P_11 : Option Nat → Hp → Prop, (Cr G l M_Ar_copyOf (d + 2) (w + 53) [.ref q_9, .int x_5] h_3 mc_16 ms_17 P_11) ∧ ((k + mc_16 ≤ mc ∧ n + ms_17 ≤ ms) ∧ (∀ (o_15 : Option Nat) (h_13 : Hp), P_11 o_15 h_13 → (hS h_13 q0 = some (12, 0)) ∧ (((k + mc_16) ≤ mc ∧ (n + ms_17) ≤ ms) ∧ (P o_15 (pR h_13 q0 0 o_15)))))))))
set_option maxRecDepth 100000 in
set_option maxHeartbeats 4000000 in
theorem okJ_AL_grow1_20 {G : Gx} {l : Launch} {d w : Nat} {mc ms : Nat} {P : Option Nat → Hp → Prop} {p : Program} {e : Env} {s : State} {m : MethodId} {args : Array Value} {below : List Frame} {meth : Method} {c : Code} {q0 : Nat} {x1 : Int32} {x2 : Int32} {h : Hp} {k n : Nat} (H : wJ_AL_grow1_20 G l d w mc ms P  q0 x1 x2 h k n) : Go M_AL_grow1 (mkX G (fun r h' => ∃ x, r = some (va_rf x) ∧ P x h') (d + 3) (w + 75) mc ms p l e s m args below meth c) 20 [some (.ref q0), some (.int x1), some (.int x2), none] [] h k n := by
  unfold wJ_AL_grow1_20 at H
  refine g_iload_n d_AL_grow1_20 rfl ?_
  refine g_iload_n d_AL_grow1_21 rfl ?_
  refine g_iload_n d_AL_grow1_22 rfl ?_
  refine g_isub d_AL_grow1_23 ?_
  refine g_iload_n d_AL_grow1_24 rfl ?_
  refine g_iconst (v := 1) d_AL_grow1_25 (by decide) ?_
  refine g_ishr d_AL_grow1_26 ?_
  obtain ⟨P_1, C_2, H⟩ := H
  obtain ⟨b_6, H⟩ := H
  refine q_S (As := [.int x2, .int (x1 - x2), .int (x2 >>> (1 &&& 31))]) (st := []) (nl := 4) d_AL_grow1_27 v_AL_73 C_2 rfl (catS_le (Nat.le_of_ble_eq_true rfl)) rfl ⟨by omega, by omega, b_6.1, b_6.2⟩ (fun r_7 h_3 p_4 => ?_)
  obtain ⟨x_5, rfl, p_4⟩ := p_4
  replace H := H x_5 h_3 p_4
  show Go _ _ _ _ [.int x_5] _ _ _
  refine g_istore_n (lv' := [some (.ref q0), some (.int x1), some (.int x2), some (.int x_5)]) d_AL_grow1_30 (by decide) rfl ?_
  refine g_aload_n d_AL_grow1_31 rfl ?_
  refine g_aload_n d_AL_grow1_32 rfl ?_
  obtain ⟨z_8, H⟩ := H
  refine g_getR d_AL_grow1_33 f_AL_9 z_8 (by decide) ?_
  refine g_iload_n d_AL_grow1_36 rfl ?_
  obtain ⟨q_9, e_10, H⟩ := H
  show Go _ _ _ [some (.ref q0), some (.int x1), some (.int x2), some (.int x_5)] [.int x_5, va_rf (hR h_3 q0 0), .ref q0] _ _ _
  rw [show va_rf (hR h_3 q0 0) = Value.ref q_9 from by rw [e_10]; rfl]
  obtain ⟨mc_16, H⟩ := H
  obtain ⟨ms_17, H⟩ := H
  obtain ⟨P_11, C_12, H⟩ := H
  obtain ⟨b_18, H⟩ := H
  refine q_S (As := [.ref q_9, .int x_5]) (st := [.ref q0]) (nl := 2) d_AL_grow1_37 v_AL_66 C_12 rfl (catS_le (Nat.le_of_ble_eq_true rfl)) rfl ⟨by omega, by omega, b_18.1, b_18.2⟩ (fun r_19 h_13 p_14 => ?_)
  obtain ⟨o_15, rfl, p_14⟩ := p_14
  replace H := H o_15 h_13 p_14
  show Go _ _ _ _ [va_rf o_15, .ref q0] _ _ _
  refine g_dup_x1 d_AL_grow1_40 (vcat _) rfl ?_
  obtain ⟨z_20, H⟩ := H
  refine g_putR (x := o_15) (ty := .array (.object "java/lang/Object")) d_AL_grow1_41 f_AL_9 (fo_2_0 _) z_20 (by decide) (by decide +kernel) (Or.inr ⟨_, rfl⟩) ?_
  obtain ⟨b_21, H⟩ := H
  exact g_areturn (x := o_15) d_AL_grow1_44 rfl (Or.inr ⟨_, rfl⟩) b_21.1 b_21.2 ⟨_, rfl, H⟩
set_option maxRecDepth 100000 in
set_option maxHeartbeats 4000000 in
def wp_AL_grow1 (G : Gx) (l : Launch) (d w mc ms : Nat) (P : Option Nat → Hp → Prop) (q0 : Nat) (x1 : Int32) (h : Hp) : Prop := (hS h q0 = some (12, 0)) ∧ (∃ q_23 : Nat, (hR h q0 0) = some q_23 ∧ (∃ N_25 : Nat, (hS h q_23 = some (3, N_25) ∨ (q_23 = gK G 0 ∧ N_25 = 0)) ∧ (∀ x_27 : Int32, x_27 = (nI N_25) → (0 < x_27 → wJ_AL_grow1_20 G l d w mc ms P q0 x1 x_27 h 0 0) ∧ (¬ 0 < x_27 → ((hR h q0 0) = (some (gK G 0)) → (0 ≤ mc ∧ 0 ≤ ms) ∧ (∃ N_33 : Nat, ((if 10 < x1 then x1 else 10) = nI N_33 ∧ N_33 * 4 ≤ 536870912) ∧ ((0 + 1 ≤ mc ∧ 0 + N_33 ≤ ms) ∧ (∀ q_31 : Nat, Fre h q_31 → ((0 + 1) ≤ mc ∧ (0 + N_33) ≤ ms) ∧ (P (some q_31) (pR (pN h q_31 (3, N_33)) q0 0 (some q_31))))))) ∧ (¬ (hR h q0 0) = (some (gK G 0)) → wJ_AL_grow1_20 G l d w mc ms P q0 x1 x_27 h 0 0)))))
set_option maxRecDepth 100000 in
set_option maxHeartbeats 4000000 in
theorem ok_AL_grow1 {G : Gx} {l : Launch} {d w : Nat} {mc ms : Nat} {P : Option Nat → Hp → Prop} {q0 : Nat} {x1 : Int32} {h : Hp} (H : wp_AL_grow1 G l d w mc ms P q0 x1 h) : Cr G l M_AL_grow1 (d + 3) (w + 75) [.ref q0, .int x1] h mc ms P := by
  unfold wp_AL_grow1 at H
  refine Ct.of (lv := [some (.ref q0), some (.int x1), none, none]) (by decide) (Nat.le_of_ble_eq_true rfl) rfl (fun p e s m args below meth c => ?_)
  refine g_aload_n d_AL_grow1_0 rfl ?_
  obtain ⟨z_22, H⟩ := H
  refine g_getR d_AL_grow1_1 f_AL_9 z_22 (by decide) ?_
  obtain ⟨q_23, e_24, H⟩ := H
  refine g_eqr e_24 ?_
  obtain ⟨N_25, H⟩ := H
  obtain ⟨z_26, H⟩ := H
  refine g_alenO d_AL_grow1_4 z_26 ?_
  refine g_topi (fun x_27 ex_27 => ?_)
  replace H := H x_27 ex_27
  refine g_istore_n (lv' := [some (.ref q0), some (.int x1), some (.int x_27), none]) d_AL_grow1_5 (by decide) rfl ?_
  refine g_iload_n d_AL_grow1_6 rfl ?_
  obtain ⟨H1, H2⟩ := H
  refine g_if_gt (tgt := 20) d_AL_grow1_7 (by decide) (fun c_28 => ?_) (fun c_28 => ?_)
  · have H := H1 c_28
    refine g_msk [true, true, true, false] ?_
    exact okJ_AL_grow1_20 H
  · have H := H2 c_28
    refine g_aload_n d_AL_grow1_10 rfl ?_
    refine g_getR d_AL_grow1_11 f_AL_9 z_22 (by decide) ?_
    refine g_gets (t := 0) d_AL_grow1_14 f_AL_39 (fun hz => hz.1.1) ?_
    obtain ⟨H1, H2⟩ := H
    refine g_acmp_eq (x := (hR h q0 0)) (y := (some (gK G 0))) (tgt := 45) d_AL_grow1_17 (by decide) (fun c_29 => ?_) (fun c_29 => ?_)
    · have H := H1 c_29
      refine g_aload_n d_AL_grow1_45 rfl ?_
      refine g_bipush (v := 10) d_AL_grow1_46 (by decide) ?_
      refine g_iload_n d_AL_grow1_48 rfl ?_
      obtain ⟨b_30, H⟩ := H
      refine g_max d_AL_grow1_49 kz_AL_79 (catS_le (Nat.le_of_ble_eq_true rfl)) ⟨show 1 ≤ d + 3 by omega, show 21 ≤ w + 75 by omega, b_30.1, b_30.2⟩ kz_sx kz_im kz_cx ?_
      obtain ⟨N_33, H⟩ := H
      obtain ⟨z_34, H⟩ := H
      obtain ⟨b_32, H⟩ := H
      refine g_anew (t := 3) d_AL_grow1_52 (by decide) k_AL_7 kO_3 z_34.1 z_34.2 b_32.1 b_32.2 (fun q_31 Fq_31 => ?_)
      replace H := H q_31 Fq_31
      have z_35 := Fre.old (kd := (3, N_33)) Fq_31 z_22
      have z_36 : hS (pN h q_31 (3, N_33)) q_31 = some (3, N_33) := Fre.new
      refine g_dup_x1 d_AL_grow1_55 rfl rfl ?_
      refine g_putR (x := (some q_31)) (ty := .array (.object "java/lang/Object")) d_AL_grow1_56 f_AL_9 (fo_2_0 _) z_35 (by decide) (by decide +kernel) (Or.inr ⟨_, rfl⟩) ?_
      obtain ⟨b_37, H⟩ := H
      exact g_areturn (x := (some q_31)) d_AL_grow1_59 rfl (Or.inr ⟨_, rfl⟩) b_37.1 b_37.2 ⟨_, rfl, H⟩
    · have H := H2 c_29
      refine g_msk [true, true, true, false] ?_
      exact okJ_AL_grow1_20 H
set_option maxRecDepth 100000 in
set_option maxHeartbeats 4000000 in
def wJ_AL_isEmpty_12 (G : Gx) (l : Launch) (d w : Nat) (P : Int32 → Hp → Prop) (q0 : Nat) (sx0 : Int32) (h : Hp)  : Prop := (sx0 = 0 ∨ sx0 = 1) ∧ (P sx0 h)
set_option maxRecDepth 100000 in
set_option maxHeartbeats 4000000 in
theorem okJ_AL_isEmpty_12 {G : Gx} {l : Launch} {d w : Nat} {P : Int32 → Hp → Prop} {p : Program} {e : Env} {s : State} {m : MethodId} {args : Array Value} {below : List Frame} {meth : Method} {c : Code} {q0 : Nat} {sx0 : Int32} {h : Hp}  (H : wJ_AL_isEmpty_12 G l d w P  q0 sx0 h ) : Go M_AL_isEmpty (mkX G (fun r h' => ∃ x, r = some (.int x) ∧ P x h') (d + 0) (w + 0) 0 0 p l e s m args below meth c) 12 [some (.ref q0)] [.int sx0] h 0 0 := by
  unfold wJ_AL_isEmpty_12 at H
  obtain ⟨z_1, H⟩ := H
  exact g_zreturn d_AL_isEmpty_12 rfl z_1 (Nat.le_refl _) (Nat.le_refl _) ⟨_, rfl, H⟩
set_option maxRecDepth 100000 in
set_option maxHeartbeats 4000000 in
def wp_AL_isEmpty (G : Gx) (l : Launch) (d w : Nat) (P : Int32 → Hp → Prop) (q0 : Nat) (h : Hp) : Prop := (hS h q0 = some (12, 0)) ∧ ((¬ (hI h q0 1) = 0 → wJ_AL_isEmpty_12 G l d w P q0 0 h) ∧ ((hI h q0 1) = 0 → wJ_AL_isEmpty_12 G l d w P q0 1 h))
set_option maxRecDepth 100000 in
set_option maxHeartbeats 4000000 in
theorem ok_AL_isEmpty {G : Gx} {l : Launch} {d w : Nat} {P : Int32 → Hp → Prop} {q0 : Nat} {h : Hp} (H : wp_AL_isEmpty G l d w P q0 h) : Ci G l M_AL_isEmpty (d + 0) (w + 0) [.ref q0] h 0 0 P := by
  unfold wp_AL_isEmpty at H
  refine Ct.of (lv := [some (.ref q0)]) (by decide) (Nat.le_of_ble_eq_true rfl) rfl (fun p e s m args below meth c => ?_)
  refine g_aload_n d_AL_isEmpty_0 rfl ?_
  obtain ⟨z_2, H⟩ := H
  refine g_getI d_AL_isEmpty_1 f_AL_48 z_2 ?_
  obtain ⟨H1, H2⟩ := H
  refine g_if_ne (tgt := 11) d_AL_isEmpty_4 (by decide) (fun c_3 => ?_) (fun c_3 => ?_)
  · have H := H1 c_3
    refine g_iconst (v := 0) d_AL_isEmpty_11 (by decide) ?_
    refine g_msk [true] ?_
    exact okJ_AL_isEmpty_12 H
  · have H := H2 c_3
    refine g_iconst (v := 1) d_AL_isEmpty_7 (by decide) ?_
    refine g_goto (tgt := 12) d_AL_isEmpty_8 (by decide) ?_
    refine g_msk [true] ?_
    exact okJ_AL_isEmpty_12 H
set_option maxRecDepth 100000 in
set_option maxHeartbeats 4000000 in
def wp_AL_remove (G : Gx) (l : Launch) (d w : Nat) (P : Option Nat → Hp → Prop) (q0 : Nat) (x1 : Int32) (h : Hp) : Prop := (hS h q0 = some (12, 0)) ∧ (∃ P_2 : Int32 → Hp → Prop, (Ci G l M_Ob_checkIndex (d + 2) (w + 52) [.int x1, .int (hI h q0 1)] h 0 0 P_2) ∧ (∀ (x_6 : Int32) (h_4 : Hp), P_2 x_6 h_4 → (hS h_4 q0 = some (12, 0)) ∧ (∃ q_10 : Nat, (hR h_4 q0 0) = some q_10 ∧ (∃ N_12 : Nat, ∃ j_13 : Nat, (hS h_4 q_10 = some (3, N_12) ∧ x1 = nI j_13 ∧ j_13 < N_12 ∧ j_13 < 2147483648) ∧ (∃ P_15 : Hp → Prop, (Cv G l M_AL_fastRemove (d + 1) (w + 30) [.ref q0, .ref q_10, .int x1] h_4 0 0 P_15) ∧ (∀ h_17 : Hp, P_15 h_17 → P (hR h_4 q_10 j_13) h_17))))))
set_option maxRecDepth 100000 in
set_option maxHeartbeats 4000000 in
theorem ok_AL_remove {G : Gx} {l : Launch} {d w : Nat} {P : Option Nat → Hp → Prop} {q0 : Nat} {x1 : Int32} {h : Hp} (H : wp_AL_remove G l d w P q0 x1 h) : Cr G l M_AL_remove (d + 3) (w + 73) [.ref q0, .int x1] h 0 0 P := by
  unfold wp_AL_remove at H
  refine Ct.of (lv := [some (.ref q0), some (.int x1), none, none]) (by decide) (Nat.le_of_ble_eq_true rfl) rfl (fun p e s m args below meth c => ?_)
  refine g_iload_n d_AL_remove_0 rfl ?_
  refine g_aload_n d_AL_remove_1 rfl ?_
  obtain ⟨z_1, H⟩ := H
  refine g_getI d_AL_remove_2 f_AL_48 z_1 ?_
  obtain ⟨P_2, C_3, H⟩ := H
  refine q_S (As := [.int x1, .int (hI h q0 1)]) (st := []) (nl := 2) d_AL_remove_5 v_AL_118 C_3 rfl (catS_le (Nat.le_of_ble_eq_true rfl)) rfl ⟨by omega, by omega, Nat.le_refl _, Nat.le_refl _⟩ (fun r_8 h_4 p_5 => ?_)
  obtain ⟨x_6, rfl, p_5⟩ := p_5
  replace H := H x_6 h_4 p_5
  show Go _ _ _ _ [.int x_6] _ _ _
  refine g_pop d_AL_remove_8 rfl ?_
  refine g_aload_n d_AL_remove_9 rfl ?_
  obtain ⟨z_9, H⟩ := H
  refine g_getR d_AL_remove_10 f_AL_9 z_9 (by decide) ?_
  refine g_astore_nV (lv' := [some (.ref q0), some (.int x1), some (va_rf (hR h_4 q0 0)), none]) d_AL_remove_13 (by decide) rfl ?_
  refine g_aload_nV d_AL_remove_14 rfl ?_
  refine g_iload_n d_AL_remove_15 rfl ?_
  obtain ⟨q_10, e_11, H⟩ := H
  show Go _ _ _ [some (.ref q0), some (.int x1), some (va_rf (hR h_4 q0 0)), none] [.int x1, va_rf (hR h_4 q0 0)] _ _ _
  rw [show va_rf (hR h_4 q0 0) = Value.ref q_10 from by rw [e_11]; rfl]
  obtain ⟨N_12, H⟩ := H
  obtain ⟨j_13, H⟩ := H
  obtain ⟨z_14, H⟩ := H
  refine g_aald d_AL_remove_16 z_14.1 (by decide) z_14.2.1 z_14.2.2.1 z_14.2.2.2 ?_
  refine g_astore_nV (lv' := [some (.ref q0), some (.int x1), some (.ref q_10), some (va_rf (hR h_4 q_10 j_13))]) d_AL_remove_17 (by decide) rfl ?_
  refine g_aload_n d_AL_remove_18 rfl ?_
  refine g_aload_n d_AL_remove_19 rfl ?_
  refine g_iload_n d_AL_remove_20 rfl ?_
  obtain ⟨P_15, C_16, H⟩ := H
  refine q_V (As := [.ref q_10, .int x1]) (st := []) (nl := 4) d_AL_remove_21 v_AL_144 C_16 z_9 rfl (catS_le (Nat.le_of_ble_eq_true rfl)) rfl ⟨by omega, by omega, Nat.le_refl _, Nat.le_refl _⟩ (fun r_21 h_17 p_18 => ?_)
  obtain ⟨rfl, p_18⟩ := p_18
  replace H := H h_17 p_18
  show Go _ _ _ _ [] _ _ _
  refine g_aload_nV d_AL_remove_24 rfl ?_
  exact g_areturn (x := (hR h_4 q_10 j_13)) d_AL_remove_25 rfl (Or.inl ⟨_, rfl⟩) (Nat.le_refl _) (Nat.le_refl _) ⟨_, rfl, H⟩
set_option maxRecDepth 100000 in
set_option maxHeartbeats 4000000 in
def wp_AL_set (G : Gx) (l : Launch) (d w : Nat) (P : Option Nat → Hp → Prop) (q0 : Nat) (x1 : Int32) (q2 : Nat) (h : Hp) : Prop := (hS h q0 = some (12, 0)) ∧ (∃ P_2 : Int32 → Hp → Prop, (Ci G l M_Ob_checkIndex (d + 2) (w + 52) [.int x1, .int (hI h q0 1)] h 0 0 P_2) ∧ (∀ (x_6 : Int32) (h_4 : Hp), P_2 x_6 h_4 → (hS h_4 q0 = some (12, 0)) ∧ (∃ P_10 : Option Nat → Hp → Prop, (Cr G l M_AL_elementData (d + 0) (w + 0) [.ref q0, .int x1] h_4 0 0 P_10) ∧ (∀ (o_14 : Option Nat) (h_12 : Hp), P_10 o_14 h_12 → (hS h_12 q0 = some (12, 0)) ∧ (∃ q_18 : Nat, (hR h_12 q0 0) = some q_18 ∧ (∃ N_20 : Nat, ∃ j_21 : Nat, (hS h_12 q_18 = some (3, N_20) ∧ x1 = nI j_21 ∧ j_21 < N_20 ∧ j_21 < 2147483648) ∧ ((ObjA G h_12 q2 3) ∧ (P o_14 (pR h_12 q_18 j_21 (some q2))))))))))
set_option maxRecDepth 100000 in
set_option maxHeartbeats 4000000 in
theorem ok_AL_set {G : Gx} {l : Launch} {d w : Nat} {P : Option Nat → Hp → Prop} {q0 : Nat} {x1 : Int32} {q2 : Nat} {h : Hp} (H : wp_AL_set G l d w P q0 x1 q2 h) : Cr G l M_AL_set (d + 3) (w + 73) [.ref q0, .int x1, .ref q2] h 0 0 P := by
  unfold wp_AL_set at H
  refine Ct.of (lv := [some (.ref q0), some (.int x1), some (.ref q2), none]) (by decide) (Nat.le_of_ble_eq_true rfl) rfl (fun p e s m args below meth c => ?_)
  refine g_iload_n d_AL_set_0 rfl ?_
  refine g_aload_n d_AL_set_1 rfl ?_
  obtain ⟨z_1, H⟩ := H
  refine g_getI d_AL_set_2 f_AL_48 z_1 ?_
  obtain ⟨P_2, C_3, H⟩ := H
  refine q_S (As := [.int x1, .int (hI h q0 1)]) (st := []) (nl := 2) d_AL_set_5 v_AL_118 C_3 rfl (catS_le (Nat.le_of_ble_eq_true rfl)) rfl ⟨by omega, by omega, Nat.le_refl _, Nat.le_refl _⟩ (fun r_8 h_4 p_5 => ?_)
  obtain ⟨x_6, rfl, p_5⟩ := p_5
  replace H := H x_6 h_4 p_5
  show Go _ _ _ _ [.int x_6] _ _ _
  refine g_pop d_AL_set_8 rfl ?_
  refine g_aload_n d_AL_set_9 rfl ?_
  refine g_iload_n d_AL_set_10 rfl ?_
  obtain ⟨z_9, H⟩ := H
  obtain ⟨P_10, C_11, H⟩ := H
  refine q_V (As := [.int x1]) (st := []) (nl := 2) d_AL_set_11 v_AL_123 C_11 z_9 rfl (catS_le (Nat.le_of_ble_eq_true rfl)) rfl ⟨by omega, by omega, Nat.le_refl _, Nat.le_refl _⟩ (fun r_16 h_12 p_13 => ?_)
  obtain ⟨o_14, rfl, p_13⟩ := p_13
  replace H := H o_14 h_12 p_13
  show Go _ _ _ _ [va_rf o_14] _ _ _
  refine g_astore_nV (lv' := [some (.ref q0), some (.int x1), some (.ref q2), some (va_rf o_14)]) d_AL_set_14 (by decide) rfl ?_
  refine g_aload_n d_AL_set_15 rfl ?_
  obtain ⟨z_17, H⟩ := H
  refine g_getR d_AL_set_16 f_AL_9 z_17 (by decide) ?_
  refine g_iload_n d_AL_set_19 rfl ?_
  refine g_aload_n d_AL_set_20 rfl ?_
  obtain ⟨q_18, e_19, H⟩ := H
  show Go _ _ _ [some (.ref q0), some (.int x1), some (.ref q2), some (va_rf o_14)] [.ref q2, .int x1, va_rf (hR h_12 q0 0)] _ _ _
  rw [show va_rf (hR h_12 q0 0) = Value.ref q_18 from by rw [e_19]; rfl]
  obtain ⟨N_20, H⟩ := H
  obtain ⟨j_21, H⟩ := H
  obtain ⟨z_22, H⟩ := H
  obtain ⟨u_23, H⟩ := H
  obtain ⟨u_23a, u_23b, u_23c, u_23d, u_23e⟩ := u_23
  refine g_aast d_AL_set_21 z_22.1 (by decide) u_23c u_23d u_23e z_22.2.1 z_22.2.2.1 z_22.2.2.2 ?_
  refine g_aload_nV d_AL_set_22 rfl ?_
  exact g_areturn (x := o_14) d_AL_set_23 rfl (Or.inl ⟨_, rfl⟩) (Nat.le_refl _) (Nat.le_refl _) ⟨_, rfl, H⟩
set_option maxRecDepth 100000 in
set_option maxHeartbeats 4000000 in
def wp_AL_size (G : Gx) (l : Launch) (d w : Nat) (P : Int32 → Hp → Prop) (q0 : Nat) (h : Hp) : Prop := (hS h q0 = some (12, 0)) ∧ (P (hI h q0 1) h)
set_option maxRecDepth 100000 in
set_option maxHeartbeats 4000000 in
theorem ok_AL_size {G : Gx} {l : Launch} {d w : Nat} {P : Int32 → Hp → Prop} {q0 : Nat} {h : Hp} (H : wp_AL_size G l d w P q0 h) : Ci G l M_AL_size (d + 0) (w + 0) [.ref q0] h 0 0 P := by
  unfold wp_AL_size at H
  refine Ct.of (lv := [some (.ref q0)]) (by decide) (Nat.le_of_ble_eq_true rfl) rfl (fun p e s m args below meth c => ?_)
  refine g_aload_n d_AL_size_0 rfl ?_
  obtain ⟨z_1, H⟩ := H
  refine g_getI d_AL_size_1 f_AL_48 z_1 ?_
  exact g_ireturn d_AL_size_4 rfl (Nat.le_refl _) (Nat.le_refl _) ⟨_, rfl, H⟩
set_option maxRecDepth 100000 in
set_option maxHeartbeats 4000000 in
def wp_Ar_copyOf (G : Gx) (l : Launch) (d w mc ms : Nat) (P : Option Nat → Hp → Prop) (q0 : Nat) (x1 : Int32) (h : Hp) : Prop := ∃ N_1 : Nat, (hS h q0 = some (3, N_1)) ∧ (∃ mc_8 : Nat, ∃ ms_9 : Nat, ∃ P_3 : Option Nat → Hp → Prop, (Cr G l M_Ar_copyOf1 (d + 1) (w + 30) [.ref q0, .int x1, .ref (gK G 8)] h mc_8 ms_9 P_3) ∧ ((0 + mc_8 ≤ mc ∧ 0 + ms_9 ≤ ms) ∧ (∀ (o_7 : Option Nat) (h_5 : Hp), P_3 o_7 h_5 → ((0 + mc_8) ≤ mc ∧ (0 + ms_9) ≤ ms) ∧ (P o_7 h_5))))
set_option maxRecDepth 100000 in
set_option maxHeartbeats 4000000 in
theorem ok_Ar_copyOf {G : Gx} {l : Launch} {d w : Nat} {mc ms : Nat} {P : Option Nat → Hp → Prop} {q0 : Nat} {x1 : Int32} {h : Hp} (H : wp_Ar_copyOf G l d w mc ms P q0 x1 h) : Cr G l M_Ar_copyOf (d + 2) (w + 53) [.ref q0, .int x1] h mc ms P := by
  unfold wp_Ar_copyOf at H
  refine Ct.of (lv := [some (.ref q0), some (.int x1)]) (by decide) (Nat.le_of_ble_eq_true rfl) rfl (fun p e s m args below meth c => ?_)
  refine g_aload_n d_Ar_copyOf_0 rfl ?_
  refine g_iload_n d_Ar_copyOf_1 rfl ?_
  refine g_aload_n d_Ar_copyOf_2 rfl ?_
  obtain ⟨N_1, H⟩ := H
  obtain ⟨z_2, H⟩ := H
  refine g_getC d_Ar_copyOf_3 kz_Ar_86 kz_dg kz_vg kz_ig kz_ng z_2 (catS_le (Nat.le_of_ble_eq_true rfl)) ⟨show 1 ≤ d + 2 by omega, show 22 ≤ w + 53 by omega⟩ ?_
  obtain ⟨mc_8, H⟩ := H
  obtain ⟨ms_9, H⟩ := H
  obtain ⟨P_3, C_4, H⟩ := H
  obtain ⟨b_10, H⟩ := H
  refine q_S (As := [.ref q0, .int x1, .ref (gK G 8)]) (st := []) (nl := 4) d_Ar_copyOf_6 v_Ar_300 C_4 rfl (catS_le (Nat.le_of_ble_eq_true rfl)) rfl ⟨by omega, by omega, b_10.1, b_10.2⟩ (fun r_11 h_5 p_6 => ?_)
  obtain ⟨o_7, rfl, p_6⟩ := p_6
  replace H := H o_7 h_5 p_6
  show Go _ _ _ _ [va_rf o_7] _ _ _
  obtain ⟨b_12, H⟩ := H
  exact g_areturn (x := o_7) d_Ar_copyOf_9 rfl (Or.inr ⟨_, rfl⟩) b_12.1 b_12.2 ⟨_, rfl, H⟩
set_option maxRecDepth 100000 in
set_option maxHeartbeats 4000000 in
def wJ_Ar_copyOf1_24 (G : Gx) (l : Launch) (d w mc ms : Nat) (P : Option Nat → Hp → Prop) (q0 : Nat) (x1 : Int32) (q2 : Nat) (sq0 : Nat) (h : Hp) (k n : Nat) : Prop := ∃ N_1 : Nat, (hS h q0 = some (3, N_1) ∨ (q0 = gK G 0 ∧ N_1 = 0)) ∧ ((k ≤ mc ∧ n ≤ ms) ∧ (∃ N_5 : Nat, ∃ N_6 : Nat, ∃ j_7 : Nat, ∃ j_8 : Nat, ∃ j_9 : Nat, (hS h q0 = some (3, N_5) ∧ hS h sq0 = some (3, N_6) ∧ 0 = nI j_7 ∧ 0 = nI j_8 ∧ (if x1 < (nI N_1) then x1 else (nI N_1)) = nI j_9 ∧ j_7 + j_9 ≤ N_5 ∧ j_8 + j_9 ≤ N_6 ∧ N_5 < 2147483648 ∧ N_6 < 2147483648 ∧ ∀ i, i < j_9 → ∀ y, hR h q0 (j_7 + i) = some y → ObjA G h y 3) ∧ ((k ≤ mc ∧ n ≤ ms) ∧ (P (some sq0) (pA h sq0 (va_cpy (hR h q0) (hR h sq0) j_7 j_8 j_9))))))
set_option maxRecDepth 100000 in
set_option maxHeartbeats 4000000 in
theorem okJ_Ar_copyOf1_24 {G : Gx} {l : Launch} {d w : Nat} {mc ms : Nat} {P : Option Nat → Hp → Prop} {p : Program} {e : Env} {s : State} {m : MethodId} {args : Array Value} {below : List Frame} {meth : Method} {c : Code} {q0 : Nat} {x1 : Int32} {q2 : Nat} {sq0 : Nat} {h : Hp} {k n : Nat} (H : wJ_Ar_copyOf1_24 G l d w mc ms P  q0 x1 q2 sq0 h k n) : Go M_Ar_copyOf1 (mkX G (fun r h' => ∃ x, r = some (va_rf x) ∧ P x h') (d + 1) (w + 30) mc ms p l e s m args below meth c) 24 [some (.ref q0), some (.int x1), some (.ref q2), none] [.ref sq0] h k n := by
  unfold wJ_Ar_copyOf1_24 at H
  refine g_astore_n (lv' := [some (.ref q0), some (.int x1), some (.ref q2), some (.ref sq0)]) d_Ar_copyOf1_24 (by decide) rfl ?_
  refine g_aload_n d_Ar_copyOf1_25 rfl ?_
  refine g_iconst (v := 0) d_Ar_copyOf1_26 (by decide) ?_
  refine g_aload_n d_Ar_copyOf1_27 rfl ?_
  refine g_iconst (v := 0) d_Ar_copyOf1_28 (by decide) ?_
  refine g_aload_n d_Ar_copyOf1_29 rfl ?_
  obtain ⟨N_1, H⟩ := H
  obtain ⟨z_2, H⟩ := H
  refine g_alenO d_Ar_copyOf1_30 z_2 ?_
  refine g_iload_n d_Ar_copyOf1_31 rfl ?_
  obtain ⟨b_3, H⟩ := H
  refine g_min d_Ar_copyOf1_32 kz_Ar_304 (catS_le (Nat.le_of_ble_eq_true rfl)) ⟨show 1 ≤ d + 1 by omega, show 21 ≤ w + 30 by omega, b_3.1, b_3.2⟩ kz_sm kz_im kz_cm ?_
  obtain ⟨N_5, H⟩ := H
  obtain ⟨N_6, H⟩ := H
  obtain ⟨j_7, H⟩ := H
  obtain ⟨j_8, H⟩ := H
  obtain ⟨j_9, H⟩ := H
  obtain ⟨z_4, H⟩ := H
  refine g_acopy d_Ar_copyOf1_35 kz_Ar_150 kz_nc kz_sc kz_is z_4.1 z_4.2.1 z_4.2.2.1 z_4.2.2.2.1 z_4.2.2.2.2.1 z_4.2.2.2.2.2.1 z_4.2.2.2.2.2.2.1 ⟨z_4.2.2.2.2.2.2.2.1, z_4.2.2.2.2.2.2.2.2.1⟩ z_4.2.2.2.2.2.2.2.2.2 (catS_le (Nat.le_of_ble_eq_true rfl)) ⟨show 1 ≤ d + 1 by omega, show _ ≤ w + 30 from Nat.le_trans (by decide : _ ≤ 30) (by omega)⟩ ?_
  refine g_aload_n d_Ar_copyOf1_38 rfl ?_
  obtain ⟨b_10, H⟩ := H
  exact g_areturn (x := (some sq0)) d_Ar_copyOf1_39 rfl (Or.inr ⟨_, rfl⟩) b_10.1 b_10.2 ⟨_, rfl, H⟩
set_option maxRecDepth 100000 in
set_option maxHeartbeats 4000000 in
def wp_Ar_copyOf1 (G : Gx) (l : Launch) (d w mc ms : Nat) (P : Option Nat → Hp → Prop) (q0 : Nat) (x1 : Int32) (q2 : Nat) (h : Hp) : Prop := (¬ (some q2) = (some (gK G 8)) → False) ∧ ((some q2) = (some (gK G 8)) → ∃ N_14 : Nat, (x1 = nI N_14 ∧ N_14 * 4 ≤ 536870912) ∧ ((0 + 1 ≤ mc ∧ 0 + N_14 ≤ ms) ∧ (∀ q_12 : Nat, Fre h q_12 → wJ_Ar_copyOf1_24 G l d w mc ms P q0 x1 q2 q_12 (pN h q_12 (3, N_14)) (0 + 1) (0 + N_14))))
set_option maxRecDepth 100000 in
set_option maxHeartbeats 4000000 in
theorem ok_Ar_copyOf1 {G : Gx} {l : Launch} {d w : Nat} {mc ms : Nat} {P : Option Nat → Hp → Prop} {q0 : Nat} {x1 : Int32} {q2 : Nat} {h : Hp} (H : wp_Ar_copyOf1 G l d w mc ms P q0 x1 q2 h) : Cr G l M_Ar_copyOf1 (d + 1) (w + 30) [.ref q0, .int x1, .ref q2] h mc ms P := by
  unfold wp_Ar_copyOf1 at H
  refine Ct.of (lv := [some (.ref q0), some (.int x1), some (.ref q2), none]) (by decide) (Nat.le_of_ble_eq_true rfl) rfl (fun p e s m args below meth c => ?_)
  refine g_aload_n d_Ar_copyOf1_0 rfl ?_
  refine g_ldcM d_Ar_copyOf1_1 k_Ar_110 ?_
  obtain ⟨H1, H2⟩ := H
  refine g_acmp_ne (x := (some q2)) (y := (some (gK G 8))) (tgt := 13) d_Ar_copyOf1_3 (by decide) (fun c_11 => ?_) (fun c_11 => ?_)
  · have H := H1 c_11
    refine g_aload_n d_Ar_copyOf1_13 rfl ?_
    exact H.elim
  · have H := H2 c_11
    refine g_iload_n d_Ar_copyOf1_6 rfl ?_
    obtain ⟨N_14, H⟩ := H
    obtain ⟨z_15, H⟩ := H
    obtain ⟨b_13, H⟩ := H
    refine g_anew (t := 3) d_Ar_copyOf1_7 (by decide) k_Ar_2 kO_3 z_15.1 z_15.2 b_13.1 b_13.2 (fun q_12 Fq_12 => ?_)
    replace H := H q_12 Fq_12
    have z_16 : hS (pN h q_12 (3, N_14)) q_12 = some (3, N_14) := Fre.new
    refine g_goto (tgt := 24) d_Ar_copyOf1_10 (by decide) ?_
    refine g_msk [true, true, true, false] ?_
    exact okJ_Ar_copyOf1_24 H
set_option maxRecDepth 100000 in
set_option maxHeartbeats 4000000 in
def wp_Ob_checkIndex (G : Gx) (l : Launch) (d w : Nat) (P : Int32 → Hp → Prop) (x0 : Int32) (x1 : Int32) (h : Hp) : Prop := ∃ P_1 : Int32 → Hp → Prop, (Ci G l M_Pre_checkIndex (d + 1) (w + 30) [.int x0, .int x1, .null] h 0 0 P_1) ∧ (∀ (x_5 : Int32) (h_3 : Hp), P_1 x_5 h_3 → P x_5 h_3)
set_option maxRecDepth 100000 in
set_option maxHeartbeats 4000000 in
theorem ok_Ob_checkIndex {G : Gx} {l : Launch} {d w : Nat} {P : Int32 → Hp → Prop} {x0 : Int32} {x1 : Int32} {h : Hp} (H : wp_Ob_checkIndex G l d w P x0 x1 h) : Ci G l M_Ob_checkIndex (d + 2) (w + 52) [.int x0, .int x1] h 0 0 P := by
  unfold wp_Ob_checkIndex at H
  refine Ct.of (lv := [some (.int x0), some (.int x1)]) (by decide) (Nat.le_of_ble_eq_true rfl) rfl (fun p e s m args below meth c => ?_)
  refine g_iload_n d_Ob_checkIndex_0 rfl ?_
  refine g_iload_n d_Ob_checkIndex_1 rfl ?_
  refine g_null d_Ob_checkIndex_2 ?_
  obtain ⟨P_1, C_2, H⟩ := H
  refine q_S (As := [.int x0, .int x1, .null]) (st := []) (nl := 3) d_Ob_checkIndex_3 v_Ob_105 C_2 rfl (catS_le (Nat.le_of_ble_eq_true rfl)) rfl ⟨by omega, by omega, Nat.le_refl _, Nat.le_refl _⟩ (fun r_7 h_3 p_4 => ?_)
  obtain ⟨x_5, rfl, p_4⟩ := p_4
  replace H := H x_5 h_3 p_4
  show Go _ _ _ _ [.int x_5] _ _ _
  exact g_ireturn d_Ob_checkIndex_6 rfl (Nat.le_refl _) (Nat.le_refl _) ⟨_, rfl, H⟩
set_option maxRecDepth 100000 in
set_option maxHeartbeats 4000000 in
def wJ_AS_newLength_21 (G : Gx) (l : Launch) (d w : Nat) (P : Int32 → Hp → Prop) (x0 : Int32) (x1 : Int32) (x2 : Int32) (x3 : Int32) (h : Hp)  : Prop := ∃ P_1 : Int32 → Hp → Prop, (Ci G l M_AS_hugeLength (d + 1) (w + 30) [.int x0, .int x1] h 0 0 P_1) ∧ (∀ (x_5 : Int32) (h_3 : Hp), P_1 x_5 h_3 → P x_5 h_3)
set_option maxRecDepth 100000 in
set_option maxHeartbeats 4000000 in
theorem okJ_AS_newLength_21 {G : Gx} {l : Launch} {d w : Nat} {P : Int32 → Hp → Prop} {p : Program} {e : Env} {s : State} {m : MethodId} {args : Array Value} {below : List Frame} {meth : Method} {c : Code} {x0 : Int32} {x1 : Int32} {x2 : Int32} {x3 : Int32} {h : Hp}  (H : wJ_AS_newLength_21 G l d w P  x0 x1 x2 x3 h ) : Go M_AS_newLength (mkX G (fun r h' => ∃ x, r = some (.int x) ∧ P x h') (d + 2) (w + 52) 0 0 p l e s m args below meth c) 21 [some (.int x0), some (.int x1), some (.int x2), some (.int x3)] [] h 0 0 := by
  unfold wJ_AS_newLength_21 at H
  refine g_iload_n d_AS_newLength_21 rfl ?_
  refine g_iload_n d_AS_newLength_22 rfl ?_
  obtain ⟨P_1, C_2, H⟩ := H
  refine q_S (As := [.int x0, .int x1]) (st := []) (nl := 3) d_AS_newLength_23 v_AS_201 C_2 rfl (catS_le (Nat.le_of_ble_eq_true rfl)) rfl ⟨by omega, by omega, Nat.le_refl _, Nat.le_refl _⟩ (fun r_7 h_3 p_4 => ?_)
  obtain ⟨x_5, rfl, p_4⟩ := p_4
  replace H := H x_5 h_3 p_4
  show Go _ _ _ _ [.int x_5] _ _ _
  exact g_ireturn d_AS_newLength_26 rfl (Nat.le_refl _) (Nat.le_refl _) ⟨_, rfl, H⟩
set_option maxRecDepth 100000 in
set_option maxHeartbeats 4000000 in
def wp_AS_newLength (G : Gx) (l : Launch) (d w : Nat) (P : Int32 → Hp → Prop) (x0 : Int32) (x1 : Int32) (x2 : Int32) (h : Hp) : Prop := ∀ x_9 : Int32, x_9 = (x0 + (if x1 < x2 then x2 else x1)) → (x_9 ≤ 0 → wJ_AS_newLength_21 G l d w P x0 x1 x2 x_9 h) ∧ (¬ x_9 ≤ 0 → (2147483639 < x_9 → wJ_AS_newLength_21 G l d w P x0 x1 x2 x_9 h) ∧ (¬ 2147483639 < x_9 → P x_9 h))
set_option maxRecDepth 100000 in
set_option maxHeartbeats 4000000 in
theorem ok_AS_newLength {G : Gx} {l : Launch} {d w : Nat} {P : Int32 → Hp → Prop} {x0 : Int32} {x1 : Int32} {x2 : Int32} {h : Hp} (H : wp_AS_newLength G l d w P x0 x1 x2 h) : Ci G l M_AS_newLength (d + 2) (w + 52) [.int x0, .int x1, .int x2] h 0 0 P := by
  unfold wp_AS_newLength at H
  refine Ct.of (lv := [some (.int x0), some (.int x1), some (.int x2), none]) (by decide) (Nat.le_of_ble_eq_true rfl) rfl (fun p e s m args below meth c => ?_)
  refine g_iload_n d_AS_newLength_0 rfl ?_
  refine g_iload_n d_AS_newLength_1 rfl ?_
  refine g_iload_n d_AS_newLength_2 rfl ?_
  refine g_max d_AS_newLength_3 kz_AS_194 (catS_le (Nat.le_of_ble_eq_true rfl)) ⟨show 1 ≤ d + 2 by omega, show 21 ≤ w + 52 by omega, Nat.le_refl _, Nat.le_refl _⟩ kz_sx kz_im kz_cx ?_
  refine g_iadd d_AS_newLength_6 ?_
  refine g_topi (fun x_9 ex_9 => ?_)
  replace H := H x_9 ex_9
  refine g_istore_n (lv' := [some (.int x0), some (.int x1), some (.int x2), some (.int x_9)]) d_AS_newLength_7 (by decide) rfl ?_
  refine g_iconst (v := 0) d_AS_newLength_8 (by decide) ?_
  refine g_iload_n d_AS_newLength_9 rfl ?_
  obtain ⟨H1, H2⟩ := H
  refine g_icmp_ge (tgt := 21) d_AS_newLength_10 (by decide) (fun c_10 => ?_) (fun c_10 => ?_)
  · have H := H1 c_10
    refine g_msk [true, true, true, true] ?_
    exact okJ_AS_newLength_21 H
  · have H := H2 c_10
    refine g_iload_n d_AS_newLength_13 rfl ?_
    refine g_ldc d_AS_newLength_14 k_AS_200 ?_
    obtain ⟨H1, H2⟩ := H
    refine g_icmp_gt (tgt := 21) d_AS_newLength_16 (by decide) (fun c_11 => ?_) (fun c_11 => ?_)
    · have H := H1 c_11
      refine g_msk [true, true, true, true] ?_
      exact okJ_AS_newLength_21 H
    · have H := H2 c_11
      refine g_iload_n d_AS_newLength_19 rfl ?_
      exact g_ireturn d_AS_newLength_20 rfl (Nat.le_refl _) (Nat.le_refl _) ⟨_, rfl, H⟩
set_option maxRecDepth 100000 in
set_option maxHeartbeats 4000000 in
def wJ_Pre_checkIndex_9 (G : Gx) (l : Launch) (d w : Nat) (P : Int32 → Hp → Prop) (x0 : Int32) (x1 : Int32) (o2 : Option Nat) (h : Hp)  : Prop := False
set_option maxRecDepth 100000 in
set_option maxHeartbeats 4000000 in
theorem okJ_Pre_checkIndex_9 {G : Gx} {l : Launch} {d w : Nat} {P : Int32 → Hp → Prop} {p : Program} {e : Env} {s : State} {m : MethodId} {args : Array Value} {below : List Frame} {meth : Method} {c : Code} {x0 : Int32} {x1 : Int32} {o2 : Option Nat} {h : Hp}  (H : wJ_Pre_checkIndex_9 G l d w P  x0 x1 o2 h ) : Go M_Pre_checkIndex (mkX G (fun r h' => ∃ x, r = some (.int x) ∧ P x h') (d + 1) (w + 30) 0 0 p l e s m args below meth c) 9 [some (.int x0), some (.int x1), some (va_rf o2)] [] h 0 0 := by
  unfold wJ_Pre_checkIndex_9 at H
  refine g_aload_nV d_Pre_checkIndex_9 rfl ?_
  refine g_iload_n d_Pre_checkIndex_10 rfl ?_
  refine g_iload_n d_Pre_checkIndex_11 rfl ?_
  exact H.elim
set_option maxRecDepth 100000 in
set_option maxHeartbeats 4000000 in
def wp_Pre_checkIndex (G : Gx) (l : Launch) (d w : Nat) (P : Int32 → Hp → Prop) (x0 : Int32) (x1 : Int32) (o2 : Option Nat) (h : Hp) : Prop := (x0 < 0 → wJ_Pre_checkIndex_9 G l d w P x0 x1 o2 h) ∧ (¬ x0 < 0 → (x0 < x1 → P x0 h) ∧ (¬ x0 < x1 → wJ_Pre_checkIndex_9 G l d w P x0 x1 o2 h))
set_option maxRecDepth 100000 in
set_option maxHeartbeats 4000000 in
theorem ok_Pre_checkIndex {G : Gx} {l : Launch} {d w : Nat} {P : Int32 → Hp → Prop} {x0 : Int32} {x1 : Int32} {o2 : Option Nat} {h : Hp} (H : wp_Pre_checkIndex G l d w P x0 x1 o2 h) : Ci G l M_Pre_checkIndex (d + 1) (w + 30) [.int x0, .int x1, va_rf o2] h 0 0 P := by
  unfold wp_Pre_checkIndex at H
  refine Ct.of (lv := [some (.int x0), some (.int x1), some (va_rf o2)]) (by decide) (by cases o2 <;> exact Nat.le_of_ble_eq_true rfl) (by cases o2 <;> rfl) (fun p e s m args below meth c => ?_)
  refine g_iload_n d_Pre_checkIndex_0 rfl ?_
  obtain ⟨H1, H2⟩ := H
  refine g_if_lt (tgt := 9) d_Pre_checkIndex_1 (by decide) (fun c_1 => ?_) (fun c_1 => ?_)
  · have H := H1 c_1
    refine g_msk [true, true, true] ?_
    exact okJ_Pre_checkIndex_9 H
  · have H := H2 c_1
    refine g_iload_n d_Pre_checkIndex_4 rfl ?_
    refine g_iload_n d_Pre_checkIndex_5 rfl ?_
    obtain ⟨H1, H2⟩ := H
    refine g_icmp_lt (tgt := 16) d_Pre_checkIndex_6 (by decide) (fun c_2 => ?_) (fun c_2 => ?_)
    · have H := H1 c_2
      refine g_iload_n d_Pre_checkIndex_16 rfl ?_
      exact g_ireturn d_Pre_checkIndex_17 rfl (Nat.le_refl _) (Nat.le_refl _) ⟨_, rfl, H⟩
    · have H := H2 c_2
      refine g_msk [true, true, true] ?_
      exact okJ_Pre_checkIndex_9 H
