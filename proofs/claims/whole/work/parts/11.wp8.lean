set_option maxRecDepth 100000 in
set_option maxHeartbeats 4000000 in
def wB_MO_dropPile_12 (G : Gx) (l : Launch) (d w : Nat) (P : Hp → Prop) (C12 : Int32 → Hp → Prop) (q0 : Nat) (x1 : Int32) (x2 : Int32) (x3 : Int32) (h : Hp)  : Prop := (hS h q0 = some (18, 0)) ∧ (∃ q_2 : Nat, (hR h q0 38) = some q_2 ∧ (∃ N_4 : Nat, ∃ j_5 : Nat, (hS h q_2 = some (0, N_4) ∧ x1 = nI j_5 ∧ j_5 < N_4 ∧ j_5 < 2147483648) ∧ (((hI h q_2 j_5) ≤ x3 → P h) ∧ (¬ (hI h q_2 j_5) ≤ x3 → ∃ P_8 : Hp → Prop, (Cv G l M_MO_movePile (d + 0) (w + 0) [.ref q0, .int ((3 * x1) + x3), .int (((3 * x1) + x3) + 1)] h 0 0 P_8) ∧ (∀ h_10 : Hp, P_8 h_10 → ∀ x_15 : Int32, x_15 = x3 + 1 → C12 x_15 h_10)))))
set_option maxRecDepth 100000 in
set_option maxHeartbeats 4000000 in
theorem okB_MO_dropPile_12 {G : Gx} {l : Launch} {d w : Nat} {P : Hp → Prop} {p : Program} {e : Env} {s : State} {m : MethodId} {args : Array Value} {below : List Frame} {meth : Method} {c : Code} {C12 : Int32 → Hp → Prop} {q0 : Nat} {x1 : Int32} {x2 : Int32} {x3 : Int32} (hC12 : ∀ (x3 : Int32) (h : Hp), C12 x3 h → Go M_MO_dropPile (mkX G (fun r h' => r = none ∧ P h') (d + 1) (w + 23) 0 0 p l e s m args below meth c) 12 [some (.ref q0), some (.int x1), some (.int x2), some (.int x3)] [] h 0 0) {h : Hp}  (H : wB_MO_dropPile_12 G l d w P C12 q0 x1 x2 x3 h ) : Go M_MO_dropPile (mkX G (fun r h' => r = none ∧ P h') (d + 1) (w + 23) 0 0 p l e s m args below meth c) 12 [some (.ref q0), some (.int x1), some (.int x2), some (.int x3)] [] h 0 0 := by
  unfold wB_MO_dropPile_12 at H
  refine g_iload_n d_MO_dropPile_12 rfl ?_
  refine g_aload_n d_MO_dropPile_13 rfl ?_
  obtain ⟨z_1, H⟩ := H
  refine g_getR d_MO_dropPile_14 f_MO_108 z_1 (by decide) ?_
  refine g_iload_n d_MO_dropPile_17 rfl ?_
  obtain ⟨q_2, e_3, H⟩ := H
  show Go _ _ _ [some (.ref q0), some (.int x1), some (.int x2), some (.int x3)] [.int x1, va_rf (hR h q0 38), .int x3] _ _ _
  rw [show va_rf (hR h q0 38) = Value.ref q_2 from by rw [e_3]; rfl]
  obtain ⟨N_4, H⟩ := H
  obtain ⟨j_5, H⟩ := H
  obtain ⟨z_6, H⟩ := H
  refine g_iald d_MO_dropPile_18 z_6.1 z_6.2.1 z_6.2.2.1 z_6.2.2.2 ?_
  obtain ⟨H1, H2⟩ := H
  refine g_icmp_ge (tgt := 44) d_MO_dropPile_19 (by decide) (fun c_7 => ?_) (fun c_7 => ?_)
  · have H := H1 c_7
    exact g_return d_MO_dropPile_44 rfl (Nat.le_refl _) (Nat.le_refl _) ⟨rfl, H⟩
  · have H := H2 c_7
    refine g_aload_n d_MO_dropPile_22 rfl ?_
    refine g_iconst (v := 3) d_MO_dropPile_23 (by decide) ?_
    refine g_iload_n d_MO_dropPile_24 rfl ?_
    refine g_imul d_MO_dropPile_25 ?_
    refine g_iload_n d_MO_dropPile_26 rfl ?_
    refine g_iadd d_MO_dropPile_27 ?_
    refine g_iconst (v := 3) d_MO_dropPile_28 (by decide) ?_
    refine g_iload_n d_MO_dropPile_29 rfl ?_
    refine g_imul d_MO_dropPile_30 ?_
    refine g_iload_n d_MO_dropPile_31 rfl ?_
    refine g_iadd d_MO_dropPile_32 ?_
    refine g_iconst (v := 1) d_MO_dropPile_33 (by decide) ?_
    refine g_iadd d_MO_dropPile_34 ?_
    obtain ⟨P_8, C_9, H⟩ := H
    refine q_V (As := [.int ((3 * x1) + x3), .int (((3 * x1) + x3) + 1)]) (st := []) (nl := 4) d_MO_dropPile_35 v_MO_253 C_9 z_1 rfl (catS_le (Nat.le_of_ble_eq_true rfl)) rfl ⟨by omega, by omega, Nat.le_refl _, Nat.le_refl _⟩ (fun r_14 h_10 p_11 => ?_)
    obtain ⟨rfl, p_11⟩ := p_11
    replace H := H h_10 p_11
    show Go _ _ _ _ [] _ _ _
    obtain ⟨x_15, ex_15⟩ : ∃ z : Int32, z = x3 + 1 := ⟨_, rfl⟩
    replace H := H x_15 ex_15
    refine g_iinc (v := x_15) (lv' := [some (.ref q0), some (.int x1), some (.int x2), some (.int x_15)]) d_MO_dropPile_38 rfl (by decide) (by rw [ex_15]; rfl) rfl ?_
    refine g_goto (tgt := 12) d_MO_dropPile_41 (by decide) ?_
    refine g_msk [true, true, true, true] ?_
    exact hC12 _ _ H
set_option maxRecDepth 100000 in
set_option maxHeartbeats 4000000 in
def wL_MO_dropPile_12 (G : Gx) (l : Launch) (d w : Nat) (P : Hp → Prop) (q0 : Nat) (x1 : Int32) (x2 : Int32) (x3 : Int32) (h : Hp)  : Prop := ∃ (I : Int32 → Hp → Prop) (μ : Int32 → Hp → Nat), I x3 h ∧ ∀ (x3' : Int32) (h' : Hp), I x3' h' → wB_MO_dropPile_12 G l d w P (fun x3_ h_ => I x3_ h_ ∧ μ x3_ h_ < μ x3' h') q0 x1 x2 x3' h'
set_option maxRecDepth 100000 in
set_option maxHeartbeats 4000000 in
theorem okL_MO_dropPile_12 {G : Gx} {l : Launch} {d w : Nat} {P : Hp → Prop} {p : Program} {e : Env} {s : State} {m : MethodId} {args : Array Value} {below : List Frame} {meth : Method} {c : Code} {q0 : Nat} {x1 : Int32} {x2 : Int32} {x3 : Int32} {h : Hp}  (H : wL_MO_dropPile_12 G l d w P  q0 x1 x2 x3 h ) : Go M_MO_dropPile (mkX G (fun r h' => r = none ∧ P h') (d + 1) (w + 23) 0 0 p l e s m args below meth c) 12 [some (.ref q0), some (.int x1), some (.int x2), some (.int x3)] [] h 0 0 := by
  obtain ⟨I, μ, h0, hs⟩ := H
  have key : ∀ (N : Nat) (x3 : Int32) (h : Hp), I x3 h → μ x3 h < N → Go M_MO_dropPile (mkX G (fun r h' => r = none ∧ P h') (d + 1) (w + 23) 0 0 p l e s m args below meth c) 12 [some (.ref q0), some (.int x1), some (.int x2), some (.int x3)] [] h 0 0 := by
    intro N
    induction N with
    | zero => intro x3 h _ hN; exact absurd hN (Nat.not_lt_zero _)
    | succ N ih =>
      intro x3 h hI hN
      exact okB_MO_dropPile_12 (fun x3_ h_ hh => ih x3_ h_ hh.1 (Nat.lt_of_lt_of_le hh.2 (Nat.le_of_lt_succ hN))) (hs x3 h hI)
  exact key _ _ _ h0 (Nat.lt_succ_self _)
set_option maxRecDepth 100000 in
set_option maxHeartbeats 4000000 in
def wp_MO_dropPile (G : Gx) (l : Launch) (d w : Nat) (P : Hp → Prop) (q0 : Nat) (x1 : Int32) (x2 : Int32) (h : Hp) : Prop := (hS h q0 = some (18, 0)) ∧ (∃ q_17 : Nat, (hR h q0 38) = some q_17 ∧ (∃ N_19 : Nat, ∃ j_20 : Nat, (hS h q_17 = some (0, N_19) ∧ x1 = nI j_20 ∧ j_20 < N_19 ∧ j_20 < 2147483648) ∧ (wL_MO_dropPile_12 G l d w P q0 x1 x2 x2 (pI h q_17 j_20 ((hI h q_17 j_20) - 1)))))
set_option maxRecDepth 100000 in
set_option maxHeartbeats 4000000 in
theorem ok_MO_dropPile {G : Gx} {l : Launch} {d w : Nat} {P : Hp → Prop} {q0 : Nat} {x1 : Int32} {x2 : Int32} {h : Hp} (H : wp_MO_dropPile G l d w P q0 x1 x2 h) : Cv G l M_MO_dropPile (d + 1) (w + 23) [.ref q0, .int x1, .int x2] h 0 0 P := by
  unfold wp_MO_dropPile at H
  refine Ct.of (lv := [some (.ref q0), some (.int x1), some (.int x2), none]) (by decide) (Nat.le_of_ble_eq_true rfl) rfl (fun p e s m args below meth c => ?_)
  refine g_aload_n d_MO_dropPile_0 rfl ?_
  obtain ⟨z_16, H⟩ := H
  refine g_getR d_MO_dropPile_1 f_MO_108 z_16 (by decide) ?_
  refine g_iload_n d_MO_dropPile_4 rfl ?_
  refine g_dup2 d_MO_dropPile_5 rfl (vcat _) ?_
  obtain ⟨q_17, e_18, H⟩ := H
  show Go _ _ _ [some (.ref q0), some (.int x1), some (.int x2), none] [.int x1, va_rf (hR h q0 38), .int x1, va_rf (hR h q0 38)] _ _ _
  rw [show va_rf (hR h q0 38) = Value.ref q_17 from by rw [e_18]; rfl]
  obtain ⟨N_19, H⟩ := H
  obtain ⟨j_20, H⟩ := H
  obtain ⟨z_21, H⟩ := H
  refine g_iald d_MO_dropPile_6 z_21.1 z_21.2.1 z_21.2.2.1 z_21.2.2.2 ?_
  refine g_iconst (v := 1) d_MO_dropPile_7 (by decide) ?_
  refine g_isub d_MO_dropPile_8 ?_
  refine g_iast d_MO_dropPile_9 z_21.1 z_21.2.1 z_21.2.2.1 z_21.2.2.2 ?_
  refine g_iload_n d_MO_dropPile_10 rfl ?_
  refine g_istore_n (lv' := [some (.ref q0), some (.int x1), some (.int x2), some (.int x2)]) d_MO_dropPile_11 (by decide) rfl ?_
  refine g_msk [true, true, true, true] ?_
  exact okL_MO_dropPile_12 H
set_option maxRecDepth 100000 in
set_option maxHeartbeats 4000000 in
def wB_MO_pileFor_128 (G : Gx) (l : Launch) (d w : Nat) (P : Int32 → Hp → Prop) (C128 : Int32 → Hp → Prop) (q0 : Nat) (x1 : Int32) (y2 : Int64) (x4 : Int32) (x5 : Int32) (x6 : Int32) (x7 : Int32) (h : Hp)  : Prop := (3 ≤ x7 → (hS h q0 = some (18, 0)) ∧ (∃ q_3 : Nat, (hR h q0 38) = some q_3 ∧ (∃ N_5 : Nat, ∃ j_6 : Nat, (hS h q_3 = some (0, N_5) ∧ x1 = nI j_6 ∧ j_6 < N_5 ∧ j_6 < 2147483648) ∧ (∃ q_8 : Nat, (hR h q0 38) = some q_8 ∧ (∃ N_10 : Nat, ∃ j_11 : Nat, (hS h q_8 = some (0, N_10) ∧ x1 = nI j_11 ∧ j_11 < N_10 ∧ j_11 < 2147483648) ∧ (P ((hI (pI h q_3 j_6 ((hI h q_3 j_6) + 1)) q_8 j_11) - 1) (pI h q_3 j_6 ((hI h q_3 j_6) + 1)))))))) ∧ (¬ 3 ≤ x7 → (hS h q0 = some (18, 0)) ∧ (∃ q_14 : Nat, (hR h q0 39) = some q_14 ∧ (∃ N_16 : Nat, ∃ j_17 : Nat, (hS h q_14 = some (0, N_16) ∧ ((3 * x6) + x7) = nI j_17 ∧ j_17 < N_16 ∧ j_17 < 2147483648) ∧ (∀ x_19 : Int32, x_19 = x7 + 1 → C128 x_19 (pI h q_14 j_17 (-1))))))
set_option maxRecDepth 100000 in
set_option maxHeartbeats 4000000 in
theorem okB_MO_pileFor_128 {G : Gx} {l : Launch} {d w : Nat} {P : Int32 → Hp → Prop} {p : Program} {e : Env} {s : State} {m : MethodId} {args : Array Value} {below : List Frame} {meth : Method} {c : Code} {C128 : Int32 → Hp → Prop} {q0 : Nat} {x1 : Int32} {y2 : Int64} {x4 : Int32} {x5 : Int32} {x6 : Int32} {x7 : Int32} (hC128 : ∀ (x7 : Int32) (h : Hp), C128 x7 h → Go M_MO_pileFor (mkX G (fun r h' => ∃ x, r = some (.int x) ∧ P x h') (d + 2) (w + 46) 0 0 p l e s m args below meth c) 128 [some (.ref q0), some (.int x1), some (.long y2), none, some (.int x4), some (.int x5), some (.int x6), some (.int x7)] [] h 0 0) {h : Hp}  (H : wB_MO_pileFor_128 G l d w P C128 q0 x1 y2 x4 x5 x6 x7 h ) : Go M_MO_pileFor (mkX G (fun r h' => ∃ x, r = some (.int x) ∧ P x h') (d + 2) (w + 46) 0 0 p l e s m args below meth c) 128 [some (.ref q0), some (.int x1), some (.long y2), none, some (.int x4), some (.int x5), some (.int x6), some (.int x7)] [] h 0 0 := by
  unfold wB_MO_pileFor_128 at H
  refine g_iload d_MO_pileFor_128 rfl ?_
  refine g_iconst (v := 3) d_MO_pileFor_130 (by decide) ?_
  obtain ⟨H1, H2⟩ := H
  refine g_icmp_ge (tgt := 153) d_MO_pileFor_131 (by decide) (fun c_1 => ?_) (fun c_1 => ?_)
  · have H := H1 c_1
    refine g_aload_n d_MO_pileFor_153 rfl ?_
    obtain ⟨z_2, H⟩ := H
    refine g_getR d_MO_pileFor_154 f_MO_108 z_2 (by decide) ?_
    refine g_iload_n d_MO_pileFor_157 rfl ?_
    refine g_dup2 d_MO_pileFor_158 rfl (vcat _) ?_
    obtain ⟨q_3, e_4, H⟩ := H
    show Go _ _ _ [some (.ref q0), some (.int x1), some (.long y2), none, some (.int x4), some (.int x5), some (.int x6), some (.int x7)] [.int x1, va_rf (hR h q0 38), .int x1, va_rf (hR h q0 38)] _ _ _
    rw [show va_rf (hR h q0 38) = Value.ref q_3 from by rw [e_4]; rfl]
    obtain ⟨N_5, H⟩ := H
    obtain ⟨j_6, H⟩ := H
    obtain ⟨z_7, H⟩ := H
    refine g_iald d_MO_pileFor_159 z_7.1 z_7.2.1 z_7.2.2.1 z_7.2.2.2 ?_
    refine g_iconst (v := 1) d_MO_pileFor_160 (by decide) ?_
    refine g_iadd d_MO_pileFor_161 ?_
    refine g_iast d_MO_pileFor_162 z_7.1 z_7.2.1 z_7.2.2.1 z_7.2.2.2 ?_
    refine g_aload_n d_MO_pileFor_163 rfl ?_
    refine g_getR d_MO_pileFor_164 f_MO_108 z_2 (by decide) ?_
    refine g_iload_n d_MO_pileFor_167 rfl ?_
    obtain ⟨q_8, e_9, H⟩ := H
    show Go _ _ _ [some (.ref q0), some (.int x1), some (.long y2), none, some (.int x4), some (.int x5), some (.int x6), some (.int x7)] [.int x1, va_rf (hR h q0 38)] _ _ _
    rw [show va_rf (hR h q0 38) = Value.ref q_8 from by rw [e_9]; rfl]
    obtain ⟨N_10, H⟩ := H
    obtain ⟨j_11, H⟩ := H
    obtain ⟨z_12, H⟩ := H
    refine g_iald d_MO_pileFor_168 z_12.1 z_12.2.1 z_12.2.2.1 z_12.2.2.2 ?_
    refine g_iconst (v := 1) d_MO_pileFor_169 (by decide) ?_
    refine g_isub d_MO_pileFor_170 ?_
    exact g_ireturn d_MO_pileFor_171 rfl (Nat.le_refl _) (Nat.le_refl _) ⟨_, rfl, H⟩
  · have H := H2 c_1
    refine g_aload_n d_MO_pileFor_134 rfl ?_
    obtain ⟨z_13, H⟩ := H
    refine g_getR d_MO_pileFor_135 f_MO_111 z_13 (by decide) ?_
    refine g_iconst (v := 3) d_MO_pileFor_138 (by decide) ?_
    refine g_iload d_MO_pileFor_139 rfl ?_
    refine g_imul d_MO_pileFor_141 ?_
    refine g_iload d_MO_pileFor_142 rfl ?_
    refine g_iadd d_MO_pileFor_144 ?_
    refine g_iconst (v := (-1)) d_MO_pileFor_145 (by decide) ?_
    obtain ⟨q_14, e_15, H⟩ := H
    show Go _ _ _ [some (.ref q0), some (.int x1), some (.long y2), none, some (.int x4), some (.int x5), some (.int x6), some (.int x7)] [.int (-1), .int ((3 * x6) + x7), va_rf (hR h q0 39)] _ _ _
    rw [show va_rf (hR h q0 39) = Value.ref q_14 from by rw [e_15]; rfl]
    obtain ⟨N_16, H⟩ := H
    obtain ⟨j_17, H⟩ := H
    obtain ⟨z_18, H⟩ := H
    refine g_iast d_MO_pileFor_146 z_18.1 z_18.2.1 z_18.2.2.1 z_18.2.2.2 ?_
    obtain ⟨x_19, ex_19⟩ : ∃ z : Int32, z = x7 + 1 := ⟨_, rfl⟩
    replace H := H x_19 ex_19
    refine g_iinc (v := x_19) (lv' := [some (.ref q0), some (.int x1), some (.long y2), none, some (.int x4), some (.int x5), some (.int x6), some (.int x_19)]) d_MO_pileFor_147 rfl (by decide) (by rw [ex_19]; rfl) rfl ?_
    refine g_goto (tgt := 128) d_MO_pileFor_150 (by decide) ?_
    refine g_msk [true, true, true, false, true, true, true, true] ?_
    exact hC128 _ _ H
set_option maxRecDepth 100000 in
set_option maxHeartbeats 4000000 in
def wL_MO_pileFor_128 (G : Gx) (l : Launch) (d w : Nat) (P : Int32 → Hp → Prop) (q0 : Nat) (x1 : Int32) (y2 : Int64) (x4 : Int32) (x5 : Int32) (x6 : Int32) (x7 : Int32) (h : Hp)  : Prop := ∃ (I : Int32 → Hp → Prop) (μ : Int32 → Hp → Nat), I x7 h ∧ ∀ (x7' : Int32) (h' : Hp), I x7' h' → wB_MO_pileFor_128 G l d w P (fun x7_ h_ => I x7_ h_ ∧ μ x7_ h_ < μ x7' h') q0 x1 y2 x4 x5 x6 x7' h'
set_option maxRecDepth 100000 in
set_option maxHeartbeats 4000000 in
theorem okL_MO_pileFor_128 {G : Gx} {l : Launch} {d w : Nat} {P : Int32 → Hp → Prop} {p : Program} {e : Env} {s : State} {m : MethodId} {args : Array Value} {below : List Frame} {meth : Method} {c : Code} {q0 : Nat} {x1 : Int32} {y2 : Int64} {x4 : Int32} {x5 : Int32} {x6 : Int32} {x7 : Int32} {h : Hp}  (H : wL_MO_pileFor_128 G l d w P  q0 x1 y2 x4 x5 x6 x7 h ) : Go M_MO_pileFor (mkX G (fun r h' => ∃ x, r = some (.int x) ∧ P x h') (d + 2) (w + 46) 0 0 p l e s m args below meth c) 128 [some (.ref q0), some (.int x1), some (.long y2), none, some (.int x4), some (.int x5), some (.int x6), some (.int x7)] [] h 0 0 := by
  obtain ⟨I, μ, h0, hs⟩ := H
  have key : ∀ (N : Nat) (x7 : Int32) (h : Hp), I x7 h → μ x7 h < N → Go M_MO_pileFor (mkX G (fun r h' => ∃ x, r = some (.int x) ∧ P x h') (d + 2) (w + 46) 0 0 p l e s m args below meth c) 128 [some (.ref q0), some (.int x1), some (.long y2), none, some (.int x4), some (.int x5), some (.int x6), some (.int x7)] [] h 0 0 := by
    intro N
    induction N with
    | zero => intro x7 h _ hN; exact absurd hN (Nat.not_lt_zero _)
    | succ N ih =>
      intro x7 h hI hN
      exact okB_MO_pileFor_128 (fun x7_ h_ hh => ih x7_ h_ hh.1 (Nat.lt_of_lt_of_le hh.2 (Nat.le_of_lt_succ hN))) (hs x7 h hI)
  exact key _ _ _ h0 (Nat.lt_succ_self _)
set_option maxRecDepth 100000 in
set_option maxHeartbeats 4000000 in
def wJ_MO_pileFor_87 (G : Gx) (l : Launch) (d w : Nat) (P : Int32 → Hp → Prop) (q0 : Nat) (x1 : Int32) (y2 : Int64) (x4 : Int32) (x5 : Int32) (x6 : Int32) (h : Hp)  : Prop := (hS h q0 = some (18, 0)) ∧ (∃ q_21 : Nat, (hR h q0 38) = some q_21 ∧ (∃ N_23 : Nat, ∃ j_24 : Nat, (hS h q_21 = some (0, N_23) ∧ x1 = nI j_24 ∧ j_24 < N_23 ∧ j_24 < 2147483648) ∧ (∀ x_26 : Int32, x_26 = ((3 * x1) + (hI h q_21 j_24)) → ∃ q_27 : Nat, (hR h q0 35) = some q_27 ∧ (∃ N_29 : Nat, ∃ j_30 : Nat, (hS h q_27 = some (1, N_29) ∧ x_26 = nI j_30 ∧ j_30 < N_29 ∧ j_30 < 2147483648) ∧ (∃ q_32 : Nat, (hR h q0 36) = some q_32 ∧ (∃ N_34 : Nat, ∃ j_35 : Nat, (hS h q_32 = some (0, N_34) ∧ x_26 = nI j_35 ∧ j_35 < N_34 ∧ j_35 < 2147483648) ∧ (∃ q_37 : Nat, (hR h q0 37) = some q_37 ∧ (∃ N_39 : Nat, ∃ j_40 : Nat, (hS h q_37 = some (0, N_39) ∧ x_26 = nI j_40 ∧ j_40 < N_39 ∧ j_40 < 2147483648) ∧ (wL_MO_pileFor_128 G l d w P q0 x1 y2 x4 x5 x_26 0 (pI (pI (pL h q_27 j_30 y2) q_32 j_35 x4) q_37 j_40 x5))))))))))
set_option maxRecDepth 100000 in
set_option maxHeartbeats 4000000 in
theorem okJ_MO_pileFor_87 {G : Gx} {l : Launch} {d w : Nat} {P : Int32 → Hp → Prop} {p : Program} {e : Env} {s : State} {m : MethodId} {args : Array Value} {below : List Frame} {meth : Method} {c : Code} {q0 : Nat} {x1 : Int32} {y2 : Int64} {x4 : Int32} {x5 : Int32} {x6 : Int32} {h : Hp}  (H : wJ_MO_pileFor_87 G l d w P  q0 x1 y2 x4 x5 x6 h ) : Go M_MO_pileFor (mkX G (fun r h' => ∃ x, r = some (.int x) ∧ P x h') (d + 2) (w + 46) 0 0 p l e s m args below meth c) 87 [some (.ref q0), some (.int x1), some (.long y2), none, some (.int x4), some (.int x5), some (.int x6), none] [] h 0 0 := by
  unfold wJ_MO_pileFor_87 at H
  refine g_iconst (v := 3) d_MO_pileFor_87 (by decide) ?_
  refine g_iload_n d_MO_pileFor_88 rfl ?_
  refine g_imul d_MO_pileFor_89 ?_
  refine g_aload_n d_MO_pileFor_90 rfl ?_
  obtain ⟨z_20, H⟩ := H
  refine g_getR d_MO_pileFor_91 f_MO_108 z_20 (by decide) ?_
  refine g_iload_n d_MO_pileFor_94 rfl ?_
  obtain ⟨q_21, e_22, H⟩ := H
  show Go _ _ _ [some (.ref q0), some (.int x1), some (.long y2), none, some (.int x4), some (.int x5), some (.int x6), none] [.int x1, va_rf (hR h q0 38), .int (3 * x1)] _ _ _
  rw [show va_rf (hR h q0 38) = Value.ref q_21 from by rw [e_22]; rfl]
  obtain ⟨N_23, H⟩ := H
  obtain ⟨j_24, H⟩ := H
  obtain ⟨z_25, H⟩ := H
  refine g_iald d_MO_pileFor_95 z_25.1 z_25.2.1 z_25.2.2.1 z_25.2.2.2 ?_
  refine g_iadd d_MO_pileFor_96 ?_
  refine g_topi (fun x_26 ex_26 => ?_)
  replace H := H x_26 ex_26
  refine g_istore (lv' := [some (.ref q0), some (.int x1), some (.long y2), none, some (.int x4), some (.int x5), some (.int x_26), none]) d_MO_pileFor_97 (by decide) rfl ?_
  refine g_aload_n d_MO_pileFor_99 rfl ?_
  refine g_getR d_MO_pileFor_100 f_MO_99 z_20 (by decide) ?_
  refine g_iload d_MO_pileFor_103 rfl ?_
  refine g_lload_n d_MO_pileFor_105 rfl ?_
  obtain ⟨q_27, e_28, H⟩ := H
  show Go _ _ _ [some (.ref q0), some (.int x1), some (.long y2), none, some (.int x4), some (.int x5), some (.int x_26), none] [.long y2, .int x_26, va_rf (hR h q0 35)] _ _ _
  rw [show va_rf (hR h q0 35) = Value.ref q_27 from by rw [e_28]; rfl]
  obtain ⟨N_29, H⟩ := H
  obtain ⟨j_30, H⟩ := H
  obtain ⟨z_31, H⟩ := H
  refine g_last d_MO_pileFor_106 z_31.1 z_31.2.1 z_31.2.2.1 z_31.2.2.2 ?_
  refine g_aload_n d_MO_pileFor_107 rfl ?_
  refine g_getR d_MO_pileFor_108 f_MO_102 z_20 (by decide) ?_
  refine g_iload d_MO_pileFor_111 rfl ?_
  refine g_iload d_MO_pileFor_113 rfl ?_
  obtain ⟨q_32, e_33, H⟩ := H
  show Go _ _ _ [some (.ref q0), some (.int x1), some (.long y2), none, some (.int x4), some (.int x5), some (.int x_26), none] [.int x4, .int x_26, va_rf (hR h q0 36)] _ _ _
  rw [show va_rf (hR h q0 36) = Value.ref q_32 from by rw [e_33]; rfl]
  obtain ⟨N_34, H⟩ := H
  obtain ⟨j_35, H⟩ := H
  obtain ⟨z_36, H⟩ := H
  refine g_iast d_MO_pileFor_115 z_36.1 z_36.2.1 z_36.2.2.1 z_36.2.2.2 ?_
  refine g_aload_n d_MO_pileFor_116 rfl ?_
  refine g_getR d_MO_pileFor_117 f_MO_105 z_20 (by decide) ?_
  refine g_iload d_MO_pileFor_120 rfl ?_
  refine g_iload d_MO_pileFor_122 rfl ?_
  obtain ⟨q_37, e_38, H⟩ := H
  show Go _ _ _ [some (.ref q0), some (.int x1), some (.long y2), none, some (.int x4), some (.int x5), some (.int x_26), none] [.int x5, .int x_26, va_rf (hR h q0 37)] _ _ _
  rw [show va_rf (hR h q0 37) = Value.ref q_37 from by rw [e_38]; rfl]
  obtain ⟨N_39, H⟩ := H
  obtain ⟨j_40, H⟩ := H
  obtain ⟨z_41, H⟩ := H
  refine g_iast d_MO_pileFor_124 z_41.1 z_41.2.1 z_41.2.2.1 z_41.2.2.2 ?_
  refine g_iconst (v := 0) d_MO_pileFor_125 (by decide) ?_
  refine g_istore (lv' := [some (.ref q0), some (.int x1), some (.long y2), none, some (.int x4), some (.int x5), some (.int x_26), some (.int 0)]) d_MO_pileFor_126 (by decide) rfl ?_
  refine g_msk [true, true, true, false, true, true, true, true] ?_
  exact okL_MO_pileFor_128 H
set_option maxRecDepth 100000 in
set_option maxHeartbeats 4000000 in
def wJ_MO_pileFor_65 (G : Gx) (l : Launch) (d w : Nat) (P : Int32 → Hp → Prop) (C3 : Int32 → Hp → Prop) (q0 : Nat) (x1 : Int32) (y2 : Int64) (x4 : Int32) (x5 : Int32) (x6 : Int32) (h : Hp)  : Prop := ∀ x_42 : Int32, x_42 = x6 + 1 → C3 x_42 h
set_option maxRecDepth 100000 in
set_option maxHeartbeats 4000000 in
theorem okJ_MO_pileFor_65 {G : Gx} {l : Launch} {d w : Nat} {P : Int32 → Hp → Prop} {p : Program} {e : Env} {s : State} {m : MethodId} {args : Array Value} {below : List Frame} {meth : Method} {c : Code} {C3 : Int32 → Hp → Prop} {q0 : Nat} {x1 : Int32} {y2 : Int64} {x4 : Int32} {x5 : Int32} {x6 : Int32} (hC3 : ∀ (x6 : Int32) (h : Hp), C3 x6 h → Go M_MO_pileFor (mkX G (fun r h' => ∃ x, r = some (.int x) ∧ P x h') (d + 2) (w + 46) 0 0 p l e s m args below meth c) 3 [some (.ref q0), some (.int x1), some (.long y2), none, some (.int x4), some (.int x5), some (.int x6), none] [] h 0 0) {h : Hp}  (H : wJ_MO_pileFor_65 G l d w P C3 q0 x1 y2 x4 x5 x6 h ) : Go M_MO_pileFor (mkX G (fun r h' => ∃ x, r = some (.int x) ∧ P x h') (d + 2) (w + 46) 0 0 p l e s m args below meth c) 65 [some (.ref q0), some (.int x1), some (.long y2), none, some (.int x4), some (.int x5), some (.int x6), none] [] h 0 0 := by
  unfold wJ_MO_pileFor_65 at H
  obtain ⟨x_42, ex_42⟩ : ∃ z : Int32, z = x6 + 1 := ⟨_, rfl⟩
  replace H := H x_42 ex_42
  refine g_iinc (v := x_42) (lv' := [some (.ref q0), some (.int x1), some (.long y2), none, some (.int x4), some (.int x5), some (.int x_42), none]) d_MO_pileFor_65 rfl (by decide) (by rw [ex_42]; rfl) rfl ?_
  refine g_goto (tgt := 3) d_MO_pileFor_68 (by decide) ?_
  refine g_msk [true, true, true, false, true, true, true, false] ?_
  exact hC3 _ _ H
set_option maxRecDepth 100000 in
set_option maxHeartbeats 4000000 in
def wB_MO_pileFor_3 (G : Gx) (l : Launch) (d w : Nat) (P : Int32 → Hp → Prop) (C3 : Int32 → Hp → Prop) (q0 : Nat) (x1 : Int32) (y2 : Int64) (x4 : Int32) (x5 : Int32) (x6 : Int32) (h : Hp)  : Prop := (hS h q0 = some (18, 0)) ∧ (∃ q_44 : Nat, (hR h q0 38) = some q_44 ∧ (∃ N_46 : Nat, ∃ j_47 : Nat, (hS h q_44 = some (0, N_46) ∧ x1 = nI j_47 ∧ j_47 < N_46 ∧ j_47 < 2147483648) ∧ (((hI h q_44 j_47) ≤ x6 → ∃ q_50 : Nat, (hR h q0 38) = some q_50 ∧ (∃ N_52 : Nat, ∃ j_53 : Nat, (hS h q_50 = some (0, N_52) ∧ x1 = nI j_53 ∧ j_53 < N_52 ∧ j_53 < 2147483648) ∧ ((¬ (hI h q_50 j_53) = 3 → wJ_MO_pileFor_87 G l d w P q0 x1 y2 x4 x5 x6 h) ∧ ((hI h q_50 j_53) = 3 → ∃ P_56 : Hp → Prop, (Cv G l M_MO_dropPile (d + 1) (w + 23) [.ref q0, .int x1, .int 0] h 0 0 P_56) ∧ (∀ h_58 : Hp, P_56 h_58 → wJ_MO_pileFor_87 G l d w P q0 x1 y2 x4 x5 x6 h_58))))) ∧ (¬ (hI h q_44 j_47) ≤ x6 → ∃ q_63 : Nat, (hR h q0 35) = some q_63 ∧ (∃ N_65 : Nat, ∃ j_66 : Nat, (hS h q_63 = some (1, N_65) ∧ ((3 * x1) + x6) = nI j_66 ∧ j_66 < N_65 ∧ j_66 < 2147483648) ∧ ((¬ (lg_cmp (hL h q_63 j_66) y2) = 0 → wJ_MO_pileFor_65 G l d w P C3 q0 x1 y2 x4 x5 x6 h) ∧ ((lg_cmp (hL h q_63 j_66) y2) = 0 → ∃ q_69 : Nat, (hR h q0 36) = some q_69 ∧ (∃ N_71 : Nat, ∃ j_72 : Nat, (hS h q_69 = some (0, N_71) ∧ ((3 * x1) + x6) = nI j_72 ∧ j_72 < N_71 ∧ j_72 < 2147483648) ∧ ((¬ (hI h q_69 j_72) = x4 → wJ_MO_pileFor_65 G l d w P C3 q0 x1 y2 x4 x5 x6 h) ∧ ((hI h q_69 j_72) = x4 → ∃ q_75 : Nat, (hR h q0 37) = some q_75 ∧ (∃ N_77 : Nat, ∃ j_78 : Nat, (hS h q_75 = some (0, N_77) ∧ ((3 * x1) + x6) = nI j_78 ∧ j_78 < N_77 ∧ j_78 < 2147483648) ∧ ((¬ (hI h q_75 j_78) = x5 → wJ_MO_pileFor_65 G l d w P C3 q0 x1 y2 x4 x5 x6 h) ∧ ((hI h q_75 j_78) = x5 → P x6 h)))))))))))))
set_option maxRecDepth 100000 in
set_option maxHeartbeats 4000000 in
theorem okB_MO_pileFor_3 {G : Gx} {l : Launch} {d w : Nat} {P : Int32 → Hp → Prop} {p : Program} {e : Env} {s : State} {m : MethodId} {args : Array Value} {below : List Frame} {meth : Method} {c : Code} {C3 : Int32 → Hp → Prop} {q0 : Nat} {x1 : Int32} {y2 : Int64} {x4 : Int32} {x5 : Int32} {x6 : Int32} (hC3 : ∀ (x6 : Int32) (h : Hp), C3 x6 h → Go M_MO_pileFor (mkX G (fun r h' => ∃ x, r = some (.int x) ∧ P x h') (d + 2) (w + 46) 0 0 p l e s m args below meth c) 3 [some (.ref q0), some (.int x1), some (.long y2), none, some (.int x4), some (.int x5), some (.int x6), none] [] h 0 0) {h : Hp}  (H : wB_MO_pileFor_3 G l d w P C3 q0 x1 y2 x4 x5 x6 h ) : Go M_MO_pileFor (mkX G (fun r h' => ∃ x, r = some (.int x) ∧ P x h') (d + 2) (w + 46) 0 0 p l e s m args below meth c) 3 [some (.ref q0), some (.int x1), some (.long y2), none, some (.int x4), some (.int x5), some (.int x6), none] [] h 0 0 := by
  unfold wB_MO_pileFor_3 at H
  refine g_iload d_MO_pileFor_3 rfl ?_
  refine g_aload_n d_MO_pileFor_5 rfl ?_
  obtain ⟨z_43, H⟩ := H
  refine g_getR d_MO_pileFor_6 f_MO_108 z_43 (by decide) ?_
  refine g_iload_n d_MO_pileFor_9 rfl ?_
  obtain ⟨q_44, e_45, H⟩ := H
  show Go _ _ _ [some (.ref q0), some (.int x1), some (.long y2), none, some (.int x4), some (.int x5), some (.int x6), none] [.int x1, va_rf (hR h q0 38), .int x6] _ _ _
  rw [show va_rf (hR h q0 38) = Value.ref q_44 from by rw [e_45]; rfl]
  obtain ⟨N_46, H⟩ := H
  obtain ⟨j_47, H⟩ := H
  obtain ⟨z_48, H⟩ := H
  refine g_iald d_MO_pileFor_10 z_48.1 z_48.2.1 z_48.2.2.1 z_48.2.2.2 ?_
  obtain ⟨H1, H2⟩ := H
  refine g_icmp_ge (tgt := 71) d_MO_pileFor_11 (by decide) (fun c_49 => ?_) (fun c_49 => ?_)
  · have H := H1 c_49
    refine g_aload_n d_MO_pileFor_71 rfl ?_
    refine g_getR d_MO_pileFor_72 f_MO_108 z_43 (by decide) ?_
    refine g_iload_n d_MO_pileFor_75 rfl ?_
    obtain ⟨q_50, e_51, H⟩ := H
    show Go _ _ _ [some (.ref q0), some (.int x1), some (.long y2), none, some (.int x4), some (.int x5), some (.int x6), none] [.int x1, va_rf (hR h q0 38)] _ _ _
    rw [show va_rf (hR h q0 38) = Value.ref q_50 from by rw [e_51]; rfl]
    obtain ⟨N_52, H⟩ := H
    obtain ⟨j_53, H⟩ := H
    obtain ⟨z_54, H⟩ := H
    refine g_iald d_MO_pileFor_76 z_54.1 z_54.2.1 z_54.2.2.1 z_54.2.2.2 ?_
    refine g_iconst (v := 3) d_MO_pileFor_77 (by decide) ?_
    obtain ⟨H1, H2⟩ := H
    refine g_icmp_ne (tgt := 87) d_MO_pileFor_78 (by decide) (fun c_55 => ?_) (fun c_55 => ?_)
    · have H := H1 c_55
      refine g_msk [true, true, true, false, true, true, true, false] ?_
      exact okJ_MO_pileFor_87 H
    · have H := H2 c_55
      refine g_aload_n d_MO_pileFor_81 rfl ?_
      refine g_iload_n d_MO_pileFor_82 rfl ?_
      refine g_iconst (v := 0) d_MO_pileFor_83 (by decide) ?_
      obtain ⟨P_56, C_57, H⟩ := H
      refine q_V (As := [.int x1, .int 0]) (st := []) (nl := 4) d_MO_pileFor_84 v_MO_256 C_57 z_43 rfl (catS_le (Nat.le_of_ble_eq_true rfl)) rfl ⟨by omega, by omega, Nat.le_refl _, Nat.le_refl _⟩ (fun r_62 h_58 p_59 => ?_)
      obtain ⟨rfl, p_59⟩ := p_59
      replace H := H h_58 p_59
      show Go _ _ _ _ [] _ _ _
      refine g_msk [true, true, true, false, true, true, true, false] ?_
      exact okJ_MO_pileFor_87 H
  · have H := H2 c_49
    refine g_aload_n d_MO_pileFor_14 rfl ?_
    refine g_getR d_MO_pileFor_15 f_MO_99 z_43 (by decide) ?_
    refine g_iconst (v := 3) d_MO_pileFor_18 (by decide) ?_
    refine g_iload_n d_MO_pileFor_19 rfl ?_
    refine g_imul d_MO_pileFor_20 ?_
    refine g_iload d_MO_pileFor_21 rfl ?_
    refine g_iadd d_MO_pileFor_23 ?_
    obtain ⟨q_63, e_64, H⟩ := H
    show Go _ _ _ [some (.ref q0), some (.int x1), some (.long y2), none, some (.int x4), some (.int x5), some (.int x6), none] [.int ((3 * x1) + x6), va_rf (hR h q0 35)] _ _ _
    rw [show va_rf (hR h q0 35) = Value.ref q_63 from by rw [e_64]; rfl]
    obtain ⟨N_65, H⟩ := H
    obtain ⟨j_66, H⟩ := H
    obtain ⟨z_67, H⟩ := H
    refine g_lald d_MO_pileFor_24 z_67.1 z_67.2.1 z_67.2.2.1 z_67.2.2.2 ?_
    refine g_lload_n d_MO_pileFor_25 rfl ?_
    refine g_lcmp d_MO_pileFor_26 ?_
    obtain ⟨H1, H2⟩ := H
    refine g_if_ne (tgt := 65) d_MO_pileFor_27 (by decide) (fun c_68 => ?_) (fun c_68 => ?_)
    · have H := H1 c_68
      refine g_msk [true, true, true, false, true, true, true, false] ?_
      exact okJ_MO_pileFor_65 hC3 H
    · have H := H2 c_68
      refine g_aload_n d_MO_pileFor_30 rfl ?_
      refine g_getR d_MO_pileFor_31 f_MO_102 z_43 (by decide) ?_
      refine g_iconst (v := 3) d_MO_pileFor_34 (by decide) ?_
      refine g_iload_n d_MO_pileFor_35 rfl ?_
      refine g_imul d_MO_pileFor_36 ?_
      refine g_iload d_MO_pileFor_37 rfl ?_
      refine g_iadd d_MO_pileFor_39 ?_
      obtain ⟨q_69, e_70, H⟩ := H
      show Go _ _ _ [some (.ref q0), some (.int x1), some (.long y2), none, some (.int x4), some (.int x5), some (.int x6), none] [.int ((3 * x1) + x6), va_rf (hR h q0 36)] _ _ _
      rw [show va_rf (hR h q0 36) = Value.ref q_69 from by rw [e_70]; rfl]
      obtain ⟨N_71, H⟩ := H
      obtain ⟨j_72, H⟩ := H
      obtain ⟨z_73, H⟩ := H
      refine g_iald d_MO_pileFor_40 z_73.1 z_73.2.1 z_73.2.2.1 z_73.2.2.2 ?_
      refine g_iload d_MO_pileFor_41 rfl ?_
      obtain ⟨H1, H2⟩ := H
      refine g_icmp_ne (tgt := 65) d_MO_pileFor_43 (by decide) (fun c_74 => ?_) (fun c_74 => ?_)
      · have H := H1 c_74
        refine g_msk [true, true, true, false, true, true, true, false] ?_
        exact okJ_MO_pileFor_65 hC3 H
      · have H := H2 c_74
        refine g_aload_n d_MO_pileFor_46 rfl ?_
        refine g_getR d_MO_pileFor_47 f_MO_105 z_43 (by decide) ?_
        refine g_iconst (v := 3) d_MO_pileFor_50 (by decide) ?_
        refine g_iload_n d_MO_pileFor_51 rfl ?_
        refine g_imul d_MO_pileFor_52 ?_
        refine g_iload d_MO_pileFor_53 rfl ?_
        refine g_iadd d_MO_pileFor_55 ?_
        obtain ⟨q_75, e_76, H⟩ := H
        show Go _ _ _ [some (.ref q0), some (.int x1), some (.long y2), none, some (.int x4), some (.int x5), some (.int x6), none] [.int ((3 * x1) + x6), va_rf (hR h q0 37)] _ _ _
        rw [show va_rf (hR h q0 37) = Value.ref q_75 from by rw [e_76]; rfl]
        obtain ⟨N_77, H⟩ := H
        obtain ⟨j_78, H⟩ := H
        obtain ⟨z_79, H⟩ := H
        refine g_iald d_MO_pileFor_56 z_79.1 z_79.2.1 z_79.2.2.1 z_79.2.2.2 ?_
        refine g_iload d_MO_pileFor_57 rfl ?_
        obtain ⟨H1, H2⟩ := H
        refine g_icmp_ne (tgt := 65) d_MO_pileFor_59 (by decide) (fun c_80 => ?_) (fun c_80 => ?_)
        · have H := H1 c_80
          refine g_msk [true, true, true, false, true, true, true, false] ?_
          exact okJ_MO_pileFor_65 hC3 H
        · have H := H2 c_80
          refine g_iload d_MO_pileFor_62 rfl ?_
          exact g_ireturn d_MO_pileFor_64 rfl (Nat.le_refl _) (Nat.le_refl _) ⟨_, rfl, H⟩
set_option maxRecDepth 100000 in
set_option maxHeartbeats 4000000 in
def wL_MO_pileFor_3 (G : Gx) (l : Launch) (d w : Nat) (P : Int32 → Hp → Prop) (q0 : Nat) (x1 : Int32) (y2 : Int64) (x4 : Int32) (x5 : Int32) (x6 : Int32) (h : Hp)  : Prop := ∃ (I : Int32 → Hp → Prop) (μ : Int32 → Hp → Nat), I x6 h ∧ ∀ (x6' : Int32) (h' : Hp), I x6' h' → wB_MO_pileFor_3 G l d w P (fun x6_ h_ => I x6_ h_ ∧ μ x6_ h_ < μ x6' h') q0 x1 y2 x4 x5 x6' h'
set_option maxRecDepth 100000 in
set_option maxHeartbeats 4000000 in
theorem okL_MO_pileFor_3 {G : Gx} {l : Launch} {d w : Nat} {P : Int32 → Hp → Prop} {p : Program} {e : Env} {s : State} {m : MethodId} {args : Array Value} {below : List Frame} {meth : Method} {c : Code} {q0 : Nat} {x1 : Int32} {y2 : Int64} {x4 : Int32} {x5 : Int32} {x6 : Int32} {h : Hp}  (H : wL_MO_pileFor_3 G l d w P  q0 x1 y2 x4 x5 x6 h ) : Go M_MO_pileFor (mkX G (fun r h' => ∃ x, r = some (.int x) ∧ P x h') (d + 2) (w + 46) 0 0 p l e s m args below meth c) 3 [some (.ref q0), some (.int x1), some (.long y2), none, some (.int x4), some (.int x5), some (.int x6), none] [] h 0 0 := by
  obtain ⟨I, μ, h0, hs⟩ := H
  have key : ∀ (N : Nat) (x6 : Int32) (h : Hp), I x6 h → μ x6 h < N → Go M_MO_pileFor (mkX G (fun r h' => ∃ x, r = some (.int x) ∧ P x h') (d + 2) (w + 46) 0 0 p l e s m args below meth c) 3 [some (.ref q0), some (.int x1), some (.long y2), none, some (.int x4), some (.int x5), some (.int x6), none] [] h 0 0 := by
    intro N
    induction N with
    | zero => intro x6 h _ hN; exact absurd hN (Nat.not_lt_zero _)
    | succ N ih =>
      intro x6 h hI hN
      exact okB_MO_pileFor_3 (fun x6_ h_ hh => ih x6_ h_ hh.1 (Nat.lt_of_lt_of_le hh.2 (Nat.le_of_lt_succ hN))) (hs x6 h hI)
  exact key _ _ _ h0 (Nat.lt_succ_self _)
set_option maxRecDepth 100000 in
set_option maxHeartbeats 4000000 in
def wp_MO_pileFor (G : Gx) (l : Launch) (d w : Nat) (P : Int32 → Hp → Prop) (q0 : Nat) (x1 : Int32) (y2 : Int64) (x4 : Int32) (x5 : Int32) (h : Hp) : Prop := wL_MO_pileFor_3 G l d w P q0 x1 y2 x4 x5 0 h
set_option maxRecDepth 100000 in
set_option maxHeartbeats 4000000 in
theorem ok_MO_pileFor {G : Gx} {l : Launch} {d w : Nat} {P : Int32 → Hp → Prop} {q0 : Nat} {x1 : Int32} {y2 : Int64} {x4 : Int32} {x5 : Int32} {h : Hp} (H : wp_MO_pileFor G l d w P q0 x1 y2 x4 x5 h) : Ci G l M_MO_pileFor (d + 2) (w + 46) [.ref q0, .int x1, .long y2, .int x4, .int x5] h 0 0 P := by
  unfold wp_MO_pileFor at H
  refine Ct.of (lv := [some (.ref q0), some (.int x1), some (.long y2), none, some (.int x4), some (.int x5), none, none]) (by decide) (Nat.le_of_ble_eq_true rfl) rfl (fun p e s m args below meth c => ?_)
  refine g_iconst (v := 0) d_MO_pileFor_0 (by decide) ?_
  refine g_istore (lv' := [some (.ref q0), some (.int x1), some (.long y2), none, some (.int x4), some (.int x5), some (.int 0), none]) d_MO_pileFor_1 (by decide) rfl ?_
  refine g_msk [true, true, true, false, true, true, true, false] ?_
  exact okL_MO_pileFor_3 H
set_option maxRecDepth 100000 in
set_option maxHeartbeats 4000000 in
def wB_MO_together_19 (G : Gx) (l : Launch) (d w : Nat) (P : Hp → Prop) (C5 : Int32 → Int32 → Hp → Prop) (C19 : Int32 → Int32 → Hp → Prop) (q0 : Nat) (x1 : Int32) (x2 : Int32) (x3 : Int32) (x4 : Int32) (x5 : Int32) (h : Hp)  : Prop := (hS h q0 = some (18, 0)) ∧ (∃ q_2 : Nat, (hR h q0 39) = some q_2 ∧ (∃ N_4 : Nat, ∃ j_5 : Nat, (hS h q_2 = some (0, N_4) ∧ ((3 * x2) + x4) = nI j_5 ∧ j_5 < N_4 ∧ j_5 < 2147483648) ∧ (((hI h q_2 j_5) ≤ x5 → ∀ x_8 : Int32, x_8 = x4 + 1 → C5 x3 x_8 h) ∧ (¬ (hI h q_2 j_5) ≤ x5 → ∃ q_9 : Nat, (hR h q0 40) = some q_9 ∧ (∃ N_11 : Nat, ∃ j_12 : Nat, (hS h q_9 = some (0, N_11) ∧ ((153 * ((3 * x2) + x4)) + x5) = nI j_12 ∧ j_12 < N_11 ∧ j_12 < 2147483648) ∧ (∃ q_14 : Nat, (hR h q0 9) = some q_14 ∧ (∃ N_16 : Nat, ∃ j_17 : Nat, (hS h q_14 = some (0, N_16) ∧ ((480 * x1) + x3) = nI j_17 ∧ j_17 < N_16 ∧ j_17 < 2147483648) ∧ (∀ x_19 : Int32, x_19 = x3 + 1 → ∀ x_20 : Int32, x_20 = x5 + 1 → C19 x_19 x_20 (pI h q_14 j_17 (hI h q_9 j_12))))))))))
set_option maxRecDepth 100000 in
set_option maxHeartbeats 4000000 in
theorem okB_MO_together_19 {G : Gx} {l : Launch} {d w : Nat} {P : Hp → Prop} {p : Program} {e : Env} {s : State} {m : MethodId} {args : Array Value} {below : List Frame} {meth : Method} {c : Code} {C5 : Int32 → Int32 → Hp → Prop} {C19 : Int32 → Int32 → Hp → Prop} {q0 : Nat} {x1 : Int32} {x2 : Int32} {x3 : Int32} {x4 : Int32} {x5 : Int32} (hC5 : ∀ (x3 : Int32) (x4 : Int32) (h : Hp), C5 x3 x4 h → Go M_MO_together (mkX G (fun r h' => r = none ∧ P h') (d + 0) (w + 0) 0 0 p l e s m args below meth c) 5 [some (.ref q0), some (.int x1), some (.int x2), some (.int x3), some (.int x4), none] [] h 0 0) (hC19 : ∀ (x3 : Int32) (x5 : Int32) (h : Hp), C19 x3 x5 h → Go M_MO_together (mkX G (fun r h' => r = none ∧ P h') (d + 0) (w + 0) 0 0 p l e s m args below meth c) 19 [some (.ref q0), some (.int x1), some (.int x2), some (.int x3), some (.int x4), some (.int x5)] [] h 0 0) {h : Hp}  (H : wB_MO_together_19 G l d w P C5 C19 q0 x1 x2 x3 x4 x5 h ) : Go M_MO_together (mkX G (fun r h' => r = none ∧ P h') (d + 0) (w + 0) 0 0 p l e s m args below meth c) 19 [some (.ref q0), some (.int x1), some (.int x2), some (.int x3), some (.int x4), some (.int x5)] [] h 0 0 := by
  unfold wB_MO_together_19 at H
  refine g_iload d_MO_together_19 rfl ?_
  refine g_aload_n d_MO_together_21 rfl ?_
  obtain ⟨z_1, H⟩ := H
  refine g_getR d_MO_together_22 f_MO_111 z_1 (by decide) ?_
  refine g_iconst (v := 3) d_MO_together_25 (by decide) ?_
  refine g_iload_n d_MO_together_26 rfl ?_
  refine g_imul d_MO_together_27 ?_
  refine g_iload d_MO_together_28 rfl ?_
  refine g_iadd d_MO_together_30 ?_
  obtain ⟨q_2, e_3, H⟩ := H
  show Go _ _ _ [some (.ref q0), some (.int x1), some (.int x2), some (.int x3), some (.int x4), some (.int x5)] [.int ((3 * x2) + x4), va_rf (hR h q0 39), .int x5] _ _ _
  rw [show va_rf (hR h q0 39) = Value.ref q_2 from by rw [e_3]; rfl]
  obtain ⟨N_4, H⟩ := H
  obtain ⟨j_5, H⟩ := H
  obtain ⟨z_6, H⟩ := H
  refine g_iald d_MO_together_31 z_6.1 z_6.2.1 z_6.2.2.1 z_6.2.2.2 ?_
  obtain ⟨H1, H2⟩ := H
  refine g_icmp_ge (tgt := 74) d_MO_together_32 (by decide) (fun c_7 => ?_) (fun c_7 => ?_)
  · have H := H1 c_7
    obtain ⟨x_8, ex_8⟩ : ∃ z : Int32, z = x4 + 1 := ⟨_, rfl⟩
    replace H := H x_8 ex_8
    refine g_iinc (v := x_8) (lv' := [some (.ref q0), some (.int x1), some (.int x2), some (.int x3), some (.int x_8), some (.int x5)]) d_MO_together_74 rfl (by decide) (by rw [ex_8]; rfl) rfl ?_
    refine g_goto (tgt := 5) d_MO_together_77 (by decide) ?_
    refine g_msk [true, true, true, true, true, false] ?_
    exact hC5 _ _ _ H
  · have H := H2 c_7
    refine g_aload_n d_MO_together_35 rfl ?_
    refine g_getR d_MO_together_36 f_MO_33 z_1 (by decide) ?_
    refine g_sipush (v := 480) d_MO_together_39 (by decide) ?_
    refine g_iload_n d_MO_together_42 rfl ?_
    refine g_imul d_MO_together_43 ?_
    refine g_iload_n d_MO_together_44 rfl ?_
    refine g_iadd d_MO_together_45 ?_
    refine g_aload_n d_MO_together_46 rfl ?_
    refine g_getR d_MO_together_47 f_MO_114 z_1 (by decide) ?_
    refine g_sipush (v := 153) d_MO_together_50 (by decide) ?_
    refine g_iconst (v := 3) d_MO_together_53 (by decide) ?_
    refine g_iload_n d_MO_together_54 rfl ?_
    refine g_imul d_MO_together_55 ?_
    refine g_iload d_MO_together_56 rfl ?_
    refine g_iadd d_MO_together_58 ?_
    refine g_imul d_MO_together_59 ?_
    refine g_iload d_MO_together_60 rfl ?_
    refine g_iadd d_MO_together_62 ?_
    obtain ⟨q_9, e_10, H⟩ := H
    show Go _ _ _ [some (.ref q0), some (.int x1), some (.int x2), some (.int x3), some (.int x4), some (.int x5)] [.int ((153 * ((3 * x2) + x4)) + x5), va_rf (hR h q0 40), .int ((480 * x1) + x3), va_rf (hR h q0 9)] _ _ _
    rw [show va_rf (hR h q0 40) = Value.ref q_9 from by rw [e_10]; rfl]
    obtain ⟨N_11, H⟩ := H
    obtain ⟨j_12, H⟩ := H
    obtain ⟨z_13, H⟩ := H
    refine g_iald d_MO_together_63 z_13.1 z_13.2.1 z_13.2.2.1 z_13.2.2.2 ?_
    obtain ⟨q_14, e_15, H⟩ := H
    show Go _ _ _ [some (.ref q0), some (.int x1), some (.int x2), some (.int x3), some (.int x4), some (.int x5)] [.int (hI h q_9 j_12), .int ((480 * x1) + x3), va_rf (hR h q0 9)] _ _ _
    rw [show va_rf (hR h q0 9) = Value.ref q_14 from by rw [e_15]; rfl]
    obtain ⟨N_16, H⟩ := H
    obtain ⟨j_17, H⟩ := H
    obtain ⟨z_18, H⟩ := H
    refine g_iast d_MO_together_64 z_18.1 z_18.2.1 z_18.2.2.1 z_18.2.2.2 ?_
    obtain ⟨x_19, ex_19⟩ : ∃ z : Int32, z = x3 + 1 := ⟨_, rfl⟩
    replace H := H x_19 ex_19
    refine g_iinc (v := x_19) (lv' := [some (.ref q0), some (.int x1), some (.int x2), some (.int x_19), some (.int x4), some (.int x5)]) d_MO_together_65 rfl (by decide) (by rw [ex_19]; rfl) rfl ?_
    obtain ⟨x_20, ex_20⟩ : ∃ z : Int32, z = x5 + 1 := ⟨_, rfl⟩
    replace H := H x_20 ex_20
    refine g_iinc (v := x_20) (lv' := [some (.ref q0), some (.int x1), some (.int x2), some (.int x_19), some (.int x4), some (.int x_20)]) d_MO_together_68 rfl (by decide) (by rw [ex_20]; rfl) rfl ?_
    refine g_goto (tgt := 19) d_MO_together_71 (by decide) ?_
    refine g_msk [true, true, true, true, true, true] ?_
    exact hC19 _ _ _ H
set_option maxRecDepth 100000 in
set_option maxHeartbeats 4000000 in
def wL_MO_together_19 (G : Gx) (l : Launch) (d w : Nat) (P : Hp → Prop) (C5 : Int32 → Int32 → Hp → Prop) (q0 : Nat) (x1 : Int32) (x2 : Int32) (x3 : Int32) (x4 : Int32) (x5 : Int32) (h : Hp)  : Prop := ∃ (I : Int32 → Int32 → Hp → Prop) (μ : Int32 → Int32 → Hp → Nat), I x3 x5 h ∧ ∀ (x3' : Int32) (x5' : Int32) (h' : Hp), I x3' x5' h' → wB_MO_together_19 G l d w P C5 (fun x3_ x5_ h_ => I x3_ x5_ h_ ∧ μ x3_ x5_ h_ < μ x3' x5' h') q0 x1 x2 x3' x4 x5' h'
set_option maxRecDepth 100000 in
set_option maxHeartbeats 4000000 in
theorem okL_MO_together_19 {G : Gx} {l : Launch} {d w : Nat} {P : Hp → Prop} {p : Program} {e : Env} {s : State} {m : MethodId} {args : Array Value} {below : List Frame} {meth : Method} {c : Code} {C5 : Int32 → Int32 → Hp → Prop} {q0 : Nat} {x1 : Int32} {x2 : Int32} {x3 : Int32} {x4 : Int32} {x5 : Int32} (hC5 : ∀ (x3 : Int32) (x4 : Int32) (h : Hp), C5 x3 x4 h → Go M_MO_together (mkX G (fun r h' => r = none ∧ P h') (d + 0) (w + 0) 0 0 p l e s m args below meth c) 5 [some (.ref q0), some (.int x1), some (.int x2), some (.int x3), some (.int x4), none] [] h 0 0) {h : Hp}  (H : wL_MO_together_19 G l d w P C5 q0 x1 x2 x3 x4 x5 h ) : Go M_MO_together (mkX G (fun r h' => r = none ∧ P h') (d + 0) (w + 0) 0 0 p l e s m args below meth c) 19 [some (.ref q0), some (.int x1), some (.int x2), some (.int x3), some (.int x4), some (.int x5)] [] h 0 0 := by
  obtain ⟨I, μ, h0, hs⟩ := H
  have key : ∀ (N : Nat) (x3 : Int32) (x5 : Int32) (h : Hp), I x3 x5 h → μ x3 x5 h < N → Go M_MO_together (mkX G (fun r h' => r = none ∧ P h') (d + 0) (w + 0) 0 0 p l e s m args below meth c) 19 [some (.ref q0), some (.int x1), some (.int x2), some (.int x3), some (.int x4), some (.int x5)] [] h 0 0 := by
    intro N
    induction N with
    | zero => intro x3 x5 h _ hN; exact absurd hN (Nat.not_lt_zero _)
    | succ N ih =>
      intro x3 x5 h hI hN
      exact okB_MO_together_19 hC5 (fun x3_ x5_ h_ hh => ih x3_ x5_ h_ hh.1 (Nat.lt_of_lt_of_le hh.2 (Nat.le_of_lt_succ hN))) (hs x3 x5 h hI)
  exact key _ _ _ _ h0 (Nat.lt_succ_self _)
set_option maxRecDepth 100000 in
set_option maxHeartbeats 4000000 in
def wB_MO_together_5 (G : Gx) (l : Launch) (d w : Nat) (P : Hp → Prop) (C5 : Int32 → Int32 → Hp → Prop) (q0 : Nat) (x1 : Int32) (x2 : Int32) (x3 : Int32) (x4 : Int32) (h : Hp)  : Prop := (hS h q0 = some (18, 0)) ∧ (∃ q_22 : Nat, (hR h q0 37) = some q_22 ∧ (∃ N_24 : Nat, ∃ j_25 : Nat, (hS h q_22 = some (0, N_24) ∧ x2 = nI j_25 ∧ j_25 < N_24 ∧ j_25 < 2147483648) ∧ (((hI h q_22 j_25) ≤ x4 → ∃ q_28 : Nat, (hR h q0 8) = some q_28 ∧ (∃ N_30 : Nat, ∃ j_31 : Nat, (hS h q_28 = some (0, N_30) ∧ x1 = nI j_31 ∧ j_31 < N_30 ∧ j_31 < 2147483648) ∧ (P (pI h q_28 j_31 x3)))) ∧ (¬ (hI h q_22 j_25) ≤ x4 → wL_MO_together_19 G l d w P C5 q0 x1 x2 x3 x4 0 h))))
set_option maxRecDepth 100000 in
set_option maxHeartbeats 4000000 in
theorem okB_MO_together_5 {G : Gx} {l : Launch} {d w : Nat} {P : Hp → Prop} {p : Program} {e : Env} {s : State} {m : MethodId} {args : Array Value} {below : List Frame} {meth : Method} {c : Code} {C5 : Int32 → Int32 → Hp → Prop} {q0 : Nat} {x1 : Int32} {x2 : Int32} {x3 : Int32} {x4 : Int32} (hC5 : ∀ (x3 : Int32) (x4 : Int32) (h : Hp), C5 x3 x4 h → Go M_MO_together (mkX G (fun r h' => r = none ∧ P h') (d + 0) (w + 0) 0 0 p l e s m args below meth c) 5 [some (.ref q0), some (.int x1), some (.int x2), some (.int x3), some (.int x4), none] [] h 0 0) {h : Hp}  (H : wB_MO_together_5 G l d w P C5 q0 x1 x2 x3 x4 h ) : Go M_MO_together (mkX G (fun r h' => r = none ∧ P h') (d + 0) (w + 0) 0 0 p l e s m args below meth c) 5 [some (.ref q0), some (.int x1), some (.int x2), some (.int x3), some (.int x4), none] [] h 0 0 := by
  unfold wB_MO_together_5 at H
  refine g_iload d_MO_together_5 rfl ?_
  refine g_aload_n d_MO_together_7 rfl ?_
  obtain ⟨z_21, H⟩ := H
  refine g_getR d_MO_together_8 f_MO_105 z_21 (by decide) ?_
  refine g_iload_n d_MO_together_11 rfl ?_
  obtain ⟨q_22, e_23, H⟩ := H
  show Go _ _ _ [some (.ref q0), some (.int x1), some (.int x2), some (.int x3), some (.int x4), none] [.int x2, va_rf (hR h q0 37), .int x4] _ _ _
  rw [show va_rf (hR h q0 37) = Value.ref q_22 from by rw [e_23]; rfl]
  obtain ⟨N_24, H⟩ := H
  obtain ⟨j_25, H⟩ := H
  obtain ⟨z_26, H⟩ := H
  refine g_iald d_MO_together_12 z_26.1 z_26.2.1 z_26.2.2.1 z_26.2.2.2 ?_
  obtain ⟨H1, H2⟩ := H
  refine g_icmp_ge (tgt := 80) d_MO_together_13 (by decide) (fun c_27 => ?_) (fun c_27 => ?_)
  · have H := H1 c_27
    refine g_aload_n d_MO_together_80 rfl ?_
    refine g_getR d_MO_together_81 f_MO_30 z_21 (by decide) ?_
    refine g_iload_n d_MO_together_84 rfl ?_
    refine g_iload_n d_MO_together_85 rfl ?_
    obtain ⟨q_28, e_29, H⟩ := H
    show Go _ _ _ [some (.ref q0), some (.int x1), some (.int x2), some (.int x3), some (.int x4), none] [.int x3, .int x1, va_rf (hR h q0 8)] _ _ _
    rw [show va_rf (hR h q0 8) = Value.ref q_28 from by rw [e_29]; rfl]
    obtain ⟨N_30, H⟩ := H
    obtain ⟨j_31, H⟩ := H
    obtain ⟨z_32, H⟩ := H
    refine g_iast d_MO_together_86 z_32.1 z_32.2.1 z_32.2.2.1 z_32.2.2.2 ?_
    exact g_return d_MO_together_87 rfl (Nat.le_refl _) (Nat.le_refl _) ⟨rfl, H⟩
  · have H := H2 c_27
    refine g_iconst (v := 0) d_MO_together_16 (by decide) ?_
    refine g_istore (lv' := [some (.ref q0), some (.int x1), some (.int x2), some (.int x3), some (.int x4), some (.int 0)]) d_MO_together_17 (by decide) rfl ?_
    refine g_msk [true, true, true, true, true, true] ?_
    exact okL_MO_together_19 hC5 H
set_option maxRecDepth 100000 in
set_option maxHeartbeats 4000000 in
def wL_MO_together_5 (G : Gx) (l : Launch) (d w : Nat) (P : Hp → Prop) (q0 : Nat) (x1 : Int32) (x2 : Int32) (x3 : Int32) (x4 : Int32) (h : Hp)  : Prop := ∃ (I : Int32 → Int32 → Hp → Prop) (μ : Int32 → Int32 → Hp → Nat), I x3 x4 h ∧ ∀ (x3' : Int32) (x4' : Int32) (h' : Hp), I x3' x4' h' → wB_MO_together_5 G l d w P (fun x3_ x4_ h_ => I x3_ x4_ h_ ∧ μ x3_ x4_ h_ < μ x3' x4' h') q0 x1 x2 x3' x4' h'
set_option maxRecDepth 100000 in
set_option maxHeartbeats 4000000 in
theorem okL_MO_together_5 {G : Gx} {l : Launch} {d w : Nat} {P : Hp → Prop} {p : Program} {e : Env} {s : State} {m : MethodId} {args : Array Value} {below : List Frame} {meth : Method} {c : Code} {q0 : Nat} {x1 : Int32} {x2 : Int32} {x3 : Int32} {x4 : Int32} {h : Hp}  (H : wL_MO_together_5 G l d w P  q0 x1 x2 x3 x4 h ) : Go M_MO_together (mkX G (fun r h' => r = none ∧ P h') (d + 0) (w + 0) 0 0 p l e s m args below meth c) 5 [some (.ref q0), some (.int x1), some (.int x2), some (.int x3), some (.int x4), none] [] h 0 0 := by
  obtain ⟨I, μ, h0, hs⟩ := H
  have key : ∀ (N : Nat) (x3 : Int32) (x4 : Int32) (h : Hp), I x3 x4 h → μ x3 x4 h < N → Go M_MO_together (mkX G (fun r h' => r = none ∧ P h') (d + 0) (w + 0) 0 0 p l e s m args below meth c) 5 [some (.ref q0), some (.int x1), some (.int x2), some (.int x3), some (.int x4), none] [] h 0 0 := by
    intro N
    induction N with
    | zero => intro x3 x4 h _ hN; exact absurd hN (Nat.not_lt_zero _)
    | succ N ih =>
      intro x3 x4 h hI hN
      exact okB_MO_together_5 (fun x3_ x4_ h_ hh => ih x3_ x4_ h_ hh.1 (Nat.lt_of_lt_of_le hh.2 (Nat.le_of_lt_succ hN))) (hs x3 x4 h hI)
  exact key _ _ _ _ h0 (Nat.lt_succ_self _)
set_option maxRecDepth 100000 in
set_option maxHeartbeats 4000000 in
def wp_MO_together (G : Gx) (l : Launch) (d w : Nat) (P : Hp → Prop) (q0 : Nat) (x1 : Int32) (x2 : Int32) (h : Hp) : Prop := wL_MO_together_5 G l d w P q0 x1 x2 0 0 h
set_option maxRecDepth 100000 in
set_option maxHeartbeats 4000000 in
theorem ok_MO_together {G : Gx} {l : Launch} {d w : Nat} {P : Hp → Prop} {q0 : Nat} {x1 : Int32} {x2 : Int32} {h : Hp} (H : wp_MO_together G l d w P q0 x1 x2 h) : Cv G l M_MO_together (d + 0) (w + 0) [.ref q0, .int x1, .int x2] h 0 0 P := by
  unfold wp_MO_together at H
  refine Ct.of (lv := [some (.ref q0), some (.int x1), some (.int x2), none, none, none]) (by decide) (Nat.le_of_ble_eq_true rfl) rfl (fun p e s m args below meth c => ?_)
  refine g_iconst (v := 0) d_MO_together_0 (by decide) ?_
  refine g_istore_n (lv' := [some (.ref q0), some (.int x1), some (.int x2), some (.int 0), none, none]) d_MO_together_1 (by decide) rfl ?_
  refine g_iconst (v := 0) d_MO_together_2 (by decide) ?_
  refine g_istore (lv' := [some (.ref q0), some (.int x1), some (.int x2), some (.int 0), some (.int 0), none]) d_MO_together_3 (by decide) rfl ?_
  refine g_msk [true, true, true, true, true, false] ?_
  exact okL_MO_together_5 H
set_option maxRecDepth 100000 in
set_option maxHeartbeats 4000000 in
def wJ_MO_take_242 (G : Gx) (l : Launch) (d w : Nat) (P : Int32 → Hp → Prop) (C206 : Int32 → Int32 → Hp → Prop) (q0 : Nat) (x1 : Int32) (x2 : Int32) (y3 : Int64) (x5 : Int32) (x6 : Int32) (x7 : Int32) (x8 : Int32) (x9 : Int32) (x10 : Int32) (sx0 : Int32) (h : Hp)  : Prop := ∀ x_1 : Int32, x_1 = x10 + 1 → C206 sx0 x_1 h
set_option maxRecDepth 100000 in
set_option maxHeartbeats 4000000 in
theorem okJ_MO_take_242 {G : Gx} {l : Launch} {d w : Nat} {P : Int32 → Hp → Prop} {p : Program} {e : Env} {s : State} {m : MethodId} {args : Array Value} {below : List Frame} {meth : Method} {c : Code} {C206 : Int32 → Int32 → Hp → Prop} {q0 : Nat} {x1 : Int32} {x2 : Int32} {y3 : Int64} {x5 : Int32} {x6 : Int32} {x7 : Int32} {x8 : Int32} {x9 : Int32} {x10 : Int32} {sx0 : Int32} (hC206 : ∀ (x9 : Int32) (x10 : Int32) (h : Hp), C206 x9 x10 h → Go M_MO_take (mkX G (fun r h' => ∃ x, r = some (.int x) ∧ P x h') (d + 3) (w + 73) 0 0 p l e s m args below meth c) 206 [some (.ref q0), some (.int x1), some (.int x2), some (.long y3), none, some (.int x5), some (.int x6), some (.int x7), some (.int x8), some (.int x9), some (.int x10)] [] h 0 0) {h : Hp}  (H : wJ_MO_take_242 G l d w P C206 q0 x1 x2 y3 x5 x6 x7 x8 x9 x10 sx0 h ) : Go M_MO_take (mkX G (fun r h' => ∃ x, r = some (.int x) ∧ P x h') (d + 3) (w + 73) 0 0 p l e s m args below meth c) 242 [some (.ref q0), some (.int x1), some (.int x2), some (.long y3), none, some (.int x5), some (.int x6), some (.int x7), some (.int x8), some (.int x9), some (.int x10)] [.int sx0] h 0 0 := by
  unfold wJ_MO_take_242 at H
  refine g_istore (lv' := [some (.ref q0), some (.int x1), some (.int x2), some (.long y3), none, some (.int x5), some (.int x6), some (.int x7), some (.int x8), some (.int sx0), some (.int x10)]) d_MO_take_242 (by decide) rfl ?_
  obtain ⟨x_1, ex_1⟩ : ∃ z : Int32, z = x10 + 1 := ⟨_, rfl⟩
  replace H := H x_1 ex_1
  refine g_iinc (v := x_1) (lv' := [some (.ref q0), some (.int x1), some (.int x2), some (.long y3), none, some (.int x5), some (.int x6), some (.int x7), some (.int x8), some (.int sx0), some (.int x_1)]) d_MO_take_244 rfl (by decide) (by rw [ex_1]; rfl) rfl ?_
  refine g_goto (tgt := 206) d_MO_take_247 (by decide) ?_
  refine g_msk [true, true, true, true, false, true, true, true, true, true, true] ?_
  exact hC206 _ _ _ H
set_option maxRecDepth 100000 in
set_option maxHeartbeats 4000000 in
def wB_MO_take_206 (G : Gx) (l : Launch) (d w : Nat) (P : Int32 → Hp → Prop) (C206 : Int32 → Int32 → Hp → Prop) (q0 : Nat) (x1 : Int32) (x2 : Int32) (y3 : Int64) (x5 : Int32) (x6 : Int32) (x7 : Int32) (x8 : Int32) (x9 : Int32) (x10 : Int32) (h : Hp)  : Prop := (hS h q0 = some (18, 0)) ∧ (∃ q_3 : Nat, (hR h q0 37) = some q_3 ∧ (∃ N_5 : Nat, ∃ j_6 : Nat, (hS h q_3 = some (0, N_5) ∧ x7 = nI j_6 ∧ j_6 < N_5 ∧ j_6 < 2147483648) ∧ (((hI h q_3 j_6) ≤ x10 → (x9 ≤ 0 → ∃ P_10 : Hp → Prop, (Cv G l M_MO_together (d + 0) (w + 0) [.ref q0, .int x1, .int x7] h 0 0 P_10) ∧ (∀ h_12 : Hp, P_10 h_12 → (hS h_12 q0 = some (18, 0)) ∧ (∃ q_18 : Nat, (hR h_12 q0 10) = some q_18 ∧ (∃ N_20 : Nat, ∃ j_21 : Nat, (hS h_12 q_18 = some (1, N_20) ∧ x1 = nI j_21 ∧ j_21 < N_20 ∧ j_21 < 2147483648) ∧ (∃ P_23 : Hp → Prop, (Cv G l M_MO_dropPile (d + 1) (w + 23) [.ref q0, .int x1, .int x6] (pL h_12 q_18 j_21 y3) 0 0 P_23) ∧ (∀ h_25 : Hp, P_23 h_25 → (hS h_25 q0 = some (18, 0)) ∧ (∃ q_31 : Nat, (hR h_25 q0 8) = some q_31 ∧ (∃ N_33 : Nat, ∃ j_34 : Nat, (hS h_25 q_31 = some (0, N_33) ∧ x1 = nI j_34 ∧ j_34 < N_33 ∧ j_34 < 2147483648) ∧ (P (hI h_25 q_31 j_34) h_25))))))))) ∧ (¬ x9 ≤ 0 → P ((-1) - x9) h)) ∧ (¬ (hI h q_3 j_6) ≤ x10 → ∃ q_36 : Nat, (hR h q0 39) = some q_36 ∧ (∃ N_38 : Nat, ∃ j_39 : Nat, (hS h q_36 = some (0, N_38) ∧ ((3 * x7) + x10) = nI j_39 ∧ j_39 < N_38 ∧ j_39 < 2147483648) ∧ ((0 ≤ (hI h q_36 j_39) → wJ_MO_take_242 G l d w P C206 q0 x1 x2 y3 x5 x6 x7 x8 x9 x10 x9 h) ∧ (¬ 0 ≤ (hI h q_36 j_39) → wJ_MO_take_242 G l d w P C206 q0 x1 x2 y3 x5 x6 x7 x8 x9 x10 (x9 + 1) h)))))))
set_option maxRecDepth 100000 in
set_option maxHeartbeats 4000000 in
theorem okB_MO_take_206 {G : Gx} {l : Launch} {d w : Nat} {P : Int32 → Hp → Prop} {p : Program} {e : Env} {s : State} {m : MethodId} {args : Array Value} {below : List Frame} {meth : Method} {c : Code} {C206 : Int32 → Int32 → Hp → Prop} {q0 : Nat} {x1 : Int32} {x2 : Int32} {y3 : Int64} {x5 : Int32} {x6 : Int32} {x7 : Int32} {x8 : Int32} {x9 : Int32} {x10 : Int32} (hC206 : ∀ (x9 : Int32) (x10 : Int32) (h : Hp), C206 x9 x10 h → Go M_MO_take (mkX G (fun r h' => ∃ x, r = some (.int x) ∧ P x h') (d + 3) (w + 73) 0 0 p l e s m args below meth c) 206 [some (.ref q0), some (.int x1), some (.int x2), some (.long y3), none, some (.int x5), some (.int x6), some (.int x7), some (.int x8), some (.int x9), some (.int x10)] [] h 0 0) {h : Hp}  (H : wB_MO_take_206 G l d w P C206 q0 x1 x2 y3 x5 x6 x7 x8 x9 x10 h ) : Go M_MO_take (mkX G (fun r h' => ∃ x, r = some (.int x) ∧ P x h') (d + 3) (w + 73) 0 0 p l e s m args below meth c) 206 [some (.ref q0), some (.int x1), some (.int x2), some (.long y3), none, some (.int x5), some (.int x6), some (.int x7), some (.int x8), some (.int x9), some (.int x10)] [] h 0 0 := by
  unfold wB_MO_take_206 at H
  refine g_iload d_MO_take_206 rfl ?_
  refine g_aload_n d_MO_take_208 rfl ?_
  obtain ⟨z_2, H⟩ := H
  refine g_getR d_MO_take_209 f_MO_105 z_2 (by decide) ?_
  refine g_iload d_MO_take_212 rfl ?_
  obtain ⟨q_3, e_4, H⟩ := H
  show Go _ _ _ [some (.ref q0), some (.int x1), some (.int x2), some (.long y3), none, some (.int x5), some (.int x6), some (.int x7), some (.int x8), some (.int x9), some (.int x10)] [.int x7, va_rf (hR h q0 37), .int x10] _ _ _
  rw [show va_rf (hR h q0 37) = Value.ref q_3 from by rw [e_4]; rfl]
  obtain ⟨N_5, H⟩ := H
  obtain ⟨j_6, H⟩ := H
  obtain ⟨z_7, H⟩ := H
  refine g_iald d_MO_take_214 z_7.1 z_7.2.1 z_7.2.2.1 z_7.2.2.2 ?_
  obtain ⟨H1, H2⟩ := H
  refine g_icmp_ge (tgt := 250) d_MO_take_215 (by decide) (fun c_8 => ?_) (fun c_8 => ?_)
  · have H := H1 c_8
    refine g_iload d_MO_take_250 rfl ?_
    obtain ⟨H1, H2⟩ := H
    refine g_if_le (tgt := 260) d_MO_take_252 (by decide) (fun c_9 => ?_) (fun c_9 => ?_)
    · have H := H1 c_9
      refine g_aload_n d_MO_take_260 rfl ?_
      refine g_iload_n d_MO_take_261 rfl ?_
      refine g_iload d_MO_take_262 rfl ?_
      obtain ⟨P_10, C_11, H⟩ := H
      refine q_V (As := [.int x1, .int x7]) (st := []) (nl := 6) d_MO_take_264 v_MO_267 C_11 z_2 rfl (catS_le (Nat.le_of_ble_eq_true rfl)) rfl ⟨by omega, by omega, Nat.le_refl _, Nat.le_refl _⟩ (fun r_16 h_12 p_13 => ?_)
      obtain ⟨rfl, p_13⟩ := p_13
      replace H := H h_12 p_13
      show Go _ _ _ _ [] _ _ _
      refine g_aload_n d_MO_take_267 rfl ?_
      obtain ⟨z_17, H⟩ := H
      refine g_getR d_MO_take_268 f_MO_36 z_17 (by decide) ?_
      refine g_iload_n d_MO_take_271 rfl ?_
      refine g_lload_n d_MO_take_272 rfl ?_
      obtain ⟨q_18, e_19, H⟩ := H
      show Go _ _ _ [some (.ref q0), some (.int x1), some (.int x2), some (.long y3), none, some (.int x5), some (.int x6), some (.int x7), some (.int x8), some (.int x9), some (.int x10)] [.long y3, .int x1, va_rf (hR h_12 q0 10)] _ _ _
      rw [show va_rf (hR h_12 q0 10) = Value.ref q_18 from by rw [e_19]; rfl]
      obtain ⟨N_20, H⟩ := H
      obtain ⟨j_21, H⟩ := H
      obtain ⟨z_22, H⟩ := H
      refine g_last d_MO_take_273 z_22.1 z_22.2.1 z_22.2.2.1 z_22.2.2.2 ?_
      refine g_aload_n d_MO_take_274 rfl ?_
      refine g_iload_n d_MO_take_275 rfl ?_
      refine g_iload d_MO_take_276 rfl ?_
      obtain ⟨P_23, C_24, H⟩ := H
      refine q_V (As := [.int x1, .int x6]) (st := []) (nl := 4) d_MO_take_278 v_MO_256 C_24 z_17 rfl (catS_le (Nat.le_of_ble_eq_true rfl)) rfl ⟨by omega, by omega, Nat.le_refl _, Nat.le_refl _⟩ (fun r_29 h_25 p_26 => ?_)
      obtain ⟨rfl, p_26⟩ := p_26
      replace H := H h_25 p_26
      show Go _ _ _ _ [] _ _ _
      refine g_aload_n d_MO_take_281 rfl ?_
      obtain ⟨z_30, H⟩ := H
      refine g_getR d_MO_take_282 f_MO_30 z_30 (by decide) ?_
      refine g_iload_n d_MO_take_285 rfl ?_
      obtain ⟨q_31, e_32, H⟩ := H
      show Go _ _ _ [some (.ref q0), some (.int x1), some (.int x2), some (.long y3), none, some (.int x5), some (.int x6), some (.int x7), some (.int x8), some (.int x9), some (.int x10)] [.int x1, va_rf (hR h_25 q0 8)] _ _ _
      rw [show va_rf (hR h_25 q0 8) = Value.ref q_31 from by rw [e_32]; rfl]
      obtain ⟨N_33, H⟩ := H
      obtain ⟨j_34, H⟩ := H
      obtain ⟨z_35, H⟩ := H
      refine g_iald d_MO_take_286 z_35.1 z_35.2.1 z_35.2.2.1 z_35.2.2.2 ?_
      exact g_ireturn d_MO_take_287 rfl (Nat.le_refl _) (Nat.le_refl _) ⟨_, rfl, H⟩
    · have H := H2 c_9
      refine g_iconst (v := (-1)) d_MO_take_255 (by decide) ?_
      refine g_iload d_MO_take_256 rfl ?_
      refine g_isub d_MO_take_258 ?_
      exact g_ireturn d_MO_take_259 rfl (Nat.le_refl _) (Nat.le_refl _) ⟨_, rfl, H⟩
  · have H := H2 c_8
    refine g_aload_n d_MO_take_218 rfl ?_
    refine g_getR d_MO_take_219 f_MO_111 z_2 (by decide) ?_
    refine g_iconst (v := 3) d_MO_take_222 (by decide) ?_
    refine g_iload d_MO_take_223 rfl ?_
    refine g_imul d_MO_take_225 ?_
    refine g_iload d_MO_take_226 rfl ?_
    refine g_iadd d_MO_take_228 ?_
    obtain ⟨q_36, e_37, H⟩ := H
    show Go _ _ _ [some (.ref q0), some (.int x1), some (.int x2), some (.long y3), none, some (.int x5), some (.int x6), some (.int x7), some (.int x8), some (.int x9), some (.int x10)] [.int ((3 * x7) + x10), va_rf (hR h q0 39)] _ _ _
    rw [show va_rf (hR h q0 39) = Value.ref q_36 from by rw [e_37]; rfl]
    obtain ⟨N_38, H⟩ := H
    obtain ⟨j_39, H⟩ := H
    obtain ⟨z_40, H⟩ := H
    refine g_iald d_MO_take_229 z_40.1 z_40.2.1 z_40.2.2.1 z_40.2.2.2 ?_
    obtain ⟨H1, H2⟩ := H
    refine g_if_ge (tgt := 240) d_MO_take_230 (by decide) (fun c_41 => ?_) (fun c_41 => ?_)
    · have H := H1 c_41
      refine g_iload d_MO_take_240 rfl ?_
      refine g_msk [true, true, true, true, false, true, true, true, true, true, true] ?_
      exact okJ_MO_take_242 hC206 H
    · have H := H2 c_41
      refine g_iload d_MO_take_233 rfl ?_
      refine g_iconst (v := 1) d_MO_take_235 (by decide) ?_
      refine g_iadd d_MO_take_236 ?_
      refine g_goto (tgt := 242) d_MO_take_237 (by decide) ?_
      refine g_msk [true, true, true, true, false, true, true, true, true, true, true] ?_
      exact okJ_MO_take_242 hC206 H
set_option maxRecDepth 100000 in
set_option maxHeartbeats 4000000 in
def wL_MO_take_206 (G : Gx) (l : Launch) (d w : Nat) (P : Int32 → Hp → Prop) (q0 : Nat) (x1 : Int32) (x2 : Int32) (y3 : Int64) (x5 : Int32) (x6 : Int32) (x7 : Int32) (x8 : Int32) (x9 : Int32) (x10 : Int32) (h : Hp)  : Prop := ∃ (I : Int32 → Int32 → Hp → Prop) (μ : Int32 → Int32 → Hp → Nat), I x9 x10 h ∧ ∀ (x9' : Int32) (x10' : Int32) (h' : Hp), I x9' x10' h' → wB_MO_take_206 G l d w P (fun x9_ x10_ h_ => I x9_ x10_ h_ ∧ μ x9_ x10_ h_ < μ x9' x10' h') q0 x1 x2 y3 x5 x6 x7 x8 x9' x10' h'
set_option maxRecDepth 100000 in
set_option maxHeartbeats 4000000 in
theorem okL_MO_take_206 {G : Gx} {l : Launch} {d w : Nat} {P : Int32 → Hp → Prop} {p : Program} {e : Env} {s : State} {m : MethodId} {args : Array Value} {below : List Frame} {meth : Method} {c : Code} {q0 : Nat} {x1 : Int32} {x2 : Int32} {y3 : Int64} {x5 : Int32} {x6 : Int32} {x7 : Int32} {x8 : Int32} {x9 : Int32} {x10 : Int32} {h : Hp}  (H : wL_MO_take_206 G l d w P  q0 x1 x2 y3 x5 x6 x7 x8 x9 x10 h ) : Go M_MO_take (mkX G (fun r h' => ∃ x, r = some (.int x) ∧ P x h') (d + 3) (w + 73) 0 0 p l e s m args below meth c) 206 [some (.ref q0), some (.int x1), some (.int x2), some (.long y3), none, some (.int x5), some (.int x6), some (.int x7), some (.int x8), some (.int x9), some (.int x10)] [] h 0 0 := by
  obtain ⟨I, μ, h0, hs⟩ := H
  have key : ∀ (N : Nat) (x9 : Int32) (x10 : Int32) (h : Hp), I x9 x10 h → μ x9 x10 h < N → Go M_MO_take (mkX G (fun r h' => ∃ x, r = some (.int x) ∧ P x h') (d + 3) (w + 73) 0 0 p l e s m args below meth c) 206 [some (.ref q0), some (.int x1), some (.int x2), some (.long y3), none, some (.int x5), some (.int x6), some (.int x7), some (.int x8), some (.int x9), some (.int x10)] [] h 0 0 := by
    intro N
    induction N with
    | zero => intro x9 x10 h _ hN; exact absurd hN (Nat.not_lt_zero _)
    | succ N ih =>
      intro x9 x10 h hI hN
      exact okB_MO_take_206 (fun x9_ x10_ h_ hh => ih x9_ x10_ h_ hh.1 (Nat.lt_of_lt_of_le hh.2 (Nat.le_of_lt_succ hN))) (hs x9 x10 h hI)
  exact key _ _ _ _ h0 (Nat.lt_succ_self _)
set_option maxRecDepth 100000 in
set_option maxHeartbeats 4000000 in
def wJ_MO_take_200 (G : Gx) (l : Launch) (d w : Nat) (P : Int32 → Hp → Prop) (q0 : Nat) (x1 : Int32) (x2 : Int32) (y3 : Int64) (x5 : Int32) (x6 : Int32) (x7 : Int32) (x8 : Int32) (h : Hp)  : Prop := wL_MO_take_206 G l d w P q0 x1 x2 y3 x5 x6 x7 x8 0 0 h
set_option maxRecDepth 100000 in
set_option maxHeartbeats 4000000 in
theorem okJ_MO_take_200 {G : Gx} {l : Launch} {d w : Nat} {P : Int32 → Hp → Prop} {p : Program} {e : Env} {s : State} {m : MethodId} {args : Array Value} {below : List Frame} {meth : Method} {c : Code} {q0 : Nat} {x1 : Int32} {x2 : Int32} {y3 : Int64} {x5 : Int32} {x6 : Int32} {x7 : Int32} {x8 : Int32} {h : Hp}  (H : wJ_MO_take_200 G l d w P  q0 x1 x2 y3 x5 x6 x7 x8 h ) : Go M_MO_take (mkX G (fun r h' => ∃ x, r = some (.int x) ∧ P x h') (d + 3) (w + 73) 0 0 p l e s m args below meth c) 200 [some (.ref q0), some (.int x1), some (.int x2), some (.long y3), none, some (.int x5), some (.int x6), some (.int x7), some (.int x8), none, none] [] h 0 0 := by
  unfold wJ_MO_take_200 at H
  refine g_iconst (v := 0) d_MO_take_200 (by decide) ?_
  refine g_istore (lv' := [some (.ref q0), some (.int x1), some (.int x2), some (.long y3), none, some (.int x5), some (.int x6), some (.int x7), some (.int x8), some (.int 0), none]) d_MO_take_201 (by decide) rfl ?_
  refine g_iconst (v := 0) d_MO_take_203 (by decide) ?_
  refine g_istore (lv' := [some (.ref q0), some (.int x1), some (.int x2), some (.long y3), none, some (.int x5), some (.int x6), some (.int x7), some (.int x8), some (.int 0), some (.int 0)]) d_MO_take_204 (by decide) rfl ?_
  refine g_msk [true, true, true, true, false, true, true, true, true, true, true] ?_
  exact okL_MO_take_206 H
set_option maxRecDepth 100000 in
set_option maxHeartbeats 4000000 in
def wJ_MO_take_56 (G : Gx) (l : Launch) (d w : Nat) (P : Int32 → Hp → Prop) (q0 : Nat) (x1 : Int32) (sx0 : Int32) (h : Hp)  : Prop := (hS h q0 = some (18, 0)) ∧ (∃ P_43 : Int64 → Hp → Prop, (Cl G l M_MO_readNumber (d + 0) (w + 0) [.ref q0, .int 1] h 0 0 P_43) ∧ (∀ (y_47 : Int64) (h_45 : Hp), P_43 y_47 h_45 → (hS h_45 q0 = some (18, 0)) ∧ (∃ q_51 : Nat, (hR h_45 q0 12) = some q_51 ∧ (∃ N_53 : Nat, ∃ j_54 : Nat, (hS h_45 q_51 = some (0, N_53) ∧ 1 = nI j_54 ∧ j_54 < N_53 ∧ j_54 < 2147483648) ∧ (∀ x_56 : Int32, x_56 = (12 + (((hI h_45 q_51 j_54) + 1) / 2)) → ∃ P_57 : Hp → Prop, (Cv G l M_MO_readSeptets (d + 1) (w + 22) [.ref q0, .int x_56, .int sx0] h_45 0 0 P_57) ∧ (∀ h_59 : Hp, P_57 h_59 → (¬ sx0 = 0 → (hS h_59 q0 = some (18, 0)) ∧ (∃ q_66 : Nat, (hR h_59 q0 12) = some q_66 ∧ (∃ N_68 : Nat, ∃ j_69 : Nat, (hS h_59 q_66 = some (0, N_68) ∧ (x_56 + 4) = nI j_69 ∧ j_69 < N_68 ∧ j_69 < 2147483648) ∧ (∃ q_71 : Nat, (hR h_59 q0 12) = some q_71 ∧ (∃ N_73 : Nat, ∃ j_74 : Nat, (hS h_59 q_71 = some (0, N_73) ∧ (x_56 + 5) = nI j_74 ∧ j_74 < N_73 ∧ j_74 < 2147483648) ∧ (∃ P_76 : Int32 → Hp → Prop, (Ci G l M_MO_pileFor (d + 2) (w + 46) [.ref q0, .int x1, .long y_47, .int (hI h_59 q_66 j_69), .int (hI h_59 q_71 j_74)] h_59 0 0 P_76) ∧ (∀ (x_80 : Int32) (h_78 : Hp), P_76 x_80 h_78 → ∀ x_83 : Int32, x_83 = ((3 * x1) + x_80) → (hS h_78 q0 = some (18, 0)) ∧ (∃ q_85 : Nat, (hR h_78 q0 12) = some q_85 ∧ (∃ N_87 : Nat, ∃ j_88 : Nat, (hS h_78 q_85 = some (0, N_87) ∧ (x_56 + 6) = nI j_88 ∧ j_88 < N_87 ∧ j_88 < 2147483648) ∧ (∀ x_90 : Int32, x_90 = (((3 * x_83) + (hI h_78 q_85 j_88)) - 1) → ∃ q_91 : Nat, (hR h_78 q0 39) = some q_91 ∧ (∃ N_93 : Nat, ∃ j_94 : Nat, (hS h_78 q_91 = some (0, N_93) ∧ x_90 = nI j_94 ∧ j_94 < N_93 ∧ j_94 < 2147483648) ∧ ((0 ≤ (hI h_78 q_91 j_94) → wJ_MO_take_200 G l d w P q0 x1 sx0 y_47 x_56 x_80 x_83 x_90 h_78) ∧ (¬ 0 ≤ (hI h_78 q_91 j_94) → ∃ P_97 : Int32 → Hp → Prop, (Ci G l M_MO_decode (d + 2) (w + 40) [.ref q0, .int (153 * x_90), .int 0] h_78 0 0 P_97) ∧ (∀ (x_101 : Int32) (h_99 : Hp), P_97 x_101 h_99 → ∃ q_104 : Nat, (hR h_78 q0 39) = some q_104 ∧ (∃ N_106 : Nat, ∃ j_107 : Nat, (hS h_99 q_104 = some (0, N_106) ∧ x_90 = nI j_107 ∧ j_107 < N_106 ∧ j_107 < 2147483648) ∧ (wJ_MO_take_200 G l d w P q0 x1 sx0 y_47 x_56 x_80 x_83 x_90 (pI h_99 q_104 j_107 x_101))))))))))))))))) ∧ (sx0 = 0 → (hS h_59 q0 = some (18, 0)) ∧ (∃ P_110 : Int32 → Hp → Prop, (Ci G l M_MO_decode (d + 2) (w + 40) [.ref q0, .int (480 * x1), .int 1] h_59 0 0 P_110) ∧ (∀ (x_114 : Int32) (h_112 : Hp), P_110 x_114 h_112 → ∃ q_117 : Nat, (hR h_59 q0 8) = some q_117 ∧ (∃ N_119 : Nat, ∃ j_120 : Nat, (hS h_112 q_117 = some (0, N_119) ∧ x1 = nI j_120 ∧ j_120 < N_119 ∧ j_120 < 2147483648) ∧ ((hS h_112 q0 = some (18, 0)) ∧ (∃ q_123 : Nat, (hR h_112 q0 10) = some q_123 ∧ (∃ N_125 : Nat, ∃ j_126 : Nat, (hS h_112 q_123 = some (1, N_125) ∧ x1 = nI j_126 ∧ j_126 < N_125 ∧ j_126 < 2147483648) ∧ (∃ q_128 : Nat, (hR h_112 q0 8) = some q_128 ∧ (∃ N_130 : Nat, ∃ j_131 : Nat, (hS h_112 q_128 = some (0, N_130) ∧ x1 = nI j_131 ∧ j_131 < N_130 ∧ j_131 < 2147483648) ∧ (P (hI (pI h_112 q_117 j_120 x_114) q_128 j_131) (pL (pI h_112 q_117 j_120 x_114) q_123 j_126 y_47)))))))))))))))))
set_option maxRecDepth 100000 in
set_option maxHeartbeats 4000000 in
theorem okJ_MO_take_56 {G : Gx} {l : Launch} {d w : Nat} {P : Int32 → Hp → Prop} {p : Program} {e : Env} {s : State} {m : MethodId} {args : Array Value} {below : List Frame} {meth : Method} {c : Code} {q0 : Nat} {x1 : Int32} {sx0 : Int32} {h : Hp}  (H : wJ_MO_take_56 G l d w P  q0 x1 sx0 h ) : Go M_MO_take (mkX G (fun r h' => ∃ x, r = some (.int x) ∧ P x h') (d + 3) (w + 73) 0 0 p l e s m args below meth c) 56 [some (.ref q0), some (.int x1), none, none, none, none, none, none, none, none, none] [.int sx0] h 0 0 := by
  unfold wJ_MO_take_56 at H
  refine g_istore_n (lv' := [some (.ref q0), some (.int x1), some (.int sx0), none, none, none, none, none, none, none, none]) d_MO_take_56 (by decide) rfl ?_
  refine g_aload_n d_MO_take_57 rfl ?_
  refine g_iconst (v := 1) d_MO_take_58 (by decide) ?_
  obtain ⟨z_42, H⟩ := H
  obtain ⟨P_43, C_44, H⟩ := H
  refine q_V (As := [.int 1]) (st := []) (nl := 6) d_MO_take_59 v_MO_170 C_44 z_42 rfl (catS_le (Nat.le_of_ble_eq_true rfl)) rfl ⟨by omega, by omega, Nat.le_refl _, Nat.le_refl _⟩ (fun r_49 h_45 p_46 => ?_)
  obtain ⟨y_47, rfl, p_46⟩ := p_46
  replace H := H y_47 h_45 p_46
  show Go _ _ _ _ [.long y_47] _ _ _
  refine g_lstore_n (lv' := [some (.ref q0), some (.int x1), some (.int sx0), some (.long y_47), none, none, none, none, none, none, none]) d_MO_take_62 (by decide) rfl ?_
  refine g_bipush (v := 12) d_MO_take_63 (by decide) ?_
  refine g_aload_n d_MO_take_65 rfl ?_
  obtain ⟨z_50, H⟩ := H
  refine g_getR d_MO_take_66 f_MO_39 z_50 (by decide) ?_
  refine g_iconst (v := 1) d_MO_take_69 (by decide) ?_
  obtain ⟨q_51, e_52, H⟩ := H
  show Go _ _ _ [some (.ref q0), some (.int x1), some (.int sx0), some (.long y_47), none, none, none, none, none, none, none] [.int 1, va_rf (hR h_45 q0 12), .int 12] _ _ _
  rw [show va_rf (hR h_45 q0 12) = Value.ref q_51 from by rw [e_52]; rfl]
  obtain ⟨N_53, H⟩ := H
  obtain ⟨j_54, H⟩ := H
  obtain ⟨z_55, H⟩ := H
  refine g_iald d_MO_take_70 z_55.1 z_55.2.1 z_55.2.2.1 z_55.2.2.2 ?_
  refine g_iconst (v := 1) d_MO_take_71 (by decide) ?_
  refine g_iadd d_MO_take_72 ?_
  refine g_iconst (v := 2) d_MO_take_73 (by decide) ?_
  refine g_idiv d_MO_take_74 (by decide) ?_
  refine g_iadd d_MO_take_75 ?_
  refine g_topi (fun x_56 ex_56 => ?_)
  replace H := H x_56 ex_56
  refine g_istore (lv' := [some (.ref q0), some (.int x1), some (.int sx0), some (.long y_47), none, some (.int x_56), none, none, none, none, none]) d_MO_take_76 (by decide) rfl ?_
  refine g_aload_n d_MO_take_78 rfl ?_
  refine g_iload d_MO_take_79 rfl ?_
  refine g_iload_n d_MO_take_81 rfl ?_
  obtain ⟨P_57, C_58, H⟩ := H
  refine q_V (As := [.int x_56, .int sx0]) (st := []) (nl := 6) d_MO_take_82 v_MO_173 C_58 z_50 rfl (catS_le (Nat.le_of_ble_eq_true rfl)) rfl ⟨by omega, by omega, Nat.le_refl _, Nat.le_refl _⟩ (fun r_63 h_59 p_60 => ?_)
  obtain ⟨rfl, p_60⟩ := p_60
  replace H := H h_59 p_60
  show Go _ _ _ _ [] _ _ _
  refine g_iload_n d_MO_take_85 rfl ?_
  obtain ⟨H1, H2⟩ := H
  refine g_if_ne (tgt := 119) d_MO_take_86 (by decide) (fun c_64 => ?_) (fun c_64 => ?_)
  · have H := H1 c_64
    refine g_aload_n d_MO_take_119 rfl ?_
    refine g_iload_n d_MO_take_120 rfl ?_
    refine g_lload_n d_MO_take_121 rfl ?_
    refine g_aload_n d_MO_take_122 rfl ?_
    obtain ⟨z_65, H⟩ := H
    refine g_getR d_MO_take_123 f_MO_39 z_65 (by decide) ?_
    refine g_iload d_MO_take_126 rfl ?_
    refine g_iconst (v := 4) d_MO_take_128 (by decide) ?_
    refine g_iadd d_MO_take_129 ?_
    obtain ⟨q_66, e_67, H⟩ := H
    show Go _ _ _ [some (.ref q0), some (.int x1), some (.int sx0), some (.long y_47), none, some (.int x_56), none, none, none, none, none] [.int (x_56 + 4), va_rf (hR h_59 q0 12), .long y_47, .int x1, .ref q0] _ _ _
    rw [show va_rf (hR h_59 q0 12) = Value.ref q_66 from by rw [e_67]; rfl]
    obtain ⟨N_68, H⟩ := H
    obtain ⟨j_69, H⟩ := H
    obtain ⟨z_70, H⟩ := H
    refine g_iald d_MO_take_130 z_70.1 z_70.2.1 z_70.2.2.1 z_70.2.2.2 ?_
    refine g_aload_n d_MO_take_131 rfl ?_
    refine g_getR d_MO_take_132 f_MO_39 z_65 (by decide) ?_
    refine g_iload d_MO_take_135 rfl ?_
    refine g_iconst (v := 5) d_MO_take_137 (by decide) ?_
    refine g_iadd d_MO_take_138 ?_
    obtain ⟨q_71, e_72, H⟩ := H
    show Go _ _ _ [some (.ref q0), some (.int x1), some (.int sx0), some (.long y_47), none, some (.int x_56), none, none, none, none, none] [.int (x_56 + 5), va_rf (hR h_59 q0 12), .int (hI h_59 q_66 j_69), .long y_47, .int x1, .ref q0] _ _ _
    rw [show va_rf (hR h_59 q0 12) = Value.ref q_71 from by rw [e_72]; rfl]
    obtain ⟨N_73, H⟩ := H
    obtain ⟨j_74, H⟩ := H
    obtain ⟨z_75, H⟩ := H
    refine g_iald d_MO_take_139 z_75.1 z_75.2.1 z_75.2.2.1 z_75.2.2.2 ?_
    obtain ⟨P_76, C_77, H⟩ := H
    refine q_V (As := [.int x1, .long y_47, .int (hI h_59 q_66 j_69), .int (hI h_59 q_71 j_74)]) (st := []) (nl := 8) d_MO_take_140 v_MO_263 C_77 z_65 rfl (catS_le (Nat.le_of_ble_eq_true rfl)) rfl ⟨by omega, by omega, Nat.le_refl _, Nat.le_refl _⟩ (fun r_82 h_78 p_79 => ?_)
    obtain ⟨x_80, rfl, p_79⟩ := p_79
    replace H := H x_80 h_78 p_79
    show Go _ _ _ _ [.int x_80] _ _ _
    refine g_istore (lv' := [some (.ref q0), some (.int x1), some (.int sx0), some (.long y_47), none, some (.int x_56), some (.int x_80), none, none, none, none]) d_MO_take_143 (by decide) rfl ?_
    refine g_iconst (v := 3) d_MO_take_145 (by decide) ?_
    refine g_iload_n d_MO_take_146 rfl ?_
    refine g_imul d_MO_take_147 ?_
    refine g_iload d_MO_take_148 rfl ?_
    refine g_iadd d_MO_take_150 ?_
    refine g_topi (fun x_83 ex_83 => ?_)
    replace H := H x_83 ex_83
    refine g_istore (lv' := [some (.ref q0), some (.int x1), some (.int sx0), some (.long y_47), none, some (.int x_56), some (.int x_80), some (.int x_83), none, none, none]) d_MO_take_151 (by decide) rfl ?_
    refine g_iconst (v := 3) d_MO_take_153 (by decide) ?_
    refine g_iload d_MO_take_154 rfl ?_
    refine g_imul d_MO_take_156 ?_
    refine g_aload_n d_MO_take_157 rfl ?_
    obtain ⟨z_84, H⟩ := H
    refine g_getR d_MO_take_158 f_MO_39 z_84 (by decide) ?_
    refine g_iload d_MO_take_161 rfl ?_
    refine g_bipush (v := 6) d_MO_take_163 (by decide) ?_
    refine g_iadd d_MO_take_165 ?_
    obtain ⟨q_85, e_86, H⟩ := H
    show Go _ _ _ [some (.ref q0), some (.int x1), some (.int sx0), some (.long y_47), none, some (.int x_56), some (.int x_80), some (.int x_83), none, none, none] [.int (x_56 + 6), va_rf (hR h_78 q0 12), .int (3 * x_83)] _ _ _
    rw [show va_rf (hR h_78 q0 12) = Value.ref q_85 from by rw [e_86]; rfl]
    obtain ⟨N_87, H⟩ := H
    obtain ⟨j_88, H⟩ := H
    obtain ⟨z_89, H⟩ := H
    refine g_iald d_MO_take_166 z_89.1 z_89.2.1 z_89.2.2.1 z_89.2.2.2 ?_
    refine g_iadd d_MO_take_167 ?_
    refine g_iconst (v := 1) d_MO_take_168 (by decide) ?_
    refine g_isub d_MO_take_169 ?_
    refine g_topi (fun x_90 ex_90 => ?_)
    replace H := H x_90 ex_90
    refine g_istore (lv' := [some (.ref q0), some (.int x1), some (.int sx0), some (.long y_47), none, some (.int x_56), some (.int x_80), some (.int x_83), some (.int x_90), none, none]) d_MO_take_170 (by decide) rfl ?_
    refine g_aload_n d_MO_take_172 rfl ?_
    refine g_getR d_MO_take_173 f_MO_111 z_84 (by decide) ?_
    refine g_iload d_MO_take_176 rfl ?_
    obtain ⟨q_91, e_92, H⟩ := H
    show Go _ _ _ [some (.ref q0), some (.int x1), some (.int sx0), some (.long y_47), none, some (.int x_56), some (.int x_80), some (.int x_83), some (.int x_90), none, none] [.int x_90, va_rf (hR h_78 q0 39)] _ _ _
    rw [show va_rf (hR h_78 q0 39) = Value.ref q_91 from by rw [e_92]; rfl]
    obtain ⟨N_93, H⟩ := H
    obtain ⟨j_94, H⟩ := H
    obtain ⟨z_95, H⟩ := H
    refine g_iald d_MO_take_178 z_95.1 z_95.2.1 z_95.2.2.1 z_95.2.2.2 ?_
    obtain ⟨H1, H2⟩ := H
    refine g_if_ge (tgt := 200) d_MO_take_179 (by decide) (fun c_96 => ?_) (fun c_96 => ?_)
    · have H := H1 c_96
      refine g_msk [true, true, true, true, false, true, true, true, true, false, false] ?_
      exact okJ_MO_take_200 H
    · have H := H2 c_96
      refine g_aload_n d_MO_take_182 rfl ?_
      refine g_getR d_MO_take_183 f_MO_111 z_84 (by decide) ?_
      refine g_iload d_MO_take_186 rfl ?_
      refine g_aload_n d_MO_take_188 rfl ?_
      refine g_sipush (v := 153) d_MO_take_189 (by decide) ?_
      refine g_iload d_MO_take_192 rfl ?_
      refine g_imul d_MO_take_194 ?_
      refine g_iconst (v := 0) d_MO_take_195 (by decide) ?_
      obtain ⟨P_97, C_98, H⟩ := H
      refine q_V (As := [.int (153 * x_90), .int 0]) (st := [.int x_90, va_rf (hR h_78 q0 39)]) (nl := 6) d_MO_take_196 v_MO_259 C_98 z_84 rfl (catS_le (Nat.le_of_ble_eq_true rfl)) rfl ⟨by omega, by omega, Nat.le_refl _, Nat.le_refl _⟩ (fun r_103 h_99 p_100 => ?_)
      obtain ⟨x_101, rfl, p_100⟩ := p_100
      replace H := H x_101 h_99 p_100
      show Go _ _ _ _ [.int x_101, .int x_90, va_rf (hR h_78 q0 39)] _ _ _
      obtain ⟨q_104, e_105, H⟩ := H
      show Go _ _ _ [some (.ref q0), some (.int x1), some (.int sx0), some (.long y_47), none, some (.int x_56), some (.int x_80), some (.int x_83), some (.int x_90), none, none] [.int x_101, .int x_90, va_rf (hR h_78 q0 39)] _ _ _
      rw [show va_rf (hR h_78 q0 39) = Value.ref q_104 from by rw [e_105]; rfl]
      obtain ⟨N_106, H⟩ := H
      obtain ⟨j_107, H⟩ := H
      obtain ⟨z_108, H⟩ := H
      refine g_iast d_MO_take_199 z_108.1 z_108.2.1 z_108.2.2.1 z_108.2.2.2 ?_
      refine g_msk [true, true, true, true, false, true, true, true, true, false, false] ?_
      exact okJ_MO_take_200 H
  · have H := H2 c_64
    refine g_aload_n d_MO_take_89 rfl ?_
    obtain ⟨z_109, H⟩ := H
    refine g_getR d_MO_take_90 f_MO_30 z_109 (by decide) ?_
    refine g_iload_n d_MO_take_93 rfl ?_
    refine g_aload_n d_MO_take_94 rfl ?_
    refine g_sipush (v := 480) d_MO_take_95 (by decide) ?_
    refine g_iload_n d_MO_take_98 rfl ?_
    refine g_imul d_MO_take_99 ?_
    refine g_iconst (v := 1) d_MO_take_100 (by decide) ?_
    obtain ⟨P_110, C_111, H⟩ := H
    refine q_V (As := [.int (480 * x1), .int 1]) (st := [.int x1, va_rf (hR h_59 q0 8)]) (nl := 6) d_MO_take_101 v_MO_259 C_111 z_109 rfl (catS_le (Nat.le_of_ble_eq_true rfl)) rfl ⟨by omega, by omega, Nat.le_refl _, Nat.le_refl _⟩ (fun r_116 h_112 p_113 => ?_)
    obtain ⟨x_114, rfl, p_113⟩ := p_113
    replace H := H x_114 h_112 p_113
    show Go _ _ _ _ [.int x_114, .int x1, va_rf (hR h_59 q0 8)] _ _ _
    obtain ⟨q_117, e_118, H⟩ := H
    show Go _ _ _ [some (.ref q0), some (.int x1), some (.int sx0), some (.long y_47), none, some (.int x_56), none, none, none, none, none] [.int x_114, .int x1, va_rf (hR h_59 q0 8)] _ _ _
    rw [show va_rf (hR h_59 q0 8) = Value.ref q_117 from by rw [e_118]; rfl]
    obtain ⟨N_119, H⟩ := H
    obtain ⟨j_120, H⟩ := H
    obtain ⟨z_121, H⟩ := H
    refine g_iast d_MO_take_104 z_121.1 z_121.2.1 z_121.2.2.1 z_121.2.2.2 ?_
    refine g_aload_n d_MO_take_105 rfl ?_
    obtain ⟨z_122, H⟩ := H
    refine g_getR d_MO_take_106 f_MO_36 z_122 (by decide) ?_
    refine g_iload_n d_MO_take_109 rfl ?_
    refine g_lload_n d_MO_take_110 rfl ?_
    obtain ⟨q_123, e_124, H⟩ := H
    show Go _ _ _ [some (.ref q0), some (.int x1), some (.int sx0), some (.long y_47), none, some (.int x_56), none, none, none, none, none] [.long y_47, .int x1, va_rf (hR h_112 q0 10)] _ _ _
    rw [show va_rf (hR h_112 q0 10) = Value.ref q_123 from by rw [e_124]; rfl]
    obtain ⟨N_125, H⟩ := H
    obtain ⟨j_126, H⟩ := H
    obtain ⟨z_127, H⟩ := H
    refine g_last d_MO_take_111 z_127.1 z_127.2.1 z_127.2.2.1 z_127.2.2.2 ?_
    refine g_aload_n d_MO_take_112 rfl ?_
    refine g_getR d_MO_take_113 f_MO_30 z_122 (by decide) ?_
    refine g_iload_n d_MO_take_116 rfl ?_
    obtain ⟨q_128, e_129, H⟩ := H
    show Go _ _ _ [some (.ref q0), some (.int x1), some (.int sx0), some (.long y_47), none, some (.int x_56), none, none, none, none, none] [.int x1, va_rf (hR h_112 q0 8)] _ _ _
    rw [show va_rf (hR h_112 q0 8) = Value.ref q_128 from by rw [e_129]; rfl]
    obtain ⟨N_130, H⟩ := H
    obtain ⟨j_131, H⟩ := H
    obtain ⟨z_132, H⟩ := H
    refine g_iald d_MO_take_117 z_132.1 z_132.2.1 z_132.2.2.1 z_132.2.2.2 ?_
    exact g_ireturn d_MO_take_118 rfl (Nat.le_refl _) (Nat.le_refl _) ⟨_, rfl, H⟩
set_option maxRecDepth 100000 in
set_option maxHeartbeats 4000000 in
def wp_MO_take (G : Gx) (l : Launch) (d w : Nat) (P : Int32 → Hp → Prop) (q0 : Nat) (x1 : Int32) (h : Hp) : Prop := ∃ P_133 : Int32 → Hp → Prop, (Ci G l M_MO_isDevice (d + 0) (w + 0) [.int x1] h 0 0 P_133) ∧ (∀ (x_137 : Int32) (h_135 : Hp), P_133 x_137 h_135 → (¬ x_137 = 0 → (hS h_135 q0 = some (18, 0)) ∧ (∃ q_142 : Nat, (hR h_135 q0 16) = some q_142 ∧ (∃ N_144 : Nat, ∃ j_145 : Nat, (hS h_135 q_142 = some (0, N_144) ∧ (1 + x1) = nI j_145 ∧ j_145 < N_144 ∧ j_145 < 2147483648) ∧ ((¬ (hI h_135 q_142 j_145) = 0 → ∃ P_148 : Int32 → Hp → Prop, (Ci G l M_MO_baseOf (d + 0) (w + 0) [.int (1 + x1)] h_135 0 0 P_148) ∧ (∀ (x_152 : Int32) (h_150 : Hp), P_148 x_152 h_150 → (hS h_150 q0 = some (18, 0)) ∧ (∃ P_156 : Hp → Prop, (Cv G l M_MO_load (d + 0) (w + 0) [.ref q0, .int x_152] h_150 0 0 P_156) ∧ (∀ h_158 : Hp, P_156 h_158 → (hS h_158 q0 = some (18, 0)) ∧ (∃ P_164 : Hp → Prop, (Cv G l M_MO_removeFirst (d + 1) (w + 23) [.ref q0, .int (1 + x1)] h_158 0 0 P_164) ∧ (∀ h_166 : Hp, P_164 h_166 → (hS h_166 q0 = some (18, 0)) ∧ (∃ q_172 : Nat, (hR h_166 q0 12) = some q_172 ∧ (∃ N_174 : Nat, ∃ j_175 : Nat, (hS h_166 q_172 = some (0, N_174) ∧ 0 = nI j_175 ∧ j_175 < N_174 ∧ j_175 < 2147483648) ∧ ((¬ (hI h_166 q_172 j_175) = 68 → wJ_MO_take_56 G l d w P q0 x1 0 h_166) ∧ ((hI h_166 q_172 j_175) = 68 → wJ_MO_take_56 G l d w P q0 x1 1 h_166)))))))))) ∧ ((hI h_135 q_142 j_145) = 0 → P (-100) h_135))))) ∧ (x_137 = 0 → P (-1) h_135))
set_option maxRecDepth 100000 in
set_option maxHeartbeats 4000000 in
theorem ok_MO_take {G : Gx} {l : Launch} {d w : Nat} {P : Int32 → Hp → Prop} {q0 : Nat} {x1 : Int32} {h : Hp} (H : wp_MO_take G l d w P q0 x1 h) : Ci G l M_MO_take (d + 3) (w + 73) [.ref q0, .int x1] h 0 0 P := by
  unfold wp_MO_take at H
  refine Ct.of (lv := [some (.ref q0), some (.int x1), none, none, none, none, none, none, none, none, none]) (by decide) (Nat.le_of_ble_eq_true rfl) rfl (fun p e s m args below meth c => ?_)
  refine g_iload_n d_MO_take_0 rfl ?_
  obtain ⟨P_133, C_134, H⟩ := H
  refine q_S (As := [.int x1]) (st := []) (nl := 1) d_MO_take_1 v_MO_187 C_134 rfl (catS_le (Nat.le_of_ble_eq_true rfl)) rfl ⟨by omega, by omega, Nat.le_refl _, Nat.le_refl _⟩ (fun r_139 h_135 p_136 => ?_)
  obtain ⟨x_137, rfl, p_136⟩ := p_136
  replace H := H x_137 h_135 p_136
  show Go _ _ _ _ [.int x_137] _ _ _
  obtain ⟨H1, H2⟩ := H
  refine g_if_ne (tgt := 9) d_MO_take_4 (by decide) (fun c_140 => ?_) (fun c_140 => ?_)
  · have H := H1 c_140
    refine g_aload_n d_MO_take_9 rfl ?_
    obtain ⟨z_141, H⟩ := H
    refine g_getR d_MO_take_10 f_MO_51 z_141 (by decide) ?_
    refine g_iconst (v := 1) d_MO_take_13 (by decide) ?_
    refine g_iload_n d_MO_take_14 rfl ?_
    refine g_iadd d_MO_take_15 ?_
    obtain ⟨q_142, e_143, H⟩ := H
    show Go _ _ _ [some (.ref q0), some (.int x1), none, none, none, none, none, none, none, none, none] [.int (1 + x1), va_rf (hR h_135 q0 16)] _ _ _
    rw [show va_rf (hR h_135 q0 16) = Value.ref q_142 from by rw [e_143]; rfl]
    obtain ⟨N_144, H⟩ := H
    obtain ⟨j_145, H⟩ := H
    obtain ⟨z_146, H⟩ := H
    refine g_iald d_MO_take_16 z_146.1 z_146.2.1 z_146.2.2.1 z_146.2.2.2 ?_
    obtain ⟨H1, H2⟩ := H
    refine g_if_ne (tgt := 23) d_MO_take_17 (by decide) (fun c_147 => ?_) (fun c_147 => ?_)
    · have H := H1 c_147
      refine g_aload_n d_MO_take_23 rfl ?_
      refine g_iconst (v := 1) d_MO_take_24 (by decide) ?_
      refine g_iload_n d_MO_take_25 rfl ?_
      refine g_iadd d_MO_take_26 ?_
      obtain ⟨P_148, C_149, H⟩ := H
      refine q_S (As := [.int (1 + x1)]) (st := [.ref q0]) (nl := 1) d_MO_take_27 v_MO_159 C_149 rfl (catS_le (Nat.le_of_ble_eq_true rfl)) rfl ⟨by omega, by omega, Nat.le_refl _, Nat.le_refl _⟩ (fun r_154 h_150 p_151 => ?_)
      obtain ⟨x_152, rfl, p_151⟩ := p_151
      replace H := H x_152 h_150 p_151
      show Go _ _ _ _ [.int x_152, .ref q0] _ _ _
      obtain ⟨z_155, H⟩ := H
      obtain ⟨P_156, C_157, H⟩ := H
      refine q_V (As := [.int x_152]) (st := []) (nl := 3) d_MO_take_30 v_MO_217 C_157 z_155 rfl (catS_le (Nat.le_of_ble_eq_true rfl)) rfl ⟨by omega, by omega, Nat.le_refl _, Nat.le_refl _⟩ (fun r_162 h_158 p_159 => ?_)
      obtain ⟨rfl, p_159⟩ := p_159
      replace H := H h_158 p_159
      show Go _ _ _ _ [] _ _ _
      refine g_aload_n d_MO_take_33 rfl ?_
      refine g_iconst (v := 1) d_MO_take_34 (by decide) ?_
      refine g_iload_n d_MO_take_35 rfl ?_
      refine g_iadd d_MO_take_36 ?_
      obtain ⟨z_163, H⟩ := H
      obtain ⟨P_164, C_165, H⟩ := H
      refine q_V (As := [.int (1 + x1)]) (st := []) (nl := 4) d_MO_take_37 v_MO_223 C_165 z_163 rfl (catS_le (Nat.le_of_ble_eq_true rfl)) rfl ⟨by omega, by omega, Nat.le_refl _, Nat.le_refl _⟩ (fun r_170 h_166 p_167 => ?_)
      obtain ⟨rfl, p_167⟩ := p_167
      replace H := H h_166 p_167
      show Go _ _ _ _ [] _ _ _
      refine g_aload_n d_MO_take_40 rfl ?_
      obtain ⟨z_171, H⟩ := H
      refine g_getR d_MO_take_41 f_MO_39 z_171 (by decide) ?_
      refine g_iconst (v := 0) d_MO_take_44 (by decide) ?_
      obtain ⟨q_172, e_173, H⟩ := H
      show Go _ _ _ [some (.ref q0), some (.int x1), none, none, none, none, none, none, none, none, none] [.int 0, va_rf (hR h_166 q0 12)] _ _ _
      rw [show va_rf (hR h_166 q0 12) = Value.ref q_172 from by rw [e_173]; rfl]
      obtain ⟨N_174, H⟩ := H
      obtain ⟨j_175, H⟩ := H
      obtain ⟨z_176, H⟩ := H
      refine g_iald d_MO_take_45 z_176.1 z_176.2.1 z_176.2.2.1 z_176.2.2.2 ?_
      refine g_bipush (v := 68) d_MO_take_46 (by decide) ?_
      obtain ⟨H1, H2⟩ := H
      refine g_icmp_ne (tgt := 55) d_MO_take_48 (by decide) (fun c_177 => ?_) (fun c_177 => ?_)
      · have H := H1 c_177
        refine g_iconst (v := 0) d_MO_take_55 (by decide) ?_
        refine g_msk [true, true, false, false, false, false, false, false, false, false, false] ?_
        exact okJ_MO_take_56 H
      · have H := H2 c_177
        refine g_iconst (v := 1) d_MO_take_51 (by decide) ?_
        refine g_goto (tgt := 56) d_MO_take_52 (by decide) ?_
        refine g_msk [true, true, false, false, false, false, false, false, false, false, false] ?_
        exact okJ_MO_take_56 H
    · have H := H2 c_147
      refine g_bipush (v := (-100)) d_MO_take_20 (by decide) ?_
      exact g_ireturn d_MO_take_22 rfl (Nat.le_refl _) (Nat.le_refl _) ⟨_, rfl, H⟩
  · have H := H2 c_140
    refine g_iconst (v := (-1)) d_MO_take_7 (by decide) ?_
    exact g_ireturn d_MO_take_8 rfl (Nat.le_refl _) (Nat.le_refl _) ⟨_, rfl, H⟩
set_option maxRecDepth 100000 in
set_option maxHeartbeats 4000000 in
def wJ_MO_copy_31 (G : Gx) (l : Launch) (d w : Nat) (P : Int32 → Hp → Prop) (q0 : Nat) (x1 : Int32) (h : Hp)  : Prop := P 0 h
set_option maxRecDepth 100000 in
set_option maxHeartbeats 4000000 in
theorem okJ_MO_copy_31 {G : Gx} {l : Launch} {d w : Nat} {P : Int32 → Hp → Prop} {p : Program} {e : Env} {s : State} {m : MethodId} {args : Array Value} {below : List Frame} {meth : Method} {c : Code} {q0 : Nat} {x1 : Int32} {h : Hp}  (H : wJ_MO_copy_31 G l d w P  q0 x1 h ) : Go M_MO_copy (mkX G (fun r h' => ∃ x, r = some (.int x) ∧ P x h') (d + 2) (w + 44) 0 0 p l e s m args below meth c) 31 [some (.ref q0), some (.int x1)] [] h 0 0 := by
  unfold wJ_MO_copy_31 at H
  refine g_iconst (v := 0) d_MO_copy_31 (by decide) ?_
  exact g_zreturn d_MO_copy_32 rfl (by decide) (Nat.le_refl _) (Nat.le_refl _) ⟨_, rfl, H⟩
set_option maxRecDepth 100000 in
set_option maxHeartbeats 4000000 in
def wp_MO_copy (G : Gx) (l : Launch) (d w : Nat) (P : Int32 → Hp → Prop) (q0 : Nat) (x1 : Int32) (h : Hp) : Prop := ∃ P_1 : Int32 → Hp → Prop, (Ci G l M_MO_isDevice (d + 0) (w + 0) [.int x1] h 0 0 P_1) ∧ (∀ (x_5 : Int32) (h_3 : Hp), P_1 x_5 h_3 → (x_5 = 0 → wJ_MO_copy_31 G l d w P q0 x1 h_3) ∧ (¬ x_5 = 0 → (hS h_3 q0 = some (18, 0)) ∧ (∃ q_10 : Nat, (hR h_3 q0 16) = some q_10 ∧ (∃ N_12 : Nat, ∃ j_13 : Nat, (hS h_3 q_10 = some (0, N_12) ∧ (1 + x1) = nI j_13 ∧ j_13 < N_12 ∧ j_13 < 2147483648) ∧ (((hI h_3 q_10 j_13) = 0 → wJ_MO_copy_31 G l d w P q0 x1 h_3) ∧ (¬ (hI h_3 q_10 j_13) = 0 → ∃ q_16 : Nat, (hR h_3 q0 16) = some q_16 ∧ (∃ N_18 : Nat, ∃ j_19 : Nat, (hS h_3 q_16 = some (0, N_18) ∧ (1 + x1) = nI j_19 ∧ j_19 < N_18 ∧ j_19 < 2147483648) ∧ ((¬ (hI h_3 q_16 j_19) = 6 → ∃ P_22 : Int32 → Hp → Prop, (Ci G l M_MO_baseOf (d + 0) (w + 0) [.int (1 + x1)] h_3 0 0 P_22) ∧ (∀ (x_26 : Int32) (h_24 : Hp), P_22 x_26 h_24 → (hS h_24 q0 = some (18, 0)) ∧ (∃ P_30 : Hp → Prop, (Cv G l M_MO_load (d + 0) (w + 0) [.ref q0, .int x_26] h_24 0 0 P_30) ∧ (∀ h_32 : Hp, P_30 h_32 → (hS h_32 q0 = some (18, 0)) ∧ (∃ P_38 : Hp → Prop, (Cv G l M_MO_append (d + 1) (w + 20) [.ref q0, .int (1 + x1), .int 0] h_32 0 0 P_38) ∧ (∀ h_40 : Hp, P_38 h_40 → P 1 h_40)))))) ∧ ((hI h_3 q_16 j_19) = 6 → wJ_MO_copy_31 G l d w P q0 x1 h_3)))))))))
set_option maxRecDepth 100000 in
set_option maxHeartbeats 4000000 in
theorem ok_MO_copy {G : Gx} {l : Launch} {d w : Nat} {P : Int32 → Hp → Prop} {q0 : Nat} {x1 : Int32} {h : Hp} (H : wp_MO_copy G l d w P q0 x1 h) : Ci G l M_MO_copy (d + 2) (w + 44) [.ref q0, .int x1] h 0 0 P := by
  unfold wp_MO_copy at H
  refine Ct.of (lv := [some (.ref q0), some (.int x1)]) (by decide) (Nat.le_of_ble_eq_true rfl) rfl (fun p e s m args below meth c => ?_)
  refine g_iload_n d_MO_copy_0 rfl ?_
  obtain ⟨P_1, C_2, H⟩ := H
  refine q_S (As := [.int x1]) (st := []) (nl := 1) d_MO_copy_1 v_MO_187 C_2 rfl (catS_le (Nat.le_of_ble_eq_true rfl)) rfl ⟨by omega, by omega, Nat.le_refl _, Nat.le_refl _⟩ (fun r_7 h_3 p_4 => ?_)
  obtain ⟨x_5, rfl, p_4⟩ := p_4
  replace H := H x_5 h_3 p_4
  show Go _ _ _ _ [.int x_5] _ _ _
  obtain ⟨H1, H2⟩ := H
  refine g_if_eq (tgt := 31) d_MO_copy_4 (by decide) (fun c_8 => ?_) (fun c_8 => ?_)
  · have H := H1 c_8
    refine g_msk [true, true] ?_
    exact okJ_MO_copy_31 H
  · have H := H2 c_8
    refine g_aload_n d_MO_copy_7 rfl ?_
    obtain ⟨z_9, H⟩ := H
    refine g_getR d_MO_copy_8 f_MO_51 z_9 (by decide) ?_
    refine g_iconst (v := 1) d_MO_copy_11 (by decide) ?_
    refine g_iload_n d_MO_copy_12 rfl ?_
    refine g_iadd d_MO_copy_13 ?_
    obtain ⟨q_10, e_11, H⟩ := H
    show Go _ _ _ [some (.ref q0), some (.int x1)] [.int (1 + x1), va_rf (hR h_3 q0 16)] _ _ _
    rw [show va_rf (hR h_3 q0 16) = Value.ref q_10 from by rw [e_11]; rfl]
    obtain ⟨N_12, H⟩ := H
    obtain ⟨j_13, H⟩ := H
    obtain ⟨z_14, H⟩ := H
    refine g_iald d_MO_copy_14 z_14.1 z_14.2.1 z_14.2.2.1 z_14.2.2.2 ?_
    obtain ⟨H1, H2⟩ := H
    refine g_if_eq (tgt := 31) d_MO_copy_15 (by decide) (fun c_15 => ?_) (fun c_15 => ?_)
    · have H := H1 c_15
      refine g_msk [true, true] ?_
      exact okJ_MO_copy_31 H
    · have H := H2 c_15
      refine g_aload_n d_MO_copy_18 rfl ?_
      refine g_getR d_MO_copy_19 f_MO_51 z_9 (by decide) ?_
      refine g_iconst (v := 1) d_MO_copy_22 (by decide) ?_
      refine g_iload_n d_MO_copy_23 rfl ?_
      refine g_iadd d_MO_copy_24 ?_
      obtain ⟨q_16, e_17, H⟩ := H
      show Go _ _ _ [some (.ref q0), some (.int x1)] [.int (1 + x1), va_rf (hR h_3 q0 16)] _ _ _
      rw [show va_rf (hR h_3 q0 16) = Value.ref q_16 from by rw [e_17]; rfl]
      obtain ⟨N_18, H⟩ := H
      obtain ⟨j_19, H⟩ := H
      obtain ⟨z_20, H⟩ := H
      refine g_iald d_MO_copy_25 z_20.1 z_20.2.1 z_20.2.2.1 z_20.2.2.2 ?_
      refine g_bipush (v := 6) d_MO_copy_26 (by decide) ?_
      obtain ⟨H1, H2⟩ := H
      refine g_icmp_ne (tgt := 33) d_MO_copy_28 (by decide) (fun c_21 => ?_) (fun c_21 => ?_)
      · have H := H1 c_21
        refine g_aload_n d_MO_copy_33 rfl ?_
        refine g_iconst (v := 1) d_MO_copy_34 (by decide) ?_
        refine g_iload_n d_MO_copy_35 rfl ?_
        refine g_iadd d_MO_copy_36 ?_
        obtain ⟨P_22, C_23, H⟩ := H
        refine q_S (As := [.int (1 + x1)]) (st := [.ref q0]) (nl := 1) d_MO_copy_37 v_MO_159 C_23 rfl (catS_le (Nat.le_of_ble_eq_true rfl)) rfl ⟨by omega, by omega, Nat.le_refl _, Nat.le_refl _⟩ (fun r_28 h_24 p_25 => ?_)
        obtain ⟨x_26, rfl, p_25⟩ := p_25
        replace H := H x_26 h_24 p_25
        show Go _ _ _ _ [.int x_26, .ref q0] _ _ _
        obtain ⟨z_29, H⟩ := H
        obtain ⟨P_30, C_31, H⟩ := H
        refine q_V (As := [.int x_26]) (st := []) (nl := 3) d_MO_copy_40 v_MO_217 C_31 z_29 rfl (catS_le (Nat.le_of_ble_eq_true rfl)) rfl ⟨by omega, by omega, Nat.le_refl _, Nat.le_refl _⟩ (fun r_36 h_32 p_33 => ?_)
        obtain ⟨rfl, p_33⟩ := p_33
        replace H := H h_32 p_33
        show Go _ _ _ _ [] _ _ _
        refine g_aload_n d_MO_copy_43 rfl ?_
        refine g_iconst (v := 1) d_MO_copy_44 (by decide) ?_
        refine g_iload_n d_MO_copy_45 rfl ?_
        refine g_iadd d_MO_copy_46 ?_
        refine g_iconst (v := 0) d_MO_copy_47 (by decide) ?_
        obtain ⟨z_37, H⟩ := H
        obtain ⟨P_38, C_39, H⟩ := H
        refine q_V (As := [.int (1 + x1), .int 0]) (st := []) (nl := 5) d_MO_copy_48 v_MO_208 C_39 z_37 rfl (catS_le (Nat.le_of_ble_eq_true rfl)) rfl ⟨by omega, by omega, Nat.le_refl _, Nat.le_refl _⟩ (fun r_44 h_40 p_41 => ?_)
        obtain ⟨rfl, p_41⟩ := p_41
        replace H := H h_40 p_41
        show Go _ _ _ _ [] _ _ _
        refine g_iconst (v := 1) d_MO_copy_51 (by decide) ?_
        exact g_zreturn d_MO_copy_52 rfl (by decide) (Nat.le_refl _) (Nat.le_refl _) ⟨_, rfl, H⟩
      · have H := H2 c_21
        refine g_msk [true, true] ?_
        exact okJ_MO_copy_31 H
set_option maxRecDepth 100000 in
set_option maxHeartbeats 4000000 in
def wJ_MO_swap_19 (G : Gx) (l : Launch) (d w : Nat) (P : Int32 → Hp → Prop) (q0 : Nat) (x1 : Int32) (h : Hp)  : Prop := P 0 h
set_option maxRecDepth 100000 in
set_option maxHeartbeats 4000000 in
theorem okJ_MO_swap_19 {G : Gx} {l : Launch} {d w : Nat} {P : Int32 → Hp → Prop} {p : Program} {e : Env} {s : State} {m : MethodId} {args : Array Value} {below : List Frame} {meth : Method} {c : Code} {q0 : Nat} {x1 : Int32} {h : Hp}  (H : wJ_MO_swap_19 G l d w P  q0 x1 h ) : Go M_MO_swap (mkX G (fun r h' => ∃ x, r = some (.int x) ∧ P x h') (d + 2) (w + 44) 0 0 p l e s m args below meth c) 19 [some (.ref q0), some (.int x1), none, none] [] h 0 0 := by
  unfold wJ_MO_swap_19 at H
  refine g_iconst (v := 0) d_MO_swap_19 (by decide) ?_
  exact g_zreturn d_MO_swap_20 rfl (by decide) (Nat.le_refl _) (Nat.le_refl _) ⟨_, rfl, H⟩
set_option maxRecDepth 100000 in
set_option maxHeartbeats 4000000 in
def wp_MO_swap (G : Gx) (l : Launch) (d w : Nat) (P : Int32 → Hp → Prop) (q0 : Nat) (x1 : Int32) (h : Hp) : Prop := ∃ P_1 : Int32 → Hp → Prop, (Ci G l M_MO_isDevice (d + 0) (w + 0) [.int x1] h 0 0 P_1) ∧ (∀ (x_5 : Int32) (h_3 : Hp), P_1 x_5 h_3 → (x_5 = 0 → wJ_MO_swap_19 G l d w P q0 x1 h_3) ∧ (¬ x_5 = 0 → (hS h_3 q0 = some (18, 0)) ∧ (∃ q_10 : Nat, (hR h_3 q0 16) = some q_10 ∧ (∃ N_12 : Nat, ∃ j_13 : Nat, (hS h_3 q_10 = some (0, N_12) ∧ (1 + x1) = nI j_13 ∧ j_13 < N_12 ∧ j_13 < 2147483648) ∧ ((2 ≤ (hI h_3 q_10 j_13) → ∃ P_16 : Int32 → Hp → Prop, (Ci G l M_MO_baseOf (d + 0) (w + 0) [.int (1 + x1)] h_3 0 0 P_16) ∧ (∀ (x_20 : Int32) (h_18 : Hp), P_16 x_20 h_18 → (hS h_18 q0 = some (18, 0)) ∧ (∃ P_24 : Hp → Prop, (Cv G l M_MO_load (d + 0) (w + 0) [.ref q0, .int x_20] h_18 0 0 P_24) ∧ (∀ h_26 : Hp, P_24 h_26 → (hS h_26 q0 = some (18, 0)) ∧ (∃ P_32 : Hp → Prop, (Cv G l M_MO_move (d + 0) (w + 0) [.ref q0, .int x_20, .int (x_20 + 1)] h_26 0 0 P_32) ∧ (∀ h_34 : Hp, P_32 h_34 → (hS h_34 q0 = some (18, 0)) ∧ (∃ q_40 : Nat, (hR h_34 q0 16) = some q_40 ∧ (∃ N_42 : Nat, ∃ j_43 : Nat, (hS h_34 q_40 = some (0, N_42) ∧ (1 + x1) = nI j_43 ∧ j_43 < N_42 ∧ j_43 < 2147483648) ∧ (∀ x_45 : Int32, x_45 = (hI h_34 q_40 j_43) → ∃ q_46 : Nat, (hR h_34 q0 16) = some q_46 ∧ (∃ N_48 : Nat, ∃ j_49 : Nat, (hS h_34 q_46 = some (0, N_48) ∧ (1 + x1) = nI j_49 ∧ j_49 < N_48 ∧ j_49 < 2147483648) ∧ (∃ P_51 : Hp → Prop, (Cv G l M_MO_append (d + 1) (w + 20) [.ref q0, .int (1 + x1), .int 0] (pI h_34 q_46 j_49 1) 0 0 P_51) ∧ (∀ h_53 : Hp, P_51 h_53 → (hS h_53 q0 = some (18, 0)) ∧ (∃ q_59 : Nat, (hR h_53 q0 16) = some q_59 ∧ (∃ N_61 : Nat, ∃ j_62 : Nat, (hS h_53 q_59 = some (0, N_61) ∧ (1 + x1) = nI j_62 ∧ j_62 < N_61 ∧ j_62 < 2147483648) ∧ (P 1 (pI h_53 q_59 j_62 x_45)))))))))))))))) ∧ (¬ 2 ≤ (hI h_3 q_10 j_13) → wJ_MO_swap_19 G l d w P q0 x1 h_3))))))
set_option maxRecDepth 100000 in
set_option maxHeartbeats 4000000 in
theorem ok_MO_swap {G : Gx} {l : Launch} {d w : Nat} {P : Int32 → Hp → Prop} {q0 : Nat} {x1 : Int32} {h : Hp} (H : wp_MO_swap G l d w P q0 x1 h) : Ci G l M_MO_swap (d + 2) (w + 44) [.ref q0, .int x1] h 0 0 P := by
  unfold wp_MO_swap at H
  refine Ct.of (lv := [some (.ref q0), some (.int x1), none, none]) (by decide) (Nat.le_of_ble_eq_true rfl) rfl (fun p e s m args below meth c => ?_)
  refine g_iload_n d_MO_swap_0 rfl ?_
  obtain ⟨P_1, C_2, H⟩ := H
  refine q_S (As := [.int x1]) (st := []) (nl := 1) d_MO_swap_1 v_MO_187 C_2 rfl (catS_le (Nat.le_of_ble_eq_true rfl)) rfl ⟨by omega, by omega, Nat.le_refl _, Nat.le_refl _⟩ (fun r_7 h_3 p_4 => ?_)
  obtain ⟨x_5, rfl, p_4⟩ := p_4
  replace H := H x_5 h_3 p_4
  show Go _ _ _ _ [.int x_5] _ _ _
  obtain ⟨H1, H2⟩ := H
  refine g_if_eq (tgt := 19) d_MO_swap_4 (by decide) (fun c_8 => ?_) (fun c_8 => ?_)
  · have H := H1 c_8
    refine g_msk [true, true, false, false] ?_
    exact okJ_MO_swap_19 H
  · have H := H2 c_8
    refine g_aload_n d_MO_swap_7 rfl ?_
    obtain ⟨z_9, H⟩ := H
    refine g_getR d_MO_swap_8 f_MO_51 z_9 (by decide) ?_
    refine g_iconst (v := 1) d_MO_swap_11 (by decide) ?_
    refine g_iload_n d_MO_swap_12 rfl ?_
    refine g_iadd d_MO_swap_13 ?_
    obtain ⟨q_10, e_11, H⟩ := H
    show Go _ _ _ [some (.ref q0), some (.int x1), none, none] [.int (1 + x1), va_rf (hR h_3 q0 16)] _ _ _
    rw [show va_rf (hR h_3 q0 16) = Value.ref q_10 from by rw [e_11]; rfl]
    obtain ⟨N_12, H⟩ := H
    obtain ⟨j_13, H⟩ := H
    obtain ⟨z_14, H⟩ := H
    refine g_iald d_MO_swap_14 z_14.1 z_14.2.1 z_14.2.2.1 z_14.2.2.2 ?_
    refine g_iconst (v := 2) d_MO_swap_15 (by decide) ?_
    obtain ⟨H1, H2⟩ := H
    refine g_icmp_ge (tgt := 21) d_MO_swap_16 (by decide) (fun c_15 => ?_) (fun c_15 => ?_)
    · have H := H1 c_15
      refine g_iconst (v := 1) d_MO_swap_21 (by decide) ?_
      refine g_iload_n d_MO_swap_22 rfl ?_
      refine g_iadd d_MO_swap_23 ?_
      obtain ⟨P_16, C_17, H⟩ := H
      refine q_S (As := [.int (1 + x1)]) (st := []) (nl := 1) d_MO_swap_24 v_MO_159 C_17 rfl (catS_le (Nat.le_of_ble_eq_true rfl)) rfl ⟨by omega, by omega, Nat.le_refl _, Nat.le_refl _⟩ (fun r_22 h_18 p_19 => ?_)
      obtain ⟨x_20, rfl, p_19⟩ := p_19
      replace H := H x_20 h_18 p_19
      show Go _ _ _ _ [.int x_20] _ _ _
      refine g_istore_n (lv' := [some (.ref q0), some (.int x1), some (.int x_20), none]) d_MO_swap_27 (by decide) rfl ?_
      refine g_aload_n d_MO_swap_28 rfl ?_
      refine g_iload_n d_MO_swap_29 rfl ?_
      obtain ⟨z_23, H⟩ := H
      obtain ⟨P_24, C_25, H⟩ := H
      refine q_V (As := [.int x_20]) (st := []) (nl := 3) d_MO_swap_30 v_MO_217 C_25 z_23 rfl (catS_le (Nat.le_of_ble_eq_true rfl)) rfl ⟨by omega, by omega, Nat.le_refl _, Nat.le_refl _⟩ (fun r_30 h_26 p_27 => ?_)
      obtain ⟨rfl, p_27⟩ := p_27
      replace H := H h_26 p_27
      show Go _ _ _ _ [] _ _ _
      refine g_aload_n d_MO_swap_33 rfl ?_
      refine g_iload_n d_MO_swap_34 rfl ?_
      refine g_iload_n d_MO_swap_35 rfl ?_
      refine g_iconst (v := 1) d_MO_swap_36 (by decide) ?_
      refine g_iadd d_MO_swap_37 ?_
      obtain ⟨z_31, H⟩ := H
      obtain ⟨P_32, C_33, H⟩ := H
      refine q_V (As := [.int x_20, .int (x_20 + 1)]) (st := []) (nl := 4) d_MO_swap_38 v_MO_162 C_33 z_31 rfl (catS_le (Nat.le_of_ble_eq_true rfl)) rfl ⟨by omega, by omega, Nat.le_refl _, Nat.le_refl _⟩ (fun r_38 h_34 p_35 => ?_)
      obtain ⟨rfl, p_35⟩ := p_35
      replace H := H h_34 p_35
      show Go _ _ _ _ [] _ _ _
      refine g_aload_n d_MO_swap_41 rfl ?_
      obtain ⟨z_39, H⟩ := H
      refine g_getR d_MO_swap_42 f_MO_51 z_39 (by decide) ?_
      refine g_iconst (v := 1) d_MO_swap_45 (by decide) ?_
      refine g_iload_n d_MO_swap_46 rfl ?_
      refine g_iadd d_MO_swap_47 ?_
      obtain ⟨q_40, e_41, H⟩ := H
      show Go _ _ _ [some (.ref q0), some (.int x1), some (.int x_20), none] [.int (1 + x1), va_rf (hR h_34 q0 16)] _ _ _
      rw [show va_rf (hR h_34 q0 16) = Value.ref q_40 from by rw [e_41]; rfl]
      obtain ⟨N_42, H⟩ := H
      obtain ⟨j_43, H⟩ := H
      obtain ⟨z_44, H⟩ := H
      refine g_iald d_MO_swap_48 z_44.1 z_44.2.1 z_44.2.2.1 z_44.2.2.2 ?_
      refine g_topi (fun x_45 ex_45 => ?_)
      replace H := H x_45 ex_45
      refine g_istore_n (lv' := [some (.ref q0), some (.int x1), some (.int x_20), some (.int x_45)]) d_MO_swap_49 (by decide) rfl ?_
      refine g_aload_n d_MO_swap_50 rfl ?_
      refine g_getR d_MO_swap_51 f_MO_51 z_39 (by decide) ?_
      refine g_iconst (v := 1) d_MO_swap_54 (by decide) ?_
      refine g_iload_n d_MO_swap_55 rfl ?_
      refine g_iadd d_MO_swap_56 ?_
      refine g_iconst (v := 1) d_MO_swap_57 (by decide) ?_
      obtain ⟨q_46, e_47, H⟩ := H
      show Go _ _ _ [some (.ref q0), some (.int x1), some (.int x_20), some (.int x_45)] [.int 1, .int (1 + x1), va_rf (hR h_34 q0 16)] _ _ _
      rw [show va_rf (hR h_34 q0 16) = Value.ref q_46 from by rw [e_47]; rfl]
      obtain ⟨N_48, H⟩ := H
      obtain ⟨j_49, H⟩ := H
      obtain ⟨z_50, H⟩ := H
      refine g_iast d_MO_swap_58 z_50.1 z_50.2.1 z_50.2.2.1 z_50.2.2.2 ?_
      refine g_aload_n d_MO_swap_59 rfl ?_
      refine g_iconst (v := 1) d_MO_swap_60 (by decide) ?_
      refine g_iload_n d_MO_swap_61 rfl ?_
      refine g_iadd d_MO_swap_62 ?_
      refine g_iconst (v := 0) d_MO_swap_63 (by decide) ?_
      obtain ⟨P_51, C_52, H⟩ := H
      refine q_V (As := [.int (1 + x1), .int 0]) (st := []) (nl := 5) d_MO_swap_64 v_MO_208 C_52 z_39 rfl (catS_le (Nat.le_of_ble_eq_true rfl)) rfl ⟨by omega, by omega, Nat.le_refl _, Nat.le_refl _⟩ (fun r_57 h_53 p_54 => ?_)
      obtain ⟨rfl, p_54⟩ := p_54
      replace H := H h_53 p_54
      show Go _ _ _ _ [] _ _ _
      refine g_aload_n d_MO_swap_67 rfl ?_
      obtain ⟨z_58, H⟩ := H
      refine g_getR d_MO_swap_68 f_MO_51 z_58 (by decide) ?_
      refine g_iconst (v := 1) d_MO_swap_71 (by decide) ?_
      refine g_iload_n d_MO_swap_72 rfl ?_
      refine g_iadd d_MO_swap_73 ?_
      refine g_iload_n d_MO_swap_74 rfl ?_
      obtain ⟨q_59, e_60, H⟩ := H
      show Go _ _ _ [some (.ref q0), some (.int x1), some (.int x_20), some (.int x_45)] [.int x_45, .int (1 + x1), va_rf (hR h_53 q0 16)] _ _ _
      rw [show va_rf (hR h_53 q0 16) = Value.ref q_59 from by rw [e_60]; rfl]
      obtain ⟨N_61, H⟩ := H
      obtain ⟨j_62, H⟩ := H
      obtain ⟨z_63, H⟩ := H
      refine g_iast d_MO_swap_75 z_63.1 z_63.2.1 z_63.2.2.1 z_63.2.2.2 ?_
      refine g_iconst (v := 1) d_MO_swap_76 (by decide) ?_
      exact g_zreturn d_MO_swap_77 rfl (by decide) (Nat.le_refl _) (Nat.le_refl _) ⟨_, rfl, H⟩
    · have H := H2 c_15
      refine g_msk [true, true, false, false] ?_
      exact okJ_MO_swap_19 H
set_option maxRecDepth 100000 in
set_option maxHeartbeats 4000000 in
def wp_MO_report (G : Gx) (l : Launch) (d w : Nat) (P : Int32 → Hp → Prop) (q0 : Nat) (x1 : Int32) (h : Hp) : Prop := ∃ P_1 : Int32 → Hp → Prop, (Ci G l M_MO_isDevice (d + 0) (w + 0) [.int x1] h 0 0 P_1) ∧ (∀ (x_5 : Int32) (h_3 : Hp), P_1 x_5 h_3 → (¬ x_5 = 0 → (hS h_3 q0 = some (18, 0)) ∧ (∃ q_10 : Nat, (hR h_3 q0 16) = some q_10 ∧ (∃ N_12 : Nat, ∃ j_13 : Nat, (hS h_3 q_10 = some (0, N_12) ∧ (5 + x1) = nI j_13 ∧ j_13 < N_12 ∧ j_13 < 2147483648) ∧ ((¬ (hI h_3 q_10 j_13) = 0 → ∃ P_16 : Int32 → Hp → Prop, (Ci G l M_MO_baseOf (d + 0) (w + 0) [.int (5 + x1)] h_3 0 0 P_16) ∧ (∀ (x_20 : Int32) (h_18 : Hp), P_16 x_20 h_18 → (hS h_18 q0 = some (18, 0)) ∧ (∃ P_24 : Hp → Prop, (Cv G l M_MO_load (d + 0) (w + 0) [.ref q0, .int x_20] h_18 0 0 P_24) ∧ (∀ h_26 : Hp, P_24 h_26 → (hS h_26 q0 = some (18, 0)) ∧ (∃ P_32 : Hp → Prop, (Cv G l M_MO_removeFirst (d + 1) (w + 23) [.ref q0, .int (5 + x1)] h_26 0 0 P_32) ∧ (∀ h_34 : Hp, P_32 h_34 → (hS h_34 q0 = some (18, 0)) ∧ (∃ q_40 : Nat, (hR h_34 q0 12) = some q_40 ∧ (∃ N_42 : Nat, ∃ j_43 : Nat, (hS h_34 q_40 = some (0, N_42) ∧ ((hI h_34 q0 11) - 1) = nI j_43 ∧ j_43 < N_42 ∧ j_43 < 2147483648) ∧ (∃ q_45 : Nat, (hR h_34 q0 12) = some q_45 ∧ (∃ N_47 : Nat, ∃ j_48 : Nat, (hS h_34 q_45 = some (0, N_47) ∧ 1 = nI j_48 ∧ j_48 < N_47 ∧ j_48 < 2147483648) ∧ (P ((256 * (hI h_34 q_40 j_43)) + (hI h_34 q_45 j_48)) h_34))))))))))) ∧ ((hI h_3 q_10 j_13) = 0 → P (-2) h_3))))) ∧ (x_5 = 0 → P (-1) h_3))
set_option maxRecDepth 100000 in
set_option maxHeartbeats 4000000 in
theorem ok_MO_report {G : Gx} {l : Launch} {d w : Nat} {P : Int32 → Hp → Prop} {q0 : Nat} {x1 : Int32} {h : Hp} (H : wp_MO_report G l d w P q0 x1 h) : Ci G l M_MO_report (d + 2) (w + 46) [.ref q0, .int x1] h 0 0 P := by
  unfold wp_MO_report at H
  refine Ct.of (lv := [some (.ref q0), some (.int x1)]) (by decide) (Nat.le_of_ble_eq_true rfl) rfl (fun p e s m args below meth c => ?_)
  refine g_iload_n d_MO_report_0 rfl ?_
  obtain ⟨P_1, C_2, H⟩ := H
  refine q_S (As := [.int x1]) (st := []) (nl := 1) d_MO_report_1 v_MO_187 C_2 rfl (catS_le (Nat.le_of_ble_eq_true rfl)) rfl ⟨by omega, by omega, Nat.le_refl _, Nat.le_refl _⟩ (fun r_7 h_3 p_4 => ?_)
  obtain ⟨x_5, rfl, p_4⟩ := p_4
  replace H := H x_5 h_3 p_4
  show Go _ _ _ _ [.int x_5] _ _ _
  obtain ⟨H1, H2⟩ := H
  refine g_if_ne (tgt := 9) d_MO_report_4 (by decide) (fun c_8 => ?_) (fun c_8 => ?_)
  · have H := H1 c_8
    refine g_aload_n d_MO_report_9 rfl ?_
    obtain ⟨z_9, H⟩ := H
    refine g_getR d_MO_report_10 f_MO_51 z_9 (by decide) ?_
    refine g_iconst (v := 5) d_MO_report_13 (by decide) ?_
    refine g_iload_n d_MO_report_14 rfl ?_
    refine g_iadd d_MO_report_15 ?_
    obtain ⟨q_10, e_11, H⟩ := H
    show Go _ _ _ [some (.ref q0), some (.int x1)] [.int (5 + x1), va_rf (hR h_3 q0 16)] _ _ _
    rw [show va_rf (hR h_3 q0 16) = Value.ref q_10 from by rw [e_11]; rfl]
    obtain ⟨N_12, H⟩ := H
    obtain ⟨j_13, H⟩ := H
    obtain ⟨z_14, H⟩ := H
    refine g_iald d_MO_report_16 z_14.1 z_14.2.1 z_14.2.2.1 z_14.2.2.2 ?_
    obtain ⟨H1, H2⟩ := H
    refine g_if_ne (tgt := 23) d_MO_report_17 (by decide) (fun c_15 => ?_) (fun c_15 => ?_)
    · have H := H1 c_15
      refine g_aload_n d_MO_report_23 rfl ?_
      refine g_iconst (v := 5) d_MO_report_24 (by decide) ?_
      refine g_iload_n d_MO_report_25 rfl ?_
      refine g_iadd d_MO_report_26 ?_
      obtain ⟨P_16, C_17, H⟩ := H
      refine q_S (As := [.int (5 + x1)]) (st := [.ref q0]) (nl := 1) d_MO_report_27 v_MO_159 C_17 rfl (catS_le (Nat.le_of_ble_eq_true rfl)) rfl ⟨by omega, by omega, Nat.le_refl _, Nat.le_refl _⟩ (fun r_22 h_18 p_19 => ?_)
      obtain ⟨x_20, rfl, p_19⟩ := p_19
      replace H := H x_20 h_18 p_19
      show Go _ _ _ _ [.int x_20, .ref q0] _ _ _
      obtain ⟨z_23, H⟩ := H
      obtain ⟨P_24, C_25, H⟩ := H
      refine q_V (As := [.int x_20]) (st := []) (nl := 3) d_MO_report_30 v_MO_217 C_25 z_23 rfl (catS_le (Nat.le_of_ble_eq_true rfl)) rfl ⟨by omega, by omega, Nat.le_refl _, Nat.le_refl _⟩ (fun r_30 h_26 p_27 => ?_)
      obtain ⟨rfl, p_27⟩ := p_27
      replace H := H h_26 p_27
      show Go _ _ _ _ [] _ _ _
      refine g_aload_n d_MO_report_33 rfl ?_
      refine g_iconst (v := 5) d_MO_report_34 (by decide) ?_
      refine g_iload_n d_MO_report_35 rfl ?_
      refine g_iadd d_MO_report_36 ?_
      obtain ⟨z_31, H⟩ := H
      obtain ⟨P_32, C_33, H⟩ := H
      refine q_V (As := [.int (5 + x1)]) (st := []) (nl := 4) d_MO_report_37 v_MO_223 C_33 z_31 rfl (catS_le (Nat.le_of_ble_eq_true rfl)) rfl ⟨by omega, by omega, Nat.le_refl _, Nat.le_refl _⟩ (fun r_38 h_34 p_35 => ?_)
      obtain ⟨rfl, p_35⟩ := p_35
      replace H := H h_34 p_35
      show Go _ _ _ _ [] _ _ _
      refine g_sipush (v := 256) d_MO_report_40 (by decide) ?_
      refine g_aload_n d_MO_report_43 rfl ?_
      obtain ⟨z_39, H⟩ := H
      refine g_getR d_MO_report_44 f_MO_39 z_39 (by decide) ?_
      refine g_aload_n d_MO_report_47 rfl ?_
      refine g_getI d_MO_report_48 f_MO_131 z_39 ?_
      refine g_iconst (v := 1) d_MO_report_51 (by decide) ?_
      refine g_isub d_MO_report_52 ?_
      obtain ⟨q_40, e_41, H⟩ := H
      show Go _ _ _ [some (.ref q0), some (.int x1)] [.int ((hI h_34 q0 11) - 1), va_rf (hR h_34 q0 12), .int 256] _ _ _
      rw [show va_rf (hR h_34 q0 12) = Value.ref q_40 from by rw [e_41]; rfl]
      obtain ⟨N_42, H⟩ := H
      obtain ⟨j_43, H⟩ := H
      obtain ⟨z_44, H⟩ := H
      refine g_iald d_MO_report_53 z_44.1 z_44.2.1 z_44.2.2.1 z_44.2.2.2 ?_
      refine g_imul d_MO_report_54 ?_
      refine g_aload_n d_MO_report_55 rfl ?_
      refine g_getR d_MO_report_56 f_MO_39 z_39 (by decide) ?_
      refine g_iconst (v := 1) d_MO_report_59 (by decide) ?_
      obtain ⟨q_45, e_46, H⟩ := H
      show Go _ _ _ [some (.ref q0), some (.int x1)] [.int 1, va_rf (hR h_34 q0 12), .int (256 * (hI h_34 q_40 j_43))] _ _ _
      rw [show va_rf (hR h_34 q0 12) = Value.ref q_45 from by rw [e_46]; rfl]
      obtain ⟨N_47, H⟩ := H
      obtain ⟨j_48, H⟩ := H
      obtain ⟨z_49, H⟩ := H
      refine g_iald d_MO_report_60 z_49.1 z_49.2.1 z_49.2.2.1 z_49.2.2.2 ?_
      refine g_iadd d_MO_report_61 ?_
      exact g_ireturn d_MO_report_62 rfl (Nat.le_refl _) (Nat.le_refl _) ⟨_, rfl, H⟩
    · have H := H2 c_15
      refine g_bipush (v := (-2)) d_MO_report_20 (by decide) ?_
      exact g_ireturn d_MO_report_22 rfl (Nat.le_refl _) (Nat.le_refl _) ⟨_, rfl, H⟩
  · have H := H2 c_8
    refine g_iconst (v := (-1)) d_MO_report_7 (by decide) ?_
    exact g_ireturn d_MO_report_8 rfl (Nat.le_refl _) (Nat.le_refl _) ⟨_, rfl, H⟩
set_option maxRecDepth 100000 in
set_option maxHeartbeats 4000000 in
def wJ_MO_waiting_23 (G : Gx) (l : Launch) (d w : Nat) (P : Int32 → Hp → Prop) (q0 : Nat) (x1 : Int32) (sx0 : Int32) (h : Hp)  : Prop := P sx0 h
set_option maxRecDepth 100000 in
set_option maxHeartbeats 4000000 in
theorem okJ_MO_waiting_23 {G : Gx} {l : Launch} {d w : Nat} {P : Int32 → Hp → Prop} {p : Program} {e : Env} {s : State} {m : MethodId} {args : Array Value} {below : List Frame} {meth : Method} {c : Code} {q0 : Nat} {x1 : Int32} {sx0 : Int32} {h : Hp}  (H : wJ_MO_waiting_23 G l d w P  q0 x1 sx0 h ) : Go M_MO_waiting (mkX G (fun r h' => ∃ x, r = some (.int x) ∧ P x h') (d + 0) (w + 0) 0 0 p l e s m args below meth c) 23 [some (.ref q0), some (.int x1)] [.int sx0] h 0 0 := by
  unfold wJ_MO_waiting_23 at H
  exact g_ireturn d_MO_waiting_23 rfl (Nat.le_refl _) (Nat.le_refl _) ⟨_, rfl, H⟩
set_option maxRecDepth 100000 in
set_option maxHeartbeats 4000000 in
def wJ_MO_waiting_11 (G : Gx) (l : Launch) (d w : Nat) (P : Int32 → Hp → Prop) (q0 : Nat) (x1 : Int32) (h : Hp)  : Prop := wJ_MO_waiting_23 G l d w P q0 x1 (-1) h
set_option maxRecDepth 100000 in
set_option maxHeartbeats 4000000 in
theorem okJ_MO_waiting_11 {G : Gx} {l : Launch} {d w : Nat} {P : Int32 → Hp → Prop} {p : Program} {e : Env} {s : State} {m : MethodId} {args : Array Value} {below : List Frame} {meth : Method} {c : Code} {q0 : Nat} {x1 : Int32} {h : Hp}  (H : wJ_MO_waiting_11 G l d w P  q0 x1 h ) : Go M_MO_waiting (mkX G (fun r h' => ∃ x, r = some (.int x) ∧ P x h') (d + 0) (w + 0) 0 0 p l e s m args below meth c) 11 [some (.ref q0), some (.int x1)] [] h 0 0 := by
  unfold wJ_MO_waiting_11 at H
  refine g_iconst (v := (-1)) d_MO_waiting_11 (by decide) ?_
  refine g_goto (tgt := 23) d_MO_waiting_12 (by decide) ?_
  refine g_msk [true, true] ?_
  exact okJ_MO_waiting_23 H
set_option maxRecDepth 100000 in
set_option maxHeartbeats 4000000 in
def wp_MO_waiting (G : Gx) (l : Launch) (d w : Nat) (P : Int32 → Hp → Prop) (q0 : Nat) (x1 : Int32) (h : Hp) : Prop := (x1 < (-1) → wJ_MO_waiting_11 G l d w P q0 x1 h) ∧ (¬ x1 < (-1) → (x1 ≤ 7 → (hS h q0 = some (18, 0)) ∧ (∃ q_4 : Nat, (hR h q0 16) = some q_4 ∧ (∃ N_6 : Nat, ∃ j_7 : Nat, (hS h q_4 = some (0, N_6) ∧ (x1 + 1) = nI j_7 ∧ j_7 < N_6 ∧ j_7 < 2147483648) ∧ (wJ_MO_waiting_23 G l d w P q0 x1 (hI h q_4 j_7) h)))) ∧ (¬ x1 ≤ 7 → wJ_MO_waiting_11 G l d w P q0 x1 h))
set_option maxRecDepth 100000 in
set_option maxHeartbeats 4000000 in
theorem ok_MO_waiting {G : Gx} {l : Launch} {d w : Nat} {P : Int32 → Hp → Prop} {q0 : Nat} {x1 : Int32} {h : Hp} (H : wp_MO_waiting G l d w P q0 x1 h) : Ci G l M_MO_waiting (d + 0) (w + 0) [.ref q0, .int x1] h 0 0 P := by
  unfold wp_MO_waiting at H
  refine Ct.of (lv := [some (.ref q0), some (.int x1)]) (by decide) (Nat.le_of_ble_eq_true rfl) rfl (fun p e s m args below meth c => ?_)
  refine g_iload_n d_MO_waiting_0 rfl ?_
  refine g_iconst (v := (-1)) d_MO_waiting_1 (by decide) ?_
  obtain ⟨H1, H2⟩ := H
  refine g_icmp_lt (tgt := 11) d_MO_waiting_2 (by decide) (fun c_1 => ?_) (fun c_1 => ?_)
  · have H := H1 c_1
    refine g_msk [true, true] ?_
    exact okJ_MO_waiting_11 H
  · have H := H2 c_1
    refine g_iload_n d_MO_waiting_5 rfl ?_
    refine g_bipush (v := 7) d_MO_waiting_6 (by decide) ?_
    obtain ⟨H1, H2⟩ := H
    refine g_icmp_le (tgt := 15) d_MO_waiting_8 (by decide) (fun c_2 => ?_) (fun c_2 => ?_)
    · have H := H1 c_2
      refine g_aload_n d_MO_waiting_15 rfl ?_
      obtain ⟨z_3, H⟩ := H
      refine g_getR d_MO_waiting_16 f_MO_51 z_3 (by decide) ?_
      refine g_iload_n d_MO_waiting_19 rfl ?_
      refine g_iconst (v := 1) d_MO_waiting_20 (by decide) ?_
      refine g_iadd d_MO_waiting_21 ?_
      obtain ⟨q_4, e_5, H⟩ := H
      show Go _ _ _ [some (.ref q0), some (.int x1)] [.int (x1 + 1), va_rf (hR h q0 16)] _ _ _
      rw [show va_rf (hR h q0 16) = Value.ref q_4 from by rw [e_5]; rfl]
      obtain ⟨N_6, H⟩ := H
      obtain ⟨j_7, H⟩ := H
      obtain ⟨z_8, H⟩ := H
      refine g_iald d_MO_waiting_22 z_8.1 z_8.2.1 z_8.2.2.1 z_8.2.2.2 ?_
      refine g_msk [true, true] ?_
      exact okJ_MO_waiting_23 H
    · have H := H2 c_2
      refine g_msk [true, true] ?_
      exact okJ_MO_waiting_11 H
set_option maxRecDepth 100000 in
set_option maxHeartbeats 4000000 in
def wJ_MO_byteAt_22 (G : Gx) (l : Launch) (d w : Nat) (P : Int32 → Hp → Prop) (q0 : Nat) (x1 : Int32) (x2 : Int32) (h : Hp)  : Prop := P (-2) h
set_option maxRecDepth 100000 in
set_option maxHeartbeats 4000000 in
theorem okJ_MO_byteAt_22 {G : Gx} {l : Launch} {d w : Nat} {P : Int32 → Hp → Prop} {p : Program} {e : Env} {s : State} {m : MethodId} {args : Array Value} {below : List Frame} {meth : Method} {c : Code} {q0 : Nat} {x1 : Int32} {x2 : Int32} {h : Hp}  (H : wJ_MO_byteAt_22 G l d w P  q0 x1 x2 h ) : Go M_MO_byteAt (mkX G (fun r h' => ∃ x, r = some (.int x) ∧ P x h') (d + 1) (w + 20) 0 0 p l e s m args below meth c) 22 [some (.ref q0), some (.int x1), some (.int x2), none] [] h 0 0 := by
  unfold wJ_MO_byteAt_22 at H
  refine g_bipush (v := (-2)) d_MO_byteAt_22 (by decide) ?_
  exact g_ireturn d_MO_byteAt_24 rfl (Nat.le_refl _) (Nat.le_refl _) ⟨_, rfl, H⟩
set_option maxRecDepth 100000 in
set_option maxHeartbeats 4000000 in
def wJ_MO_byteAt_63 (G : Gx) (l : Launch) (d w : Nat) (P : Int32 → Hp → Prop) (q0 : Nat) (x1 : Int32) (x2 : Int32) (x3 : Int32) (sx0 : Int32) (h : Hp)  : Prop := P sx0 h
set_option maxRecDepth 100000 in
set_option maxHeartbeats 4000000 in
theorem okJ_MO_byteAt_63 {G : Gx} {l : Launch} {d w : Nat} {P : Int32 → Hp → Prop} {p : Program} {e : Env} {s : State} {m : MethodId} {args : Array Value} {below : List Frame} {meth : Method} {c : Code} {q0 : Nat} {x1 : Int32} {x2 : Int32} {x3 : Int32} {sx0 : Int32} {h : Hp}  (H : wJ_MO_byteAt_63 G l d w P  q0 x1 x2 x3 sx0 h ) : Go M_MO_byteAt (mkX G (fun r h' => ∃ x, r = some (.int x) ∧ P x h') (d + 1) (w + 20) 0 0 p l e s m args below meth c) 63 [some (.ref q0), some (.int x1), some (.int x2), some (.int x3)] [.int sx0] h 0 0 := by
  unfold wJ_MO_byteAt_63 at H
  exact g_ireturn d_MO_byteAt_63 rfl (Nat.le_refl _) (Nat.le_refl _) ⟨_, rfl, H⟩
set_option maxRecDepth 100000 in
set_option maxHeartbeats 4000000 in
def wJ_MO_byteAt_46 (G : Gx) (l : Launch) (d w : Nat) (P : Int32 → Hp → Prop) (q0 : Nat) (x1 : Int32) (x2 : Int32) (x3 : Int32) (h : Hp)  : Prop := wJ_MO_byteAt_63 G l d w P q0 x1 x2 x3 (-2) h
set_option maxRecDepth 100000 in
set_option maxHeartbeats 4000000 in
theorem okJ_MO_byteAt_46 {G : Gx} {l : Launch} {d w : Nat} {P : Int32 → Hp → Prop} {p : Program} {e : Env} {s : State} {m : MethodId} {args : Array Value} {below : List Frame} {meth : Method} {c : Code} {q0 : Nat} {x1 : Int32} {x2 : Int32} {x3 : Int32} {h : Hp}  (H : wJ_MO_byteAt_46 G l d w P  q0 x1 x2 x3 h ) : Go M_MO_byteAt (mkX G (fun r h' => ∃ x, r = some (.int x) ∧ P x h') (d + 1) (w + 20) 0 0 p l e s m args below meth c) 46 [some (.ref q0), some (.int x1), some (.int x2), some (.int x3)] [] h 0 0 := by
  unfold wJ_MO_byteAt_46 at H
  refine g_bipush (v := (-2)) d_MO_byteAt_46 (by decide) ?_
  refine g_goto (tgt := 63) d_MO_byteAt_48 (by decide) ?_
  refine g_msk [true, true, true, true] ?_
  exact okJ_MO_byteAt_63 H
set_option maxRecDepth 100000 in
set_option maxHeartbeats 4000000 in
def wp_MO_byteAt (G : Gx) (l : Launch) (d w : Nat) (P : Int32 → Hp → Prop) (q0 : Nat) (x1 : Int32) (x2 : Int32) (h : Hp) : Prop := (x1 < (-1) → wJ_MO_byteAt_22 G l d w P q0 x1 x2 h) ∧ (¬ x1 < (-1) → (7 < x1 → wJ_MO_byteAt_22 G l d w P q0 x1 x2 h) ∧ (¬ 7 < x1 → (hS h q0 = some (18, 0)) ∧ (∃ q_4 : Nat, (hR h q0 16) = some q_4 ∧ (∃ N_6 : Nat, ∃ j_7 : Nat, (hS h q_4 = some (0, N_6) ∧ (x1 + 1) = nI j_7 ∧ j_7 < N_6 ∧ j_7 < 2147483648) ∧ ((¬ (hI h q_4 j_7) = 0 → ∃ P_10 : Int32 → Hp → Prop, (Ci G l M_MO_baseOf (d + 0) (w + 0) [.int (x1 + 1)] h 0 0 P_10) ∧ (∀ (x_14 : Int32) (h_12 : Hp), P_10 x_14 h_12 → (x2 < 0 → wJ_MO_byteAt_46 G l d w P q0 x1 x2 x_14 h_12) ∧ (¬ x2 < 0 → (hS h_12 q0 = some (18, 0)) ∧ (∃ q_19 : Nat, (hR h_12 q0 14) = some q_19 ∧ (∃ N_21 : Nat, ∃ j_22 : Nat, (hS h_12 q_19 = some (0, N_21) ∧ x_14 = nI j_22 ∧ j_22 < N_21 ∧ j_22 < 2147483648) ∧ ((x2 < (hI h_12 q_19 j_22) → ∃ q_25 : Nat, (hR h_12 q0 13) = some q_25 ∧ (∃ N_27 : Nat, ∃ j_28 : Nat, (hS h_12 q_25 = some (0, N_27) ∧ ((160 * x_14) + x2) = nI j_28 ∧ j_28 < N_27 ∧ j_28 < 2147483648) ∧ (wJ_MO_byteAt_63 G l d w P q0 x1 x2 x_14 (hI h_12 q_25 j_28) h_12))) ∧ (¬ x2 < (hI h_12 q_19 j_22) → wJ_MO_byteAt_46 G l d w P q0 x1 x2 x_14 h_12))))))) ∧ ((hI h q_4 j_7) = 0 → wJ_MO_byteAt_22 G l d w P q0 x1 x2 h))))))
set_option maxRecDepth 100000 in
set_option maxHeartbeats 4000000 in
theorem ok_MO_byteAt {G : Gx} {l : Launch} {d w : Nat} {P : Int32 → Hp → Prop} {q0 : Nat} {x1 : Int32} {x2 : Int32} {h : Hp} (H : wp_MO_byteAt G l d w P q0 x1 x2 h) : Ci G l M_MO_byteAt (d + 1) (w + 20) [.ref q0, .int x1, .int x2] h 0 0 P := by
  unfold wp_MO_byteAt at H
  refine Ct.of (lv := [some (.ref q0), some (.int x1), some (.int x2), none]) (by decide) (Nat.le_of_ble_eq_true rfl) rfl (fun p e s m args below meth c => ?_)
  refine g_iload_n d_MO_byteAt_0 rfl ?_
  refine g_iconst (v := (-1)) d_MO_byteAt_1 (by decide) ?_
  obtain ⟨H1, H2⟩ := H
  refine g_icmp_lt (tgt := 22) d_MO_byteAt_2 (by decide) (fun c_1 => ?_) (fun c_1 => ?_)
  · have H := H1 c_1
    refine g_msk [true, true, true, false] ?_
    exact okJ_MO_byteAt_22 H
  · have H := H2 c_1
    refine g_iload_n d_MO_byteAt_5 rfl ?_
    refine g_bipush (v := 7) d_MO_byteAt_6 (by decide) ?_
    obtain ⟨H1, H2⟩ := H
    refine g_icmp_gt (tgt := 22) d_MO_byteAt_8 (by decide) (fun c_2 => ?_) (fun c_2 => ?_)
    · have H := H1 c_2
      refine g_msk [true, true, true, false] ?_
      exact okJ_MO_byteAt_22 H
    · have H := H2 c_2
      refine g_aload_n d_MO_byteAt_11 rfl ?_
      obtain ⟨z_3, H⟩ := H
      refine g_getR d_MO_byteAt_12 f_MO_51 z_3 (by decide) ?_
      refine g_iload_n d_MO_byteAt_15 rfl ?_
      refine g_iconst (v := 1) d_MO_byteAt_16 (by decide) ?_
      refine g_iadd d_MO_byteAt_17 ?_
      obtain ⟨q_4, e_5, H⟩ := H
      show Go _ _ _ [some (.ref q0), some (.int x1), some (.int x2), none] [.int (x1 + 1), va_rf (hR h q0 16)] _ _ _
      rw [show va_rf (hR h q0 16) = Value.ref q_4 from by rw [e_5]; rfl]
      obtain ⟨N_6, H⟩ := H
      obtain ⟨j_7, H⟩ := H
      obtain ⟨z_8, H⟩ := H
      refine g_iald d_MO_byteAt_18 z_8.1 z_8.2.1 z_8.2.2.1 z_8.2.2.2 ?_
      obtain ⟨H1, H2⟩ := H
      refine g_if_ne (tgt := 25) d_MO_byteAt_19 (by decide) (fun c_9 => ?_) (fun c_9 => ?_)
      · have H := H1 c_9
        refine g_iload_n d_MO_byteAt_25 rfl ?_
        refine g_iconst (v := 1) d_MO_byteAt_26 (by decide) ?_
        refine g_iadd d_MO_byteAt_27 ?_
        obtain ⟨P_10, C_11, H⟩ := H
        refine q_S (As := [.int (x1 + 1)]) (st := []) (nl := 1) d_MO_byteAt_28 v_MO_159 C_11 rfl (catS_le (Nat.le_of_ble_eq_true rfl)) rfl ⟨by omega, by omega, Nat.le_refl _, Nat.le_refl _⟩ (fun r_16 h_12 p_13 => ?_)
        obtain ⟨x_14, rfl, p_13⟩ := p_13
        replace H := H x_14 h_12 p_13
        show Go _ _ _ _ [.int x_14] _ _ _
        refine g_istore_n (lv' := [some (.ref q0), some (.int x1), some (.int x2), some (.int x_14)]) d_MO_byteAt_31 (by decide) rfl ?_
        refine g_iload_n d_MO_byteAt_32 rfl ?_
        obtain ⟨H1, H2⟩ := H
        refine g_if_lt (tgt := 46) d_MO_byteAt_33 (by decide) (fun c_17 => ?_) (fun c_17 => ?_)
        · have H := H1 c_17
          refine g_msk [true, true, true, true] ?_
          exact okJ_MO_byteAt_46 H
        · have H := H2 c_17
          refine g_iload_n d_MO_byteAt_36 rfl ?_
          refine g_aload_n d_MO_byteAt_37 rfl ?_
          obtain ⟨z_18, H⟩ := H
          refine g_getR d_MO_byteAt_38 f_MO_45 z_18 (by decide) ?_
          refine g_iload_n d_MO_byteAt_41 rfl ?_
          obtain ⟨q_19, e_20, H⟩ := H
          show Go _ _ _ [some (.ref q0), some (.int x1), some (.int x2), some (.int x_14)] [.int x_14, va_rf (hR h_12 q0 14), .int x2] _ _ _
          rw [show va_rf (hR h_12 q0 14) = Value.ref q_19 from by rw [e_20]; rfl]
          obtain ⟨N_21, H⟩ := H
          obtain ⟨j_22, H⟩ := H
          obtain ⟨z_23, H⟩ := H
          refine g_iald d_MO_byteAt_42 z_23.1 z_23.2.1 z_23.2.2.1 z_23.2.2.2 ?_
          obtain ⟨H1, H2⟩ := H
          refine g_icmp_lt (tgt := 51) d_MO_byteAt_43 (by decide) (fun c_24 => ?_) (fun c_24 => ?_)
          · have H := H1 c_24
            refine g_aload_n d_MO_byteAt_51 rfl ?_
            refine g_getR d_MO_byteAt_52 f_MO_42 z_18 (by decide) ?_
            refine g_sipush (v := 160) d_MO_byteAt_55 (by decide) ?_
            refine g_iload_n d_MO_byteAt_58 rfl ?_
            refine g_imul d_MO_byteAt_59 ?_
            refine g_iload_n d_MO_byteAt_60 rfl ?_
            refine g_iadd d_MO_byteAt_61 ?_
            obtain ⟨q_25, e_26, H⟩ := H
            show Go _ _ _ [some (.ref q0), some (.int x1), some (.int x2), some (.int x_14)] [.int ((160 * x_14) + x2), va_rf (hR h_12 q0 13)] _ _ _
            rw [show va_rf (hR h_12 q0 13) = Value.ref q_25 from by rw [e_26]; rfl]
            obtain ⟨N_27, H⟩ := H
            obtain ⟨j_28, H⟩ := H
            obtain ⟨z_29, H⟩ := H
            refine g_iald d_MO_byteAt_62 z_29.1 z_29.2.1 z_29.2.2.1 z_29.2.2.2 ?_
            refine g_msk [true, true, true, true] ?_
            exact okJ_MO_byteAt_63 H
          · have H := H2 c_24
            refine g_msk [true, true, true, true] ?_
            exact okJ_MO_byteAt_46 H
      · have H := H2 c_9
        refine g_msk [true, true, true, false] ?_
        exact okJ_MO_byteAt_22 H
set_option maxRecDepth 100000 in
set_option maxHeartbeats 4000000 in
def wJ_MO_text_38 (G : Gx) (l : Launch) (d w : Nat) (P : Int32 → Hp → Prop) (q0 : Nat) (x1 : Int32) (x2 : Int32) (sx0 : Int32) (h : Hp)  : Prop := P sx0 h
set_option maxRecDepth 100000 in
set_option maxHeartbeats 4000000 in
theorem okJ_MO_text_38 {G : Gx} {l : Launch} {d w : Nat} {P : Int32 → Hp → Prop} {p : Program} {e : Env} {s : State} {m : MethodId} {args : Array Value} {below : List Frame} {meth : Method} {c : Code} {q0 : Nat} {x1 : Int32} {x2 : Int32} {sx0 : Int32} {h : Hp}  (H : wJ_MO_text_38 G l d w P  q0 x1 x2 sx0 h ) : Go M_MO_text (mkX G (fun r h' => ∃ x, r = some (.int x) ∧ P x h') (d + 1) (w + 20) 0 0 p l e s m args below meth c) 38 [some (.ref q0), some (.int x1), some (.int x2)] [.int sx0] h 0 0 := by
  unfold wJ_MO_text_38 at H
  exact g_ireturn d_MO_text_38 rfl (Nat.le_refl _) (Nat.le_refl _) ⟨_, rfl, H⟩
set_option maxRecDepth 100000 in
set_option maxHeartbeats 4000000 in
def wJ_MO_text_21 (G : Gx) (l : Launch) (d w : Nat) (P : Int32 → Hp → Prop) (q0 : Nat) (x1 : Int32) (x2 : Int32) (h : Hp)  : Prop := wJ_MO_text_38 G l d w P q0 x1 x2 (-2) h
set_option maxRecDepth 100000 in
set_option maxHeartbeats 4000000 in
theorem okJ_MO_text_21 {G : Gx} {l : Launch} {d w : Nat} {P : Int32 → Hp → Prop} {p : Program} {e : Env} {s : State} {m : MethodId} {args : Array Value} {below : List Frame} {meth : Method} {c : Code} {q0 : Nat} {x1 : Int32} {x2 : Int32} {h : Hp}  (H : wJ_MO_text_21 G l d w P  q0 x1 x2 h ) : Go M_MO_text (mkX G (fun r h' => ∃ x, r = some (.int x) ∧ P x h') (d + 1) (w + 20) 0 0 p l e s m args below meth c) 21 [some (.ref q0), some (.int x1), some (.int x2)] [] h 0 0 := by
  unfold wJ_MO_text_21 at H
  refine g_bipush (v := (-2)) d_MO_text_21 (by decide) ?_
  refine g_goto (tgt := 38) d_MO_text_23 (by decide) ?_
  refine g_msk [true, true, true] ?_
  exact okJ_MO_text_38 H
set_option maxRecDepth 100000 in
set_option maxHeartbeats 4000000 in
def wp_MO_text (G : Gx) (l : Launch) (d w : Nat) (P : Int32 → Hp → Prop) (q0 : Nat) (x1 : Int32) (x2 : Int32) (h : Hp) : Prop := ∃ P_1 : Int32 → Hp → Prop, (Ci G l M_MO_isDevice (d + 0) (w + 0) [.int x1] h 0 0 P_1) ∧ (∀ (x_5 : Int32) (h_3 : Hp), P_1 x_5 h_3 → (x_5 = 0 → wJ_MO_text_21 G l d w P q0 x1 x2 h_3) ∧ (¬ x_5 = 0 → (x2 < 0 → wJ_MO_text_21 G l d w P q0 x1 x2 h_3) ∧ (¬ x2 < 0 → (hS h_3 q0 = some (18, 0)) ∧ (∃ q_11 : Nat, (hR h_3 q0 8) = some q_11 ∧ (∃ N_13 : Nat, ∃ j_14 : Nat, (hS h_3 q_11 = some (0, N_13) ∧ x1 = nI j_14 ∧ j_14 < N_13 ∧ j_14 < 2147483648) ∧ ((x2 < (hI h_3 q_11 j_14) → ∃ q_17 : Nat, (hR h_3 q0 9) = some q_17 ∧ (∃ N_19 : Nat, ∃ j_20 : Nat, (hS h_3 q_17 = some (0, N_19) ∧ ((480 * x1) + x2) = nI j_20 ∧ j_20 < N_19 ∧ j_20 < 2147483648) ∧ (wJ_MO_text_38 G l d w P q0 x1 x2 (hI h_3 q_17 j_20) h_3))) ∧ (¬ x2 < (hI h_3 q_11 j_14) → wJ_MO_text_21 G l d w P q0 x1 x2 h_3)))))))
set_option maxRecDepth 100000 in
set_option maxHeartbeats 4000000 in
theorem ok_MO_text {G : Gx} {l : Launch} {d w : Nat} {P : Int32 → Hp → Prop} {q0 : Nat} {x1 : Int32} {x2 : Int32} {h : Hp} (H : wp_MO_text G l d w P q0 x1 x2 h) : Ci G l M_MO_text (d + 1) (w + 20) [.ref q0, .int x1, .int x2] h 0 0 P := by
  unfold wp_MO_text at H
  refine Ct.of (lv := [some (.ref q0), some (.int x1), some (.int x2)]) (by decide) (Nat.le_of_ble_eq_true rfl) rfl (fun p e s m args below meth c => ?_)
  refine g_iload_n d_MO_text_0 rfl ?_
  obtain ⟨P_1, C_2, H⟩ := H
  refine q_S (As := [.int x1]) (st := []) (nl := 1) d_MO_text_1 v_MO_187 C_2 rfl (catS_le (Nat.le_of_ble_eq_true rfl)) rfl ⟨by omega, by omega, Nat.le_refl _, Nat.le_refl _⟩ (fun r_7 h_3 p_4 => ?_)
  obtain ⟨x_5, rfl, p_4⟩ := p_4
  replace H := H x_5 h_3 p_4
  show Go _ _ _ _ [.int x_5] _ _ _
  obtain ⟨H1, H2⟩ := H
  refine g_if_eq (tgt := 21) d_MO_text_4 (by decide) (fun c_8 => ?_) (fun c_8 => ?_)
  · have H := H1 c_8
    refine g_msk [true, true, true] ?_
    exact okJ_MO_text_21 H
  · have H := H2 c_8
    refine g_iload_n d_MO_text_7 rfl ?_
    obtain ⟨H1, H2⟩ := H
    refine g_if_lt (tgt := 21) d_MO_text_8 (by decide) (fun c_9 => ?_) (fun c_9 => ?_)
    · have H := H1 c_9
      refine g_msk [true, true, true] ?_
      exact okJ_MO_text_21 H
    · have H := H2 c_9
      refine g_iload_n d_MO_text_11 rfl ?_
      refine g_aload_n d_MO_text_12 rfl ?_
      obtain ⟨z_10, H⟩ := H
      refine g_getR d_MO_text_13 f_MO_30 z_10 (by decide) ?_
      refine g_iload_n d_MO_text_16 rfl ?_
      obtain ⟨q_11, e_12, H⟩ := H
      show Go _ _ _ [some (.ref q0), some (.int x1), some (.int x2)] [.int x1, va_rf (hR h_3 q0 8), .int x2] _ _ _
      rw [show va_rf (hR h_3 q0 8) = Value.ref q_11 from by rw [e_12]; rfl]
      obtain ⟨N_13, H⟩ := H
      obtain ⟨j_14, H⟩ := H
      obtain ⟨z_15, H⟩ := H
      refine g_iald d_MO_text_17 z_15.1 z_15.2.1 z_15.2.2.1 z_15.2.2.2 ?_
      obtain ⟨H1, H2⟩ := H
      refine g_icmp_lt (tgt := 26) d_MO_text_18 (by decide) (fun c_16 => ?_) (fun c_16 => ?_)
      · have H := H1 c_16
        refine g_aload_n d_MO_text_26 rfl ?_
        refine g_getR d_MO_text_27 f_MO_33 z_10 (by decide) ?_
        refine g_sipush (v := 480) d_MO_text_30 (by decide) ?_
        refine g_iload_n d_MO_text_33 rfl ?_
        refine g_imul d_MO_text_34 ?_
        refine g_iload_n d_MO_text_35 rfl ?_
        refine g_iadd d_MO_text_36 ?_
        obtain ⟨q_17, e_18, H⟩ := H
        show Go _ _ _ [some (.ref q0), some (.int x1), some (.int x2)] [.int ((480 * x1) + x2), va_rf (hR h_3 q0 9)] _ _ _
        rw [show va_rf (hR h_3 q0 9) = Value.ref q_17 from by rw [e_18]; rfl]
        obtain ⟨N_19, H⟩ := H
        obtain ⟨j_20, H⟩ := H
        obtain ⟨z_21, H⟩ := H
        refine g_iald d_MO_text_37 z_21.1 z_21.2.1 z_21.2.2.1 z_21.2.2.2 ?_
        refine g_msk [true, true, true] ?_
        exact okJ_MO_text_38 H
      · have H := H2 c_16
        refine g_msk [true, true, true] ?_
        exact okJ_MO_text_21 H
set_option maxRecDepth 100000 in
set_option maxHeartbeats 4000000 in
def wJ_MO_sender_17 (G : Gx) (l : Launch) (d w : Nat) (P : Int64 → Hp → Prop) (q0 : Nat) (x1 : Int32) (sy0 : Int64) (h : Hp)  : Prop := P sy0 h
set_option maxRecDepth 100000 in
set_option maxHeartbeats 4000000 in
theorem okJ_MO_sender_17 {G : Gx} {l : Launch} {d w : Nat} {P : Int64 → Hp → Prop} {p : Program} {e : Env} {s : State} {m : MethodId} {args : Array Value} {below : List Frame} {meth : Method} {c : Code} {q0 : Nat} {x1 : Int32} {sy0 : Int64} {h : Hp}  (H : wJ_MO_sender_17 G l d w P  q0 x1 sy0 h ) : Go M_MO_sender (mkX G (fun r h' => ∃ x, r = some (.long x) ∧ P x h') (d + 1) (w + 20) 0 0 p l e s m args below meth c) 17 [some (.ref q0), some (.int x1)] [.long sy0] h 0 0 := by
  unfold wJ_MO_sender_17 at H
  exact g_lreturn d_MO_sender_17 rfl (Nat.le_refl _) (Nat.le_refl _) ⟨_, rfl, H⟩
set_option maxRecDepth 100000 in
set_option maxHeartbeats 4000000 in
def wp_MO_sender (G : Gx) (l : Launch) (d w : Nat) (P : Int64 → Hp → Prop) (q0 : Nat) (x1 : Int32) (h : Hp) : Prop := ∃ P_1 : Int32 → Hp → Prop, (Ci G l M_MO_isDevice (d + 0) (w + 0) [.int x1] h 0 0 P_1) ∧ (∀ (x_5 : Int32) (h_3 : Hp), P_1 x_5 h_3 → (x_5 = 0 → wJ_MO_sender_17 G l d w P q0 x1 0 h_3) ∧ (¬ x_5 = 0 → (hS h_3 q0 = some (18, 0)) ∧ (∃ q_10 : Nat, (hR h_3 q0 10) = some q_10 ∧ (∃ N_12 : Nat, ∃ j_13 : Nat, (hS h_3 q_10 = some (1, N_12) ∧ x1 = nI j_13 ∧ j_13 < N_12 ∧ j_13 < 2147483648) ∧ (wJ_MO_sender_17 G l d w P q0 x1 (hL h_3 q_10 j_13) h_3)))))
set_option maxRecDepth 100000 in
set_option maxHeartbeats 4000000 in
theorem ok_MO_sender {G : Gx} {l : Launch} {d w : Nat} {P : Int64 → Hp → Prop} {q0 : Nat} {x1 : Int32} {h : Hp} (H : wp_MO_sender G l d w P q0 x1 h) : Cl G l M_MO_sender (d + 1) (w + 20) [.ref q0, .int x1] h 0 0 P := by
  unfold wp_MO_sender at H
  refine Ct.of (lv := [some (.ref q0), some (.int x1)]) (by decide) (Nat.le_of_ble_eq_true rfl) rfl (fun p e s m args below meth c => ?_)
  refine g_iload_n d_MO_sender_0 rfl ?_
  obtain ⟨P_1, C_2, H⟩ := H
  refine q_S (As := [.int x1]) (st := []) (nl := 1) d_MO_sender_1 v_MO_187 C_2 rfl (catS_le (Nat.le_of_ble_eq_true rfl)) rfl ⟨by omega, by omega, Nat.le_refl _, Nat.le_refl _⟩ (fun r_7 h_3 p_4 => ?_)
  obtain ⟨x_5, rfl, p_4⟩ := p_4
  replace H := H x_5 h_3 p_4
  show Go _ _ _ _ [.int x_5] _ _ _
  obtain ⟨H1, H2⟩ := H
  refine g_if_eq (tgt := 16) d_MO_sender_4 (by decide) (fun c_8 => ?_) (fun c_8 => ?_)
  · have H := H1 c_8
    refine g_lconst (v := 0) d_MO_sender_16 (by decide) ?_
    refine g_msk [true, true] ?_
    exact okJ_MO_sender_17 H
  · have H := H2 c_8
    refine g_aload_n d_MO_sender_7 rfl ?_
    obtain ⟨z_9, H⟩ := H
    refine g_getR d_MO_sender_8 f_MO_36 z_9 (by decide) ?_
    refine g_iload_n d_MO_sender_11 rfl ?_
    obtain ⟨q_10, e_11, H⟩ := H
    show Go _ _ _ [some (.ref q0), some (.int x1)] [.int x1, va_rf (hR h_3 q0 10)] _ _ _
    rw [show va_rf (hR h_3 q0 10) = Value.ref q_10 from by rw [e_11]; rfl]
    obtain ⟨N_12, H⟩ := H
    obtain ⟨j_13, H⟩ := H
    obtain ⟨z_14, H⟩ := H
    refine g_lald d_MO_sender_12 z_14.1 z_14.2.1 z_14.2.2.1 z_14.2.2.2 ?_
    refine g_goto (tgt := 17) d_MO_sender_13 (by decide) ?_
    refine g_msk [true, true] ?_
    exact okJ_MO_sender_17 H
set_option maxRecDepth 100000 in
set_option maxHeartbeats 4000000 in
def wJ_MO_state_23 (G : Gx) (l : Launch) (d w : Nat) (P : Int32 → Hp → Prop) (q0 : Nat) (x1 : Int32) (sx0 : Int32) (h : Hp)  : Prop := P sx0 h
set_option maxRecDepth 100000 in
set_option maxHeartbeats 4000000 in
theorem okJ_MO_state_23 {G : Gx} {l : Launch} {d w : Nat} {P : Int32 → Hp → Prop} {p : Program} {e : Env} {s : State} {m : MethodId} {args : Array Value} {below : List Frame} {meth : Method} {c : Code} {q0 : Nat} {x1 : Int32} {sx0 : Int32} {h : Hp}  (H : wJ_MO_state_23 G l d w P  q0 x1 sx0 h ) : Go M_MO_state (mkX G (fun r h' => ∃ x, r = some (.int x) ∧ P x h') (d + 0) (w + 0) 0 0 p l e s m args below meth c) 23 [some (.ref q0), some (.int x1)] [.int sx0] h 0 0 := by
  unfold wJ_MO_state_23 at H
  exact g_ireturn d_MO_state_23 rfl (Nat.le_refl _) (Nat.le_refl _) ⟨_, rfl, H⟩
set_option maxRecDepth 100000 in
set_option maxHeartbeats 4000000 in
def wJ_MO_state_12 (G : Gx) (l : Launch) (d w : Nat) (P : Int32 → Hp → Prop) (q0 : Nat) (x1 : Int32) (h : Hp)  : Prop := wJ_MO_state_23 G l d w P q0 x1 (-2) h
set_option maxRecDepth 100000 in
set_option maxHeartbeats 4000000 in
theorem okJ_MO_state_12 {G : Gx} {l : Launch} {d w : Nat} {P : Int32 → Hp → Prop} {p : Program} {e : Env} {s : State} {m : MethodId} {args : Array Value} {below : List Frame} {meth : Method} {c : Code} {q0 : Nat} {x1 : Int32} {h : Hp}  (H : wJ_MO_state_12 G l d w P  q0 x1 h ) : Go M_MO_state (mkX G (fun r h' => ∃ x, r = some (.int x) ∧ P x h') (d + 0) (w + 0) 0 0 p l e s m args below meth c) 12 [some (.ref q0), some (.int x1)] [] h 0 0 := by
  unfold wJ_MO_state_12 at H
  refine g_bipush (v := (-2)) d_MO_state_12 (by decide) ?_
  refine g_goto (tgt := 23) d_MO_state_14 (by decide) ?_
  refine g_msk [true, true] ?_
  exact okJ_MO_state_23 H
set_option maxRecDepth 100000 in
set_option maxHeartbeats 4000000 in
def wp_MO_state (G : Gx) (l : Launch) (d w : Nat) (P : Int32 → Hp → Prop) (q0 : Nat) (x1 : Int32) (h : Hp) : Prop := (x1 < 0 → wJ_MO_state_12 G l d w P q0 x1 h) ∧ (¬ x1 < 0 → (hS h q0 = some (18, 0)) ∧ ((x1 < (hI h q0 17) → ∃ q_4 : Nat, (hR h q0 30) = some q_4 ∧ (∃ N_6 : Nat, ∃ j_7 : Nat, (hS h q_4 = some (0, N_6) ∧ x1 = nI j_7 ∧ j_7 < N_6 ∧ j_7 < 2147483648) ∧ (wJ_MO_state_23 G l d w P q0 x1 (hI h q_4 j_7) h))) ∧ (¬ x1 < (hI h q0 17) → wJ_MO_state_12 G l d w P q0 x1 h)))
set_option maxRecDepth 100000 in
set_option maxHeartbeats 4000000 in
theorem ok_MO_state {G : Gx} {l : Launch} {d w : Nat} {P : Int32 → Hp → Prop} {q0 : Nat} {x1 : Int32} {h : Hp} (H : wp_MO_state G l d w P q0 x1 h) : Ci G l M_MO_state (d + 0) (w + 0) [.ref q0, .int x1] h 0 0 P := by
  unfold wp_MO_state at H
  refine Ct.of (lv := [some (.ref q0), some (.int x1)]) (by decide) (Nat.le_of_ble_eq_true rfl) rfl (fun p e s m args below meth c => ?_)
  refine g_iload_n d_MO_state_0 rfl ?_
  obtain ⟨H1, H2⟩ := H
  refine g_if_lt (tgt := 12) d_MO_state_1 (by decide) (fun c_1 => ?_) (fun c_1 => ?_)
  · have H := H1 c_1
    refine g_msk [true, true] ?_
    exact okJ_MO_state_12 H
  · have H := H2 c_1
    refine g_iload_n d_MO_state_4 rfl ?_
    refine g_aload_n d_MO_state_5 rfl ?_
    obtain ⟨z_2, H⟩ := H
    refine g_getI d_MO_state_6 f_MO_214 z_2 ?_
    obtain ⟨H1, H2⟩ := H
    refine g_icmp_lt (tgt := 17) d_MO_state_9 (by decide) (fun c_3 => ?_) (fun c_3 => ?_)
    · have H := H1 c_3
      refine g_aload_n d_MO_state_17 rfl ?_
      refine g_getR d_MO_state_18 f_MO_84 z_2 (by decide) ?_
      refine g_iload_n d_MO_state_21 rfl ?_
      obtain ⟨q_4, e_5, H⟩ := H
      show Go _ _ _ [some (.ref q0), some (.int x1)] [.int x1, va_rf (hR h q0 30)] _ _ _
      rw [show va_rf (hR h q0 30) = Value.ref q_4 from by rw [e_5]; rfl]
      obtain ⟨N_6, H⟩ := H
      obtain ⟨j_7, H⟩ := H
      obtain ⟨z_8, H⟩ := H
      refine g_iald d_MO_state_22 z_8.1 z_8.2.1 z_8.2.2.1 z_8.2.2.2 ?_
      refine g_msk [true, true] ?_
      exact okJ_MO_state_23 H
    · have H := H2 c_3
      refine g_msk [true, true] ?_
      exact okJ_MO_state_12 H
set_option maxRecDepth 100000 in
set_option maxHeartbeats 4000000 in
def wJ_MO_offers_23 (G : Gx) (l : Launch) (d w : Nat) (P : Int32 → Hp → Prop) (q0 : Nat) (x1 : Int32) (sx0 : Int32) (h : Hp)  : Prop := P sx0 h
set_option maxRecDepth 100000 in
set_option maxHeartbeats 4000000 in
theorem okJ_MO_offers_23 {G : Gx} {l : Launch} {d w : Nat} {P : Int32 → Hp → Prop} {p : Program} {e : Env} {s : State} {m : MethodId} {args : Array Value} {below : List Frame} {meth : Method} {c : Code} {q0 : Nat} {x1 : Int32} {sx0 : Int32} {h : Hp}  (H : wJ_MO_offers_23 G l d w P  q0 x1 sx0 h ) : Go M_MO_offers (mkX G (fun r h' => ∃ x, r = some (.int x) ∧ P x h') (d + 0) (w + 0) 0 0 p l e s m args below meth c) 23 [some (.ref q0), some (.int x1)] [.int sx0] h 0 0 := by
  unfold wJ_MO_offers_23 at H
  exact g_ireturn d_MO_offers_23 rfl (Nat.le_refl _) (Nat.le_refl _) ⟨_, rfl, H⟩
set_option maxRecDepth 100000 in
set_option maxHeartbeats 4000000 in
def wJ_MO_offers_12 (G : Gx) (l : Launch) (d w : Nat) (P : Int32 → Hp → Prop) (q0 : Nat) (x1 : Int32) (h : Hp)  : Prop := wJ_MO_offers_23 G l d w P q0 x1 (-2) h
set_option maxRecDepth 100000 in
set_option maxHeartbeats 4000000 in
theorem okJ_MO_offers_12 {G : Gx} {l : Launch} {d w : Nat} {P : Int32 → Hp → Prop} {p : Program} {e : Env} {s : State} {m : MethodId} {args : Array Value} {below : List Frame} {meth : Method} {c : Code} {q0 : Nat} {x1 : Int32} {h : Hp}  (H : wJ_MO_offers_12 G l d w P  q0 x1 h ) : Go M_MO_offers (mkX G (fun r h' => ∃ x, r = some (.int x) ∧ P x h') (d + 0) (w + 0) 0 0 p l e s m args below meth c) 12 [some (.ref q0), some (.int x1)] [] h 0 0 := by
  unfold wJ_MO_offers_12 at H
  refine g_bipush (v := (-2)) d_MO_offers_12 (by decide) ?_
  refine g_goto (tgt := 23) d_MO_offers_14 (by decide) ?_
  refine g_msk [true, true] ?_
  exact okJ_MO_offers_23 H
set_option maxRecDepth 100000 in
set_option maxHeartbeats 4000000 in
def wp_MO_offers (G : Gx) (l : Launch) (d w : Nat) (P : Int32 → Hp → Prop) (q0 : Nat) (x1 : Int32) (h : Hp) : Prop := (x1 < 0 → wJ_MO_offers_12 G l d w P q0 x1 h) ∧ (¬ x1 < 0 → (hS h q0 = some (18, 0)) ∧ ((x1 < (hI h q0 17) → ∃ q_4 : Nat, (hR h q0 29) = some q_4 ∧ (∃ N_6 : Nat, ∃ j_7 : Nat, (hS h q_4 = some (0, N_6) ∧ x1 = nI j_7 ∧ j_7 < N_6 ∧ j_7 < 2147483648) ∧ (wJ_MO_offers_23 G l d w P q0 x1 (hI h q_4 j_7) h))) ∧ (¬ x1 < (hI h q0 17) → wJ_MO_offers_12 G l d w P q0 x1 h)))
set_option maxRecDepth 100000 in
set_option maxHeartbeats 4000000 in
theorem ok_MO_offers {G : Gx} {l : Launch} {d w : Nat} {P : Int32 → Hp → Prop} {q0 : Nat} {x1 : Int32} {h : Hp} (H : wp_MO_offers G l d w P q0 x1 h) : Ci G l M_MO_offers (d + 0) (w + 0) [.ref q0, .int x1] h 0 0 P := by
  unfold wp_MO_offers at H
  refine Ct.of (lv := [some (.ref q0), some (.int x1)]) (by decide) (Nat.le_of_ble_eq_true rfl) rfl (fun p e s m args below meth c => ?_)
  refine g_iload_n d_MO_offers_0 rfl ?_
  obtain ⟨H1, H2⟩ := H
  refine g_if_lt (tgt := 12) d_MO_offers_1 (by decide) (fun c_1 => ?_) (fun c_1 => ?_)
  · have H := H1 c_1
    refine g_msk [true, true] ?_
    exact okJ_MO_offers_12 H
  · have H := H2 c_1
    refine g_iload_n d_MO_offers_4 rfl ?_
    refine g_aload_n d_MO_offers_5 rfl ?_
    obtain ⟨z_2, H⟩ := H
    refine g_getI d_MO_offers_6 f_MO_214 z_2 ?_
    obtain ⟨H1, H2⟩ := H
    refine g_icmp_lt (tgt := 17) d_MO_offers_9 (by decide) (fun c_3 => ?_) (fun c_3 => ?_)
    · have H := H1 c_3
      refine g_aload_n d_MO_offers_17 rfl ?_
      refine g_getR d_MO_offers_18 f_MO_81 z_2 (by decide) ?_
      refine g_iload_n d_MO_offers_21 rfl ?_
      obtain ⟨q_4, e_5, H⟩ := H
      show Go _ _ _ [some (.ref q0), some (.int x1)] [.int x1, va_rf (hR h q0 29)] _ _ _
      rw [show va_rf (hR h q0 29) = Value.ref q_4 from by rw [e_5]; rfl]
      obtain ⟨N_6, H⟩ := H
      obtain ⟨j_7, H⟩ := H
      obtain ⟨z_8, H⟩ := H
      refine g_iald d_MO_offers_22 z_8.1 z_8.2.1 z_8.2.2.1 z_8.2.2.2 ?_
      refine g_msk [true, true] ?_
      exact okJ_MO_offers_23 H
    · have H := H2 c_3
      refine g_msk [true, true] ?_
      exact okJ_MO_offers_12 H
set_option maxRecDepth 100000 in
set_option maxHeartbeats 4000000 in
def wp_MO_time (G : Gx) (l : Launch) (d w : Nat) (P : Int32 → Hp → Prop) (q0 : Nat) (h : Hp) : Prop := (hS h q0 = some (18, 0)) ∧ (P (hI h q0 19) h)
set_option maxRecDepth 100000 in
set_option maxHeartbeats 4000000 in
theorem ok_MO_time {G : Gx} {l : Launch} {d w : Nat} {P : Int32 → Hp → Prop} {q0 : Nat} {h : Hp} (H : wp_MO_time G l d w P q0 h) : Ci G l M_MO_time (d + 0) (w + 0) [.ref q0] h 0 0 P := by
  unfold wp_MO_time at H
  refine Ct.of (lv := [some (.ref q0)]) (by decide) (Nat.le_of_ble_eq_true rfl) rfl (fun p e s m args below meth c => ?_)
  refine g_aload_n d_MO_time_0 rfl ?_
  obtain ⟨z_1, H⟩ := H
  refine g_getI d_MO_time_1 f_MO_226 z_1 ?_
  exact g_ireturn d_MO_time_4 rfl (Nat.le_refl _) (Nat.le_refl _) ⟨_, rfl, H⟩
