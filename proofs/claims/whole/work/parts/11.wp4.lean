set_option maxRecDepth 100000 in
set_option maxHeartbeats 4000000 in
def wB_SC_init_60 (G : Gx) (l : Launch) (d w mc ms : Nat) (P : Hp → Prop) (C60 : Int32 → Hp → Nat → Nat → Prop) (q0 : Nat) (x1 : Int32) (h : Hp) (k n : Nat) : Prop := (4 ≤ x1 → (k ≤ mc ∧ n ≤ ms) ∧ (P h)) ∧ (¬ 4 ≤ x1 → (hS h q0 = some (10, 0)) ∧ ((k + 1 ≤ mc ∧ n + 10 ≤ ms) ∧ (∀ q_4 : Nat, Fre h q_4 → ∃ mc_13 : Nat, ∃ ms_14 : Nat, ∃ P_8 : Hp → Prop, (Cv G l M_De_init (d + 5) (w + 101) [.ref q_4] (pN h q_4 (14, 0)) mc_13 ms_14 P_8) ∧ (((k + 1) + mc_13 ≤ mc ∧ (n + 10) + ms_14 ≤ ms) ∧ (∀ h_10 : Hp, P_8 h_10 → ∃ q_17 : Nat, (hR h q0 0) = some q_17 ∧ (∃ N_19 : Nat, ∃ j_20 : Nat, (hS h_10 q_17 = some (5, N_19) ∧ x1 = nI j_20 ∧ j_20 < N_19 ∧ j_20 < 2147483648) ∧ ((ObjA G h_10 q_4 5) ∧ (∀ x_23 : Int32, x_23 = x1 + 1 → C60 x_23 (pR h_10 q_17 j_20 (some q_4)) ((k + 1) + mc_13) ((n + 10) + ms_14)))))))))
set_option maxRecDepth 100000 in
set_option maxHeartbeats 4000000 in
theorem okB_SC_init_60 {G : Gx} {l : Launch} {d w : Nat} {mc ms : Nat} {P : Hp → Prop} {p : Program} {e : Env} {s : State} {m : MethodId} {args : Array Value} {below : List Frame} {meth : Method} {c : Code} {C60 : Int32 → Hp → Nat → Nat → Prop} {q0 : Nat} {x1 : Int32} (hC60 : ∀ (x1 : Int32) (h : Hp) (k n : Nat), C60 x1 h k n → Go M_SC_init (mkX G (fun r h' => r = none ∧ P h') (d + 6) (w + 121) mc ms p l e s m args below meth c) 60 [some (.ref q0), some (.int x1)] [] h k n) {h : Hp} {k n : Nat} (H : wB_SC_init_60 G l d w mc ms P C60 q0 x1 h k n) : Go M_SC_init (mkX G (fun r h' => r = none ∧ P h') (d + 6) (w + 121) mc ms p l e s m args below meth c) 60 [some (.ref q0), some (.int x1)] [] h k n := by
  unfold wB_SC_init_60 at H
  refine g_iload_n d_SC_init_60 rfl ?_
  refine g_iconst (v := 4) d_SC_init_61 (by decide) ?_
  obtain ⟨H1, H2⟩ := H
  refine g_icmp_ge (tgt := 84) d_SC_init_62 (by decide) (fun c_1 => ?_) (fun c_1 => ?_)
  · have H := H1 c_1
    obtain ⟨b_2, H⟩ := H
    exact g_return d_SC_init_84 rfl b_2.1 b_2.2 ⟨rfl, H⟩
  · have H := H2 c_1
    refine g_aload_n d_SC_init_65 rfl ?_
    obtain ⟨z_3, H⟩ := H
    refine g_getR d_SC_init_66 f_SC_11 z_3 (by decide) ?_
    refine g_iload_n d_SC_init_69 rfl ?_
    obtain ⟨b_5, H⟩ := H
    refine g_new d_SC_init_70 (ci := 4) rfl k_SC_9 kI_4 kJ_4 b_5.1 b_5.2 (fun q_4 Fq_4 => ?_)
    replace H := H q_4 Fq_4
    have z_6 := Fre.old (kd := (14, 0)) Fq_4 z_3
    have z_7 : hS (pN h q_4 (14, 0)) q_4 = some (14, 0) := Fre.new
    refine g_dup d_SC_init_73 rfl ?_
    obtain ⟨mc_13, H⟩ := H
    obtain ⟨ms_14, H⟩ := H
    obtain ⟨P_8, C_9, H⟩ := H
    obtain ⟨b_15, H⟩ := H
    refine q_I (As := []) (st := [.ref q_4, .int x1, va_rf (hR h q0 0)]) (nl := 1) d_SC_init_74 v_SC_41 C_9 rfl (catS_le (Nat.le_of_ble_eq_true rfl)) rfl ⟨by omega, by omega, b_15.1, b_15.2⟩ (fun r_16 h_10 p_11 => ?_)
    obtain ⟨rfl, p_11⟩ := p_11
    replace H := H h_10 p_11
    show Go _ _ _ _ [.ref q_4, .int x1, va_rf (hR h q0 0)] _ _ _
    obtain ⟨q_17, e_18, H⟩ := H
    show Go _ _ _ [some (.ref q0), some (.int x1)] [.ref q_4, .int x1, va_rf (hR h q0 0)] _ _ _
    rw [show va_rf (hR h q0 0) = Value.ref q_17 from by rw [e_18]; rfl]
    obtain ⟨N_19, H⟩ := H
    obtain ⟨j_20, H⟩ := H
    obtain ⟨z_21, H⟩ := H
    obtain ⟨u_22, H⟩ := H
    obtain ⟨u_22a, u_22b, u_22c, u_22d, u_22e⟩ := u_22
    refine g_aast d_SC_init_77 z_21.1 (by decide) u_22c u_22d u_22e z_21.2.1 z_21.2.2.1 z_21.2.2.2 ?_
    obtain ⟨x_23, ex_23⟩ : ∃ z : Int32, z = x1 + 1 := ⟨_, rfl⟩
    replace H := H x_23 ex_23
    refine g_iinc (v := x_23) (lv' := [some (.ref q0), some (.int x_23)]) d_SC_init_78 rfl (by decide) (by rw [ex_23]; rfl) rfl ?_
    refine g_goto (tgt := 60) d_SC_init_81 (by decide) ?_
    refine g_msk [true, true] ?_
    exact hC60 _ _ _ _ H
set_option maxRecDepth 100000 in
set_option maxHeartbeats 4000000 in
def wL_SC_init_60 (G : Gx) (l : Launch) (d w mc ms : Nat) (P : Hp → Prop) (q0 : Nat) (x1 : Int32) (h : Hp) (k n : Nat) : Prop := ∃ (I : Int32 → Hp → Nat → Nat → Prop) (μ : Int32 → Hp → Nat → Nat → Nat), I x1 h k n ∧ ∀ (x1' : Int32) (h' : Hp) (k' n' : Nat), I x1' h' k' n' → wB_SC_init_60 G l d w mc ms P (fun x1_ h_ k_ n_ => I x1_ h_ k_ n_ ∧ μ x1_ h_ k_ n_ < μ x1' h' k' n') q0 x1' h' k' n'
set_option maxRecDepth 100000 in
set_option maxHeartbeats 4000000 in
theorem okL_SC_init_60 {G : Gx} {l : Launch} {d w : Nat} {mc ms : Nat} {P : Hp → Prop} {p : Program} {e : Env} {s : State} {m : MethodId} {args : Array Value} {below : List Frame} {meth : Method} {c : Code} {q0 : Nat} {x1 : Int32} {h : Hp} {k n : Nat} (H : wL_SC_init_60 G l d w mc ms P  q0 x1 h k n) : Go M_SC_init (mkX G (fun r h' => r = none ∧ P h') (d + 6) (w + 121) mc ms p l e s m args below meth c) 60 [some (.ref q0), some (.int x1)] [] h k n := by
  obtain ⟨I, μ, h0, hs⟩ := H
  have key : ∀ (N : Nat) (x1 : Int32) (h : Hp) (k n : Nat), I x1 h k n → μ x1 h k n < N → Go M_SC_init (mkX G (fun r h' => r = none ∧ P h') (d + 6) (w + 121) mc ms p l e s m args below meth c) 60 [some (.ref q0), some (.int x1)] [] h k n := by
    intro N
    induction N with
    | zero => intro x1 h k n _ hN; exact absurd hN (Nat.not_lt_zero _)
    | succ N ih =>
      intro x1 h k n hI hN
      exact okB_SC_init_60 (fun x1_ h_ k_ n_ hh => ih x1_ h_ k_ n_ hh.1 (Nat.lt_of_lt_of_le hh.2 (Nat.le_of_lt_succ hN))) (hs x1 h k n hI)
  exact key _ _ _ _ _ h0 (Nat.lt_succ_self _)
set_option maxRecDepth 100000 in
set_option maxHeartbeats 4000000 in
def wp_SC_init (G : Gx) (l : Launch) (d w mc ms : Nat) (P : Hp → Prop) (q0 : Nat) (h : Hp) : Prop := ∃ N_26 : Nat, (4 = nI N_26 ∧ N_26 * 4 ≤ 536870912) ∧ ((0 + 1 ≤ mc ∧ 0 + N_26 ≤ ms) ∧ (∀ q_24 : Nat, Fre h q_24 → (hS (pN h q_24 (5, N_26)) q0 = some (10, 0)) ∧ (((0 + 1) + 1 ≤ mc ∧ (0 + N_26) + 2 ≤ ms) ∧ (∀ q_30 : Nat, Fre (pR (pN h q_24 (5, N_26)) q0 0 (some q_24)) q_30 → ∃ mc_40 : Nat, ∃ ms_41 : Nat, ∃ P_35 : Hp → Prop, (Cv G l M_Li_init (d + 4) (w + 80) [.ref q_30, .int 8] (pN (pR (pN h q_24 (5, N_26)) q0 0 (some q_24)) q_30 (11, 0)) mc_40 ms_41 P_35) ∧ ((((0 + 1) + 1) + mc_40 ≤ mc ∧ ((0 + N_26) + 2) + ms_41 ≤ ms) ∧ (∀ h_37 : Hp, P_35 h_37 → (hS h_37 q0 = some (10, 0)) ∧ (((((0 + 1) + 1) + mc_40) + 1 ≤ mc ∧ (((0 + N_26) + 2) + ms_41) + 2 ≤ ms) ∧ (∀ q_45 : Nat, Fre (pR h_37 q0 1 (some q_30)) q_45 → ∃ mc_54 : Nat, ∃ ms_55 : Nat, ∃ P_49 : Hp → Prop, (Cv G l M_Dr_init (d + 1) (w + 20) [.ref q_45] (pN (pR h_37 q0 1 (some q_30)) q_45 (13, 0)) mc_54 ms_55 P_49) ∧ ((((((0 + 1) + 1) + mc_40) + 1) + mc_54 ≤ mc ∧ ((((0 + N_26) + 2) + ms_41) + 2) + ms_55 ≤ ms) ∧ (∀ h_51 : Hp, P_49 h_51 → (hS h_51 q0 = some (10, 0)) ∧ (((((((0 + 1) + 1) + mc_40) + 1) + mc_54) + 1 ≤ mc ∧ (((((0 + N_26) + 2) + ms_41) + 2) + ms_55) + 3 ≤ ms) ∧ (∀ q_59 : Nat, Fre (pR h_51 q0 2 (some q_45)) q_59 → ∃ P_63 : Hp → Prop, (Cv G l M_AL_init (d + 3) (w + 60) [.ref q_59] (pN (pR h_51 q0 2 (some q_45)) q_59 (12, 0)) 0 0 P_63) ∧ ((((((((0 + 1) + 1) + mc_40) + 1) + mc_54) + 1) ≤ mc ∧ ((((((0 + N_26) + 2) + ms_41) + 2) + ms_55) + 3) ≤ ms) ∧ (∀ h_65 : Hp, P_63 h_65 → (hS h_65 q0 = some (10, 0)) ∧ ((((((((0 + 1) + 1) + mc_40) + 1) + mc_54) + 1) + 1 ≤ mc ∧ ((((((0 + N_26) + 2) + ms_41) + 2) + ms_55) + 3) + 3 ≤ ms) ∧ (∀ q_71 : Nat, Fre (pR h_65 q0 3 (some q_59)) q_71 → ∃ P_75 : Hp → Prop, (Cv G l M_AL_init (d + 3) (w + 60) [.ref q_71] (pN (pR h_65 q0 3 (some q_59)) q_71 (12, 0)) 0 0 P_75) ∧ (((((((((0 + 1) + 1) + mc_40) + 1) + mc_54) + 1) + 1) ≤ mc ∧ (((((((0 + N_26) + 2) + ms_41) + 2) + ms_55) + 3) + 3) ≤ ms) ∧ (∀ h_77 : Hp, P_75 h_77 → (hS h_77 q0 = some (10, 0)) ∧ (wL_SC_init_60 G l d w mc ms P q0 0 (pR h_77 q0 4 (some q_71)) (((((((0 + 1) + 1) + mc_40) + 1) + mc_54) + 1) + 1) (((((((0 + N_26) + 2) + ms_41) + 2) + ms_55) + 3) + 3))))))))))))))))))))
set_option maxRecDepth 100000 in
set_option maxHeartbeats 4000000 in
theorem ok_SC_init {G : Gx} {l : Launch} {d w : Nat} {mc ms : Nat} {P : Hp → Prop} {q0 : Nat} {h : Hp} (H : wp_SC_init G l d w mc ms P q0 h) : Cv G l M_SC_init (d + 6) (w + 121) [.ref q0] h mc ms P := by
  unfold wp_SC_init at H
  refine Ct.of (lv := [some (.ref q0), none]) (by decide) (Nat.le_of_ble_eq_true rfl) rfl (fun p e s m args below meth c => ?_)
  refine g_aload_n d_SC_init_0 rfl ?_
  refine g_objInit d_SC_init_1 kx_SC kx_n kx_c (catS_le (Nat.le_of_ble_eq_true rfl)) ⟨show 1 ≤ d + 6 by omega, show 20 ≤ w + 121 by omega⟩ ?_
  refine g_aload_n d_SC_init_4 rfl ?_
  refine g_iconst (v := 4) d_SC_init_5 (by decide) ?_
  obtain ⟨N_26, H⟩ := H
  obtain ⟨z_27, H⟩ := H
  obtain ⟨b_25, H⟩ := H
  refine g_anew (t := 5) d_SC_init_6 (by decide) k_SC_9 kO_5 z_27.1 z_27.2 b_25.1 b_25.2 (fun q_24 Fq_24 => ?_)
  replace H := H q_24 Fq_24
  have z_28 : hS (pN h q_24 (5, N_26)) q_24 = some (5, N_26) := Fre.new
  obtain ⟨z_29, H⟩ := H
  refine g_putR (x := (some q_24)) (ty := .array (.object "SeptetCentre$Device")) d_SC_init_9 f_SC_11 ⟨_, rfl, Or.inr ⟨rfl, rfl, rfl⟩⟩ z_29 (by decide) (by decide +kernel) (Or.inr ⟨_, rfl⟩) ?_
  refine g_aload_n d_SC_init_12 rfl ?_
  obtain ⟨b_31, H⟩ := H
  refine g_new d_SC_init_13 (ci := 1) rfl k_SC_15 kI_1 kJ_1 b_31.1 b_31.2 (fun q_30 Fq_30 => ?_)
  replace H := H q_30 Fq_30
  have z_32 := Fre.old (kd := (11, 0)) Fq_30 z_28
  have z_33 := Fre.old (kd := (11, 0)) Fq_30 z_29
  have z_34 : hS (pN (pR (pN h q_24 (5, N_26)) q0 0 (some q_24)) q_30 (11, 0)) q_30 = some (11, 0) := Fre.new
  refine g_dup d_SC_init_16 rfl ?_
  refine g_bipush (v := 8) d_SC_init_17 (by decide) ?_
  obtain ⟨mc_40, H⟩ := H
  obtain ⟨ms_41, H⟩ := H
  obtain ⟨P_35, C_36, H⟩ := H
  obtain ⟨b_42, H⟩ := H
  refine q_I (As := [.int 8]) (st := [.ref q_30, .ref q0]) (nl := 2) d_SC_init_19 v_SC_17 C_36 rfl (catS_le (Nat.le_of_ble_eq_true rfl)) rfl ⟨by omega, by omega, b_42.1, b_42.2⟩ (fun r_43 h_37 p_38 => ?_)
  obtain ⟨rfl, p_38⟩ := p_38
  replace H := H h_37 p_38
  show Go _ _ _ _ [.ref q_30, .ref q0] _ _ _
  obtain ⟨z_44, H⟩ := H
  refine g_putR (x := (some q_30)) (ty := .object "SeptetCentre$Line") d_SC_init_22 f_SC_20 ⟨_, rfl, Or.inr ⟨rfl, rfl, rfl⟩⟩ z_44 (by decide) (by decide +kernel) (Or.inl ⟨_, rfl⟩) ?_
  refine g_aload_n d_SC_init_25 rfl ?_
  obtain ⟨b_46, H⟩ := H
  refine g_new d_SC_init_26 (ci := 3) rfl k_SC_24 kI_3 kJ_3 b_46.1 b_46.2 (fun q_45 Fq_45 => ?_)
  replace H := H q_45 Fq_45
  have z_47 := Fre.old (kd := (13, 0)) Fq_45 z_44
  have z_48 : hS (pN (pR h_37 q0 1 (some q_30)) q_45 (13, 0)) q_45 = some (13, 0) := Fre.new
  refine g_dup d_SC_init_29 rfl ?_
  obtain ⟨mc_54, H⟩ := H
  obtain ⟨ms_55, H⟩ := H
  obtain ⟨P_49, C_50, H⟩ := H
  obtain ⟨b_56, H⟩ := H
  refine q_I (As := []) (st := [.ref q_45, .ref q0]) (nl := 1) d_SC_init_30 v_SC_26 C_50 rfl (catS_le (Nat.le_of_ble_eq_true rfl)) rfl ⟨by omega, by omega, b_56.1, b_56.2⟩ (fun r_57 h_51 p_52 => ?_)
  obtain ⟨rfl, p_52⟩ := p_52
  replace H := H h_51 p_52
  show Go _ _ _ _ [.ref q_45, .ref q0] _ _ _
  obtain ⟨z_58, H⟩ := H
  refine g_putR (x := (some q_45)) (ty := .object "SeptetCentre$Draft") d_SC_init_33 f_SC_27 ⟨_, rfl, Or.inr ⟨rfl, rfl, rfl⟩⟩ z_58 (by decide) (by decide +kernel) (Or.inl ⟨_, rfl⟩) ?_
  refine g_aload_n d_SC_init_36 rfl ?_
  obtain ⟨b_60, H⟩ := H
  refine g_new d_SC_init_37 (ci := 2) rfl k_SC_31 kI_2 kJ_2 b_60.1 b_60.2 (fun q_59 Fq_59 => ?_)
  replace H := H q_59 Fq_59
  have z_61 := Fre.old (kd := (12, 0)) Fq_59 z_58
  have z_62 : hS (pN (pR h_51 q0 2 (some q_45)) q_59 (12, 0)) q_59 = some (12, 0) := Fre.new
  refine g_dup d_SC_init_40 rfl ?_
  obtain ⟨P_63, C_64, H⟩ := H
  obtain ⟨b_68, H⟩ := H
  refine q_I (As := []) (st := [.ref q_59, .ref q0]) (nl := 1) d_SC_init_41 v_SC_33 C_64 rfl (catS_le (Nat.le_of_ble_eq_true rfl)) rfl ⟨by omega, by omega, b_68.1, b_68.2⟩ (fun r_69 h_65 p_66 => ?_)
  obtain ⟨rfl, p_66⟩ := p_66
  replace H := H h_65 p_66
  show Go _ _ _ _ [.ref q_59, .ref q0] _ _ _
  obtain ⟨z_70, H⟩ := H
  refine g_putR (x := (some q_59)) (ty := .object "java/util/ArrayList") d_SC_init_44 f_SC_34 ⟨_, rfl, Or.inr ⟨rfl, rfl, rfl⟩⟩ z_70 (by decide) (by decide +kernel) (Or.inl ⟨_, rfl⟩) ?_
  refine g_aload_n d_SC_init_47 rfl ?_
  obtain ⟨b_72, H⟩ := H
  refine g_new d_SC_init_48 (ci := 2) rfl k_SC_31 kI_2 kJ_2 b_72.1 b_72.2 (fun q_71 Fq_71 => ?_)
  replace H := H q_71 Fq_71
  have z_73 := Fre.old (kd := (12, 0)) Fq_71 z_70
  have z_74 : hS (pN (pR h_65 q0 3 (some q_59)) q_71 (12, 0)) q_71 = some (12, 0) := Fre.new
  refine g_dup d_SC_init_51 rfl ?_
  obtain ⟨P_75, C_76, H⟩ := H
  obtain ⟨b_80, H⟩ := H
  refine q_I (As := []) (st := [.ref q_71, .ref q0]) (nl := 1) d_SC_init_52 v_SC_33 C_76 rfl (catS_le (Nat.le_of_ble_eq_true rfl)) rfl ⟨by omega, by omega, b_80.1, b_80.2⟩ (fun r_81 h_77 p_78 => ?_)
  obtain ⟨rfl, p_78⟩ := p_78
  replace H := H h_77 p_78
  show Go _ _ _ _ [.ref q_71, .ref q0] _ _ _
  obtain ⟨z_82, H⟩ := H
  refine g_putR (x := (some q_71)) (ty := .object "java/util/ArrayList") d_SC_init_55 f_SC_38 ⟨_, rfl, Or.inr ⟨rfl, rfl, rfl⟩⟩ z_82 (by decide) (by decide +kernel) (Or.inl ⟨_, rfl⟩) ?_
  refine g_iconst (v := 0) d_SC_init_58 (by decide) ?_
  refine g_istore_n (lv' := [some (.ref q0), some (.int 0)]) d_SC_init_59 (by decide) rfl ?_
  refine g_msk [true, true] ?_
  exact okL_SC_init_60 H
set_option maxRecDepth 100000 in
set_option maxHeartbeats 4000000 in
def wJ_SC_register_19 (G : Gx) (l : Launch) (d w : Nat) (P : Int32 → Hp → Prop) (q0 : Nat) (x1 : Int32) (y2 : Int64) (o4 : Option Nat) (h : Hp)  : Prop := P 0 h
set_option maxRecDepth 100000 in
set_option maxHeartbeats 4000000 in
theorem okJ_SC_register_19 {G : Gx} {l : Launch} {d w : Nat} {P : Int32 → Hp → Prop} {p : Program} {e : Env} {s : State} {m : MethodId} {args : Array Value} {below : List Frame} {meth : Method} {c : Code} {q0 : Nat} {x1 : Int32} {y2 : Int64} {o4 : Option Nat} {h : Hp}  (H : wJ_SC_register_19 G l d w P  q0 x1 y2 o4 h ) : Go M_SC_register (mkX G (fun r h' => ∃ x, r = some (.int x) ∧ P x h') (d + 1) (w + 21) 0 0 p l e s m args below meth c) 19 [some (.ref q0), some (.int x1), some (.long y2), none, some (va_rf o4)] [] h 0 0 := by
  unfold wJ_SC_register_19 at H
  refine g_iconst (v := 0) d_SC_register_19 (by decide) ?_
  exact g_zreturn d_SC_register_20 rfl (by decide) (Nat.le_refl _) (Nat.le_refl _) ⟨_, rfl, H⟩
set_option maxRecDepth 100000 in
set_option maxHeartbeats 4000000 in
def wp_SC_register (G : Gx) (l : Launch) (d w : Nat) (P : Int32 → Hp → Prop) (q0 : Nat) (x1 : Int32) (y2 : Int64) (h : Hp) : Prop := (hS h q0 = some (10, 0)) ∧ (∃ P_2 : Option Nat → Hp → Prop, (Cr G l M_SC_deviceOf (d + 0) (w + 0) [.ref q0, .int x1] h 0 0 P_2) ∧ (∀ (o_6 : Option Nat) (h_4 : Hp), P_2 o_6 h_4 → (o_6 = none → wJ_SC_register_19 G l d w P q0 x1 y2 o_6 h_4) ∧ (∀ q_10 : Nat, o_6 = some q_10 → ∃ P_11 : Int32 → Hp → Prop, (Ci G l M_SC_isNumber (d + 0) (w + 0) [.long y2] h_4 0 0 P_11) ∧ (∀ (x_15 : Int32) (h_13 : Hp), P_11 x_15 h_13 → (¬ x_15 = 0 → (hS h_13 q_10 = some (14, 0)) ∧ (P 1 (pL h_13 q_10 0 y2))) ∧ (x_15 = 0 → wJ_SC_register_19 G l d w P q0 x1 y2 (some q_10) h_13)))))
set_option maxRecDepth 100000 in
set_option maxHeartbeats 4000000 in
theorem ok_SC_register {G : Gx} {l : Launch} {d w : Nat} {P : Int32 → Hp → Prop} {q0 : Nat} {x1 : Int32} {y2 : Int64} {h : Hp} (H : wp_SC_register G l d w P q0 x1 y2 h) : Ci G l M_SC_register (d + 1) (w + 21) [.ref q0, .int x1, .long y2] h 0 0 P := by
  unfold wp_SC_register at H
  refine Ct.of (lv := [some (.ref q0), some (.int x1), some (.long y2), none, none]) (by decide) (Nat.le_of_ble_eq_true rfl) rfl (fun p e s m args below meth c => ?_)
  refine g_aload_n d_SC_register_0 rfl ?_
  refine g_iload_n d_SC_register_1 rfl ?_
  obtain ⟨z_1, H⟩ := H
  obtain ⟨P_2, C_3, H⟩ := H
  refine q_V (As := [.int x1]) (st := []) (nl := 2) d_SC_register_2 v_SC_42 C_3 z_1 rfl (catS_le (Nat.le_of_ble_eq_true rfl)) rfl ⟨by omega, by omega, Nat.le_refl _, Nat.le_refl _⟩ (fun r_8 h_4 p_5 => ?_)
  obtain ⟨o_6, rfl, p_5⟩ := p_5
  replace H := H o_6 h_4 p_5
  show Go _ _ _ _ [va_rf o_6] _ _ _
  refine g_astoreV (lv' := [some (.ref q0), some (.int x1), some (.long y2), none, some (va_rf o_6)]) d_SC_register_5 (by decide) rfl ?_
  refine g_aloadV d_SC_register_7 rfl ?_
  obtain ⟨H1, H2⟩ := H
  refine g_ifnull (tgt := 19) d_SC_register_9 (by decide) (fun c_9 => ?_) (fun q_10 c_9 => ?_)
  · replace H1 := H1 c_9
    have H := H1
    refine g_msk [true, true, true, false, true] ?_
    exact okJ_SC_register_19 H
  · replace H2 := H2 q_10 c_9
    have H := H2
    show Go _ _ _ [some (.ref q0), some (.int x1), some (.long y2), none, some (va_rf o_6)] [] _ _ _
    rw [show va_rf o_6 = Value.ref q_10 from by rw [c_9]; rfl]
    refine g_lload_n d_SC_register_12 rfl ?_
    obtain ⟨P_11, C_12, H⟩ := H
    refine q_S (As := [.long y2]) (st := []) (nl := 2) d_SC_register_13 v_SC_46 C_12 rfl (catS_le (Nat.le_of_ble_eq_true rfl)) rfl ⟨by omega, by omega, Nat.le_refl _, Nat.le_refl _⟩ (fun r_17 h_13 p_14 => ?_)
    obtain ⟨x_15, rfl, p_14⟩ := p_14
    replace H := H x_15 h_13 p_14
    show Go _ _ _ _ [.int x_15] _ _ _
    obtain ⟨H1, H2⟩ := H
    refine g_if_ne (tgt := 21) d_SC_register_16 (by decide) (fun c_18 => ?_) (fun c_18 => ?_)
    · have H := H1 c_18
      refine g_aload d_SC_register_21 rfl ?_
      refine g_lload_n d_SC_register_23 rfl ?_
      obtain ⟨z_19, H⟩ := H
      refine g_putJ d_SC_register_24 f_SC_50 (fo_4_0 _) z_19 ?_
      refine g_iconst (v := 1) d_SC_register_27 (by decide) ?_
      exact g_zreturn d_SC_register_28 rfl (by decide) (Nat.le_refl _) (Nat.le_refl _) ⟨_, rfl, H⟩
    · have H := H2 c_18
      refine g_msk [true, true, true, false, true] ?_
      exact okJ_SC_register_19 H
set_option maxRecDepth 100000 in
set_option maxHeartbeats 4000000 in
def wp_SC_power (G : Gx) (l : Launch) (d w : Nat) (P : Int32 → Hp → Prop) (q0 : Nat) (x1 : Int32) (x2 : Int32) (h : Hp) : Prop := (hS h q0 = some (10, 0)) ∧ (∃ P_2 : Option Nat → Hp → Prop, (Cr G l M_SC_deviceOf (d + 0) (w + 0) [.ref q0, .int x1] h 0 0 P_2) ∧ (∀ (o_6 : Option Nat) (h_4 : Hp), P_2 o_6 h_4 → (o_6 = none → P 0 h_4) ∧ (∀ q_10 : Nat, o_6 = some q_10 → (hS h_4 q_10 = some (14, 0)) ∧ ((x2 = 0 ∨ x2 = 1) ∧ (P 1 (pI h_4 q_10 1 x2))))))
set_option maxRecDepth 100000 in
set_option maxHeartbeats 4000000 in
theorem ok_SC_power {G : Gx} {l : Launch} {d w : Nat} {P : Int32 → Hp → Prop} {q0 : Nat} {x1 : Int32} {x2 : Int32} {h : Hp} (H : wp_SC_power G l d w P q0 x1 x2 h) : Ci G l M_SC_power (d + 1) (w + 21) [.ref q0, .int x1, .int x2] h 0 0 P := by
  unfold wp_SC_power at H
  refine Ct.of (lv := [some (.ref q0), some (.int x1), some (.int x2), none]) (by decide) (Nat.le_of_ble_eq_true rfl) rfl (fun p e s m args below meth c => ?_)
  refine g_aload_n d_SC_power_0 rfl ?_
  refine g_iload_n d_SC_power_1 rfl ?_
  obtain ⟨z_1, H⟩ := H
  obtain ⟨P_2, C_3, H⟩ := H
  refine q_V (As := [.int x1]) (st := []) (nl := 2) d_SC_power_2 v_SC_42 C_3 z_1 rfl (catS_le (Nat.le_of_ble_eq_true rfl)) rfl ⟨by omega, by omega, Nat.le_refl _, Nat.le_refl _⟩ (fun r_8 h_4 p_5 => ?_)
  obtain ⟨o_6, rfl, p_5⟩ := p_5
  replace H := H o_6 h_4 p_5
  show Go _ _ _ _ [va_rf o_6] _ _ _
  refine g_astore_nV (lv' := [some (.ref q0), some (.int x1), some (.int x2), some (va_rf o_6)]) d_SC_power_5 (by decide) rfl ?_
  refine g_aload_nV d_SC_power_6 rfl ?_
  obtain ⟨H1, H2⟩ := H
  refine g_ifnonnull (tgt := 12) d_SC_power_7 (by decide) (fun q_10 c_9 => ?_) (fun c_9 => ?_)
  · replace H2 := H2 q_10 c_9
    have H := H2
    show Go _ _ _ [some (.ref q0), some (.int x1), some (.int x2), some (va_rf o_6)] [] _ _ _
    rw [show va_rf o_6 = Value.ref q_10 from by rw [c_9]; rfl]
    refine g_aload_n d_SC_power_12 rfl ?_
    refine g_iload_n d_SC_power_13 rfl ?_
    obtain ⟨z_11, H⟩ := H
    obtain ⟨z_12, H⟩ := H
    refine g_putZ d_SC_power_14 f_SC_54 (fo_4_1 _) z_11 z_12 ?_
    refine g_iconst (v := 1) d_SC_power_17 (by decide) ?_
    exact g_zreturn d_SC_power_18 rfl (by decide) (Nat.le_refl _) (Nat.le_refl _) ⟨_, rfl, H⟩
  · replace H1 := H1 c_9
    have H := H1
    refine g_iconst (v := 0) d_SC_power_10 (by decide) ?_
    exact g_zreturn d_SC_power_11 rfl (by decide) (Nat.le_refl _) (Nat.le_refl _) ⟨_, rfl, H⟩
set_option maxRecDepth 100000 in
set_option maxHeartbeats 4000000 in
def wJ_SC_type_23 (G : Gx) (l : Launch) (d w : Nat) (P : Int32 → Hp → Prop) (q0 : Nat) (x1 : Int32) (x2 : Int32) (h : Hp)  : Prop := P 0 h
set_option maxRecDepth 100000 in
set_option maxHeartbeats 4000000 in
theorem okJ_SC_type_23 {G : Gx} {l : Launch} {d w : Nat} {P : Int32 → Hp → Prop} {p : Program} {e : Env} {s : State} {m : MethodId} {args : Array Value} {below : List Frame} {meth : Method} {c : Code} {q0 : Nat} {x1 : Int32} {x2 : Int32} {h : Hp}  (H : wJ_SC_type_23 G l d w P  q0 x1 x2 h ) : Go M_SC_type (mkX G (fun r h' => ∃ x, r = some (.int x) ∧ P x h') (d + 1) (w + 23) 0 0 p l e s m args below meth c) 23 [some (.ref q0), some (.int x1), some (.int x2)] [] h 0 0 := by
  unfold wJ_SC_type_23 at H
  refine g_iconst (v := 0) d_SC_type_23 (by decide) ?_
  exact g_zreturn d_SC_type_24 rfl (by decide) (Nat.le_refl _) (Nat.le_refl _) ⟨_, rfl, H⟩
set_option maxRecDepth 100000 in
set_option maxHeartbeats 4000000 in
def wp_SC_type (G : Gx) (l : Launch) (d w : Nat) (P : Int32 → Hp → Prop) (q0 : Nat) (x1 : Int32) (x2 : Int32) (h : Hp) : Prop := (x2 < 1 → wJ_SC_type_23 G l d w P q0 x1 x2 h) ∧ (¬ x2 < 1 → (160 < x2 → wJ_SC_type_23 G l d w P q0 x1 x2 h) ∧ (¬ 160 < x2 → (hS h q0 = some (10, 0)) ∧ (∃ q_4 : Nat, (hR h q0 2) = some q_4 ∧ ((hS h q_4 = some (13, 0)) ∧ (∃ P_7 : Int32 → Hp → Prop, (Ci G l M_Dr_room (d + 0) (w + 0) [.ref q_4] h 0 0 P_7) ∧ (∀ (x_11 : Int32) (h_9 : Hp), P_7 x_11 h_9 → (x2 ≤ x_11 → (hS h_9 q0 = some (10, 0)) ∧ (∃ P_16 : Int32 → Hp → Prop, (Ci G l M_Al_formOf (d + 0) (w + 0) [.int x1] h_9 0 0 P_16) ∧ (∀ (x_20 : Int32) (h_18 : Hp), P_16 x_20 h_18 → ∃ q_23 : Nat, (hR h_9 q0 2) = some q_23 ∧ ((hS h_18 q_23 = some (13, 0)) ∧ (∃ P_26 : Hp → Prop, (Cv G l M_Dr_append (d + 0) (w + 0) [.ref q_23, .int x_20, .int x2] h_18 0 0 P_26) ∧ (∀ h_28 : Hp, P_26 h_28 → P 1 h_28)))))) ∧ (¬ x2 ≤ x_11 → wJ_SC_type_23 G l d w P q0 x1 x2 h_9)))))))
set_option maxRecDepth 100000 in
set_option maxHeartbeats 4000000 in
theorem ok_SC_type {G : Gx} {l : Launch} {d w : Nat} {P : Int32 → Hp → Prop} {q0 : Nat} {x1 : Int32} {x2 : Int32} {h : Hp} (H : wp_SC_type G l d w P q0 x1 x2 h) : Ci G l M_SC_type (d + 1) (w + 23) [.ref q0, .int x1, .int x2] h 0 0 P := by
  unfold wp_SC_type at H
  refine Ct.of (lv := [some (.ref q0), some (.int x1), some (.int x2)]) (by decide) (Nat.le_of_ble_eq_true rfl) rfl (fun p e s m args below meth c => ?_)
  refine g_iload_n d_SC_type_0 rfl ?_
  refine g_iconst (v := 1) d_SC_type_1 (by decide) ?_
  obtain ⟨H1, H2⟩ := H
  refine g_icmp_lt (tgt := 23) d_SC_type_2 (by decide) (fun c_1 => ?_) (fun c_1 => ?_)
  · have H := H1 c_1
    refine g_msk [true, true, true] ?_
    exact okJ_SC_type_23 H
  · have H := H2 c_1
    refine g_iload_n d_SC_type_5 rfl ?_
    refine g_sipush (v := 160) d_SC_type_6 (by decide) ?_
    obtain ⟨H1, H2⟩ := H
    refine g_icmp_gt (tgt := 23) d_SC_type_9 (by decide) (fun c_2 => ?_) (fun c_2 => ?_)
    · have H := H1 c_2
      refine g_msk [true, true, true] ?_
      exact okJ_SC_type_23 H
    · have H := H2 c_2
      refine g_iload_n d_SC_type_12 rfl ?_
      refine g_aload_n d_SC_type_13 rfl ?_
      obtain ⟨z_3, H⟩ := H
      refine g_getR d_SC_type_14 f_SC_27 z_3 (by decide) ?_
      obtain ⟨q_4, e_5, H⟩ := H
      refine g_eqr e_5 ?_
      obtain ⟨z_6, H⟩ := H
      obtain ⟨P_7, C_8, H⟩ := H
      refine q_V (As := []) (st := [.int x2]) (nl := 1) d_SC_type_17 v_SC_58 C_8 z_6 rfl (catS_le (Nat.le_of_ble_eq_true rfl)) rfl ⟨by omega, by omega, Nat.le_refl _, Nat.le_refl _⟩ (fun r_13 h_9 p_10 => ?_)
      obtain ⟨x_11, rfl, p_10⟩ := p_10
      replace H := H x_11 h_9 p_10
      show Go _ _ _ _ [.int x_11, .int x2] _ _ _
      obtain ⟨H1, H2⟩ := H
      refine g_icmp_le (tgt := 25) d_SC_type_20 (by decide) (fun c_14 => ?_) (fun c_14 => ?_)
      · have H := H1 c_14
        refine g_aload_n d_SC_type_25 rfl ?_
        obtain ⟨z_15, H⟩ := H
        refine g_getR d_SC_type_26 f_SC_27 z_15 (by decide) ?_
        refine g_iload_n d_SC_type_29 rfl ?_
        obtain ⟨P_16, C_17, H⟩ := H
        refine q_S (As := [.int x1]) (st := [va_rf (hR h_9 q0 2)]) (nl := 2) d_SC_type_30 v_SC_62 C_17 rfl (catS_le (Nat.le_of_ble_eq_true rfl)) rfl ⟨by omega, by omega, Nat.le_refl _, Nat.le_refl _⟩ (fun r_22 h_18 p_19 => ?_)
        obtain ⟨x_20, rfl, p_19⟩ := p_19
        replace H := H x_20 h_18 p_19
        show Go _ _ _ _ [.int x_20, va_rf (hR h_9 q0 2)] _ _ _
        refine g_iload_n d_SC_type_33 rfl ?_
        obtain ⟨q_23, e_24, H⟩ := H
        show Go _ _ _ [some (.ref q0), some (.int x1), some (.int x2)] [.int x2, .int x_20, va_rf (hR h_9 q0 2)] _ _ _
        rw [show va_rf (hR h_9 q0 2) = Value.ref q_23 from by rw [e_24]; rfl]
        obtain ⟨z_25, H⟩ := H
        obtain ⟨P_26, C_27, H⟩ := H
        refine q_V (As := [.int x_20, .int x2]) (st := []) (nl := 4) d_SC_type_34 v_SC_68 C_27 z_25 rfl (catS_le (Nat.le_of_ble_eq_true rfl)) rfl ⟨by omega, by omega, Nat.le_refl _, Nat.le_refl _⟩ (fun r_32 h_28 p_29 => ?_)
        obtain ⟨rfl, p_29⟩ := p_29
        replace H := H h_28 p_29
        show Go _ _ _ _ [] _ _ _
        refine g_iconst (v := 1) d_SC_type_37 (by decide) ?_
        exact g_zreturn d_SC_type_38 rfl (by decide) (Nat.le_refl _) (Nat.le_refl _) ⟨_, rfl, H⟩
      · have H := H2 c_14
        refine g_msk [true, true, true] ?_
        exact okJ_SC_type_23 H
set_option maxRecDepth 100000 in
set_option maxHeartbeats 4000000 in
def wp_SC_wipe (G : Gx) (l : Launch) (d w : Nat) (P : Hp → Prop) (q0 : Nat) (h : Hp) : Prop := (hS h q0 = some (10, 0)) ∧ (∃ q_2 : Nat, (hR h q0 2) = some q_2 ∧ ((hS h q_2 = some (13, 0)) ∧ (P (pI h q_2 1 0))))
set_option maxRecDepth 100000 in
set_option maxHeartbeats 4000000 in
theorem ok_SC_wipe {G : Gx} {l : Launch} {d w : Nat} {P : Hp → Prop} {q0 : Nat} {h : Hp} (H : wp_SC_wipe G l d w P q0 h) : Cv G l M_SC_wipe (d + 0) (w + 0) [.ref q0] h 0 0 P := by
  unfold wp_SC_wipe at H
  refine Ct.of (lv := [some (.ref q0)]) (by decide) (Nat.le_of_ble_eq_true rfl) rfl (fun p e s m args below meth c => ?_)
  refine g_aload_n d_SC_wipe_0 rfl ?_
  obtain ⟨z_1, H⟩ := H
  refine g_getR d_SC_wipe_1 f_SC_27 z_1 (by decide) ?_
  refine g_iconst (v := 0) d_SC_wipe_4 (by decide) ?_
  obtain ⟨q_2, e_3, H⟩ := H
  show Go _ _ _ [some (.ref q0)] [.int 0, va_rf (hR h q0 2)] _ _ _
  rw [show va_rf (hR h q0 2) = Value.ref q_2 from by rw [e_3]; rfl]
  obtain ⟨z_4, H⟩ := H
  refine g_putI d_SC_wipe_5 f_SC_72 (fo_3_1 _) z_4 ?_
  exact g_return d_SC_wipe_8 rfl (Nat.le_refl _) (Nat.le_refl _) ⟨rfl, H⟩
set_option maxRecDepth 100000 in
set_option maxHeartbeats 4000000 in
def wJ_SC_send_42 (G : Gx) (l : Launch) (d w mc ms : Nat) (P : Int32 → Hp → Prop) (q0 : Nat) (x1 : Int32) (y2 : Int64) (x4 : Int32) (x5 : Int32) (o6 : Option Nat) (h : Hp) (k n : Nat) : Prop := (k ≤ mc ∧ n ≤ ms) ∧ (P (-1) h)
set_option maxRecDepth 100000 in
set_option maxHeartbeats 4000000 in
theorem okJ_SC_send_42 {G : Gx} {l : Launch} {d w : Nat} {mc ms : Nat} {P : Int32 → Hp → Prop} {p : Program} {e : Env} {s : State} {m : MethodId} {args : Array Value} {below : List Frame} {meth : Method} {c : Code} {q0 : Nat} {x1 : Int32} {y2 : Int64} {x4 : Int32} {x5 : Int32} {o6 : Option Nat} {h : Hp} {k n : Nat} (H : wJ_SC_send_42 G l d w mc ms P  q0 x1 y2 x4 x5 o6 h k n) : Go M_SC_send (mkX G (fun r h' => ∃ x, r = some (.int x) ∧ P x h') (d + 9) (w + 214) mc ms p l e s m args below meth c) 42 [some (.ref q0), some (.int x1), some (.long y2), none, some (.int x4), some (.int x5), some (va_rf o6), none, none] [] h k n := by
  unfold wJ_SC_send_42 at H
  refine g_iconst (v := (-1)) d_SC_send_42 (by decide) ?_
  obtain ⟨b_1, H⟩ := H
  exact g_ireturn d_SC_send_43 rfl b_1.1 b_1.2 ⟨_, rfl, H⟩
set_option maxRecDepth 100000 in
set_option maxHeartbeats 4000000 in
def wJ_SC_send_116 (G : Gx) (l : Launch) (d w mc ms : Nat) (P : Int32 → Hp → Prop) (q0 : Nat) (x1 : Int32) (y2 : Int64) (x4 : Int32) (x5 : Int32) (q6 : Nat) (x7 : Int32) (sx0 : Int32) (sx1 : Int32) (h : Hp) (k n : Nat) : Prop := ∀ x_2 : Int32, x_2 = (sx1 + sx0) → (hS h q0 = some (10, 0)) ∧ (∃ mc_9 : Nat, ∃ ms_10 : Nat, ∃ P_4 : Hp → Prop, (Cv G l M_SC_sendUp (d + 8) (w + 183) [.ref q0, .ref q6, .long y2, .int x4, .int x_2, .int x7] h mc_9 ms_10 P_4) ∧ ((k + mc_9 ≤ mc ∧ n + ms_10 ≤ ms) ∧ (∀ h_6 : Hp, P_4 h_6 → ((k + mc_9) ≤ mc ∧ (n + ms_10) ≤ ms) ∧ (P x7 h_6))))
set_option maxRecDepth 100000 in
set_option maxHeartbeats 4000000 in
theorem okJ_SC_send_116 {G : Gx} {l : Launch} {d w : Nat} {mc ms : Nat} {P : Int32 → Hp → Prop} {p : Program} {e : Env} {s : State} {m : MethodId} {args : Array Value} {below : List Frame} {meth : Method} {c : Code} {q0 : Nat} {x1 : Int32} {y2 : Int64} {x4 : Int32} {x5 : Int32} {q6 : Nat} {x7 : Int32} {sx0 : Int32} {sx1 : Int32} {h : Hp} {k n : Nat} (H : wJ_SC_send_116 G l d w mc ms P  q0 x1 y2 x4 x5 q6 x7 sx0 sx1 h k n) : Go M_SC_send (mkX G (fun r h' => ∃ x, r = some (.int x) ∧ P x h') (d + 9) (w + 214) mc ms p l e s m args below meth c) 116 [some (.ref q0), some (.int x1), some (.long y2), none, some (.int x4), some (.int x5), some (.ref q6), some (.int x7), none] [.int sx0, .int sx1] h k n := by
  unfold wJ_SC_send_116 at H
  refine g_iadd d_SC_send_116 ?_
  refine g_topi (fun x_2 ex_2 => ?_)
  replace H := H x_2 ex_2
  refine g_istore (lv' := [some (.ref q0), some (.int x1), some (.long y2), none, some (.int x4), some (.int x5), some (.ref q6), some (.int x7), some (.int x_2)]) d_SC_send_117 (by decide) rfl ?_
  refine g_aload_n d_SC_send_119 rfl ?_
  refine g_aload d_SC_send_120 rfl ?_
  refine g_lload_n d_SC_send_122 rfl ?_
  refine g_iload d_SC_send_123 rfl ?_
  refine g_iload d_SC_send_125 rfl ?_
  refine g_iload d_SC_send_127 rfl ?_
  obtain ⟨z_3, H⟩ := H
  obtain ⟨mc_9, H⟩ := H
  obtain ⟨ms_10, H⟩ := H
  obtain ⟨P_4, C_5, H⟩ := H
  obtain ⟨b_11, H⟩ := H
  refine q_V (As := [.ref q6, .long y2, .int x4, .int x_2, .int x7]) (st := []) (nl := 12) d_SC_send_129 v_SC_86 C_5 z_3 rfl (catS_le (Nat.le_of_ble_eq_true rfl)) rfl ⟨by omega, by omega, b_11.1, b_11.2⟩ (fun r_12 h_6 p_7 => ?_)
  obtain ⟨rfl, p_7⟩ := p_7
  replace H := H h_6 p_7
  show Go _ _ _ _ [] _ _ _
  refine g_iload d_SC_send_132 rfl ?_
  obtain ⟨b_13, H⟩ := H
  exact g_ireturn d_SC_send_134 rfl b_13.1 b_13.2 ⟨_, rfl, H⟩
set_option maxRecDepth 100000 in
set_option maxHeartbeats 4000000 in
def wJ_SC_send_103 (G : Gx) (l : Launch) (d w mc ms : Nat) (P : Int32 → Hp → Prop) (q0 : Nat) (x1 : Int32) (y2 : Int64) (x4 : Int32) (x5 : Int32) (q6 : Nat) (x7 : Int32) (sx0 : Int32) (sx1 : Int32) (h : Hp) (k n : Nat) : Prop := (x7 ≤ 1 → wJ_SC_send_116 G l d w mc ms P q0 x1 y2 x4 x5 q6 x7 0 (sx1 + sx0) h k n) ∧ (¬ x7 ≤ 1 → wJ_SC_send_116 G l d w mc ms P q0 x1 y2 x4 x5 q6 x7 64 (sx1 + sx0) h k n)
set_option maxRecDepth 100000 in
set_option maxHeartbeats 4000000 in
theorem okJ_SC_send_103 {G : Gx} {l : Launch} {d w : Nat} {mc ms : Nat} {P : Int32 → Hp → Prop} {p : Program} {e : Env} {s : State} {m : MethodId} {args : Array Value} {below : List Frame} {meth : Method} {c : Code} {q0 : Nat} {x1 : Int32} {y2 : Int64} {x4 : Int32} {x5 : Int32} {q6 : Nat} {x7 : Int32} {sx0 : Int32} {sx1 : Int32} {h : Hp} {k n : Nat} (H : wJ_SC_send_103 G l d w mc ms P  q0 x1 y2 x4 x5 q6 x7 sx0 sx1 h k n) : Go M_SC_send (mkX G (fun r h' => ∃ x, r = some (.int x) ∧ P x h') (d + 9) (w + 214) mc ms p l e s m args below meth c) 103 [some (.ref q0), some (.int x1), some (.long y2), none, some (.int x4), some (.int x5), some (.ref q6), some (.int x7), none] [.int sx0, .int sx1] h k n := by
  unfold wJ_SC_send_103 at H
  refine g_iadd d_SC_send_103 ?_
  refine g_iload d_SC_send_104 rfl ?_
  refine g_iconst (v := 1) d_SC_send_106 (by decide) ?_
  obtain ⟨H1, H2⟩ := H
  refine g_icmp_le (tgt := 115) d_SC_send_107 (by decide) (fun c_14 => ?_) (fun c_14 => ?_)
  · have H := H1 c_14
    refine g_iconst (v := 0) d_SC_send_115 (by decide) ?_
    refine g_msk [true, true, true, false, true, true, true, true, false] ?_
    exact okJ_SC_send_116 H
  · have H := H2 c_14
    refine g_bipush (v := 64) d_SC_send_110 (by decide) ?_
    refine g_goto (tgt := 116) d_SC_send_112 (by decide) ?_
    refine g_msk [true, true, true, false, true, true, true, true, false] ?_
    exact okJ_SC_send_116 H
set_option maxRecDepth 100000 in
set_option maxHeartbeats 4000000 in
def wp_SC_send (G : Gx) (l : Launch) (d w mc ms : Nat) (P : Int32 → Hp → Prop) (q0 : Nat) (x1 : Int32) (y2 : Int64) (x4 : Int32) (x5 : Int32) (h : Hp) : Prop := (hS h q0 = some (10, 0)) ∧ (∃ P_16 : Option Nat → Hp → Prop, (Cr G l M_SC_deviceOf (d + 0) (w + 0) [.ref q0, .int x1] h 0 0 P_16) ∧ ((0 ≤ mc ∧ 0 ≤ ms) ∧ (∀ (o_20 : Option Nat) (h_18 : Hp), P_16 o_20 h_18 → (o_20 = none → wJ_SC_send_42 G l d w mc ms P q0 x1 y2 x4 x5 o_20 h_18 0 0) ∧ (∀ q_24 : Nat, o_20 = some q_24 → ∃ P_25 : Int32 → Hp → Prop, (Ci G l M_SC_isNumber (d + 0) (w + 0) [.long y2] h_18 0 0 P_25) ∧ ((0 ≤ mc ∧ 0 ≤ ms) ∧ (∀ (x_29 : Int32) (h_27 : Hp), P_25 x_29 h_27 → (x_29 = 0 → wJ_SC_send_42 G l d w mc ms P q0 x1 y2 x4 x5 (some q_24) h_27 0 0) ∧ (¬ x_29 = 0 → (x4 < 0 → wJ_SC_send_42 G l d w mc ms P q0 x1 y2 x4 x5 (some q_24) h_27 0 0) ∧ (¬ x4 < 0 → (143 < x4 → wJ_SC_send_42 G l d w mc ms P q0 x1 y2 x4 x5 (some q_24) h_27 0 0) ∧ (¬ 143 < x4 → (hS h_27 q_24 = some (14, 0)) ∧ ((¬ (lg_cmp (hL h_27 q_24 0) 0) = 0 → (hS h_27 q0 = some (10, 0)) ∧ (∃ q_38 : Nat, (hR h_27 q0 2) = some q_38 ∧ ((hS h_27 q_38 = some (13, 0)) ∧ (∃ P_41 : Int32 → Hp → Prop, (Ci G l M_Dr_hasAlien (d + 0) (w + 0) [.ref q_38] h_27 0 0 P_41) ∧ ((0 ≤ mc ∧ 0 ≤ ms) ∧ (∀ (x_45 : Int32) (h_43 : Hp), P_41 x_45 h_43 → (x_45 = 0 → (hS h_43 q0 = some (10, 0)) ∧ (∃ q_50 : Nat, (hR h_43 q0 2) = some q_50 ∧ ((hS h_43 q_50 = some (13, 0)) ∧ (∃ P_53 : Int32 → Hp → Prop, (Ci G l M_Dr_partCount (d + 2) (w + 44) [.ref q_50] h_43 0 0 P_53) ∧ ((0 ≤ mc ∧ 0 ≤ ms) ∧ (∀ (x_57 : Int32) (h_55 : Hp), P_53 x_57 h_55 → (x_57 ≤ 3 → (hS h_55 q0 = some (10, 0)) ∧ (∃ q_62 : Nat, (hR h_55 q0 1) = some q_62 ∧ ((hS h_55 q_62 = some (11, 0)) ∧ (∃ P_65 : Int32 → Hp → Prop, (Ci G l M_Li_room (d + 1) (w + 20) [.ref q_62] h_55 0 0 P_65) ∧ ((0 ≤ mc ∧ 0 ≤ ms) ∧ (∀ (x_69 : Int32) (h_67 : Hp), P_65 x_69 h_67 → (x_57 ≤ x_69 → (x5 = 0 → wJ_SC_send_103 G l d w mc ms P q0 x1 y2 x4 x5 q_24 x_57 0 17 h_67 0 0) ∧ (¬ x5 = 0 → wJ_SC_send_103 G l d w mc ms P q0 x1 y2 x4 x5 q_24 x_57 32 17 h_67 0 0)) ∧ (¬ x_57 ≤ x_69 → (0 ≤ mc ∧ 0 ≤ ms) ∧ (P (-3) h_67)))))))) ∧ (¬ x_57 ≤ 3 → (0 ≤ mc ∧ 0 ≤ ms) ∧ (P (-5) h_55)))))))) ∧ (¬ x_45 = 0 → (0 ≤ mc ∧ 0 ≤ ms) ∧ (P (-4) h_43)))))))) ∧ ((lg_cmp (hL h_27 q_24 0) 0) = 0 → wJ_SC_send_42 G l d w mc ms P q0 x1 y2 x4 x5 (some q_24) h_27 0 0)))))))))))
set_option maxRecDepth 100000 in
set_option maxHeartbeats 4000000 in
theorem ok_SC_send {G : Gx} {l : Launch} {d w : Nat} {mc ms : Nat} {P : Int32 → Hp → Prop} {q0 : Nat} {x1 : Int32} {y2 : Int64} {x4 : Int32} {x5 : Int32} {h : Hp} (H : wp_SC_send G l d w mc ms P q0 x1 y2 x4 x5 h) : Ci G l M_SC_send (d + 9) (w + 214) [.ref q0, .int x1, .long y2, .int x4, .int x5] h mc ms P := by
  unfold wp_SC_send at H
  refine Ct.of (lv := [some (.ref q0), some (.int x1), some (.long y2), none, some (.int x4), some (.int x5), none, none, none]) (by decide) (Nat.le_of_ble_eq_true rfl) rfl (fun p e s m args below meth c => ?_)
  refine g_aload_n d_SC_send_0 rfl ?_
  refine g_iload_n d_SC_send_1 rfl ?_
  obtain ⟨z_15, H⟩ := H
  obtain ⟨P_16, C_17, H⟩ := H
  obtain ⟨b_21, H⟩ := H
  refine q_V (As := [.int x1]) (st := []) (nl := 2) d_SC_send_2 v_SC_42 C_17 z_15 rfl (catS_le (Nat.le_of_ble_eq_true rfl)) rfl ⟨by omega, by omega, b_21.1, b_21.2⟩ (fun r_22 h_18 p_19 => ?_)
  obtain ⟨o_20, rfl, p_19⟩ := p_19
  replace H := H o_20 h_18 p_19
  show Go _ _ _ _ [va_rf o_20] _ _ _
  refine g_astoreV (lv' := [some (.ref q0), some (.int x1), some (.long y2), none, some (.int x4), some (.int x5), some (va_rf o_20), none, none]) d_SC_send_5 (by decide) rfl ?_
  refine g_aloadV d_SC_send_7 rfl ?_
  obtain ⟨H1, H2⟩ := H
  refine g_ifnull (tgt := 42) d_SC_send_9 (by decide) (fun c_23 => ?_) (fun q_24 c_23 => ?_)
  · replace H1 := H1 c_23
    have H := H1
    refine g_msk [true, true, true, false, true, true, true, false, false] ?_
    exact okJ_SC_send_42 H
  · replace H2 := H2 q_24 c_23
    have H := H2
    show Go _ _ _ [some (.ref q0), some (.int x1), some (.long y2), none, some (.int x4), some (.int x5), some (va_rf o_20), none, none] [] _ _ _
    rw [show va_rf o_20 = Value.ref q_24 from by rw [c_23]; rfl]
    refine g_lload_n d_SC_send_12 rfl ?_
    obtain ⟨P_25, C_26, H⟩ := H
    obtain ⟨b_30, H⟩ := H
    refine q_S (As := [.long y2]) (st := []) (nl := 2) d_SC_send_13 v_SC_46 C_26 rfl (catS_le (Nat.le_of_ble_eq_true rfl)) rfl ⟨by omega, by omega, b_30.1, b_30.2⟩ (fun r_31 h_27 p_28 => ?_)
    obtain ⟨x_29, rfl, p_28⟩ := p_28
    replace H := H x_29 h_27 p_28
    show Go _ _ _ _ [.int x_29] _ _ _
    obtain ⟨H1, H2⟩ := H
    refine g_if_eq (tgt := 42) d_SC_send_16 (by decide) (fun c_32 => ?_) (fun c_32 => ?_)
    · have H := H1 c_32
      refine g_msk [true, true, true, false, true, true, true, false, false] ?_
      exact okJ_SC_send_42 H
    · have H := H2 c_32
      refine g_iload d_SC_send_19 rfl ?_
      obtain ⟨H1, H2⟩ := H
      refine g_if_lt (tgt := 42) d_SC_send_21 (by decide) (fun c_33 => ?_) (fun c_33 => ?_)
      · have H := H1 c_33
        refine g_msk [true, true, true, false, true, true, true, false, false] ?_
        exact okJ_SC_send_42 H
      · have H := H2 c_33
        refine g_iload d_SC_send_24 rfl ?_
        refine g_sipush (v := 143) d_SC_send_26 (by decide) ?_
        obtain ⟨H1, H2⟩ := H
        refine g_icmp_gt (tgt := 42) d_SC_send_29 (by decide) (fun c_34 => ?_) (fun c_34 => ?_)
        · have H := H1 c_34
          refine g_msk [true, true, true, false, true, true, true, false, false] ?_
          exact okJ_SC_send_42 H
        · have H := H2 c_34
          refine g_aload d_SC_send_32 rfl ?_
          obtain ⟨z_35, H⟩ := H
          refine g_getJ d_SC_send_34 f_SC_50 z_35 ?_
          refine g_lconst (v := 0) d_SC_send_37 (by decide) ?_
          refine g_lcmp d_SC_send_38 ?_
          obtain ⟨H1, H2⟩ := H
          refine g_if_ne (tgt := 44) d_SC_send_39 (by decide) (fun c_36 => ?_) (fun c_36 => ?_)
          · have H := H1 c_36
            refine g_aload_n d_SC_send_44 rfl ?_
            obtain ⟨z_37, H⟩ := H
            refine g_getR d_SC_send_45 f_SC_27 z_37 (by decide) ?_
            obtain ⟨q_38, e_39, H⟩ := H
            refine g_eqr e_39 ?_
            obtain ⟨z_40, H⟩ := H
            obtain ⟨P_41, C_42, H⟩ := H
            obtain ⟨b_46, H⟩ := H
            refine q_V (As := []) (st := []) (nl := 2) d_SC_send_48 v_SC_76 C_42 z_40 rfl (catS_le (Nat.le_of_ble_eq_true rfl)) rfl ⟨by omega, by omega, b_46.1, b_46.2⟩ (fun r_47 h_43 p_44 => ?_)
            obtain ⟨x_45, rfl, p_44⟩ := p_44
            replace H := H x_45 h_43 p_44
            show Go _ _ _ _ [.int x_45] _ _ _
            obtain ⟨H1, H2⟩ := H
            refine g_if_eq (tgt := 57) d_SC_send_51 (by decide) (fun c_48 => ?_) (fun c_48 => ?_)
            · have H := H1 c_48
              refine g_aload_n d_SC_send_57 rfl ?_
              obtain ⟨z_49, H⟩ := H
              refine g_getR d_SC_send_58 f_SC_27 z_49 (by decide) ?_
              obtain ⟨q_50, e_51, H⟩ := H
              refine g_eqr e_51 ?_
              obtain ⟨z_52, H⟩ := H
              obtain ⟨P_53, C_54, H⟩ := H
              obtain ⟨b_58, H⟩ := H
              refine q_V (As := []) (st := []) (nl := 5) d_SC_send_61 v_SC_80 C_54 z_52 rfl (catS_le (Nat.le_of_ble_eq_true rfl)) rfl ⟨by omega, by omega, b_58.1, b_58.2⟩ (fun r_59 h_55 p_56 => ?_)
              obtain ⟨x_57, rfl, p_56⟩ := p_56
              replace H := H x_57 h_55 p_56
              show Go _ _ _ _ [.int x_57] _ _ _
              refine g_istore (lv' := [some (.ref q0), some (.int x1), some (.long y2), none, some (.int x4), some (.int x5), some (.ref q_24), some (.int x_57), none]) d_SC_send_64 (by decide) rfl ?_
              refine g_iload d_SC_send_66 rfl ?_
              refine g_iconst (v := 3) d_SC_send_68 (by decide) ?_
              obtain ⟨H1, H2⟩ := H
              refine g_icmp_le (tgt := 75) d_SC_send_69 (by decide) (fun c_60 => ?_) (fun c_60 => ?_)
              · have H := H1 c_60
                refine g_iload d_SC_send_75 rfl ?_
                refine g_aload_n d_SC_send_77 rfl ?_
                obtain ⟨z_61, H⟩ := H
                refine g_getR d_SC_send_78 f_SC_20 z_61 (by decide) ?_
                obtain ⟨q_62, e_63, H⟩ := H
                refine g_eqr e_63 ?_
                obtain ⟨z_64, H⟩ := H
                obtain ⟨P_65, C_66, H⟩ := H
                obtain ⟨b_70, H⟩ := H
                refine q_V (As := []) (st := [.int x_57]) (nl := 1) d_SC_send_81 v_SC_83 C_66 z_64 rfl (catS_le (Nat.le_of_ble_eq_true rfl)) rfl ⟨by omega, by omega, b_70.1, b_70.2⟩ (fun r_71 h_67 p_68 => ?_)
                obtain ⟨x_69, rfl, p_68⟩ := p_68
                replace H := H x_69 h_67 p_68
                show Go _ _ _ _ [.int x_69, .int x_57] _ _ _
                obtain ⟨H1, H2⟩ := H
                refine g_icmp_le (tgt := 90) d_SC_send_84 (by decide) (fun c_72 => ?_) (fun c_72 => ?_)
                · have H := H1 c_72
                  refine g_bipush (v := 17) d_SC_send_90 (by decide) ?_
                  refine g_iload d_SC_send_92 rfl ?_
                  obtain ⟨H1, H2⟩ := H
                  refine g_if_eq (tgt := 102) d_SC_send_94 (by decide) (fun c_73 => ?_) (fun c_73 => ?_)
                  · have H := H1 c_73
                    refine g_iconst (v := 0) d_SC_send_102 (by decide) ?_
                    refine g_msk [true, true, true, false, true, true, true, true, false] ?_
                    exact okJ_SC_send_103 H
                  · have H := H2 c_73
                    refine g_bipush (v := 32) d_SC_send_97 (by decide) ?_
                    refine g_goto (tgt := 103) d_SC_send_99 (by decide) ?_
                    refine g_msk [true, true, true, false, true, true, true, true, false] ?_
                    exact okJ_SC_send_103 H
                · have H := H2 c_72
                  refine g_bipush (v := (-3)) d_SC_send_87 (by decide) ?_
                  obtain ⟨b_74, H⟩ := H
                  exact g_ireturn d_SC_send_89 rfl b_74.1 b_74.2 ⟨_, rfl, H⟩
              · have H := H2 c_60
                refine g_bipush (v := (-5)) d_SC_send_72 (by decide) ?_
                obtain ⟨b_75, H⟩ := H
                exact g_ireturn d_SC_send_74 rfl b_75.1 b_75.2 ⟨_, rfl, H⟩
            · have H := H2 c_48
              refine g_bipush (v := (-4)) d_SC_send_54 (by decide) ?_
              obtain ⟨b_76, H⟩ := H
              exact g_ireturn d_SC_send_56 rfl b_76.1 b_76.2 ⟨_, rfl, H⟩
          · have H := H2 c_36
            refine g_msk [true, true, true, false, true, true, true, false, false] ?_
            exact okJ_SC_send_42 H
set_option maxRecDepth 100000 in
set_option maxHeartbeats 4000000 in
def wJ_SC_alter_32 (G : Gx) (l : Launch) (d w : Nat) (P : Int32 → Hp → Prop) (q0 : Nat) (x1 : Int32) (x2 : Int32) (o3 : Option Nat) (h : Hp)  : Prop := P 0 h
set_option maxRecDepth 100000 in
set_option maxHeartbeats 4000000 in
theorem okJ_SC_alter_32 {G : Gx} {l : Launch} {d w : Nat} {P : Int32 → Hp → Prop} {p : Program} {e : Env} {s : State} {m : MethodId} {args : Array Value} {below : List Frame} {meth : Method} {c : Code} {q0 : Nat} {x1 : Int32} {x2 : Int32} {o3 : Option Nat} {h : Hp}  (H : wJ_SC_alter_32 G l d w P  q0 x1 x2 o3 h ) : Go M_SC_alter (mkX G (fun r h' => ∃ x, r = some (.int x) ∧ P x h') (d + 5) (w + 114) 0 0 p l e s m args below meth c) 32 [some (.ref q0), some (.int x1), some (.int x2), some (va_rf o3)] [] h 0 0 := by
  unfold wJ_SC_alter_32 at H
  refine g_iconst (v := 0) d_SC_alter_32 (by decide) ?_
  exact g_zreturn d_SC_alter_33 rfl (by decide) (Nat.le_refl _) (Nat.le_refl _) ⟨_, rfl, H⟩
set_option maxRecDepth 100000 in
set_option maxHeartbeats 4000000 in
def wp_SC_alter (G : Gx) (l : Launch) (d w : Nat) (P : Int32 → Hp → Prop) (q0 : Nat) (x1 : Int32) (x2 : Int32) (h : Hp) : Prop := (hS h q0 = some (10, 0)) ∧ (∃ q_2 : Nat, (hR h q0 1) = some q_2 ∧ ((hS h q_2 = some (11, 0)) ∧ (∃ P_5 : Option Nat → Hp → Prop, (Cr G l M_Li_first (d + 4) (w + 94) [.ref q_2] h 0 0 P_5) ∧ (∀ (o_9 : Option Nat) (h_7 : Hp), P_5 o_9 h_7 → (o_9 = none → wJ_SC_alter_32 G l d w P q0 x1 x2 o_9 h_7) ∧ (∀ q_13 : Nat, o_9 = some q_13 → (hS h_7 q_13 = some (15, 0)) ∧ (∃ P_15 : Int32 → Hp → Prop, (Ci G l M_Ro_has (d + 0) (w + 0) [.ref q_13, .int x1] h_7 0 0 P_15) ∧ (∀ (x_19 : Int32) (h_17 : Hp), P_15 x_19 h_17 → (x_19 = 0 → wJ_SC_alter_32 G l d w P q0 x1 x2 (some q_13) h_17) ∧ (¬ x_19 = 0 → (x2 < 1 → wJ_SC_alter_32 G l d w P q0 x1 x2 (some q_13) h_17) ∧ (¬ x2 < 1 → (x2 ≤ 255 → (hS h_17 q_13 = some (15, 0)) ∧ (∃ P_26 : Hp → Prop, (Cv G l M_Ro_flip (d + 1) (w + 21) [.ref q_13, .int x1, .int x2] h_17 0 0 P_26) ∧ (∀ h_28 : Hp, P_26 h_28 → P 1 h_28))) ∧ (¬ x2 ≤ 255 → wJ_SC_alter_32 G l d w P q0 x1 x2 (some q_13) h_17))))))))))
set_option maxRecDepth 100000 in
set_option maxHeartbeats 4000000 in
theorem ok_SC_alter {G : Gx} {l : Launch} {d w : Nat} {P : Int32 → Hp → Prop} {q0 : Nat} {x1 : Int32} {x2 : Int32} {h : Hp} (H : wp_SC_alter G l d w P q0 x1 x2 h) : Ci G l M_SC_alter (d + 5) (w + 114) [.ref q0, .int x1, .int x2] h 0 0 P := by
  unfold wp_SC_alter at H
  refine Ct.of (lv := [some (.ref q0), some (.int x1), some (.int x2), none]) (by decide) (Nat.le_of_ble_eq_true rfl) rfl (fun p e s m args below meth c => ?_)
  refine g_aload_n d_SC_alter_0 rfl ?_
  obtain ⟨z_1, H⟩ := H
  refine g_getR d_SC_alter_1 f_SC_20 z_1 (by decide) ?_
  obtain ⟨q_2, e_3, H⟩ := H
  refine g_eqr e_3 ?_
  obtain ⟨z_4, H⟩ := H
  obtain ⟨P_5, C_6, H⟩ := H
  refine q_V (As := []) (st := []) (nl := 1) d_SC_alter_4 v_SC_90 C_6 z_4 rfl (catS_le (Nat.le_of_ble_eq_true rfl)) rfl ⟨by omega, by omega, Nat.le_refl _, Nat.le_refl _⟩ (fun r_11 h_7 p_8 => ?_)
  obtain ⟨o_9, rfl, p_8⟩ := p_8
  replace H := H o_9 h_7 p_8
  show Go _ _ _ _ [va_rf o_9] _ _ _
  refine g_astore_nV (lv' := [some (.ref q0), some (.int x1), some (.int x2), some (va_rf o_9)]) d_SC_alter_7 (by decide) rfl ?_
  refine g_aload_nV d_SC_alter_8 rfl ?_
  obtain ⟨H1, H2⟩ := H
  refine g_ifnull (tgt := 32) d_SC_alter_9 (by decide) (fun c_12 => ?_) (fun q_13 c_12 => ?_)
  · replace H1 := H1 c_12
    have H := H1
    refine g_msk [true, true, true, true] ?_
    exact okJ_SC_alter_32 H
  · replace H2 := H2 q_13 c_12
    have H := H2
    show Go _ _ _ [some (.ref q0), some (.int x1), some (.int x2), some (va_rf o_9)] [] _ _ _
    rw [show va_rf o_9 = Value.ref q_13 from by rw [c_12]; rfl]
    refine g_aload_n d_SC_alter_12 rfl ?_
    refine g_iload_n d_SC_alter_13 rfl ?_
    obtain ⟨z_14, H⟩ := H
    obtain ⟨P_15, C_16, H⟩ := H
    refine q_V (As := [.int x1]) (st := []) (nl := 2) d_SC_alter_14 v_SC_94 C_16 z_14 rfl (catS_le (Nat.le_of_ble_eq_true rfl)) rfl ⟨by omega, by omega, Nat.le_refl _, Nat.le_refl _⟩ (fun r_21 h_17 p_18 => ?_)
    obtain ⟨x_19, rfl, p_18⟩ := p_18
    replace H := H x_19 h_17 p_18
    show Go _ _ _ _ [.int x_19] _ _ _
    obtain ⟨H1, H2⟩ := H
    refine g_if_eq (tgt := 32) d_SC_alter_17 (by decide) (fun c_22 => ?_) (fun c_22 => ?_)
    · have H := H1 c_22
      refine g_msk [true, true, true, true] ?_
      exact okJ_SC_alter_32 H
    · have H := H2 c_22
      refine g_iload_n d_SC_alter_20 rfl ?_
      refine g_iconst (v := 1) d_SC_alter_21 (by decide) ?_
      obtain ⟨H1, H2⟩ := H
      refine g_icmp_lt (tgt := 32) d_SC_alter_22 (by decide) (fun c_23 => ?_) (fun c_23 => ?_)
      · have H := H1 c_23
        refine g_msk [true, true, true, true] ?_
        exact okJ_SC_alter_32 H
      · have H := H2 c_23
        refine g_iload_n d_SC_alter_25 rfl ?_
        refine g_sipush (v := 255) d_SC_alter_26 (by decide) ?_
        obtain ⟨H1, H2⟩ := H
        refine g_icmp_le (tgt := 34) d_SC_alter_29 (by decide) (fun c_24 => ?_) (fun c_24 => ?_)
        · have H := H1 c_24
          refine g_aload_n d_SC_alter_34 rfl ?_
          refine g_iload_n d_SC_alter_35 rfl ?_
          refine g_iload_n d_SC_alter_36 rfl ?_
          obtain ⟨z_25, H⟩ := H
          obtain ⟨P_26, C_27, H⟩ := H
          refine q_V (As := [.int x1, .int x2]) (st := []) (nl := 3) d_SC_alter_37 v_SC_98 C_27 z_25 rfl (catS_le (Nat.le_of_ble_eq_true rfl)) rfl ⟨by omega, by omega, Nat.le_refl _, Nat.le_refl _⟩ (fun r_32 h_28 p_29 => ?_)
          obtain ⟨rfl, p_29⟩ := p_29
          replace H := H h_28 p_29
          show Go _ _ _ _ [] _ _ _
          refine g_iconst (v := 1) d_SC_alter_40 (by decide) ?_
          exact g_zreturn d_SC_alter_41 rfl (by decide) (Nat.le_refl _) (Nat.le_refl _) ⟨_, rfl, H⟩
        · have H := H2 c_24
          refine g_msk [true, true, true, true] ?_
          exact okJ_SC_alter_32 H
set_option maxRecDepth 100000 in
set_option maxHeartbeats 4000000 in
def wJ_SC_receive_39 (G : Gx) (l : Launch) (d w mc ms : Nat) (P : Int32 → Hp → Prop) (q0 : Nat) (q1 : Nat) (h : Hp) (k n : Nat) : Prop := (k ≤ mc ∧ n ≤ ms) ∧ (P (-3) h)
set_option maxRecDepth 100000 in
set_option maxHeartbeats 4000000 in
theorem okJ_SC_receive_39 {G : Gx} {l : Launch} {d w : Nat} {mc ms : Nat} {P : Int32 → Hp → Prop} {p : Program} {e : Env} {s : State} {m : MethodId} {args : Array Value} {below : List Frame} {meth : Method} {c : Code} {q0 : Nat} {q1 : Nat} {h : Hp} {k n : Nat} (H : wJ_SC_receive_39 G l d w mc ms P  q0 q1 h k n) : Go M_SC_receive (mkX G (fun r h' => ∃ x, r = some (.int x) ∧ P x h') (d + 7) (w + 162) mc ms p l e s m args below meth c) 39 [some (.ref q0), some (.ref q1), none, none] [] h k n := by
  unfold wJ_SC_receive_39 at H
  refine g_bipush (v := (-3)) d_SC_receive_39 (by decide) ?_
  obtain ⟨b_1, H⟩ := H
  exact g_ireturn d_SC_receive_41 rfl b_1.1 b_1.2 ⟨_, rfl, H⟩
set_option maxRecDepth 100000 in
set_option maxHeartbeats 4000000 in
def wJ_SC_receive_66 (G : Gx) (l : Launch) (d w mc ms : Nat) (P : Int32 → Hp → Prop) (q0 : Nat) (q1 : Nat) (o2 : Option Nat) (h : Hp) (k n : Nat) : Prop := (k ≤ mc ∧ n ≤ ms) ∧ (P (-6) h)
set_option maxRecDepth 100000 in
set_option maxHeartbeats 4000000 in
theorem okJ_SC_receive_66 {G : Gx} {l : Launch} {d w : Nat} {mc ms : Nat} {P : Int32 → Hp → Prop} {p : Program} {e : Env} {s : State} {m : MethodId} {args : Array Value} {below : List Frame} {meth : Method} {c : Code} {q0 : Nat} {q1 : Nat} {o2 : Option Nat} {h : Hp} {k n : Nat} (H : wJ_SC_receive_66 G l d w mc ms P  q0 q1 o2 h k n) : Go M_SC_receive (mkX G (fun r h' => ∃ x, r = some (.int x) ∧ P x h') (d + 7) (w + 162) mc ms p l e s m args below meth c) 66 [some (.ref q0), some (.ref q1), some (va_rf o2), none] [] h k n := by
  unfold wJ_SC_receive_66 at H
  refine g_bipush (v := (-6)) d_SC_receive_66 (by decide) ?_
  obtain ⟨b_2, H⟩ := H
  exact g_ireturn d_SC_receive_68 rfl b_2.1 b_2.2 ⟨_, rfl, H⟩
set_option maxRecDepth 100000 in
set_option maxHeartbeats 4000000 in
def wp_SC_receive (G : Gx) (l : Launch) (d w mc ms : Nat) (P : Int32 → Hp → Prop) (q0 : Nat) (h : Hp) : Prop := (hS h q0 = some (10, 0)) ∧ (∃ q_4 : Nat, (hR h q0 1) = some q_4 ∧ ((hS h q_4 = some (11, 0)) ∧ (∃ P_7 : Option Nat → Hp → Prop, (Cr G l M_Li_first (d + 4) (w + 94) [.ref q_4] h 0 0 P_7) ∧ ((0 ≤ mc ∧ 0 ≤ ms) ∧ (∀ (o_11 : Option Nat) (h_9 : Hp), P_7 o_11 h_9 → (o_11 = none → (0 ≤ mc ∧ 0 ≤ ms) ∧ (P (-2) h_9)) ∧ (∀ q_15 : Nat, o_11 = some q_15 → (hS h_9 q0 = some (10, 0)) ∧ (∃ q_18 : Nat, (hR h_9 q0 4) = some q_18 ∧ ((hS h_9 q_18 = some (12, 0)) ∧ (∃ P_21 : Int32 → Hp → Prop, (Ci G l M_AL_size (d + 0) (w + 0) [.ref q_18] h_9 0 0 P_21) ∧ ((0 ≤ mc ∧ 0 ≤ ms) ∧ (∀ (x_25 : Int32) (h_23 : Hp), P_21 x_25 h_23 → (12 ≤ x_25 → wJ_SC_receive_39 G l d w mc ms P q0 q_15 h_23 0 0) ∧ (¬ 12 ≤ x_25 → (hS h_23 q0 = some (10, 0)) ∧ (∃ q_30 : Nat, (hR h_23 q0 3) = some q_30 ∧ ((hS h_23 q_30 = some (12, 0)) ∧ (∃ P_33 : Int32 → Hp → Prop, (Ci G l M_AL_size (d + 0) (w + 0) [.ref q_30] h_23 0 0 P_33) ∧ ((0 ≤ mc ∧ 0 ≤ ms) ∧ (∀ (x_37 : Int32) (h_35 : Hp), P_33 x_37 h_35 → (x_37 < 100 → (hS h_35 q0 = some (10, 0)) ∧ (∃ q_42 : Nat, (hR h_35 q0 1) = some q_42 ∧ ((hS h_35 q_42 = some (11, 0)) ∧ (∃ P_45 : Option Nat → Hp → Prop, (Cr G l M_Li_removeFirst (d + 4) (w + 96) [.ref q_42] h_35 0 0 P_45) ∧ ((0 ≤ mc ∧ 0 ≤ ms) ∧ (∀ (o_49 : Option Nat) (h_47 : Hp), P_45 o_49 h_47 → (hS h_47 q_15 = some (15, 0)) ∧ (((hR h_47 q_15 2) = none → wJ_SC_receive_66 G l d w mc ms P q0 q_15 (hR h_47 q_15 2) h_47 0 0) ∧ (∀ q_54 : Nat, (hR h_47 q_15 2) = some q_54 → ∃ P_55 : Int32 → Hp → Prop, (Ci G l M_Su_areKept (d + 6) (w + 130) [.ref q_15] h_47 0 0 P_55) ∧ ((0 ≤ mc ∧ 0 ≤ ms) ∧ (∀ (x_59 : Int32) (h_57 : Hp), P_55 x_59 h_57 → (¬ x_59 = 0 → (0 + 1 ≤ mc ∧ 0 + 9 ≤ ms) ∧ (∀ q_63 : Nat, Fre h_57 q_63 → (hS (pN h_57 q_63 (16, 0)) q0 = some (10, 0)) ∧ (∃ P_67 : Hp → Prop, (Cv G l M_Me_init (d + 4) (w + 90) [.ref q_63, .ref q_15, .ref q_54, .int (hI h_57 q0 5)] (pN h_57 q_63 (16, 0)) 0 0 P_67) ∧ (((0 + 1) ≤ mc ∧ (0 + 9) ≤ ms) ∧ (∀ h_69 : Hp, P_67 h_69 → (hS h_69 q0 = some (10, 0)) ∧ (∃ q_75 : Nat, (hR h_69 q0 3) = some q_75 ∧ ((hS h_69 q_75 = some (12, 0)) ∧ (∃ mc_83 : Nat, ∃ ms_84 : Nat, ∃ P_78 : Int32 → Hp → Prop, (Ci G l M_AL_add (d + 6) (w + 141) [.ref q_75, .ref q_63] h_69 mc_83 ms_84 P_78) ∧ (((0 + 1) + mc_83 ≤ mc ∧ (0 + 9) + ms_84 ≤ ms) ∧ (∀ (x_82 : Int32) (h_80 : Hp), P_78 x_82 h_80 → (hS h_80 q0 = some (10, 0)) ∧ (∃ q_88 : Nat, (hR h_80 q0 4) = some q_88 ∧ ((hS h_80 q_88 = some (12, 0)) ∧ (∃ mc_96 : Nat, ∃ ms_97 : Nat, ∃ P_91 : Int32 → Hp → Prop, (Ci G l M_AL_add (d + 6) (w + 141) [.ref q_88, .ref q_63] h_80 mc_96 ms_97 P_91) ∧ ((((0 + 1) + mc_83) + mc_96 ≤ mc ∧ ((0 + 9) + ms_84) + ms_97 ≤ ms) ∧ (∀ (x_95 : Int32) (h_93 : Hp), P_91 x_95 h_93 → (hS h_93 q0 = some (10, 0)) ∧ (∃ q_101 : Nat, (hR h_93 q0 3) = some q_101 ∧ ((hS h_93 q_101 = some (12, 0)) ∧ (∃ P_104 : Int32 → Hp → Prop, (Ci G l M_AL_size (d + 0) (w + 0) [.ref q_101] h_93 0 0 P_104) ∧ (((((0 + 1) + mc_83) + mc_96) ≤ mc ∧ (((0 + 9) + ms_84) + ms_97) ≤ ms) ∧ (∀ (x_108 : Int32) (h_106 : Hp), P_104 x_108 h_106 → ((((0 + 1) + mc_83) + mc_96) ≤ mc ∧ (((0 + 9) + ms_84) + ms_97) ≤ ms) ∧ (P (x_108 - 1) h_106))))))))))))))))))))) ∧ (x_59 = 0 → wJ_SC_receive_66 G l d w mc ms P q0 q_15 (some q_54) h_57 0 0))))))))))) ∧ (¬ x_37 < 100 → wJ_SC_receive_39 G l d w mc ms P q0 q_15 h_35 0 0))))))))))))))))))
set_option maxRecDepth 100000 in
set_option maxHeartbeats 4000000 in
theorem ok_SC_receive {G : Gx} {l : Launch} {d w : Nat} {mc ms : Nat} {P : Int32 → Hp → Prop} {q0 : Nat} {h : Hp} (H : wp_SC_receive G l d w mc ms P q0 h) : Ci G l M_SC_receive (d + 7) (w + 162) [.ref q0] h mc ms P := by
  unfold wp_SC_receive at H
  refine Ct.of (lv := [some (.ref q0), none, none, none]) (by decide) (Nat.le_of_ble_eq_true rfl) rfl (fun p e s m args below meth c => ?_)
  refine g_aload_n d_SC_receive_0 rfl ?_
  obtain ⟨z_3, H⟩ := H
  refine g_getR d_SC_receive_1 f_SC_20 z_3 (by decide) ?_
  obtain ⟨q_4, e_5, H⟩ := H
  refine g_eqr e_5 ?_
  obtain ⟨z_6, H⟩ := H
  obtain ⟨P_7, C_8, H⟩ := H
  obtain ⟨b_12, H⟩ := H
  refine q_V (As := []) (st := []) (nl := 1) d_SC_receive_4 v_SC_90 C_8 z_6 rfl (catS_le (Nat.le_of_ble_eq_true rfl)) rfl ⟨by omega, by omega, b_12.1, b_12.2⟩ (fun r_13 h_9 p_10 => ?_)
  obtain ⟨o_11, rfl, p_10⟩ := p_10
  replace H := H o_11 h_9 p_10
  show Go _ _ _ _ [va_rf o_11] _ _ _
  refine g_astore_nV (lv' := [some (.ref q0), some (va_rf o_11), none, none]) d_SC_receive_7 (by decide) rfl ?_
  refine g_aload_nV d_SC_receive_8 rfl ?_
  obtain ⟨H1, H2⟩ := H
  refine g_ifnonnull (tgt := 15) d_SC_receive_9 (by decide) (fun q_15 c_14 => ?_) (fun c_14 => ?_)
  · replace H2 := H2 q_15 c_14
    have H := H2
    show Go _ _ _ [some (.ref q0), some (va_rf o_11), none, none] [] _ _ _
    rw [show va_rf o_11 = Value.ref q_15 from by rw [c_14]; rfl]
    refine g_aload_n d_SC_receive_15 rfl ?_
    obtain ⟨z_17, H⟩ := H
    refine g_getR d_SC_receive_16 f_SC_38 z_17 (by decide) ?_
    obtain ⟨q_18, e_19, H⟩ := H
    refine g_eqr e_19 ?_
    obtain ⟨z_20, H⟩ := H
    obtain ⟨P_21, C_22, H⟩ := H
    obtain ⟨b_26, H⟩ := H
    refine q_V (As := []) (st := []) (nl := 1) d_SC_receive_19 v_SC_101 C_22 z_20 rfl (catS_le (Nat.le_of_ble_eq_true rfl)) rfl ⟨by omega, by omega, b_26.1, b_26.2⟩ (fun r_27 h_23 p_24 => ?_)
    obtain ⟨x_25, rfl, p_24⟩ := p_24
    replace H := H x_25 h_23 p_24
    show Go _ _ _ _ [.int x_25] _ _ _
    refine g_bipush (v := 12) d_SC_receive_22 (by decide) ?_
    obtain ⟨H1, H2⟩ := H
    refine g_icmp_ge (tgt := 39) d_SC_receive_24 (by decide) (fun c_28 => ?_) (fun c_28 => ?_)
    · have H := H1 c_28
      refine g_msk [true, true, false, false] ?_
      exact okJ_SC_receive_39 H
    · have H := H2 c_28
      refine g_aload_n d_SC_receive_27 rfl ?_
      obtain ⟨z_29, H⟩ := H
      refine g_getR d_SC_receive_28 f_SC_34 z_29 (by decide) ?_
      obtain ⟨q_30, e_31, H⟩ := H
      refine g_eqr e_31 ?_
      obtain ⟨z_32, H⟩ := H
      obtain ⟨P_33, C_34, H⟩ := H
      obtain ⟨b_38, H⟩ := H
      refine q_V (As := []) (st := []) (nl := 1) d_SC_receive_31 v_SC_101 C_34 z_32 rfl (catS_le (Nat.le_of_ble_eq_true rfl)) rfl ⟨by omega, by omega, b_38.1, b_38.2⟩ (fun r_39 h_35 p_36 => ?_)
      obtain ⟨x_37, rfl, p_36⟩ := p_36
      replace H := H x_37 h_35 p_36
      show Go _ _ _ _ [.int x_37] _ _ _
      refine g_bipush (v := 100) d_SC_receive_34 (by decide) ?_
      obtain ⟨H1, H2⟩ := H
      refine g_icmp_lt (tgt := 42) d_SC_receive_36 (by decide) (fun c_40 => ?_) (fun c_40 => ?_)
      · have H := H1 c_40
        refine g_aload_n d_SC_receive_42 rfl ?_
        obtain ⟨z_41, H⟩ := H
        refine g_getR d_SC_receive_43 f_SC_20 z_41 (by decide) ?_
        obtain ⟨q_42, e_43, H⟩ := H
        refine g_eqr e_43 ?_
        obtain ⟨z_44, H⟩ := H
        obtain ⟨P_45, C_46, H⟩ := H
        obtain ⟨b_50, H⟩ := H
        refine q_V (As := []) (st := []) (nl := 1) d_SC_receive_46 v_SC_104 C_46 z_44 rfl (catS_le (Nat.le_of_ble_eq_true rfl)) rfl ⟨by omega, by omega, b_50.1, b_50.2⟩ (fun r_51 h_47 p_48 => ?_)
        obtain ⟨o_49, rfl, p_48⟩ := p_48
        replace H := H o_49 h_47 p_48
        show Go _ _ _ _ [va_rf o_49] _ _ _
        refine g_pop d_SC_receive_49 (vcat _) ?_
        refine g_aload_n d_SC_receive_50 rfl ?_
        obtain ⟨z_52, H⟩ := H
        refine g_getR d_SC_receive_51 f_SC_107 z_52 (by decide) ?_
        refine g_astore_nV (lv' := [some (.ref q0), some (.ref q_15), some (va_rf (hR h_47 q_15 2)), none]) d_SC_receive_54 (by decide) rfl ?_
        refine g_aload_nV d_SC_receive_55 rfl ?_
        obtain ⟨H1, H2⟩ := H
        refine g_ifnull (tgt := 66) d_SC_receive_56 (by decide) (fun c_53 => ?_) (fun q_54 c_53 => ?_)
        · replace H1 := H1 c_53
          have H := H1
          refine g_msk [true, true, true, false] ?_
          exact okJ_SC_receive_66 H
        · replace H2 := H2 q_54 c_53
          have H := H2
          show Go _ _ _ [some (.ref q0), some (.ref q_15), some (va_rf (hR h_47 q_15 2)), none] [] _ _ _
          rw [show va_rf (hR h_47 q_15 2) = Value.ref q_54 from by rw [c_53]; rfl]
          refine g_aload_n d_SC_receive_59 rfl ?_
          obtain ⟨P_55, C_56, H⟩ := H
          obtain ⟨b_60, H⟩ := H
          refine q_S (As := [.ref q_15]) (st := []) (nl := 4) d_SC_receive_60 v_SC_111 C_56 rfl (catS_le (Nat.le_of_ble_eq_true rfl)) rfl ⟨by omega, by omega, b_60.1, b_60.2⟩ (fun r_61 h_57 p_58 => ?_)
          obtain ⟨x_59, rfl, p_58⟩ := p_58
          replace H := H x_59 h_57 p_58
          show Go _ _ _ _ [.int x_59] _ _ _
          obtain ⟨H1, H2⟩ := H
          refine g_if_ne (tgt := 69) d_SC_receive_63 (by decide) (fun c_62 => ?_) (fun c_62 => ?_)
          · have H := H1 c_62
            obtain ⟨b_64, H⟩ := H
            refine g_new d_SC_receive_69 (ci := 6) rfl k_SC_117 kI_6 kJ_6 b_64.1 b_64.2 (fun q_63 Fq_63 => ?_)
            replace H := H q_63 Fq_63
            have z_65 : hS (pN h_57 q_63 (16, 0)) q_63 = some (16, 0) := Fre.new
            refine g_dup d_SC_receive_72 rfl ?_
            refine g_aload_n d_SC_receive_73 rfl ?_
            refine g_aload_n d_SC_receive_74 rfl ?_
            refine g_aload_n d_SC_receive_75 rfl ?_
            obtain ⟨z_66, H⟩ := H
            refine g_getI d_SC_receive_76 f_SC_119 z_66 ?_
            obtain ⟨P_67, C_68, H⟩ := H
            obtain ⟨b_72, H⟩ := H
            refine q_I (As := [.ref q_15, .ref q_54, .int (hI h_57 q0 5)]) (st := [.ref q_63]) (nl := 4) d_SC_receive_79 v_SC_122 C_68 rfl (catS_le (Nat.le_of_ble_eq_true rfl)) rfl ⟨by omega, by omega, b_72.1, b_72.2⟩ (fun r_73 h_69 p_70 => ?_)
            obtain ⟨rfl, p_70⟩ := p_70
            replace H := H h_69 p_70
            show Go _ _ _ _ [.ref q_63] _ _ _
            refine g_astore_n (lv' := [some (.ref q0), some (.ref q_15), some (.ref q_54), some (.ref q_63)]) d_SC_receive_82 (by decide) rfl ?_
            refine g_aload_n d_SC_receive_83 rfl ?_
            obtain ⟨z_74, H⟩ := H
            refine g_getR d_SC_receive_84 f_SC_34 z_74 (by decide) ?_
            refine g_aload_n d_SC_receive_87 rfl ?_
            obtain ⟨q_75, e_76, H⟩ := H
            show Go _ _ _ [some (.ref q0), some (.ref q_15), some (.ref q_54), some (.ref q_63)] [.ref q_63, va_rf (hR h_69 q0 3)] _ _ _
            rw [show va_rf (hR h_69 q0 3) = Value.ref q_75 from by rw [e_76]; rfl]
            obtain ⟨z_77, H⟩ := H
            obtain ⟨mc_83, H⟩ := H
            obtain ⟨ms_84, H⟩ := H
            obtain ⟨P_78, C_79, H⟩ := H
            obtain ⟨b_85, H⟩ := H
            refine q_V (As := [.ref q_63]) (st := []) (nl := 2) d_SC_receive_88 v_SC_125 C_79 z_77 rfl (catS_le (Nat.le_of_ble_eq_true rfl)) rfl ⟨by omega, by omega, b_85.1, b_85.2⟩ (fun r_86 h_80 p_81 => ?_)
            obtain ⟨x_82, rfl, p_81⟩ := p_81
            replace H := H x_82 h_80 p_81
            show Go _ _ _ _ [.int x_82] _ _ _
            refine g_pop d_SC_receive_91 rfl ?_
            refine g_aload_n d_SC_receive_92 rfl ?_
            obtain ⟨z_87, H⟩ := H
            refine g_getR d_SC_receive_93 f_SC_38 z_87 (by decide) ?_
            refine g_aload_n d_SC_receive_96 rfl ?_
            obtain ⟨q_88, e_89, H⟩ := H
            show Go _ _ _ [some (.ref q0), some (.ref q_15), some (.ref q_54), some (.ref q_63)] [.ref q_63, va_rf (hR h_80 q0 4)] _ _ _
            rw [show va_rf (hR h_80 q0 4) = Value.ref q_88 from by rw [e_89]; rfl]
            obtain ⟨z_90, H⟩ := H
            obtain ⟨mc_96, H⟩ := H
            obtain ⟨ms_97, H⟩ := H
            obtain ⟨P_91, C_92, H⟩ := H
            obtain ⟨b_98, H⟩ := H
            refine q_V (As := [.ref q_63]) (st := []) (nl := 2) d_SC_receive_97 v_SC_125 C_92 z_90 rfl (catS_le (Nat.le_of_ble_eq_true rfl)) rfl ⟨by omega, by omega, b_98.1, b_98.2⟩ (fun r_99 h_93 p_94 => ?_)
            obtain ⟨x_95, rfl, p_94⟩ := p_94
            replace H := H x_95 h_93 p_94
            show Go _ _ _ _ [.int x_95] _ _ _
            refine g_pop d_SC_receive_100 rfl ?_
            refine g_aload_n d_SC_receive_101 rfl ?_
            obtain ⟨z_100, H⟩ := H
            refine g_getR d_SC_receive_102 f_SC_34 z_100 (by decide) ?_
            obtain ⟨q_101, e_102, H⟩ := H
            refine g_eqr e_102 ?_
            obtain ⟨z_103, H⟩ := H
            obtain ⟨P_104, C_105, H⟩ := H
            obtain ⟨b_109, H⟩ := H
            refine q_V (As := []) (st := []) (nl := 1) d_SC_receive_105 v_SC_101 C_105 z_103 rfl (catS_le (Nat.le_of_ble_eq_true rfl)) rfl ⟨by omega, by omega, b_109.1, b_109.2⟩ (fun r_110 h_106 p_107 => ?_)
            obtain ⟨x_108, rfl, p_107⟩ := p_107
            replace H := H x_108 h_106 p_107
            show Go _ _ _ _ [.int x_108] _ _ _
            refine g_iconst (v := 1) d_SC_receive_108 (by decide) ?_
            refine g_isub d_SC_receive_109 ?_
            obtain ⟨b_111, H⟩ := H
            exact g_ireturn d_SC_receive_110 rfl b_111.1 b_111.2 ⟨_, rfl, H⟩
          · have H := H2 c_62
            refine g_msk [true, true, true, false] ?_
            exact okJ_SC_receive_66 H
      · have H := H2 c_40
        refine g_msk [true, true, false, false] ?_
        exact okJ_SC_receive_39 H
  · replace H1 := H1 c_14
    have H := H1
    refine g_bipush (v := (-2)) d_SC_receive_12 (by decide) ?_
    obtain ⟨b_16, H⟩ := H
    exact g_ireturn d_SC_receive_14 rfl b_16.1 b_16.2 ⟨_, rfl, H⟩
set_option maxRecDepth 100000 in
set_option maxHeartbeats 4000000 in
def wJ_SC_advance_10 (G : Gx) (l : Launch) (d w mc ms : Nat) (P : Int32 → Hp → Prop) (q0 : Nat) (x1 : Int32) (h : Hp) (k n : Nat) : Prop := (k ≤ mc ∧ n ≤ ms) ∧ (P (-1) h)
set_option maxRecDepth 100000 in
set_option maxHeartbeats 4000000 in
theorem okJ_SC_advance_10 {G : Gx} {l : Launch} {d w : Nat} {mc ms : Nat} {P : Int32 → Hp → Prop} {p : Program} {e : Env} {s : State} {m : MethodId} {args : Array Value} {below : List Frame} {meth : Method} {c : Code} {q0 : Nat} {x1 : Int32} {h : Hp} {k n : Nat} (H : wJ_SC_advance_10 G l d w mc ms P  q0 x1 h k n) : Go M_SC_advance (mkX G (fun r h' => ∃ x, r = some (.int x) ∧ P x h') (d + 9) (w + 206) mc ms p l e s m args below meth c) 10 [some (.ref q0), some (.int x1), none, none, none, none, none, none] [] h k n := by
  unfold wJ_SC_advance_10 at H
  refine g_iconst (v := (-1)) d_SC_advance_10 (by decide) ?_
  obtain ⟨b_1, H⟩ := H
  exact g_ireturn d_SC_advance_11 rfl b_1.1 b_1.2 ⟨_, rfl, H⟩
set_option maxRecDepth 100000 in
set_option maxHeartbeats 4000000 in
def wJ_SC_advance_130 (G : Gx) (l : Launch) (d w mc ms : Nat) (P : Int32 → Hp → Prop) (q0 : Nat) (x1 : Int32) (x2 : Int32) (x3 : Int32) (x4 : Int32) (h : Hp) (k n : Nat) : Prop := (hS h q0 = some (10, 0)) ∧ ((k ≤ mc ∧ n ≤ ms) ∧ (P x3 (pI h q0 5 x2)))
set_option maxRecDepth 100000 in
set_option maxHeartbeats 4000000 in
theorem okJ_SC_advance_130 {G : Gx} {l : Launch} {d w : Nat} {mc ms : Nat} {P : Int32 → Hp → Prop} {p : Program} {e : Env} {s : State} {m : MethodId} {args : Array Value} {below : List Frame} {meth : Method} {c : Code} {q0 : Nat} {x1 : Int32} {x2 : Int32} {x3 : Int32} {x4 : Int32} {h : Hp} {k n : Nat} (H : wJ_SC_advance_130 G l d w mc ms P  q0 x1 x2 x3 x4 h k n) : Go M_SC_advance (mkX G (fun r h' => ∃ x, r = some (.int x) ∧ P x h') (d + 9) (w + 206) mc ms p l e s m args below meth c) 130 [some (.ref q0), some (.int x1), some (.int x2), some (.int x3), some (.int x4), none, none, none] [] h k n := by
  unfold wJ_SC_advance_130 at H
  refine g_aload_n d_SC_advance_130 rfl ?_
  refine g_iload_n d_SC_advance_131 rfl ?_
  obtain ⟨z_2, H⟩ := H
  refine g_putI d_SC_advance_132 f_SC_119 (fo_0_5 _) z_2 ?_
  refine g_iload_n d_SC_advance_135 rfl ?_
  obtain ⟨b_3, H⟩ := H
  exact g_ireturn d_SC_advance_136 rfl b_3.1 b_3.2 ⟨_, rfl, H⟩
set_option maxRecDepth 100000 in
set_option maxHeartbeats 4000000 in
def wJ_SC_advance_124 (G : Gx) (l : Launch) (d w mc ms : Nat) (P : Int32 → Hp → Prop) (C24 : Int32 → Int32 → Hp → Nat → Nat → Prop) (q0 : Nat) (x1 : Int32) (x2 : Int32) (x3 : Int32) (x4 : Int32) (x5 : Int32) (q6 : Nat) (x7 : Int32) (h : Hp) (k n : Nat) : Prop := ∀ x_4 : Int32, x_4 = x4 + 1 → C24 x3 x_4 h k n
set_option maxRecDepth 100000 in
set_option maxHeartbeats 4000000 in
theorem okJ_SC_advance_124 {G : Gx} {l : Launch} {d w : Nat} {mc ms : Nat} {P : Int32 → Hp → Prop} {p : Program} {e : Env} {s : State} {m : MethodId} {args : Array Value} {below : List Frame} {meth : Method} {c : Code} {C24 : Int32 → Int32 → Hp → Nat → Nat → Prop} {q0 : Nat} {x1 : Int32} {x2 : Int32} {x3 : Int32} {x4 : Int32} {x5 : Int32} {q6 : Nat} {x7 : Int32} (hC24 : ∀ (x3 : Int32) (x4 : Int32) (h : Hp) (k n : Nat), C24 x3 x4 h k n → Go M_SC_advance (mkX G (fun r h' => ∃ x, r = some (.int x) ∧ P x h') (d + 9) (w + 206) mc ms p l e s m args below meth c) 24 [some (.ref q0), some (.int x1), some (.int x2), some (.int x3), some (.int x4), none, none, none] [] h k n) {h : Hp} {k n : Nat} (H : wJ_SC_advance_124 G l d w mc ms P C24 q0 x1 x2 x3 x4 x5 q6 x7 h k n) : Go M_SC_advance (mkX G (fun r h' => ∃ x, r = some (.int x) ∧ P x h') (d + 9) (w + 206) mc ms p l e s m args below meth c) 124 [some (.ref q0), some (.int x1), some (.int x2), some (.int x3), some (.int x4), some (.int x5), some (.ref q6), some (.int x7)] [] h k n := by
  unfold wJ_SC_advance_124 at H
  obtain ⟨x_4, ex_4⟩ : ∃ z : Int32, z = x4 + 1 := ⟨_, rfl⟩
  replace H := H x_4 ex_4
  refine g_iinc (v := x_4) (lv' := [some (.ref q0), some (.int x1), some (.int x2), some (.int x3), some (.int x_4), some (.int x5), some (.ref q6), some (.int x7)]) d_SC_advance_124 rfl (by decide) (by rw [ex_4]; rfl) rfl ?_
  refine g_goto (tgt := 24) d_SC_advance_127 (by decide) ?_
  refine g_msk [true, true, true, true, true, false, false, false] ?_
  exact hC24 _ _ _ _ _ H
set_option maxRecDepth 100000 in
set_option maxHeartbeats 4000000 in
def wB_SC_advance_24 (G : Gx) (l : Launch) (d w mc ms : Nat) (P : Int32 → Hp → Prop) (C24 : Int32 → Int32 → Hp → Nat → Nat → Prop) (q0 : Nat) (x1 : Int32) (x2 : Int32) (x3 : Int32) (x4 : Int32) (h : Hp) (k n : Nat) : Prop := (1000000 ≤ x4 → wJ_SC_advance_130 G l d w mc ms P q0 x1 x2 x3 x4 h k n) ∧ (¬ 1000000 ≤ x4 → (hS h q0 = some (10, 0)) ∧ (∃ P_7 : Int32 → Hp → Prop, (Ci G l M_SC_earliestPlace (d + 4) (w + 94) [.ref q0] h 0 0 P_7) ∧ ((k ≤ mc ∧ n ≤ ms) ∧ (∀ (x_11 : Int32) (h_9 : Hp), P_7 x_11 h_9 → (x_11 < 0 → wJ_SC_advance_130 G l d w mc ms P q0 x1 x2 x3 x4 h_9 k n) ∧ (¬ x_11 < 0 → (hS h_9 q0 = some (10, 0)) ∧ (∃ q_16 : Nat, (hR h_9 q0 4) = some q_16 ∧ ((hS h_9 q_16 = some (12, 0)) ∧ (∃ P_19 : Option Nat → Hp → Prop, (Cr G l M_AL_get (d + 3) (w + 73) [.ref q_16, .int x_11] h_9 0 0 P_19) ∧ ((k ≤ mc ∧ n ≤ ms) ∧ (∀ (o_23 : Option Nat) (h_21 : Hp), P_19 o_23 h_21 → ∃ q_26 : Nat, o_23 = some q_26 ∧ ((hS h_21 q_26 = some (16, 0)) ∧ (∃ P_29 : Int32 → Hp → Prop, (Ci G l M_Me_moment (d + 1) (w + 21) [.ref q_26] h_21 0 0 P_29) ∧ ((k ≤ mc ∧ n ≤ ms) ∧ (∀ (x_33 : Int32) (h_31 : Hp), P_29 x_33 h_31 → (x_33 ≤ x2 → (hS h_31 q0 = some (10, 0)) ∧ (∃ q_38 : Nat, (hR h_31 q0 4) = some q_38 ∧ ((hS h_31 q_38 = some (12, 0)) ∧ (∃ P_41 : Option Nat → Hp → Prop, (Cr G l M_AL_get (d + 3) (w + 73) [.ref q_38, .int x_11] h_31 0 0 P_41) ∧ ((k ≤ mc ∧ n ≤ ms) ∧ (∀ (o_45 : Option Nat) (h_43 : Hp), P_41 o_45 h_43 → ∃ q_48 : Nat, o_45 = some q_48 ∧ ((hS h_43 q_48 = some (16, 0)) ∧ (∃ P_51 : Int32 → Hp → Prop, (Ci G l M_Me_moment (d + 1) (w + 21) [.ref q_48] h_43 0 0 P_51) ∧ ((k ≤ mc ∧ n ≤ ms) ∧ (∀ (x_55 : Int32) (h_53 : Hp), P_51 x_55 h_53 → (hS h_53 q0 = some (10, 0)) ∧ (∃ mc_64 : Nat, ∃ ms_65 : Nat, ∃ P_59 : Hp → Prop, (Cv G l M_SC_dealWith (d + 8) (w + 183) [.ref q0, .ref q_48, .int x_55] h_53 mc_64 ms_65 P_59) ∧ ((k + mc_64 ≤ mc ∧ n + ms_65 ≤ ms) ∧ (∀ h_61 : Hp, P_59 h_61 → (hS h_61 q_48 = some (16, 0)) ∧ (((hR h_61 q_48 8) = (some (gK G 4)) → wJ_SC_advance_124 G l d w mc ms P C24 q0 x1 x2 x3 x4 x_11 q_48 x_55 h_61 (k + mc_64) (n + ms_65)) ∧ (¬ (hR h_61 q_48 8) = (some (gK G 4)) → (hS h_61 q0 = some (10, 0)) ∧ (∃ q_71 : Nat, (hR h_61 q0 4) = some q_71 ∧ ((hS h_61 q_71 = some (12, 0)) ∧ (∃ P_74 : Option Nat → Hp → Prop, (Cr G l M_AL_remove (d + 3) (w + 73) [.ref q_71, .int x_11] h_61 0 0 P_74) ∧ (((k + mc_64) ≤ mc ∧ (n + ms_65) ≤ ms) ∧ (∀ (o_78 : Option Nat) (h_76 : Hp), P_74 o_78 h_76 → (hS h_76 q_48 = some (16, 0)) ∧ (∃ mc_87 : Nat, ∃ ms_88 : Nat, ∃ P_82 : Hp → Prop, (Cv G l M_Me_fileReport (d + 8) (w + 183) [.ref q_48, .int x_55] h_76 mc_87 ms_88 P_82) ∧ (((k + mc_64) + mc_87 ≤ mc ∧ (n + ms_65) + ms_88 ≤ ms) ∧ (∀ h_84 : Hp, P_82 h_84 → ∀ x_91 : Int32, x_91 = x3 + 1 → wJ_SC_advance_124 G l d w mc ms P C24 q0 x1 x2 x_91 x4 x_11 q_48 x_55 h_84 ((k + mc_64) + mc_87) ((n + ms_65) + ms_88)))))))))))))))))))))))) ∧ (¬ x_33 ≤ x2 → wJ_SC_advance_130 G l d w mc ms P q0 x1 x2 x3 x4 h_31 k n)))))))))))))))
set_option maxRecDepth 100000 in
set_option maxHeartbeats 4000000 in
theorem okB_SC_advance_24 {G : Gx} {l : Launch} {d w : Nat} {mc ms : Nat} {P : Int32 → Hp → Prop} {p : Program} {e : Env} {s : State} {m : MethodId} {args : Array Value} {below : List Frame} {meth : Method} {c : Code} {C24 : Int32 → Int32 → Hp → Nat → Nat → Prop} {q0 : Nat} {x1 : Int32} {x2 : Int32} {x3 : Int32} {x4 : Int32} (hC24 : ∀ (x3 : Int32) (x4 : Int32) (h : Hp) (k n : Nat), C24 x3 x4 h k n → Go M_SC_advance (mkX G (fun r h' => ∃ x, r = some (.int x) ∧ P x h') (d + 9) (w + 206) mc ms p l e s m args below meth c) 24 [some (.ref q0), some (.int x1), some (.int x2), some (.int x3), some (.int x4), none, none, none] [] h k n) {h : Hp} {k n : Nat} (H : wB_SC_advance_24 G l d w mc ms P C24 q0 x1 x2 x3 x4 h k n) : Go M_SC_advance (mkX G (fun r h' => ∃ x, r = some (.int x) ∧ P x h') (d + 9) (w + 206) mc ms p l e s m args below meth c) 24 [some (.ref q0), some (.int x1), some (.int x2), some (.int x3), some (.int x4), none, none, none] [] h k n := by
  unfold wB_SC_advance_24 at H
  refine g_iload d_SC_advance_24 rfl ?_
  refine g_ldc d_SC_advance_26 k_SC_130 ?_
  obtain ⟨H1, H2⟩ := H
  refine g_icmp_ge (tgt := 130) d_SC_advance_28 (by decide) (fun c_5 => ?_) (fun c_5 => ?_)
  · have H := H1 c_5
    refine g_msk [true, true, true, true, true, false, false, false] ?_
    exact okJ_SC_advance_130 H
  · have H := H2 c_5
    refine g_aload_n d_SC_advance_31 rfl ?_
    obtain ⟨z_6, H⟩ := H
    obtain ⟨P_7, C_8, H⟩ := H
    obtain ⟨b_12, H⟩ := H
    refine q_V (As := []) (st := []) (nl := 3) d_SC_advance_32 v_SC_131 C_8 z_6 rfl (catS_le (Nat.le_of_ble_eq_true rfl)) rfl ⟨by omega, by omega, b_12.1, b_12.2⟩ (fun r_13 h_9 p_10 => ?_)
    obtain ⟨x_11, rfl, p_10⟩ := p_10
    replace H := H x_11 h_9 p_10
    show Go _ _ _ _ [.int x_11] _ _ _
    refine g_istore (lv' := [some (.ref q0), some (.int x1), some (.int x2), some (.int x3), some (.int x4), some (.int x_11), none, none]) d_SC_advance_35 (by decide) rfl ?_
    refine g_iload d_SC_advance_37 rfl ?_
    obtain ⟨H1, H2⟩ := H
    refine g_if_lt (tgt := 130) d_SC_advance_39 (by decide) (fun c_14 => ?_) (fun c_14 => ?_)
    · have H := H1 c_14
      refine g_msk [true, true, true, true, true, false, false, false] ?_
      exact okJ_SC_advance_130 H
    · have H := H2 c_14
      refine g_aload_n d_SC_advance_42 rfl ?_
      obtain ⟨z_15, H⟩ := H
      refine g_getR d_SC_advance_43 f_SC_38 z_15 (by decide) ?_
      refine g_iload d_SC_advance_46 rfl ?_
      obtain ⟨q_16, e_17, H⟩ := H
      show Go _ _ _ [some (.ref q0), some (.int x1), some (.int x2), some (.int x3), some (.int x4), some (.int x_11), none, none] [.int x_11, va_rf (hR h_9 q0 4)] _ _ _
      rw [show va_rf (hR h_9 q0 4) = Value.ref q_16 from by rw [e_17]; rfl]
      obtain ⟨z_18, H⟩ := H
      obtain ⟨P_19, C_20, H⟩ := H
      obtain ⟨b_24, H⟩ := H
      refine q_V (As := [.int x_11]) (st := []) (nl := 2) d_SC_advance_48 v_SC_134 C_20 z_18 rfl (catS_le (Nat.le_of_ble_eq_true rfl)) rfl ⟨by omega, by omega, b_24.1, b_24.2⟩ (fun r_25 h_21 p_22 => ?_)
      obtain ⟨o_23, rfl, p_22⟩ := p_22
      replace H := H o_23 h_21 p_22
      show Go _ _ _ _ [va_rf o_23] _ _ _
      obtain ⟨q_26, e_27, H⟩ := H
      refine g_eqr e_27 ?_
      obtain ⟨z_28, H⟩ := H
      refine g_cast d_SC_advance_51 (ci := 6) rfl k_SC_117 kC_6 z_28 ?_
      obtain ⟨P_29, C_30, H⟩ := H
      obtain ⟨b_34, H⟩ := H
      refine q_V (As := []) (st := []) (nl := 1) d_SC_advance_54 v_SC_138 C_30 z_28 rfl (catS_le (Nat.le_of_ble_eq_true rfl)) rfl ⟨by omega, by omega, b_34.1, b_34.2⟩ (fun r_35 h_31 p_32 => ?_)
      obtain ⟨x_33, rfl, p_32⟩ := p_32
      replace H := H x_33 h_31 p_32
      show Go _ _ _ _ [.int x_33] _ _ _
      refine g_iload_n d_SC_advance_57 rfl ?_
      obtain ⟨H1, H2⟩ := H
      refine g_icmp_le (tgt := 64) d_SC_advance_58 (by decide) (fun c_36 => ?_) (fun c_36 => ?_)
      · have H := H1 c_36
        refine g_aload_n d_SC_advance_64 rfl ?_
        obtain ⟨z_37, H⟩ := H
        refine g_getR d_SC_advance_65 f_SC_38 z_37 (by decide) ?_
        refine g_iload d_SC_advance_68 rfl ?_
        obtain ⟨q_38, e_39, H⟩ := H
        show Go _ _ _ [some (.ref q0), some (.int x1), some (.int x2), some (.int x3), some (.int x4), some (.int x_11), none, none] [.int x_11, va_rf (hR h_31 q0 4)] _ _ _
        rw [show va_rf (hR h_31 q0 4) = Value.ref q_38 from by rw [e_39]; rfl]
        obtain ⟨z_40, H⟩ := H
        obtain ⟨P_41, C_42, H⟩ := H
        obtain ⟨b_46, H⟩ := H
        refine q_V (As := [.int x_11]) (st := []) (nl := 2) d_SC_advance_70 v_SC_134 C_42 z_40 rfl (catS_le (Nat.le_of_ble_eq_true rfl)) rfl ⟨by omega, by omega, b_46.1, b_46.2⟩ (fun r_47 h_43 p_44 => ?_)
        obtain ⟨o_45, rfl, p_44⟩ := p_44
        replace H := H o_45 h_43 p_44
        show Go _ _ _ _ [va_rf o_45] _ _ _
        obtain ⟨q_48, e_49, H⟩ := H
        refine g_eqr e_49 ?_
        obtain ⟨z_50, H⟩ := H
        refine g_cast d_SC_advance_73 (ci := 6) rfl k_SC_117 kC_6 z_50 ?_
        refine g_astore (lv' := [some (.ref q0), some (.int x1), some (.int x2), some (.int x3), some (.int x4), some (.int x_11), some (.ref q_48), none]) d_SC_advance_76 (by decide) rfl ?_
        refine g_aload d_SC_advance_78 rfl ?_
        obtain ⟨P_51, C_52, H⟩ := H
        obtain ⟨b_56, H⟩ := H
        refine q_V (As := []) (st := []) (nl := 1) d_SC_advance_80 v_SC_138 C_52 z_50 rfl (catS_le (Nat.le_of_ble_eq_true rfl)) rfl ⟨by omega, by omega, b_56.1, b_56.2⟩ (fun r_57 h_53 p_54 => ?_)
        obtain ⟨x_55, rfl, p_54⟩ := p_54
        replace H := H x_55 h_53 p_54
        show Go _ _ _ _ [.int x_55] _ _ _
        refine g_istore (lv' := [some (.ref q0), some (.int x1), some (.int x2), some (.int x3), some (.int x4), some (.int x_11), some (.ref q_48), some (.int x_55)]) d_SC_advance_83 (by decide) rfl ?_
        refine g_aload_n d_SC_advance_85 rfl ?_
        refine g_aload d_SC_advance_86 rfl ?_
        refine g_iload d_SC_advance_88 rfl ?_
        obtain ⟨z_58, H⟩ := H
        obtain ⟨mc_64, H⟩ := H
        obtain ⟨ms_65, H⟩ := H
        obtain ⟨P_59, C_60, H⟩ := H
        obtain ⟨b_66, H⟩ := H
        refine q_V (As := [.ref q_48, .int x_55]) (st := []) (nl := 4) d_SC_advance_90 v_SC_141 C_60 z_58 rfl (catS_le (Nat.le_of_ble_eq_true rfl)) rfl ⟨by omega, by omega, b_66.1, b_66.2⟩ (fun r_67 h_61 p_62 => ?_)
        obtain ⟨rfl, p_62⟩ := p_62
        replace H := H h_61 p_62
        show Go _ _ _ _ [] _ _ _
        refine g_aload d_SC_advance_93 rfl ?_
        obtain ⟨z_68, H⟩ := H
        refine g_getR d_SC_advance_95 f_SC_145 z_68 (by decide) ?_
        refine g_gets (t := 4) d_SC_advance_98 f_SC_149 (fun hz => hz.2.1.1) ?_
        obtain ⟨H1, H2⟩ := H
        refine g_acmp_eq (x := (hR h_61 q_48 8)) (y := (some (gK G 4))) (tgt := 124) d_SC_advance_101 (by decide) (fun c_69 => ?_) (fun c_69 => ?_)
        · have H := H1 c_69
          refine g_msk [true, true, true, true, true, true, true, true] ?_
          exact okJ_SC_advance_124 hC24 H
        · have H := H2 c_69
          refine g_aload_n d_SC_advance_104 rfl ?_
          obtain ⟨z_70, H⟩ := H
          refine g_getR d_SC_advance_105 f_SC_38 z_70 (by decide) ?_
          refine g_iload d_SC_advance_108 rfl ?_
          obtain ⟨q_71, e_72, H⟩ := H
          show Go _ _ _ [some (.ref q0), some (.int x1), some (.int x2), some (.int x3), some (.int x4), some (.int x_11), some (.ref q_48), some (.int x_55)] [.int x_11, va_rf (hR h_61 q0 4)] _ _ _
          rw [show va_rf (hR h_61 q0 4) = Value.ref q_71 from by rw [e_72]; rfl]
          obtain ⟨z_73, H⟩ := H
          obtain ⟨P_74, C_75, H⟩ := H
          obtain ⟨b_79, H⟩ := H
          refine q_V (As := [.int x_11]) (st := []) (nl := 4) d_SC_advance_110 v_SC_154 C_75 z_73 rfl (catS_le (Nat.le_of_ble_eq_true rfl)) rfl ⟨by omega, by omega, b_79.1, b_79.2⟩ (fun r_80 h_76 p_77 => ?_)
          obtain ⟨o_78, rfl, p_77⟩ := p_77
          replace H := H o_78 h_76 p_77
          show Go _ _ _ _ [va_rf o_78] _ _ _
          refine g_pop d_SC_advance_113 (vcat _) ?_
          refine g_aload d_SC_advance_114 rfl ?_
          refine g_iload d_SC_advance_116 rfl ?_
          obtain ⟨z_81, H⟩ := H
          obtain ⟨mc_87, H⟩ := H
          obtain ⟨ms_88, H⟩ := H
          obtain ⟨P_82, C_83, H⟩ := H
          obtain ⟨b_89, H⟩ := H
          refine q_V (As := [.int x_55]) (st := []) (nl := 3) d_SC_advance_118 v_SC_157 C_83 z_81 rfl (catS_le (Nat.le_of_ble_eq_true rfl)) rfl ⟨by omega, by omega, b_89.1, b_89.2⟩ (fun r_90 h_84 p_85 => ?_)
          obtain ⟨rfl, p_85⟩ := p_85
          replace H := H h_84 p_85
          show Go _ _ _ _ [] _ _ _
          obtain ⟨x_91, ex_91⟩ : ∃ z : Int32, z = x3 + 1 := ⟨_, rfl⟩
          replace H := H x_91 ex_91
          refine g_iinc (v := x_91) (lv' := [some (.ref q0), some (.int x1), some (.int x2), some (.int x_91), some (.int x4), some (.int x_11), some (.ref q_48), some (.int x_55)]) d_SC_advance_121 rfl (by decide) (by rw [ex_91]; rfl) rfl ?_
          refine g_msk [true, true, true, true, true, true, true, true] ?_
          exact okJ_SC_advance_124 hC24 H
      · have H := H2 c_36
        refine g_goto (tgt := 130) d_SC_advance_61 (by decide) ?_
        refine g_msk [true, true, true, true, true, false, false, false] ?_
        exact okJ_SC_advance_130 H
set_option maxRecDepth 100000 in
set_option maxHeartbeats 4000000 in
def wL_SC_advance_24 (G : Gx) (l : Launch) (d w mc ms : Nat) (P : Int32 → Hp → Prop) (q0 : Nat) (x1 : Int32) (x2 : Int32) (x3 : Int32) (x4 : Int32) (h : Hp) (k n : Nat) : Prop := ∃ (I : Int32 → Int32 → Hp → Nat → Nat → Prop) (μ : Int32 → Int32 → Hp → Nat → Nat → Nat), I x3 x4 h k n ∧ ∀ (x3' : Int32) (x4' : Int32) (h' : Hp) (k' n' : Nat), I x3' x4' h' k' n' → wB_SC_advance_24 G l d w mc ms P (fun x3_ x4_ h_ k_ n_ => I x3_ x4_ h_ k_ n_ ∧ μ x3_ x4_ h_ k_ n_ < μ x3' x4' h' k' n') q0 x1 x2 x3' x4' h' k' n'
set_option maxRecDepth 100000 in
set_option maxHeartbeats 4000000 in
theorem okL_SC_advance_24 {G : Gx} {l : Launch} {d w : Nat} {mc ms : Nat} {P : Int32 → Hp → Prop} {p : Program} {e : Env} {s : State} {m : MethodId} {args : Array Value} {below : List Frame} {meth : Method} {c : Code} {q0 : Nat} {x1 : Int32} {x2 : Int32} {x3 : Int32} {x4 : Int32} {h : Hp} {k n : Nat} (H : wL_SC_advance_24 G l d w mc ms P  q0 x1 x2 x3 x4 h k n) : Go M_SC_advance (mkX G (fun r h' => ∃ x, r = some (.int x) ∧ P x h') (d + 9) (w + 206) mc ms p l e s m args below meth c) 24 [some (.ref q0), some (.int x1), some (.int x2), some (.int x3), some (.int x4), none, none, none] [] h k n := by
  obtain ⟨I, μ, h0, hs⟩ := H
  have key : ∀ (N : Nat) (x3 : Int32) (x4 : Int32) (h : Hp) (k n : Nat), I x3 x4 h k n → μ x3 x4 h k n < N → Go M_SC_advance (mkX G (fun r h' => ∃ x, r = some (.int x) ∧ P x h') (d + 9) (w + 206) mc ms p l e s m args below meth c) 24 [some (.ref q0), some (.int x1), some (.int x2), some (.int x3), some (.int x4), none, none, none] [] h k n := by
    intro N
    induction N with
    | zero => intro x3 x4 h k n _ hN; exact absurd hN (Nat.not_lt_zero _)
    | succ N ih =>
      intro x3 x4 h k n hI hN
      exact okB_SC_advance_24 (fun x3_ x4_ h_ k_ n_ hh => ih x3_ x4_ h_ k_ n_ hh.1 (Nat.lt_of_lt_of_le hh.2 (Nat.le_of_lt_succ hN))) (hs x3 x4 h k n hI)
  exact key _ _ _ _ _ _ h0 (Nat.lt_succ_self _)
set_option maxRecDepth 100000 in
set_option maxHeartbeats 4000000 in
def wp_SC_advance (G : Gx) (l : Launch) (d w mc ms : Nat) (P : Int32 → Hp → Prop) (q0 : Nat) (x1 : Int32) (h : Hp) : Prop := (x1 < 0 → wJ_SC_advance_10 G l d w mc ms P q0 x1 h 0 0) ∧ (¬ x1 < 0 → (x1 ≤ 100000 → (hS h q0 = some (10, 0)) ∧ (∀ x_95 : Int32, x_95 = ((hI h q0 5) + x1) → wL_SC_advance_24 G l d w mc ms P q0 x1 x_95 0 0 h 0 0)) ∧ (¬ x1 ≤ 100000 → wJ_SC_advance_10 G l d w mc ms P q0 x1 h 0 0))
set_option maxRecDepth 100000 in
set_option maxHeartbeats 4000000 in
theorem ok_SC_advance {G : Gx} {l : Launch} {d w : Nat} {mc ms : Nat} {P : Int32 → Hp → Prop} {q0 : Nat} {x1 : Int32} {h : Hp} (H : wp_SC_advance G l d w mc ms P q0 x1 h) : Ci G l M_SC_advance (d + 9) (w + 206) [.ref q0, .int x1] h mc ms P := by
  unfold wp_SC_advance at H
  refine Ct.of (lv := [some (.ref q0), some (.int x1), none, none, none, none, none, none]) (by decide) (Nat.le_of_ble_eq_true rfl) rfl (fun p e s m args below meth c => ?_)
  refine g_iload_n d_SC_advance_0 rfl ?_
  obtain ⟨H1, H2⟩ := H
  refine g_if_lt (tgt := 10) d_SC_advance_1 (by decide) (fun c_92 => ?_) (fun c_92 => ?_)
  · have H := H1 c_92
    refine g_msk [true, true, false, false, false, false, false, false] ?_
    exact okJ_SC_advance_10 H
  · have H := H2 c_92
    refine g_iload_n d_SC_advance_4 rfl ?_
    refine g_ldc d_SC_advance_5 k_SC_129 ?_
    obtain ⟨H1, H2⟩ := H
    refine g_icmp_le (tgt := 12) d_SC_advance_7 (by decide) (fun c_93 => ?_) (fun c_93 => ?_)
    · have H := H1 c_93
      refine g_aload_n d_SC_advance_12 rfl ?_
      obtain ⟨z_94, H⟩ := H
      refine g_getI d_SC_advance_13 f_SC_119 z_94 ?_
      refine g_iload_n d_SC_advance_16 rfl ?_
      refine g_iadd d_SC_advance_17 ?_
      refine g_topi (fun x_95 ex_95 => ?_)
      replace H := H x_95 ex_95
      refine g_istore_n (lv' := [some (.ref q0), some (.int x1), some (.int x_95), none, none, none, none, none]) d_SC_advance_18 (by decide) rfl ?_
      refine g_iconst (v := 0) d_SC_advance_19 (by decide) ?_
      refine g_istore_n (lv' := [some (.ref q0), some (.int x1), some (.int x_95), some (.int 0), none, none, none, none]) d_SC_advance_20 (by decide) rfl ?_
      refine g_iconst (v := 0) d_SC_advance_21 (by decide) ?_
      refine g_istore (lv' := [some (.ref q0), some (.int x1), some (.int x_95), some (.int 0), some (.int 0), none, none, none]) d_SC_advance_22 (by decide) rfl ?_
      refine g_msk [true, true, true, true, true, false, false, false] ?_
      exact okL_SC_advance_24 H
    · have H := H2 c_93
      refine g_msk [true, true, false, false, false, false, false, false] ?_
      exact okJ_SC_advance_10 H
set_option maxRecDepth 100000 in
set_option maxHeartbeats 4000000 in
def wJ_SC_take_34 (G : Gx) (l : Launch) (d w mc ms : Nat) (P : Int32 → Hp → Prop) (q0 : Nat) (x1 : Int32) (q2 : Nat) (o3 : Option Nat) (sx0 : Int32) (h : Hp) (k n : Nat) : Prop := (k ≤ mc ∧ n ≤ ms) ∧ (P sx0 h)
set_option maxRecDepth 100000 in
set_option maxHeartbeats 4000000 in
theorem okJ_SC_take_34 {G : Gx} {l : Launch} {d w : Nat} {mc ms : Nat} {P : Int32 → Hp → Prop} {p : Program} {e : Env} {s : State} {m : MethodId} {args : Array Value} {below : List Frame} {meth : Method} {c : Code} {q0 : Nat} {x1 : Int32} {q2 : Nat} {o3 : Option Nat} {sx0 : Int32} {h : Hp} {k n : Nat} (H : wJ_SC_take_34 G l d w mc ms P  q0 x1 q2 o3 sx0 h k n) : Go M_SC_take (mkX G (fun r h' => ∃ x, r = some (.int x) ∧ P x h') (d + 10) (w + 236) mc ms p l e s m args below meth c) 34 [some (.ref q0), some (.int x1), some (.ref q2), some (va_rf o3)] [.int sx0] h k n := by
  unfold wJ_SC_take_34 at H
  obtain ⟨b_1, H⟩ := H
  exact g_ireturn d_SC_take_34 rfl b_1.1 b_1.2 ⟨_, rfl, H⟩
set_option maxRecDepth 100000 in
set_option maxHeartbeats 4000000 in
def wp_SC_take (G : Gx) (l : Launch) (d w mc ms : Nat) (P : Int32 → Hp → Prop) (q0 : Nat) (x1 : Int32) (h : Hp) : Prop := (hS h q0 = some (10, 0)) ∧ (∃ P_3 : Option Nat → Hp → Prop, (Cr G l M_SC_deviceOf (d + 0) (w + 0) [.ref q0, .int x1] h 0 0 P_3) ∧ ((0 ≤ mc ∧ 0 ≤ ms) ∧ (∀ (o_7 : Option Nat) (h_5 : Hp), P_3 o_7 h_5 → (o_7 = none → (0 ≤ mc ∧ 0 ≤ ms) ∧ (P (-1) h_5)) ∧ (∀ q_11 : Nat, o_7 = some q_11 → (hS h_5 q_11 = some (14, 0)) ∧ (∃ q_14 : Nat, (hR h_5 q_11 2) = some q_14 ∧ ((hS h_5 q_14 = some (11, 0)) ∧ (∃ P_17 : Option Nat → Hp → Prop, (Cr G l M_Li_removeFirst (d + 4) (w + 96) [.ref q_14] h_5 0 0 P_17) ∧ ((0 ≤ mc ∧ 0 ≤ ms) ∧ (∀ (o_21 : Option Nat) (h_19 : Hp), P_17 o_21 h_19 → (o_21 = none → wJ_SC_take_34 G l d w mc ms P q0 x1 q_11 o_21 (-100) h_19 0 0) ∧ (∀ q_25 : Nat, o_21 = some q_25 → (hS h_19 q_11 = some (14, 0)) ∧ (∃ mc_32 : Nat, ∃ ms_33 : Nat, ∃ P_27 : Int32 → Hp → Prop, (Ci G l M_De_read (d + 9) (w + 213) [.ref q_11, .ref q_25] h_19 mc_32 ms_33 P_27) ∧ ((0 + mc_32 ≤ mc ∧ 0 + ms_33 ≤ ms) ∧ (∀ (x_31 : Int32) (h_29 : Hp), P_27 x_31 h_29 → wJ_SC_take_34 G l d w mc ms P q0 x1 q_11 (some q_25) x_31 h_29 (0 + mc_32) (0 + ms_33))))))))))))))
set_option maxRecDepth 100000 in
set_option maxHeartbeats 4000000 in
theorem ok_SC_take {G : Gx} {l : Launch} {d w : Nat} {mc ms : Nat} {P : Int32 → Hp → Prop} {q0 : Nat} {x1 : Int32} {h : Hp} (H : wp_SC_take G l d w mc ms P q0 x1 h) : Ci G l M_SC_take (d + 10) (w + 236) [.ref q0, .int x1] h mc ms P := by
  unfold wp_SC_take at H
  refine Ct.of (lv := [some (.ref q0), some (.int x1), none, none]) (by decide) (Nat.le_of_ble_eq_true rfl) rfl (fun p e s m args below meth c => ?_)
  refine g_aload_n d_SC_take_0 rfl ?_
  refine g_iload_n d_SC_take_1 rfl ?_
  obtain ⟨z_2, H⟩ := H
  obtain ⟨P_3, C_4, H⟩ := H
  obtain ⟨b_8, H⟩ := H
  refine q_V (As := [.int x1]) (st := []) (nl := 2) d_SC_take_2 v_SC_42 C_4 z_2 rfl (catS_le (Nat.le_of_ble_eq_true rfl)) rfl ⟨by omega, by omega, b_8.1, b_8.2⟩ (fun r_9 h_5 p_6 => ?_)
  obtain ⟨o_7, rfl, p_6⟩ := p_6
  replace H := H o_7 h_5 p_6
  show Go _ _ _ _ [va_rf o_7] _ _ _
  refine g_astore_nV (lv' := [some (.ref q0), some (.int x1), some (va_rf o_7), none]) d_SC_take_5 (by decide) rfl ?_
  refine g_aload_nV d_SC_take_6 rfl ?_
  obtain ⟨H1, H2⟩ := H
  refine g_ifnonnull (tgt := 12) d_SC_take_7 (by decide) (fun q_11 c_10 => ?_) (fun c_10 => ?_)
  · replace H2 := H2 q_11 c_10
    have H := H2
    show Go _ _ _ [some (.ref q0), some (.int x1), some (va_rf o_7), none] [] _ _ _
    rw [show va_rf o_7 = Value.ref q_11 from by rw [c_10]; rfl]
    refine g_aload_n d_SC_take_12 rfl ?_
    obtain ⟨z_13, H⟩ := H
    refine g_getR d_SC_take_13 f_SC_160 z_13 (by decide) ?_
    obtain ⟨q_14, e_15, H⟩ := H
    refine g_eqr e_15 ?_
    obtain ⟨z_16, H⟩ := H
    obtain ⟨P_17, C_18, H⟩ := H
    obtain ⟨b_22, H⟩ := H
    refine q_V (As := []) (st := []) (nl := 1) d_SC_take_16 v_SC_104 C_18 z_16 rfl (catS_le (Nat.le_of_ble_eq_true rfl)) rfl ⟨by omega, by omega, b_22.1, b_22.2⟩ (fun r_23 h_19 p_20 => ?_)
    obtain ⟨o_21, rfl, p_20⟩ := p_20
    replace H := H o_21 h_19 p_20
    show Go _ _ _ _ [va_rf o_21] _ _ _
    refine g_astore_nV (lv' := [some (.ref q0), some (.int x1), some (.ref q_11), some (va_rf o_21)]) d_SC_take_19 (by decide) rfl ?_
    refine g_aload_nV d_SC_take_20 rfl ?_
    obtain ⟨H1, H2⟩ := H
    refine g_ifnonnull (tgt := 29) d_SC_take_21 (by decide) (fun q_25 c_24 => ?_) (fun c_24 => ?_)
    · replace H2 := H2 q_25 c_24
      have H := H2
      show Go _ _ _ [some (.ref q0), some (.int x1), some (.ref q_11), some (va_rf o_21)] [] _ _ _
      rw [show va_rf o_21 = Value.ref q_25 from by rw [c_24]; rfl]
      refine g_aload_n d_SC_take_29 rfl ?_
      refine g_aload_n d_SC_take_30 rfl ?_
      obtain ⟨z_26, H⟩ := H
      obtain ⟨mc_32, H⟩ := H
      obtain ⟨ms_33, H⟩ := H
      obtain ⟨P_27, C_28, H⟩ := H
      obtain ⟨b_34, H⟩ := H
      refine q_V (As := [.ref q_25]) (st := []) (nl := 4) d_SC_take_31 v_SC_163 C_28 z_26 rfl (catS_le (Nat.le_of_ble_eq_true rfl)) rfl ⟨by omega, by omega, b_34.1, b_34.2⟩ (fun r_35 h_29 p_30 => ?_)
      obtain ⟨x_31, rfl, p_30⟩ := p_30
      replace H := H x_31 h_29 p_30
      show Go _ _ _ _ [.int x_31] _ _ _
      refine g_msk [true, true, true, true] ?_
      exact okJ_SC_take_34 H
    · replace H1 := H1 c_24
      have H := H1
      refine g_bipush (v := (-100)) d_SC_take_24 (by decide) ?_
      refine g_goto (tgt := 34) d_SC_take_26 (by decide) ?_
      refine g_msk [true, true, true, true] ?_
      exact okJ_SC_take_34 H
  · replace H1 := H1 c_10
    have H := H1
    refine g_iconst (v := (-1)) d_SC_take_10 (by decide) ?_
    obtain ⟨b_12, H⟩ := H
    exact g_ireturn d_SC_take_11 rfl b_12.1 b_12.2 ⟨_, rfl, H⟩
set_option maxRecDepth 100000 in
set_option maxHeartbeats 4000000 in
def wJ_SC_copy_34 (G : Gx) (l : Launch) (d w mc ms : Nat) (P : Int32 → Hp → Prop) (q0 : Nat) (x1 : Int32) (q2 : Nat) (o3 : Option Nat) (h : Hp) (k n : Nat) : Prop := (k ≤ mc ∧ n ≤ ms) ∧ (P 0 h)
set_option maxRecDepth 100000 in
set_option maxHeartbeats 4000000 in
theorem okJ_SC_copy_34 {G : Gx} {l : Launch} {d w : Nat} {mc ms : Nat} {P : Int32 → Hp → Prop} {p : Program} {e : Env} {s : State} {m : MethodId} {args : Array Value} {below : List Frame} {meth : Method} {c : Code} {q0 : Nat} {x1 : Int32} {q2 : Nat} {o3 : Option Nat} {h : Hp} {k n : Nat} (H : wJ_SC_copy_34 G l d w mc ms P  q0 x1 q2 o3 h k n) : Go M_SC_copy (mkX G (fun r h' => ∃ x, r = some (.int x) ∧ P x h') (d + 8) (w + 183) mc ms p l e s m args below meth c) 34 [some (.ref q0), some (.int x1), some (.ref q2), some (va_rf o3)] [] h k n := by
  unfold wJ_SC_copy_34 at H
  refine g_iconst (v := 0) d_SC_copy_34 (by decide) ?_
  obtain ⟨b_1, H⟩ := H
  exact g_zreturn d_SC_copy_35 rfl (by decide) b_1.1 b_1.2 ⟨_, rfl, H⟩
set_option maxRecDepth 100000 in
set_option maxHeartbeats 4000000 in
def wp_SC_copy (G : Gx) (l : Launch) (d w mc ms : Nat) (P : Int32 → Hp → Prop) (q0 : Nat) (x1 : Int32) (h : Hp) : Prop := (hS h q0 = some (10, 0)) ∧ (∃ P_3 : Option Nat → Hp → Prop, (Cr G l M_SC_deviceOf (d + 0) (w + 0) [.ref q0, .int x1] h 0 0 P_3) ∧ ((0 ≤ mc ∧ 0 ≤ ms) ∧ (∀ (o_7 : Option Nat) (h_5 : Hp), P_3 o_7 h_5 → (o_7 = none → (0 ≤ mc ∧ 0 ≤ ms) ∧ (P 0 h_5)) ∧ (∀ q_11 : Nat, o_7 = some q_11 → (hS h_5 q_11 = some (14, 0)) ∧ (∃ q_14 : Nat, (hR h_5 q_11 2) = some q_14 ∧ ((hS h_5 q_14 = some (11, 0)) ∧ (∃ P_17 : Option Nat → Hp → Prop, (Cr G l M_Li_first (d + 4) (w + 94) [.ref q_14] h_5 0 0 P_17) ∧ ((0 ≤ mc ∧ 0 ≤ ms) ∧ (∀ (o_21 : Option Nat) (h_19 : Hp), P_17 o_21 h_19 → (o_21 = none → wJ_SC_copy_34 G l d w mc ms P q0 x1 q_11 o_21 h_19 0 0) ∧ (∀ q_25 : Nat, o_21 = some q_25 → (hS h_19 q_11 = some (14, 0)) ∧ (∃ q_27 : Nat, (hR h_19 q_11 2) = some q_27 ∧ ((hS h_19 q_27 = some (11, 0)) ∧ (∃ P_30 : Int32 → Hp → Prop, (Ci G l M_Li_room (d + 1) (w + 20) [.ref q_27] h_19 0 0 P_30) ∧ ((0 ≤ mc ∧ 0 ≤ ms) ∧ (∀ (x_34 : Int32) (h_32 : Hp), P_30 x_34 h_32 → (¬ x_34 = 0 → (hS h_32 q_11 = some (14, 0)) ∧ (∃ q_39 : Nat, (hR h_32 q_11 2) = some q_39 ∧ ((hS h_32 q_39 = some (11, 0)) ∧ (∃ mc_47 : Nat, ∃ ms_48 : Nat, ∃ P_42 : Hp → Prop, (Cv G l M_Li_append (d + 7) (w + 162) [.ref q_39, .ref q_25] h_32 mc_47 ms_48 P_42) ∧ ((0 + mc_47 ≤ mc ∧ 0 + ms_48 ≤ ms) ∧ (∀ h_44 : Hp, P_42 h_44 → ((0 + mc_47) ≤ mc ∧ (0 + ms_48) ≤ ms) ∧ (P 1 h_44))))))) ∧ (x_34 = 0 → wJ_SC_copy_34 G l d w mc ms P q0 x1 q_11 (some q_25) h_32 0 0))))))))))))))))
set_option maxRecDepth 100000 in
set_option maxHeartbeats 4000000 in
theorem ok_SC_copy {G : Gx} {l : Launch} {d w : Nat} {mc ms : Nat} {P : Int32 → Hp → Prop} {q0 : Nat} {x1 : Int32} {h : Hp} (H : wp_SC_copy G l d w mc ms P q0 x1 h) : Ci G l M_SC_copy (d + 8) (w + 183) [.ref q0, .int x1] h mc ms P := by
  unfold wp_SC_copy at H
  refine Ct.of (lv := [some (.ref q0), some (.int x1), none, none]) (by decide) (Nat.le_of_ble_eq_true rfl) rfl (fun p e s m args below meth c => ?_)
  refine g_aload_n d_SC_copy_0 rfl ?_
  refine g_iload_n d_SC_copy_1 rfl ?_
  obtain ⟨z_2, H⟩ := H
  obtain ⟨P_3, C_4, H⟩ := H
  obtain ⟨b_8, H⟩ := H
  refine q_V (As := [.int x1]) (st := []) (nl := 2) d_SC_copy_2 v_SC_42 C_4 z_2 rfl (catS_le (Nat.le_of_ble_eq_true rfl)) rfl ⟨by omega, by omega, b_8.1, b_8.2⟩ (fun r_9 h_5 p_6 => ?_)
  obtain ⟨o_7, rfl, p_6⟩ := p_6
  replace H := H o_7 h_5 p_6
  show Go _ _ _ _ [va_rf o_7] _ _ _
  refine g_astore_nV (lv' := [some (.ref q0), some (.int x1), some (va_rf o_7), none]) d_SC_copy_5 (by decide) rfl ?_
  refine g_aload_nV d_SC_copy_6 rfl ?_
  obtain ⟨H1, H2⟩ := H
  refine g_ifnonnull (tgt := 12) d_SC_copy_7 (by decide) (fun q_11 c_10 => ?_) (fun c_10 => ?_)
  · replace H2 := H2 q_11 c_10
    have H := H2
    show Go _ _ _ [some (.ref q0), some (.int x1), some (va_rf o_7), none] [] _ _ _
    rw [show va_rf o_7 = Value.ref q_11 from by rw [c_10]; rfl]
    refine g_aload_n d_SC_copy_12 rfl ?_
    obtain ⟨z_13, H⟩ := H
    refine g_getR d_SC_copy_13 f_SC_160 z_13 (by decide) ?_
    obtain ⟨q_14, e_15, H⟩ := H
    refine g_eqr e_15 ?_
    obtain ⟨z_16, H⟩ := H
    obtain ⟨P_17, C_18, H⟩ := H
    obtain ⟨b_22, H⟩ := H
    refine q_V (As := []) (st := []) (nl := 1) d_SC_copy_16 v_SC_90 C_18 z_16 rfl (catS_le (Nat.le_of_ble_eq_true rfl)) rfl ⟨by omega, by omega, b_22.1, b_22.2⟩ (fun r_23 h_19 p_20 => ?_)
    obtain ⟨o_21, rfl, p_20⟩ := p_20
    replace H := H o_21 h_19 p_20
    show Go _ _ _ _ [va_rf o_21] _ _ _
    refine g_astore_nV (lv' := [some (.ref q0), some (.int x1), some (.ref q_11), some (va_rf o_21)]) d_SC_copy_19 (by decide) rfl ?_
    refine g_aload_nV d_SC_copy_20 rfl ?_
    obtain ⟨H1, H2⟩ := H
    refine g_ifnull (tgt := 34) d_SC_copy_21 (by decide) (fun c_24 => ?_) (fun q_25 c_24 => ?_)
    · replace H1 := H1 c_24
      have H := H1
      refine g_msk [true, true, true, true] ?_
      exact okJ_SC_copy_34 H
    · replace H2 := H2 q_25 c_24
      have H := H2
      show Go _ _ _ [some (.ref q0), some (.int x1), some (.ref q_11), some (va_rf o_21)] [] _ _ _
      rw [show va_rf o_21 = Value.ref q_25 from by rw [c_24]; rfl]
      refine g_aload_n d_SC_copy_24 rfl ?_
      obtain ⟨z_26, H⟩ := H
      refine g_getR d_SC_copy_25 f_SC_160 z_26 (by decide) ?_
      obtain ⟨q_27, e_28, H⟩ := H
      refine g_eqr e_28 ?_
      obtain ⟨z_29, H⟩ := H
      obtain ⟨P_30, C_31, H⟩ := H
      obtain ⟨b_35, H⟩ := H
      refine q_V (As := []) (st := []) (nl := 1) d_SC_copy_28 v_SC_83 C_31 z_29 rfl (catS_le (Nat.le_of_ble_eq_true rfl)) rfl ⟨by omega, by omega, b_35.1, b_35.2⟩ (fun r_36 h_32 p_33 => ?_)
      obtain ⟨x_34, rfl, p_33⟩ := p_33
      replace H := H x_34 h_32 p_33
      show Go _ _ _ _ [.int x_34] _ _ _
      obtain ⟨H1, H2⟩ := H
      refine g_if_ne (tgt := 36) d_SC_copy_31 (by decide) (fun c_37 => ?_) (fun c_37 => ?_)
      · have H := H1 c_37
        refine g_aload_n d_SC_copy_36 rfl ?_
        obtain ⟨z_38, H⟩ := H
        refine g_getR d_SC_copy_37 f_SC_160 z_38 (by decide) ?_
        refine g_aload_n d_SC_copy_40 rfl ?_
        obtain ⟨q_39, e_40, H⟩ := H
        show Go _ _ _ [some (.ref q0), some (.int x1), some (.ref q_11), some (.ref q_25)] [.ref q_25, va_rf (hR h_32 q_11 2)] _ _ _
        rw [show va_rf (hR h_32 q_11 2) = Value.ref q_39 from by rw [e_40]; rfl]
        obtain ⟨z_41, H⟩ := H
        obtain ⟨mc_47, H⟩ := H
        obtain ⟨ms_48, H⟩ := H
        obtain ⟨P_42, C_43, H⟩ := H
        obtain ⟨b_49, H⟩ := H
        refine q_V (As := [.ref q_25]) (st := []) (nl := 2) d_SC_copy_41 v_SC_167 C_43 z_41 rfl (catS_le (Nat.le_of_ble_eq_true rfl)) rfl ⟨by omega, by omega, b_49.1, b_49.2⟩ (fun r_50 h_44 p_45 => ?_)
        obtain ⟨rfl, p_45⟩ := p_45
        replace H := H h_44 p_45
        show Go _ _ _ _ [] _ _ _
        refine g_iconst (v := 1) d_SC_copy_44 (by decide) ?_
        obtain ⟨b_51, H⟩ := H
        exact g_zreturn d_SC_copy_45 rfl (by decide) b_51.1 b_51.2 ⟨_, rfl, H⟩
      · have H := H2 c_37
        refine g_msk [true, true, true, true] ?_
        exact okJ_SC_copy_34 H
  · replace H1 := H1 c_10
    have H := H1
    refine g_iconst (v := 0) d_SC_copy_10 (by decide) ?_
    obtain ⟨b_12, H⟩ := H
    exact g_zreturn d_SC_copy_11 rfl (by decide) b_12.1 b_12.2 ⟨_, rfl, H⟩
set_option maxRecDepth 100000 in
set_option maxHeartbeats 4000000 in
def wJ_SC_swap_25 (G : Gx) (l : Launch) (d w : Nat) (P : Int32 → Hp → Prop) (q0 : Nat) (x1 : Int32) (o2 : Option Nat) (sx0 : Int32) (h : Hp)  : Prop := (sx0 = 0 ∨ sx0 = 1) ∧ (P sx0 h)
set_option maxRecDepth 100000 in
set_option maxHeartbeats 4000000 in
theorem okJ_SC_swap_25 {G : Gx} {l : Launch} {d w : Nat} {P : Int32 → Hp → Prop} {p : Program} {e : Env} {s : State} {m : MethodId} {args : Array Value} {below : List Frame} {meth : Method} {c : Code} {q0 : Nat} {x1 : Int32} {o2 : Option Nat} {sx0 : Int32} {h : Hp}  (H : wJ_SC_swap_25 G l d w P  q0 x1 o2 sx0 h ) : Go M_SC_swap (mkX G (fun r h' => ∃ x, r = some (.int x) ∧ P x h') (d + 5) (w + 117) 0 0 p l e s m args below meth c) 25 [some (.ref q0), some (.int x1), some (va_rf o2)] [.int sx0] h 0 0 := by
  unfold wJ_SC_swap_25 at H
  obtain ⟨z_1, H⟩ := H
  exact g_zreturn d_SC_swap_25 rfl z_1 (Nat.le_refl _) (Nat.le_refl _) ⟨_, rfl, H⟩
set_option maxRecDepth 100000 in
set_option maxHeartbeats 4000000 in
def wJ_SC_swap_24 (G : Gx) (l : Launch) (d w : Nat) (P : Int32 → Hp → Prop) (q0 : Nat) (x1 : Int32) (o2 : Option Nat) (h : Hp)  : Prop := wJ_SC_swap_25 G l d w P q0 x1 o2 0 h
set_option maxRecDepth 100000 in
set_option maxHeartbeats 4000000 in
theorem okJ_SC_swap_24 {G : Gx} {l : Launch} {d w : Nat} {P : Int32 → Hp → Prop} {p : Program} {e : Env} {s : State} {m : MethodId} {args : Array Value} {below : List Frame} {meth : Method} {c : Code} {q0 : Nat} {x1 : Int32} {o2 : Option Nat} {h : Hp}  (H : wJ_SC_swap_24 G l d w P  q0 x1 o2 h ) : Go M_SC_swap (mkX G (fun r h' => ∃ x, r = some (.int x) ∧ P x h') (d + 5) (w + 117) 0 0 p l e s m args below meth c) 24 [some (.ref q0), some (.int x1), some (va_rf o2)] [] h 0 0 := by
  unfold wJ_SC_swap_24 at H
  refine g_iconst (v := 0) d_SC_swap_24 (by decide) ?_
  refine g_msk [true, true, true] ?_
  exact okJ_SC_swap_25 H
set_option maxRecDepth 100000 in
set_option maxHeartbeats 4000000 in
def wp_SC_swap (G : Gx) (l : Launch) (d w : Nat) (P : Int32 → Hp → Prop) (q0 : Nat) (x1 : Int32) (h : Hp) : Prop := (hS h q0 = some (10, 0)) ∧ (∃ P_3 : Option Nat → Hp → Prop, (Cr G l M_SC_deviceOf (d + 0) (w + 0) [.ref q0, .int x1] h 0 0 P_3) ∧ (∀ (o_7 : Option Nat) (h_5 : Hp), P_3 o_7 h_5 → (o_7 = none → wJ_SC_swap_24 G l d w P q0 x1 o_7 h_5) ∧ (∀ q_11 : Nat, o_7 = some q_11 → (hS h_5 q_11 = some (14, 0)) ∧ (∃ q_13 : Nat, (hR h_5 q_11 2) = some q_13 ∧ ((hS h_5 q_13 = some (11, 0)) ∧ (∃ P_16 : Int32 → Hp → Prop, (Ci G l M_Li_exchangeFirstTwo (d + 4) (w + 96) [.ref q_13] h_5 0 0 P_16) ∧ (∀ (x_20 : Int32) (h_18 : Hp), P_16 x_20 h_18 → (x_20 = 0 → wJ_SC_swap_24 G l d w P q0 x1 (some q_11) h_18) ∧ (¬ x_20 = 0 → wJ_SC_swap_25 G l d w P q0 x1 (some q_11) 1 h_18))))))))
set_option maxRecDepth 100000 in
set_option maxHeartbeats 4000000 in
theorem ok_SC_swap {G : Gx} {l : Launch} {d w : Nat} {P : Int32 → Hp → Prop} {q0 : Nat} {x1 : Int32} {h : Hp} (H : wp_SC_swap G l d w P q0 x1 h) : Ci G l M_SC_swap (d + 5) (w + 117) [.ref q0, .int x1] h 0 0 P := by
  unfold wp_SC_swap at H
  refine Ct.of (lv := [some (.ref q0), some (.int x1), none]) (by decide) (Nat.le_of_ble_eq_true rfl) rfl (fun p e s m args below meth c => ?_)
  refine g_aload_n d_SC_swap_0 rfl ?_
  refine g_iload_n d_SC_swap_1 rfl ?_
  obtain ⟨z_2, H⟩ := H
  obtain ⟨P_3, C_4, H⟩ := H
  refine q_V (As := [.int x1]) (st := []) (nl := 2) d_SC_swap_2 v_SC_42 C_4 z_2 rfl (catS_le (Nat.le_of_ble_eq_true rfl)) rfl ⟨by omega, by omega, Nat.le_refl _, Nat.le_refl _⟩ (fun r_9 h_5 p_6 => ?_)
  obtain ⟨o_7, rfl, p_6⟩ := p_6
  replace H := H o_7 h_5 p_6
  show Go _ _ _ _ [va_rf o_7] _ _ _
  refine g_astore_nV (lv' := [some (.ref q0), some (.int x1), some (va_rf o_7)]) d_SC_swap_5 (by decide) rfl ?_
  refine g_aload_nV d_SC_swap_6 rfl ?_
  obtain ⟨H1, H2⟩ := H
  refine g_ifnull (tgt := 24) d_SC_swap_7 (by decide) (fun c_10 => ?_) (fun q_11 c_10 => ?_)
  · replace H1 := H1 c_10
    have H := H1
    refine g_msk [true, true, true] ?_
    exact okJ_SC_swap_24 H
  · replace H2 := H2 q_11 c_10
    have H := H2
    show Go _ _ _ [some (.ref q0), some (.int x1), some (va_rf o_7)] [] _ _ _
    rw [show va_rf o_7 = Value.ref q_11 from by rw [c_10]; rfl]
    refine g_aload_n d_SC_swap_10 rfl ?_
    obtain ⟨z_12, H⟩ := H
    refine g_getR d_SC_swap_11 f_SC_160 z_12 (by decide) ?_
    obtain ⟨q_13, e_14, H⟩ := H
    refine g_eqr e_14 ?_
    obtain ⟨z_15, H⟩ := H
    obtain ⟨P_16, C_17, H⟩ := H
    refine q_V (As := []) (st := []) (nl := 2) d_SC_swap_14 v_SC_170 C_17 z_15 rfl (catS_le (Nat.le_of_ble_eq_true rfl)) rfl ⟨by omega, by omega, Nat.le_refl _, Nat.le_refl _⟩ (fun r_22 h_18 p_19 => ?_)
    obtain ⟨x_20, rfl, p_19⟩ := p_19
    replace H := H x_20 h_18 p_19
    show Go _ _ _ _ [.int x_20] _ _ _
    obtain ⟨H1, H2⟩ := H
    refine g_if_eq (tgt := 24) d_SC_swap_17 (by decide) (fun c_23 => ?_) (fun c_23 => ?_)
    · have H := H1 c_23
      refine g_msk [true, true, true] ?_
      exact okJ_SC_swap_24 H
    · have H := H2 c_23
      refine g_iconst (v := 1) d_SC_swap_20 (by decide) ?_
      refine g_goto (tgt := 25) d_SC_swap_21 (by decide) ?_
      refine g_msk [true, true, true] ?_
      exact okJ_SC_swap_25 H
set_option maxRecDepth 100000 in
set_option maxHeartbeats 4000000 in
def wJ_SC_report_49 (G : Gx) (l : Launch) (d w : Nat) (P : Int32 → Hp → Prop) (q0 : Nat) (x1 : Int32) (q2 : Nat) (o3 : Option Nat) (sx0 : Int32) (h : Hp)  : Prop := P sx0 h
set_option maxRecDepth 100000 in
set_option maxHeartbeats 4000000 in
theorem okJ_SC_report_49 {G : Gx} {l : Launch} {d w : Nat} {P : Int32 → Hp → Prop} {p : Program} {e : Env} {s : State} {m : MethodId} {args : Array Value} {below : List Frame} {meth : Method} {c : Code} {q0 : Nat} {x1 : Int32} {q2 : Nat} {o3 : Option Nat} {sx0 : Int32} {h : Hp}  (H : wJ_SC_report_49 G l d w P  q0 x1 q2 o3 sx0 h ) : Go M_SC_report (mkX G (fun r h' => ∃ x, r = some (.int x) ∧ P x h') (d + 5) (w + 116) 0 0 p l e s m args below meth c) 49 [some (.ref q0), some (.int x1), some (.ref q2), some (va_rf o3)] [.int sx0] h 0 0 := by
  unfold wJ_SC_report_49 at H
  exact g_ireturn d_SC_report_49 rfl (Nat.le_refl _) (Nat.le_refl _) ⟨_, rfl, H⟩
set_option maxRecDepth 100000 in
set_option maxHeartbeats 4000000 in
def wp_SC_report (G : Gx) (l : Launch) (d w : Nat) (P : Int32 → Hp → Prop) (q0 : Nat) (x1 : Int32) (h : Hp) : Prop := (hS h q0 = some (10, 0)) ∧ (∃ P_2 : Option Nat → Hp → Prop, (Cr G l M_SC_deviceOf (d + 0) (w + 0) [.ref q0, .int x1] h 0 0 P_2) ∧ (∀ (o_6 : Option Nat) (h_4 : Hp), P_2 o_6 h_4 → (o_6 = none → P (-1) h_4) ∧ (∀ q_10 : Nat, o_6 = some q_10 → (hS h_4 q_10 = some (14, 0)) ∧ (∃ q_12 : Nat, (hR h_4 q_10 3) = some q_12 ∧ ((hS h_4 q_12 = some (11, 0)) ∧ (∃ P_15 : Option Nat → Hp → Prop, (Cr G l M_Li_removeFirst (d + 4) (w + 96) [.ref q_12] h_4 0 0 P_15) ∧ (∀ (o_19 : Option Nat) (h_17 : Hp), P_15 o_19 h_17 → (o_19 = none → wJ_SC_report_49 G l d w P q0 x1 q_10 o_19 (-2) h_17) ∧ (∀ q_23 : Nat, o_19 = some q_23 → (hS h_17 q_23 = some (15, 0)) ∧ (∃ P_25 : Int32 → Hp → Prop, (Ci G l M_Ro_size (d + 0) (w + 0) [.ref q_23] h_17 0 0 P_25) ∧ (∀ (x_29 : Int32) (h_27 : Hp), P_25 x_29 h_27 → (hS h_27 q_23 = some (15, 0)) ∧ (∃ P_33 : Int32 → Hp → Prop, (Ci G l M_Ro_at (d + 1) (w + 21) [.ref q_23, .int (x_29 - 1)] h_27 0 0 P_33) ∧ (∀ (x_37 : Int32) (h_35 : Hp), P_33 x_37 h_35 → (hS h_35 q_23 = some (15, 0)) ∧ (∃ P_41 : Int32 → Hp → Prop, (Ci G l M_Ro_at (d + 1) (w + 21) [.ref q_23, .int 1] h_35 0 0 P_41) ∧ (∀ (x_45 : Int32) (h_43 : Hp), P_41 x_45 h_43 → wJ_SC_report_49 G l d w P q0 x1 q_10 (some q_23) ((256 * x_37) + x_45) h_43))))))))))))))
set_option maxRecDepth 100000 in
set_option maxHeartbeats 4000000 in
theorem ok_SC_report {G : Gx} {l : Launch} {d w : Nat} {P : Int32 → Hp → Prop} {q0 : Nat} {x1 : Int32} {h : Hp} (H : wp_SC_report G l d w P q0 x1 h) : Ci G l M_SC_report (d + 5) (w + 116) [.ref q0, .int x1] h 0 0 P := by
  unfold wp_SC_report at H
  refine Ct.of (lv := [some (.ref q0), some (.int x1), none, none]) (by decide) (Nat.le_of_ble_eq_true rfl) rfl (fun p e s m args below meth c => ?_)
  refine g_aload_n d_SC_report_0 rfl ?_
  refine g_iload_n d_SC_report_1 rfl ?_
  obtain ⟨z_1, H⟩ := H
  obtain ⟨P_2, C_3, H⟩ := H
  refine q_V (As := [.int x1]) (st := []) (nl := 2) d_SC_report_2 v_SC_42 C_3 z_1 rfl (catS_le (Nat.le_of_ble_eq_true rfl)) rfl ⟨by omega, by omega, Nat.le_refl _, Nat.le_refl _⟩ (fun r_8 h_4 p_5 => ?_)
  obtain ⟨o_6, rfl, p_5⟩ := p_5
  replace H := H o_6 h_4 p_5
  show Go _ _ _ _ [va_rf o_6] _ _ _
  refine g_astore_nV (lv' := [some (.ref q0), some (.int x1), some (va_rf o_6), none]) d_SC_report_5 (by decide) rfl ?_
  refine g_aload_nV d_SC_report_6 rfl ?_
  obtain ⟨H1, H2⟩ := H
  refine g_ifnonnull (tgt := 12) d_SC_report_7 (by decide) (fun q_10 c_9 => ?_) (fun c_9 => ?_)
  · replace H2 := H2 q_10 c_9
    have H := H2
    show Go _ _ _ [some (.ref q0), some (.int x1), some (va_rf o_6), none] [] _ _ _
    rw [show va_rf o_6 = Value.ref q_10 from by rw [c_9]; rfl]
    refine g_aload_n d_SC_report_12 rfl ?_
    obtain ⟨z_11, H⟩ := H
    refine g_getR d_SC_report_13 f_SC_173 z_11 (by decide) ?_
    obtain ⟨q_12, e_13, H⟩ := H
    refine g_eqr e_13 ?_
    obtain ⟨z_14, H⟩ := H
    obtain ⟨P_15, C_16, H⟩ := H
    refine q_V (As := []) (st := []) (nl := 1) d_SC_report_16 v_SC_104 C_16 z_14 rfl (catS_le (Nat.le_of_ble_eq_true rfl)) rfl ⟨by omega, by omega, Nat.le_refl _, Nat.le_refl _⟩ (fun r_21 h_17 p_18 => ?_)
    obtain ⟨o_19, rfl, p_18⟩ := p_18
    replace H := H o_19 h_17 p_18
    show Go _ _ _ _ [va_rf o_19] _ _ _
    refine g_astore_nV (lv' := [some (.ref q0), some (.int x1), some (.ref q_10), some (va_rf o_19)]) d_SC_report_19 (by decide) rfl ?_
    refine g_aload_nV d_SC_report_20 rfl ?_
    obtain ⟨H1, H2⟩ := H
    refine g_ifnonnull (tgt := 29) d_SC_report_21 (by decide) (fun q_23 c_22 => ?_) (fun c_22 => ?_)
    · replace H2 := H2 q_23 c_22
      have H := H2
      show Go _ _ _ [some (.ref q0), some (.int x1), some (.ref q_10), some (va_rf o_19)] [] _ _ _
      rw [show va_rf o_19 = Value.ref q_23 from by rw [c_22]; rfl]
      refine g_sipush (v := 256) d_SC_report_29 (by decide) ?_
      refine g_aload_n d_SC_report_32 rfl ?_
      refine g_aload_n d_SC_report_33 rfl ?_
      obtain ⟨z_24, H⟩ := H
      obtain ⟨P_25, C_26, H⟩ := H
      refine q_V (As := []) (st := [.ref q_23, .int 256]) (nl := 1) d_SC_report_34 v_SC_176 C_26 z_24 rfl (catS_le (Nat.le_of_ble_eq_true rfl)) rfl ⟨by omega, by omega, Nat.le_refl _, Nat.le_refl _⟩ (fun r_31 h_27 p_28 => ?_)
      obtain ⟨x_29, rfl, p_28⟩ := p_28
      replace H := H x_29 h_27 p_28
      show Go _ _ _ _ [.int x_29, .ref q_23, .int 256] _ _ _
      refine g_iconst (v := 1) d_SC_report_37 (by decide) ?_
      refine g_isub d_SC_report_38 ?_
      obtain ⟨z_32, H⟩ := H
      obtain ⟨P_33, C_34, H⟩ := H
      refine q_V (As := [.int (x_29 - 1)]) (st := [.int 256]) (nl := 2) d_SC_report_39 v_SC_177 C_34 z_32 rfl (catS_le (Nat.le_of_ble_eq_true rfl)) rfl ⟨by omega, by omega, Nat.le_refl _, Nat.le_refl _⟩ (fun r_39 h_35 p_36 => ?_)
      obtain ⟨x_37, rfl, p_36⟩ := p_36
      replace H := H x_37 h_35 p_36
      show Go _ _ _ _ [.int x_37, .int 256] _ _ _
      refine g_imul d_SC_report_42 ?_
      refine g_aload_n d_SC_report_43 rfl ?_
      refine g_iconst (v := 1) d_SC_report_44 (by decide) ?_
      obtain ⟨z_40, H⟩ := H
      obtain ⟨P_41, C_42, H⟩ := H
      refine q_V (As := [.int 1]) (st := [.int (256 * x_37)]) (nl := 2) d_SC_report_45 v_SC_177 C_42 z_40 rfl (catS_le (Nat.le_of_ble_eq_true rfl)) rfl ⟨by omega, by omega, Nat.le_refl _, Nat.le_refl _⟩ (fun r_47 h_43 p_44 => ?_)
      obtain ⟨x_45, rfl, p_44⟩ := p_44
      replace H := H x_45 h_43 p_44
      show Go _ _ _ _ [.int x_45, .int (256 * x_37)] _ _ _
      refine g_iadd d_SC_report_48 ?_
      refine g_msk [true, true, true, true] ?_
      exact okJ_SC_report_49 H
    · replace H1 := H1 c_22
      have H := H1
      refine g_bipush (v := (-2)) d_SC_report_24 (by decide) ?_
      refine g_goto (tgt := 49) d_SC_report_26 (by decide) ?_
      refine g_msk [true, true, true, true] ?_
      exact okJ_SC_report_49 H
  · replace H1 := H1 c_9
    have H := H1
    refine g_iconst (v := (-1)) d_SC_report_10 (by decide) ?_
    exact g_ireturn d_SC_report_11 rfl (Nat.le_refl _) (Nat.le_refl _) ⟨_, rfl, H⟩
set_option maxRecDepth 100000 in
set_option maxHeartbeats 4000000 in
def wJ_SC_waiting_18 (G : Gx) (l : Launch) (d w : Nat) (P : Int32 → Hp → Prop) (q0 : Nat) (x1 : Int32) (o2 : Option Nat) (sx0 : Int32) (h : Hp)  : Prop := P sx0 h
set_option maxRecDepth 100000 in
set_option maxHeartbeats 4000000 in
theorem okJ_SC_waiting_18 {G : Gx} {l : Launch} {d w : Nat} {P : Int32 → Hp → Prop} {p : Program} {e : Env} {s : State} {m : MethodId} {args : Array Value} {below : List Frame} {meth : Method} {c : Code} {q0 : Nat} {x1 : Int32} {o2 : Option Nat} {sx0 : Int32} {h : Hp}  (H : wJ_SC_waiting_18 G l d w P  q0 x1 o2 sx0 h ) : Go M_SC_waiting (mkX G (fun r h' => ∃ x, r = some (.int x) ∧ P x h') (d + 2) (w + 43) 0 0 p l e s m args below meth c) 18 [some (.ref q0), some (.int x1), some (va_rf o2)] [.int sx0] h 0 0 := by
  unfold wJ_SC_waiting_18 at H
  exact g_ireturn d_SC_waiting_18 rfl (Nat.le_refl _) (Nat.le_refl _) ⟨_, rfl, H⟩
set_option maxRecDepth 100000 in
set_option maxHeartbeats 4000000 in
def wp_SC_waiting (G : Gx) (l : Launch) (d w : Nat) (P : Int32 → Hp → Prop) (q0 : Nat) (x1 : Int32) (h : Hp) : Prop := (hS h q0 = some (10, 0)) ∧ (∃ P_2 : Option Nat → Hp → Prop, (Cr G l M_SC_lineOf (d + 1) (w + 21) [.ref q0, .int x1] h 0 0 P_2) ∧ (∀ (o_6 : Option Nat) (h_4 : Hp), P_2 o_6 h_4 → (o_6 = none → wJ_SC_waiting_18 G l d w P q0 x1 o_6 (-1) h_4) ∧ (∀ q_10 : Nat, o_6 = some q_10 → (hS h_4 q_10 = some (11, 0)) ∧ (∃ P_12 : Int32 → Hp → Prop, (Ci G l M_Li_size (d + 1) (w + 20) [.ref q_10] h_4 0 0 P_12) ∧ (∀ (x_16 : Int32) (h_14 : Hp), P_12 x_16 h_14 → wJ_SC_waiting_18 G l d w P q0 x1 (some q_10) x_16 h_14)))))
set_option maxRecDepth 100000 in
set_option maxHeartbeats 4000000 in
theorem ok_SC_waiting {G : Gx} {l : Launch} {d w : Nat} {P : Int32 → Hp → Prop} {q0 : Nat} {x1 : Int32} {h : Hp} (H : wp_SC_waiting G l d w P q0 x1 h) : Ci G l M_SC_waiting (d + 2) (w + 43) [.ref q0, .int x1] h 0 0 P := by
  unfold wp_SC_waiting at H
  refine Ct.of (lv := [some (.ref q0), some (.int x1), none]) (by decide) (Nat.le_of_ble_eq_true rfl) rfl (fun p e s m args below meth c => ?_)
  refine g_aload_n d_SC_waiting_0 rfl ?_
  refine g_iload_n d_SC_waiting_1 rfl ?_
  obtain ⟨z_1, H⟩ := H
  obtain ⟨P_2, C_3, H⟩ := H
  refine q_V (As := [.int x1]) (st := []) (nl := 3) d_SC_waiting_2 v_SC_181 C_3 z_1 rfl (catS_le (Nat.le_of_ble_eq_true rfl)) rfl ⟨by omega, by omega, Nat.le_refl _, Nat.le_refl _⟩ (fun r_8 h_4 p_5 => ?_)
  obtain ⟨o_6, rfl, p_5⟩ := p_5
  replace H := H o_6 h_4 p_5
  show Go _ _ _ _ [va_rf o_6] _ _ _
  refine g_astore_nV (lv' := [some (.ref q0), some (.int x1), some (va_rf o_6)]) d_SC_waiting_5 (by decide) rfl ?_
  refine g_aload_nV d_SC_waiting_6 rfl ?_
  obtain ⟨H1, H2⟩ := H
  refine g_ifnonnull (tgt := 14) d_SC_waiting_7 (by decide) (fun q_10 c_9 => ?_) (fun c_9 => ?_)
  · replace H2 := H2 q_10 c_9
    have H := H2
    show Go _ _ _ [some (.ref q0), some (.int x1), some (va_rf o_6)] [] _ _ _
    rw [show va_rf o_6 = Value.ref q_10 from by rw [c_9]; rfl]
    refine g_aload_n d_SC_waiting_14 rfl ?_
    obtain ⟨z_11, H⟩ := H
    obtain ⟨P_12, C_13, H⟩ := H
    refine q_V (As := []) (st := []) (nl := 1) d_SC_waiting_15 v_SC_185 C_13 z_11 rfl (catS_le (Nat.le_of_ble_eq_true rfl)) rfl ⟨by omega, by omega, Nat.le_refl _, Nat.le_refl _⟩ (fun r_18 h_14 p_15 => ?_)
    obtain ⟨x_16, rfl, p_15⟩ := p_15
    replace H := H x_16 h_14 p_15
    show Go _ _ _ _ [.int x_16] _ _ _
    refine g_msk [true, true, true] ?_
    exact okJ_SC_waiting_18 H
  · replace H1 := H1 c_9
    have H := H1
    refine g_iconst (v := (-1)) d_SC_waiting_10 (by decide) ?_
    refine g_goto (tgt := 18) d_SC_waiting_11 (by decide) ?_
    refine g_msk [true, true, true] ?_
    exact okJ_SC_waiting_18 H
set_option maxRecDepth 100000 in
set_option maxHeartbeats 4000000 in
def wJ_SC_byteAt_44 (G : Gx) (l : Launch) (d w : Nat) (P : Int32 → Hp → Prop) (q0 : Nat) (x1 : Int32) (x2 : Int32) (q3 : Nat) (o4 : Option Nat) (sx0 : Int32) (h : Hp)  : Prop := P sx0 h
set_option maxRecDepth 100000 in
set_option maxHeartbeats 4000000 in
theorem okJ_SC_byteAt_44 {G : Gx} {l : Launch} {d w : Nat} {P : Int32 → Hp → Prop} {p : Program} {e : Env} {s : State} {m : MethodId} {args : Array Value} {below : List Frame} {meth : Method} {c : Code} {q0 : Nat} {x1 : Int32} {x2 : Int32} {q3 : Nat} {o4 : Option Nat} {sx0 : Int32} {h : Hp}  (H : wJ_SC_byteAt_44 G l d w P  q0 x1 x2 q3 o4 sx0 h ) : Go M_SC_byteAt (mkX G (fun r h' => ∃ x, r = some (.int x) ∧ P x h') (d + 5) (w + 114) 0 0 p l e s m args below meth c) 44 [some (.ref q0), some (.int x1), some (.int x2), some (.ref q3), some (va_rf o4)] [.int sx0] h 0 0 := by
  unfold wJ_SC_byteAt_44 at H
  exact g_ireturn d_SC_byteAt_44 rfl (Nat.le_refl _) (Nat.le_refl _) ⟨_, rfl, H⟩
set_option maxRecDepth 100000 in
set_option maxHeartbeats 4000000 in
def wJ_SC_byteAt_33 (G : Gx) (l : Launch) (d w : Nat) (P : Int32 → Hp → Prop) (q0 : Nat) (x1 : Int32) (x2 : Int32) (q3 : Nat) (o4 : Option Nat) (h : Hp)  : Prop := wJ_SC_byteAt_44 G l d w P q0 x1 x2 q3 o4 (-2) h
set_option maxRecDepth 100000 in
set_option maxHeartbeats 4000000 in
theorem okJ_SC_byteAt_33 {G : Gx} {l : Launch} {d w : Nat} {P : Int32 → Hp → Prop} {p : Program} {e : Env} {s : State} {m : MethodId} {args : Array Value} {below : List Frame} {meth : Method} {c : Code} {q0 : Nat} {x1 : Int32} {x2 : Int32} {q3 : Nat} {o4 : Option Nat} {h : Hp}  (H : wJ_SC_byteAt_33 G l d w P  q0 x1 x2 q3 o4 h ) : Go M_SC_byteAt (mkX G (fun r h' => ∃ x, r = some (.int x) ∧ P x h') (d + 5) (w + 114) 0 0 p l e s m args below meth c) 33 [some (.ref q0), some (.int x1), some (.int x2), some (.ref q3), some (va_rf o4)] [] h 0 0 := by
  unfold wJ_SC_byteAt_33 at H
  refine g_bipush (v := (-2)) d_SC_byteAt_33 (by decide) ?_
  refine g_goto (tgt := 44) d_SC_byteAt_35 (by decide) ?_
  refine g_msk [true, true, true, true, true] ?_
  exact okJ_SC_byteAt_44 H
set_option maxRecDepth 100000 in
set_option maxHeartbeats 4000000 in
def wp_SC_byteAt (G : Gx) (l : Launch) (d w : Nat) (P : Int32 → Hp → Prop) (q0 : Nat) (x1 : Int32) (x2 : Int32) (h : Hp) : Prop := (hS h q0 = some (10, 0)) ∧ (∃ P_2 : Option Nat → Hp → Prop, (Cr G l M_SC_lineOf (d + 1) (w + 21) [.ref q0, .int x1] h 0 0 P_2) ∧ (∀ (o_6 : Option Nat) (h_4 : Hp), P_2 o_6 h_4 → (o_6 = none → P (-2) h_4) ∧ (∀ q_10 : Nat, o_6 = some q_10 → (hS h_4 q_10 = some (11, 0)) ∧ (∃ P_12 : Option Nat → Hp → Prop, (Cr G l M_Li_first (d + 4) (w + 94) [.ref q_10] h_4 0 0 P_12) ∧ (∀ (o_16 : Option Nat) (h_14 : Hp), P_12 o_16 h_14 → (o_16 = none → wJ_SC_byteAt_33 G l d w P q0 x1 x2 q_10 o_16 h_14) ∧ (∀ q_20 : Nat, o_16 = some q_20 → (hS h_14 q_20 = some (15, 0)) ∧ (∃ P_22 : Int32 → Hp → Prop, (Ci G l M_Ro_has (d + 0) (w + 0) [.ref q_20, .int x2] h_14 0 0 P_22) ∧ (∀ (x_26 : Int32) (h_24 : Hp), P_22 x_26 h_24 → (¬ x_26 = 0 → (hS h_24 q_20 = some (15, 0)) ∧ (∃ P_31 : Int32 → Hp → Prop, (Ci G l M_Ro_at (d + 1) (w + 21) [.ref q_20, .int x2] h_24 0 0 P_31) ∧ (∀ (x_35 : Int32) (h_33 : Hp), P_31 x_35 h_33 → wJ_SC_byteAt_44 G l d w P q0 x1 x2 q_10 (some q_20) x_35 h_33))) ∧ (x_26 = 0 → wJ_SC_byteAt_33 G l d w P q0 x1 x2 q_10 (some q_20) h_24)))))))))
set_option maxRecDepth 100000 in
set_option maxHeartbeats 4000000 in
theorem ok_SC_byteAt {G : Gx} {l : Launch} {d w : Nat} {P : Int32 → Hp → Prop} {q0 : Nat} {x1 : Int32} {x2 : Int32} {h : Hp} (H : wp_SC_byteAt G l d w P q0 x1 x2 h) : Ci G l M_SC_byteAt (d + 5) (w + 114) [.ref q0, .int x1, .int x2] h 0 0 P := by
  unfold wp_SC_byteAt at H
  refine Ct.of (lv := [some (.ref q0), some (.int x1), some (.int x2), none, none]) (by decide) (Nat.le_of_ble_eq_true rfl) rfl (fun p e s m args below meth c => ?_)
  refine g_aload_n d_SC_byteAt_0 rfl ?_
  refine g_iload_n d_SC_byteAt_1 rfl ?_
  obtain ⟨z_1, H⟩ := H
  obtain ⟨P_2, C_3, H⟩ := H
  refine q_V (As := [.int x1]) (st := []) (nl := 3) d_SC_byteAt_2 v_SC_181 C_3 z_1 rfl (catS_le (Nat.le_of_ble_eq_true rfl)) rfl ⟨by omega, by omega, Nat.le_refl _, Nat.le_refl _⟩ (fun r_8 h_4 p_5 => ?_)
  obtain ⟨o_6, rfl, p_5⟩ := p_5
  replace H := H o_6 h_4 p_5
  show Go _ _ _ _ [va_rf o_6] _ _ _
  refine g_astore_nV (lv' := [some (.ref q0), some (.int x1), some (.int x2), some (va_rf o_6), none]) d_SC_byteAt_5 (by decide) rfl ?_
  refine g_aload_nV d_SC_byteAt_6 rfl ?_
  obtain ⟨H1, H2⟩ := H
  refine g_ifnonnull (tgt := 13) d_SC_byteAt_7 (by decide) (fun q_10 c_9 => ?_) (fun c_9 => ?_)
  · replace H2 := H2 q_10 c_9
    have H := H2
    show Go _ _ _ [some (.ref q0), some (.int x1), some (.int x2), some (va_rf o_6), none] [] _ _ _
    rw [show va_rf o_6 = Value.ref q_10 from by rw [c_9]; rfl]
    refine g_aload_n d_SC_byteAt_13 rfl ?_
    obtain ⟨z_11, H⟩ := H
    obtain ⟨P_12, C_13, H⟩ := H
    refine q_V (As := []) (st := []) (nl := 1) d_SC_byteAt_14 v_SC_90 C_13 z_11 rfl (catS_le (Nat.le_of_ble_eq_true rfl)) rfl ⟨by omega, by omega, Nat.le_refl _, Nat.le_refl _⟩ (fun r_18 h_14 p_15 => ?_)
    obtain ⟨o_16, rfl, p_15⟩ := p_15
    replace H := H o_16 h_14 p_15
    show Go _ _ _ _ [va_rf o_16] _ _ _
    refine g_astoreV (lv' := [some (.ref q0), some (.int x1), some (.int x2), some (.ref q_10), some (va_rf o_16)]) d_SC_byteAt_17 (by decide) rfl ?_
    refine g_aloadV d_SC_byteAt_19 rfl ?_
    obtain ⟨H1, H2⟩ := H
    refine g_ifnull (tgt := 33) d_SC_byteAt_21 (by decide) (fun c_19 => ?_) (fun q_20 c_19 => ?_)
    · replace H1 := H1 c_19
      have H := H1
      refine g_msk [true, true, true, true, true] ?_
      exact okJ_SC_byteAt_33 H
    · replace H2 := H2 q_20 c_19
      have H := H2
      show Go _ _ _ [some (.ref q0), some (.int x1), some (.int x2), some (.ref q_10), some (va_rf o_16)] [] _ _ _
      rw [show va_rf o_16 = Value.ref q_20 from by rw [c_19]; rfl]
      refine g_aload d_SC_byteAt_24 rfl ?_
      refine g_iload_n d_SC_byteAt_26 rfl ?_
      obtain ⟨z_21, H⟩ := H
      obtain ⟨P_22, C_23, H⟩ := H
      refine q_V (As := [.int x2]) (st := []) (nl := 2) d_SC_byteAt_27 v_SC_94 C_23 z_21 rfl (catS_le (Nat.le_of_ble_eq_true rfl)) rfl ⟨by omega, by omega, Nat.le_refl _, Nat.le_refl _⟩ (fun r_28 h_24 p_25 => ?_)
      obtain ⟨x_26, rfl, p_25⟩ := p_25
      replace H := H x_26 h_24 p_25
      show Go _ _ _ _ [.int x_26] _ _ _
      obtain ⟨H1, H2⟩ := H
      refine g_if_ne (tgt := 38) d_SC_byteAt_30 (by decide) (fun c_29 => ?_) (fun c_29 => ?_)
      · have H := H1 c_29
        refine g_aload d_SC_byteAt_38 rfl ?_
        refine g_iload_n d_SC_byteAt_40 rfl ?_
        obtain ⟨z_30, H⟩ := H
        obtain ⟨P_31, C_32, H⟩ := H
        refine q_V (As := [.int x2]) (st := []) (nl := 2) d_SC_byteAt_41 v_SC_177 C_32 z_30 rfl (catS_le (Nat.le_of_ble_eq_true rfl)) rfl ⟨by omega, by omega, Nat.le_refl _, Nat.le_refl _⟩ (fun r_37 h_33 p_34 => ?_)
        obtain ⟨x_35, rfl, p_34⟩ := p_34
        replace H := H x_35 h_33 p_34
        show Go _ _ _ _ [.int x_35] _ _ _
        refine g_msk [true, true, true, true, true] ?_
        exact okJ_SC_byteAt_44 H
      · have H := H2 c_29
        refine g_msk [true, true, true, true, true] ?_
        exact okJ_SC_byteAt_33 H
  · replace H1 := H1 c_9
    have H := H1
    refine g_bipush (v := (-2)) d_SC_byteAt_10 (by decide) ?_
    exact g_ireturn d_SC_byteAt_12 rfl (Nat.le_refl _) (Nat.le_refl _) ⟨_, rfl, H⟩
set_option maxRecDepth 100000 in
set_option maxHeartbeats 4000000 in
def wJ_SC_text_33 (G : Gx) (l : Launch) (d w : Nat) (P : Int32 → Hp → Prop) (q0 : Nat) (x1 : Int32) (x2 : Int32) (o3 : Option Nat) (sx0 : Int32) (h : Hp)  : Prop := P sx0 h
set_option maxRecDepth 100000 in
set_option maxHeartbeats 4000000 in
theorem okJ_SC_text_33 {G : Gx} {l : Launch} {d w : Nat} {P : Int32 → Hp → Prop} {p : Program} {e : Env} {s : State} {m : MethodId} {args : Array Value} {below : List Frame} {meth : Method} {c : Code} {q0 : Nat} {x1 : Int32} {x2 : Int32} {o3 : Option Nat} {sx0 : Int32} {h : Hp}  (H : wJ_SC_text_33 G l d w P  q0 x1 x2 o3 sx0 h ) : Go M_SC_text (mkX G (fun r h' => ∃ x, r = some (.int x) ∧ P x h') (d + 1) (w + 21) 0 0 p l e s m args below meth c) 33 [some (.ref q0), some (.int x1), some (.int x2), some (va_rf o3)] [.int sx0] h 0 0 := by
  unfold wJ_SC_text_33 at H
  exact g_ireturn d_SC_text_33 rfl (Nat.le_refl _) (Nat.le_refl _) ⟨_, rfl, H⟩
set_option maxRecDepth 100000 in
set_option maxHeartbeats 4000000 in
def wJ_SC_text_22 (G : Gx) (l : Launch) (d w : Nat) (P : Int32 → Hp → Prop) (q0 : Nat) (x1 : Int32) (x2 : Int32) (o3 : Option Nat) (h : Hp)  : Prop := wJ_SC_text_33 G l d w P q0 x1 x2 o3 (-2) h
set_option maxRecDepth 100000 in
set_option maxHeartbeats 4000000 in
theorem okJ_SC_text_22 {G : Gx} {l : Launch} {d w : Nat} {P : Int32 → Hp → Prop} {p : Program} {e : Env} {s : State} {m : MethodId} {args : Array Value} {below : List Frame} {meth : Method} {c : Code} {q0 : Nat} {x1 : Int32} {x2 : Int32} {o3 : Option Nat} {h : Hp}  (H : wJ_SC_text_22 G l d w P  q0 x1 x2 o3 h ) : Go M_SC_text (mkX G (fun r h' => ∃ x, r = some (.int x) ∧ P x h') (d + 1) (w + 21) 0 0 p l e s m args below meth c) 22 [some (.ref q0), some (.int x1), some (.int x2), some (va_rf o3)] [] h 0 0 := by
  unfold wJ_SC_text_22 at H
  refine g_bipush (v := (-2)) d_SC_text_22 (by decide) ?_
  refine g_goto (tgt := 33) d_SC_text_24 (by decide) ?_
  refine g_msk [true, true, true, true] ?_
  exact okJ_SC_text_33 H
set_option maxRecDepth 100000 in
set_option maxHeartbeats 4000000 in
def wp_SC_text (G : Gx) (l : Launch) (d w : Nat) (P : Int32 → Hp → Prop) (q0 : Nat) (x1 : Int32) (x2 : Int32) (h : Hp) : Prop := (hS h q0 = some (10, 0)) ∧ (∃ P_2 : Option Nat → Hp → Prop, (Cr G l M_SC_deviceOf (d + 0) (w + 0) [.ref q0, .int x1] h 0 0 P_2) ∧ (∀ (o_6 : Option Nat) (h_4 : Hp), P_2 o_6 h_4 → (o_6 = none → wJ_SC_text_22 G l d w P q0 x1 x2 o_6 h_4) ∧ (∀ q_10 : Nat, o_6 = some q_10 → (x2 < 0 → wJ_SC_text_22 G l d w P q0 x1 x2 (some q_10) h_4) ∧ (¬ x2 < 0 → (hS h_4 q_10 = some (14, 0)) ∧ ((x2 < (hI h_4 q_10 8) → ∃ q_14 : Nat, (hR h_4 q_10 7) = some q_14 ∧ (∃ N_16 : Nat, ∃ j_17 : Nat, (hS h_4 q_14 = some (0, N_16) ∧ x2 = nI j_17 ∧ j_17 < N_16 ∧ j_17 < 2147483648) ∧ (wJ_SC_text_33 G l d w P q0 x1 x2 (some q_10) (hI h_4 q_14 j_17) h_4))) ∧ (¬ x2 < (hI h_4 q_10 8) → wJ_SC_text_22 G l d w P q0 x1 x2 (some q_10) h_4))))))
set_option maxRecDepth 100000 in
set_option maxHeartbeats 4000000 in
theorem ok_SC_text {G : Gx} {l : Launch} {d w : Nat} {P : Int32 → Hp → Prop} {q0 : Nat} {x1 : Int32} {x2 : Int32} {h : Hp} (H : wp_SC_text G l d w P q0 x1 x2 h) : Ci G l M_SC_text (d + 1) (w + 21) [.ref q0, .int x1, .int x2] h 0 0 P := by
  unfold wp_SC_text at H
  refine Ct.of (lv := [some (.ref q0), some (.int x1), some (.int x2), none]) (by decide) (Nat.le_of_ble_eq_true rfl) rfl (fun p e s m args below meth c => ?_)
  refine g_aload_n d_SC_text_0 rfl ?_
  refine g_iload_n d_SC_text_1 rfl ?_
  obtain ⟨z_1, H⟩ := H
  obtain ⟨P_2, C_3, H⟩ := H
  refine q_V (As := [.int x1]) (st := []) (nl := 2) d_SC_text_2 v_SC_42 C_3 z_1 rfl (catS_le (Nat.le_of_ble_eq_true rfl)) rfl ⟨by omega, by omega, Nat.le_refl _, Nat.le_refl _⟩ (fun r_8 h_4 p_5 => ?_)
  obtain ⟨o_6, rfl, p_5⟩ := p_5
  replace H := H o_6 h_4 p_5
  show Go _ _ _ _ [va_rf o_6] _ _ _
  refine g_astore_nV (lv' := [some (.ref q0), some (.int x1), some (.int x2), some (va_rf o_6)]) d_SC_text_5 (by decide) rfl ?_
  refine g_aload_nV d_SC_text_6 rfl ?_
  obtain ⟨H1, H2⟩ := H
  refine g_ifnull (tgt := 22) d_SC_text_7 (by decide) (fun c_9 => ?_) (fun q_10 c_9 => ?_)
  · replace H1 := H1 c_9
    have H := H1
    refine g_msk [true, true, true, true] ?_
    exact okJ_SC_text_22 H
  · replace H2 := H2 q_10 c_9
    have H := H2
    show Go _ _ _ [some (.ref q0), some (.int x1), some (.int x2), some (va_rf o_6)] [] _ _ _
    rw [show va_rf o_6 = Value.ref q_10 from by rw [c_9]; rfl]
    refine g_iload_n d_SC_text_10 rfl ?_
    obtain ⟨H1, H2⟩ := H
    refine g_if_lt (tgt := 22) d_SC_text_11 (by decide) (fun c_11 => ?_) (fun c_11 => ?_)
    · have H := H1 c_11
      refine g_msk [true, true, true, true] ?_
      exact okJ_SC_text_22 H
    · have H := H2 c_11
      refine g_iload_n d_SC_text_14 rfl ?_
      refine g_aload_n d_SC_text_15 rfl ?_
      obtain ⟨z_12, H⟩ := H
      refine g_getI d_SC_text_16 f_SC_186 z_12 ?_
      obtain ⟨H1, H2⟩ := H
      refine g_icmp_lt (tgt := 27) d_SC_text_19 (by decide) (fun c_13 => ?_) (fun c_13 => ?_)
      · have H := H1 c_13
        refine g_aload_n d_SC_text_27 rfl ?_
        refine g_getR d_SC_text_28 f_SC_189 z_12 (by decide) ?_
        refine g_iload_n d_SC_text_31 rfl ?_
        obtain ⟨q_14, e_15, H⟩ := H
        show Go _ _ _ [some (.ref q0), some (.int x1), some (.int x2), some (.ref q_10)] [.int x2, va_rf (hR h_4 q_10 7)] _ _ _
        rw [show va_rf (hR h_4 q_10 7) = Value.ref q_14 from by rw [e_15]; rfl]
        obtain ⟨N_16, H⟩ := H
        obtain ⟨j_17, H⟩ := H
        obtain ⟨z_18, H⟩ := H
        refine g_iald d_SC_text_32 z_18.1 z_18.2.1 z_18.2.2.1 z_18.2.2.2 ?_
        refine g_msk [true, true, true, true] ?_
        exact okJ_SC_text_33 H
      · have H := H2 c_13
        refine g_msk [true, true, true, true] ?_
        exact okJ_SC_text_22 H
set_option maxRecDepth 100000 in
set_option maxHeartbeats 4000000 in
def wJ_SC_sender_18 (G : Gx) (l : Launch) (d w : Nat) (P : Int64 → Hp → Prop) (q0 : Nat) (x1 : Int32) (o2 : Option Nat) (sy0 : Int64) (h : Hp)  : Prop := P sy0 h
set_option maxRecDepth 100000 in
set_option maxHeartbeats 4000000 in
theorem okJ_SC_sender_18 {G : Gx} {l : Launch} {d w : Nat} {P : Int64 → Hp → Prop} {p : Program} {e : Env} {s : State} {m : MethodId} {args : Array Value} {below : List Frame} {meth : Method} {c : Code} {q0 : Nat} {x1 : Int32} {o2 : Option Nat} {sy0 : Int64} {h : Hp}  (H : wJ_SC_sender_18 G l d w P  q0 x1 o2 sy0 h ) : Go M_SC_sender (mkX G (fun r h' => ∃ x, r = some (.long x) ∧ P x h') (d + 1) (w + 21) 0 0 p l e s m args below meth c) 18 [some (.ref q0), some (.int x1), some (va_rf o2)] [.long sy0] h 0 0 := by
  unfold wJ_SC_sender_18 at H
  exact g_lreturn d_SC_sender_18 rfl (Nat.le_refl _) (Nat.le_refl _) ⟨_, rfl, H⟩
set_option maxRecDepth 100000 in
set_option maxHeartbeats 4000000 in
def wp_SC_sender (G : Gx) (l : Launch) (d w : Nat) (P : Int64 → Hp → Prop) (q0 : Nat) (x1 : Int32) (h : Hp) : Prop := (hS h q0 = some (10, 0)) ∧ (∃ P_2 : Option Nat → Hp → Prop, (Cr G l M_SC_deviceOf (d + 0) (w + 0) [.ref q0, .int x1] h 0 0 P_2) ∧ (∀ (o_6 : Option Nat) (h_4 : Hp), P_2 o_6 h_4 → (o_6 = none → wJ_SC_sender_18 G l d w P q0 x1 o_6 0 h_4) ∧ (∀ q_10 : Nat, o_6 = some q_10 → (hS h_4 q_10 = some (14, 0)) ∧ (wJ_SC_sender_18 G l d w P q0 x1 (some q_10) (hL h_4 q_10 9) h_4))))
set_option maxRecDepth 100000 in
set_option maxHeartbeats 4000000 in
theorem ok_SC_sender {G : Gx} {l : Launch} {d w : Nat} {P : Int64 → Hp → Prop} {q0 : Nat} {x1 : Int32} {h : Hp} (H : wp_SC_sender G l d w P q0 x1 h) : Cl G l M_SC_sender (d + 1) (w + 21) [.ref q0, .int x1] h 0 0 P := by
  unfold wp_SC_sender at H
  refine Ct.of (lv := [some (.ref q0), some (.int x1), none]) (by decide) (Nat.le_of_ble_eq_true rfl) rfl (fun p e s m args below meth c => ?_)
  refine g_aload_n d_SC_sender_0 rfl ?_
  refine g_iload_n d_SC_sender_1 rfl ?_
  obtain ⟨z_1, H⟩ := H
  obtain ⟨P_2, C_3, H⟩ := H
  refine q_V (As := [.int x1]) (st := []) (nl := 2) d_SC_sender_2 v_SC_42 C_3 z_1 rfl (catS_le (Nat.le_of_ble_eq_true rfl)) rfl ⟨by omega, by omega, Nat.le_refl _, Nat.le_refl _⟩ (fun r_8 h_4 p_5 => ?_)
  obtain ⟨o_6, rfl, p_5⟩ := p_5
  replace H := H o_6 h_4 p_5
  show Go _ _ _ _ [va_rf o_6] _ _ _
  refine g_astore_nV (lv' := [some (.ref q0), some (.int x1), some (va_rf o_6)]) d_SC_sender_5 (by decide) rfl ?_
  refine g_aload_nV d_SC_sender_6 rfl ?_
  obtain ⟨H1, H2⟩ := H
  refine g_ifnonnull (tgt := 14) d_SC_sender_7 (by decide) (fun q_10 c_9 => ?_) (fun c_9 => ?_)
  · replace H2 := H2 q_10 c_9
    have H := H2
    show Go _ _ _ [some (.ref q0), some (.int x1), some (va_rf o_6)] [] _ _ _
    rw [show va_rf o_6 = Value.ref q_10 from by rw [c_9]; rfl]
    refine g_aload_n d_SC_sender_14 rfl ?_
    obtain ⟨z_11, H⟩ := H
    refine g_getJ d_SC_sender_15 f_SC_193 z_11 ?_
    refine g_msk [true, true, true] ?_
    exact okJ_SC_sender_18 H
  · replace H1 := H1 c_9
    have H := H1
    refine g_lconst (v := 0) d_SC_sender_10 (by decide) ?_
    refine g_goto (tgt := 18) d_SC_sender_11 (by decide) ?_
    refine g_msk [true, true, true] ?_
    exact okJ_SC_sender_18 H
set_option maxRecDepth 100000 in
set_option maxHeartbeats 4000000 in
def wJ_SC_state_37 (G : Gx) (l : Launch) (d w : Nat) (P : Int32 → Hp → Prop) (q0 : Nat) (x1 : Int32) (sx0 : Int32) (h : Hp)  : Prop := P sx0 h
set_option maxRecDepth 100000 in
set_option maxHeartbeats 4000000 in
theorem okJ_SC_state_37 {G : Gx} {l : Launch} {d w : Nat} {P : Int32 → Hp → Prop} {p : Program} {e : Env} {s : State} {m : MethodId} {args : Array Value} {below : List Frame} {meth : Method} {c : Code} {q0 : Nat} {x1 : Int32} {sx0 : Int32} {h : Hp}  (H : wJ_SC_state_37 G l d w P  q0 x1 sx0 h ) : Go M_SC_state (mkX G (fun r h' => ∃ x, r = some (.int x) ∧ P x h') (d + 4) (w + 94) 0 0 p l e s m args below meth c) 37 [some (.ref q0), some (.int x1)] [.int sx0] h 0 0 := by
  unfold wJ_SC_state_37 at H
  exact g_ireturn d_SC_state_37 rfl (Nat.le_refl _) (Nat.le_refl _) ⟨_, rfl, H⟩
set_option maxRecDepth 100000 in
set_option maxHeartbeats 4000000 in
def wJ_SC_state_15 (G : Gx) (l : Launch) (d w : Nat) (P : Int32 → Hp → Prop) (q0 : Nat) (x1 : Int32) (h : Hp)  : Prop := wJ_SC_state_37 G l d w P q0 x1 (-2) h
set_option maxRecDepth 100000 in
set_option maxHeartbeats 4000000 in
theorem okJ_SC_state_15 {G : Gx} {l : Launch} {d w : Nat} {P : Int32 → Hp → Prop} {p : Program} {e : Env} {s : State} {m : MethodId} {args : Array Value} {below : List Frame} {meth : Method} {c : Code} {q0 : Nat} {x1 : Int32} {h : Hp}  (H : wJ_SC_state_15 G l d w P  q0 x1 h ) : Go M_SC_state (mkX G (fun r h' => ∃ x, r = some (.int x) ∧ P x h') (d + 4) (w + 94) 0 0 p l e s m args below meth c) 15 [some (.ref q0), some (.int x1)] [] h 0 0 := by
  unfold wJ_SC_state_15 at H
  refine g_bipush (v := (-2)) d_SC_state_15 (by decide) ?_
  refine g_goto (tgt := 37) d_SC_state_17 (by decide) ?_
  refine g_msk [true, true] ?_
  exact okJ_SC_state_37 H
set_option maxRecDepth 100000 in
set_option maxHeartbeats 4000000 in
def wp_SC_state (G : Gx) (l : Launch) (d w : Nat) (P : Int32 → Hp → Prop) (q0 : Nat) (x1 : Int32) (h : Hp) : Prop := (x1 < 0 → wJ_SC_state_15 G l d w P q0 x1 h) ∧ (¬ x1 < 0 → (hS h q0 = some (10, 0)) ∧ (∃ q_3 : Nat, (hR h q0 3) = some q_3 ∧ ((hS h q_3 = some (12, 0)) ∧ (∃ P_6 : Int32 → Hp → Prop, (Ci G l M_AL_size (d + 0) (w + 0) [.ref q_3] h 0 0 P_6) ∧ (∀ (x_10 : Int32) (h_8 : Hp), P_6 x_10 h_8 → (x1 < x_10 → (hS h_8 q0 = some (10, 0)) ∧ (∃ q_15 : Nat, (hR h_8 q0 3) = some q_15 ∧ ((hS h_8 q_15 = some (12, 0)) ∧ (∃ P_18 : Option Nat → Hp → Prop, (Cr G l M_AL_get (d + 3) (w + 73) [.ref q_15, .int x1] h_8 0 0 P_18) ∧ (∀ (o_22 : Option Nat) (h_20 : Hp), P_18 o_22 h_20 → ∃ q_25 : Nat, o_22 = some q_25 ∧ ((hS h_20 q_25 = some (16, 0)) ∧ (∃ t_28 : Nat, ((hR h_20 q_25 8) = some (gK G t_28) ∧ 4 ≤ t_28 ∧ t_28 ≤ 7) ∧ (wJ_SC_state_37 G l d w P q0 x1 (fateA t_28) h_20)))))))) ∧ (¬ x1 < x_10 → wJ_SC_state_15 G l d w P q0 x1 h_8))))))
set_option maxRecDepth 100000 in
set_option maxHeartbeats 4000000 in
theorem ok_SC_state {G : Gx} {l : Launch} {d w : Nat} {P : Int32 → Hp → Prop} {q0 : Nat} {x1 : Int32} {h : Hp} (H : wp_SC_state G l d w P q0 x1 h) : Ci G l M_SC_state (d + 4) (w + 94) [.ref q0, .int x1] h 0 0 P := by
  unfold wp_SC_state at H
  refine Ct.of (lv := [some (.ref q0), some (.int x1)]) (by decide) (Nat.le_of_ble_eq_true rfl) rfl (fun p e s m args below meth c => ?_)
  refine g_iload_n d_SC_state_0 rfl ?_
  obtain ⟨H1, H2⟩ := H
  refine g_if_lt (tgt := 15) d_SC_state_1 (by decide) (fun c_1 => ?_) (fun c_1 => ?_)
  · have H := H1 c_1
    refine g_msk [true, true] ?_
    exact okJ_SC_state_15 H
  · have H := H2 c_1
    refine g_iload_n d_SC_state_4 rfl ?_
    refine g_aload_n d_SC_state_5 rfl ?_
    obtain ⟨z_2, H⟩ := H
    refine g_getR d_SC_state_6 f_SC_34 z_2 (by decide) ?_
    obtain ⟨q_3, e_4, H⟩ := H
    refine g_eqr e_4 ?_
    obtain ⟨z_5, H⟩ := H
    obtain ⟨P_6, C_7, H⟩ := H
    refine q_V (As := []) (st := [.int x1]) (nl := 1) d_SC_state_9 v_SC_101 C_7 z_5 rfl (catS_le (Nat.le_of_ble_eq_true rfl)) rfl ⟨by omega, by omega, Nat.le_refl _, Nat.le_refl _⟩ (fun r_12 h_8 p_9 => ?_)
    obtain ⟨x_10, rfl, p_9⟩ := p_9
    replace H := H x_10 h_8 p_9
    show Go _ _ _ _ [.int x_10, .int x1] _ _ _
    obtain ⟨H1, H2⟩ := H
    refine g_icmp_lt (tgt := 20) d_SC_state_12 (by decide) (fun c_13 => ?_) (fun c_13 => ?_)
    · have H := H1 c_13
      refine g_aload_n d_SC_state_20 rfl ?_
      obtain ⟨z_14, H⟩ := H
      refine g_getR d_SC_state_21 f_SC_34 z_14 (by decide) ?_
      refine g_iload_n d_SC_state_24 rfl ?_
      obtain ⟨q_15, e_16, H⟩ := H
      show Go _ _ _ [some (.ref q0), some (.int x1)] [.int x1, va_rf (hR h_8 q0 3)] _ _ _
      rw [show va_rf (hR h_8 q0 3) = Value.ref q_15 from by rw [e_16]; rfl]
      obtain ⟨z_17, H⟩ := H
      obtain ⟨P_18, C_19, H⟩ := H
      refine q_V (As := [.int x1]) (st := []) (nl := 2) d_SC_state_25 v_SC_134 C_19 z_17 rfl (catS_le (Nat.le_of_ble_eq_true rfl)) rfl ⟨by omega, by omega, Nat.le_refl _, Nat.le_refl _⟩ (fun r_24 h_20 p_21 => ?_)
      obtain ⟨o_22, rfl, p_21⟩ := p_21
      replace H := H o_22 h_20 p_21
      show Go _ _ _ _ [va_rf o_22] _ _ _
      obtain ⟨q_25, e_26, H⟩ := H
      refine g_eqr e_26 ?_
      obtain ⟨z_27, H⟩ := H
      refine g_cast d_SC_state_28 (ci := 6) rfl k_SC_117 kC_6 z_27 ?_
      refine g_getR d_SC_state_31 f_SC_145 z_27 (by decide) ?_
      obtain ⟨t_28, e_29, H⟩ := H
      refine g_eqr e_29.1 ?_
      refine g_fateA (t := t_28) d_SC_state_34 f_SC_196 e_29.2 ?_
      refine g_msk [true, true] ?_
      exact okJ_SC_state_37 H
    · have H := H2 c_13
      refine g_msk [true, true] ?_
      exact okJ_SC_state_15 H
set_option maxRecDepth 100000 in
set_option maxHeartbeats 4000000 in
def wJ_SC_offers_34 (G : Gx) (l : Launch) (d w : Nat) (P : Int32 → Hp → Prop) (q0 : Nat) (x1 : Int32) (sx0 : Int32) (h : Hp)  : Prop := P sx0 h
set_option maxRecDepth 100000 in
set_option maxHeartbeats 4000000 in
theorem okJ_SC_offers_34 {G : Gx} {l : Launch} {d w : Nat} {P : Int32 → Hp → Prop} {p : Program} {e : Env} {s : State} {m : MethodId} {args : Array Value} {below : List Frame} {meth : Method} {c : Code} {q0 : Nat} {x1 : Int32} {sx0 : Int32} {h : Hp}  (H : wJ_SC_offers_34 G l d w P  q0 x1 sx0 h ) : Go M_SC_offers (mkX G (fun r h' => ∃ x, r = some (.int x) ∧ P x h') (d + 4) (w + 94) 0 0 p l e s m args below meth c) 34 [some (.ref q0), some (.int x1)] [.int sx0] h 0 0 := by
  unfold wJ_SC_offers_34 at H
  exact g_ireturn d_SC_offers_34 rfl (Nat.le_refl _) (Nat.le_refl _) ⟨_, rfl, H⟩
set_option maxRecDepth 100000 in
set_option maxHeartbeats 4000000 in
def wJ_SC_offers_15 (G : Gx) (l : Launch) (d w : Nat) (P : Int32 → Hp → Prop) (q0 : Nat) (x1 : Int32) (h : Hp)  : Prop := wJ_SC_offers_34 G l d w P q0 x1 (-2) h
set_option maxRecDepth 100000 in
set_option maxHeartbeats 4000000 in
theorem okJ_SC_offers_15 {G : Gx} {l : Launch} {d w : Nat} {P : Int32 → Hp → Prop} {p : Program} {e : Env} {s : State} {m : MethodId} {args : Array Value} {below : List Frame} {meth : Method} {c : Code} {q0 : Nat} {x1 : Int32} {h : Hp}  (H : wJ_SC_offers_15 G l d w P  q0 x1 h ) : Go M_SC_offers (mkX G (fun r h' => ∃ x, r = some (.int x) ∧ P x h') (d + 4) (w + 94) 0 0 p l e s m args below meth c) 15 [some (.ref q0), some (.int x1)] [] h 0 0 := by
  unfold wJ_SC_offers_15 at H
  refine g_bipush (v := (-2)) d_SC_offers_15 (by decide) ?_
  refine g_goto (tgt := 34) d_SC_offers_17 (by decide) ?_
  refine g_msk [true, true] ?_
  exact okJ_SC_offers_34 H
set_option maxRecDepth 100000 in
set_option maxHeartbeats 4000000 in
def wp_SC_offers (G : Gx) (l : Launch) (d w : Nat) (P : Int32 → Hp → Prop) (q0 : Nat) (x1 : Int32) (h : Hp) : Prop := (x1 < 0 → wJ_SC_offers_15 G l d w P q0 x1 h) ∧ (¬ x1 < 0 → (hS h q0 = some (10, 0)) ∧ (∃ q_3 : Nat, (hR h q0 3) = some q_3 ∧ ((hS h q_3 = some (12, 0)) ∧ (∃ P_6 : Int32 → Hp → Prop, (Ci G l M_AL_size (d + 0) (w + 0) [.ref q_3] h 0 0 P_6) ∧ (∀ (x_10 : Int32) (h_8 : Hp), P_6 x_10 h_8 → (x1 < x_10 → (hS h_8 q0 = some (10, 0)) ∧ (∃ q_15 : Nat, (hR h_8 q0 3) = some q_15 ∧ ((hS h_8 q_15 = some (12, 0)) ∧ (∃ P_18 : Option Nat → Hp → Prop, (Cr G l M_AL_get (d + 3) (w + 73) [.ref q_15, .int x1] h_8 0 0 P_18) ∧ (∀ (o_22 : Option Nat) (h_20 : Hp), P_18 o_22 h_20 → ∃ q_25 : Nat, o_22 = some q_25 ∧ ((hS h_20 q_25 = some (16, 0)) ∧ (wJ_SC_offers_34 G l d w P q0 x1 (hI h_20 q_25 7) h_20))))))) ∧ (¬ x1 < x_10 → wJ_SC_offers_15 G l d w P q0 x1 h_8))))))
set_option maxRecDepth 100000 in
set_option maxHeartbeats 4000000 in
theorem ok_SC_offers {G : Gx} {l : Launch} {d w : Nat} {P : Int32 → Hp → Prop} {q0 : Nat} {x1 : Int32} {h : Hp} (H : wp_SC_offers G l d w P q0 x1 h) : Ci G l M_SC_offers (d + 4) (w + 94) [.ref q0, .int x1] h 0 0 P := by
  unfold wp_SC_offers at H
  refine Ct.of (lv := [some (.ref q0), some (.int x1)]) (by decide) (Nat.le_of_ble_eq_true rfl) rfl (fun p e s m args below meth c => ?_)
  refine g_iload_n d_SC_offers_0 rfl ?_
  obtain ⟨H1, H2⟩ := H
  refine g_if_lt (tgt := 15) d_SC_offers_1 (by decide) (fun c_1 => ?_) (fun c_1 => ?_)
  · have H := H1 c_1
    refine g_msk [true, true] ?_
    exact okJ_SC_offers_15 H
  · have H := H2 c_1
    refine g_iload_n d_SC_offers_4 rfl ?_
    refine g_aload_n d_SC_offers_5 rfl ?_
    obtain ⟨z_2, H⟩ := H
    refine g_getR d_SC_offers_6 f_SC_34 z_2 (by decide) ?_
    obtain ⟨q_3, e_4, H⟩ := H
    refine g_eqr e_4 ?_
    obtain ⟨z_5, H⟩ := H
    obtain ⟨P_6, C_7, H⟩ := H
    refine q_V (As := []) (st := [.int x1]) (nl := 1) d_SC_offers_9 v_SC_101 C_7 z_5 rfl (catS_le (Nat.le_of_ble_eq_true rfl)) rfl ⟨by omega, by omega, Nat.le_refl _, Nat.le_refl _⟩ (fun r_12 h_8 p_9 => ?_)
    obtain ⟨x_10, rfl, p_9⟩ := p_9
    replace H := H x_10 h_8 p_9
    show Go _ _ _ _ [.int x_10, .int x1] _ _ _
    obtain ⟨H1, H2⟩ := H
    refine g_icmp_lt (tgt := 20) d_SC_offers_12 (by decide) (fun c_13 => ?_) (fun c_13 => ?_)
    · have H := H1 c_13
      refine g_aload_n d_SC_offers_20 rfl ?_
      obtain ⟨z_14, H⟩ := H
      refine g_getR d_SC_offers_21 f_SC_34 z_14 (by decide) ?_
      refine g_iload_n d_SC_offers_24 rfl ?_
      obtain ⟨q_15, e_16, H⟩ := H
      show Go _ _ _ [some (.ref q0), some (.int x1)] [.int x1, va_rf (hR h_8 q0 3)] _ _ _
      rw [show va_rf (hR h_8 q0 3) = Value.ref q_15 from by rw [e_16]; rfl]
      obtain ⟨z_17, H⟩ := H
      obtain ⟨P_18, C_19, H⟩ := H
      refine q_V (As := [.int x1]) (st := []) (nl := 2) d_SC_offers_25 v_SC_134 C_19 z_17 rfl (catS_le (Nat.le_of_ble_eq_true rfl)) rfl ⟨by omega, by omega, Nat.le_refl _, Nat.le_refl _⟩ (fun r_24 h_20 p_21 => ?_)
      obtain ⟨o_22, rfl, p_21⟩ := p_21
      replace H := H o_22 h_20 p_21
      show Go _ _ _ _ [va_rf o_22] _ _ _
      obtain ⟨q_25, e_26, H⟩ := H
      refine g_eqr e_26 ?_
      obtain ⟨z_27, H⟩ := H
      refine g_cast d_SC_offers_28 (ci := 6) rfl k_SC_117 kC_6 z_27 ?_
      refine g_getI d_SC_offers_31 f_SC_199 z_27 ?_
      refine g_msk [true, true] ?_
      exact okJ_SC_offers_34 H
    · have H := H2 c_13
      refine g_msk [true, true] ?_
      exact okJ_SC_offers_15 H
set_option maxRecDepth 100000 in
set_option maxHeartbeats 4000000 in
def wp_SC_time (G : Gx) (l : Launch) (d w : Nat) (P : Int32 → Hp → Prop) (q0 : Nat) (h : Hp) : Prop := (hS h q0 = some (10, 0)) ∧ (P (hI h q0 5) h)
set_option maxRecDepth 100000 in
set_option maxHeartbeats 4000000 in
theorem ok_SC_time {G : Gx} {l : Launch} {d w : Nat} {P : Int32 → Hp → Prop} {q0 : Nat} {h : Hp} (H : wp_SC_time G l d w P q0 h) : Ci G l M_SC_time (d + 0) (w + 0) [.ref q0] h 0 0 P := by
  unfold wp_SC_time at H
  refine Ct.of (lv := [some (.ref q0)]) (by decide) (Nat.le_of_ble_eq_true rfl) rfl (fun p e s m args below meth c => ?_)
  refine g_aload_n d_SC_time_0 rfl ?_
  obtain ⟨z_1, H⟩ := H
  refine g_getI d_SC_time_1 f_SC_119 z_1 ?_
  exact g_ireturn d_SC_time_4 rfl (Nat.le_refl _) (Nat.le_refl _) ⟨_, rfl, H⟩
set_option maxRecDepth 100000 in
set_option maxHeartbeats 4000000 in
def wJ_SC_isNumber_19 (G : Gx) (l : Launch) (d w : Nat) (P : Int32 → Hp → Prop) (y0 : Int64) (sx0 : Int32) (h : Hp)  : Prop := (sx0 = 0 ∨ sx0 = 1) ∧ (P sx0 h)
set_option maxRecDepth 100000 in
set_option maxHeartbeats 4000000 in
theorem okJ_SC_isNumber_19 {G : Gx} {l : Launch} {d w : Nat} {P : Int32 → Hp → Prop} {p : Program} {e : Env} {s : State} {m : MethodId} {args : Array Value} {below : List Frame} {meth : Method} {c : Code} {y0 : Int64} {sx0 : Int32} {h : Hp}  (H : wJ_SC_isNumber_19 G l d w P  y0 sx0 h ) : Go M_SC_isNumber (mkX G (fun r h' => ∃ x, r = some (.int x) ∧ P x h') (d + 0) (w + 0) 0 0 p l e s m args below meth c) 19 [some (.long y0), none] [.int sx0] h 0 0 := by
  unfold wJ_SC_isNumber_19 at H
  obtain ⟨z_1, H⟩ := H
  exact g_zreturn d_SC_isNumber_19 rfl z_1 (Nat.le_refl _) (Nat.le_refl _) ⟨_, rfl, H⟩
set_option maxRecDepth 100000 in
set_option maxHeartbeats 4000000 in
def wJ_SC_isNumber_18 (G : Gx) (l : Launch) (d w : Nat) (P : Int32 → Hp → Prop) (y0 : Int64) (h : Hp)  : Prop := wJ_SC_isNumber_19 G l d w P y0 0 h
set_option maxRecDepth 100000 in
set_option maxHeartbeats 4000000 in
theorem okJ_SC_isNumber_18 {G : Gx} {l : Launch} {d w : Nat} {P : Int32 → Hp → Prop} {p : Program} {e : Env} {s : State} {m : MethodId} {args : Array Value} {below : List Frame} {meth : Method} {c : Code} {y0 : Int64} {h : Hp}  (H : wJ_SC_isNumber_18 G l d w P  y0 h ) : Go M_SC_isNumber (mkX G (fun r h' => ∃ x, r = some (.int x) ∧ P x h') (d + 0) (w + 0) 0 0 p l e s m args below meth c) 18 [some (.long y0), none] [] h 0 0 := by
  unfold wJ_SC_isNumber_18 at H
  refine g_iconst (v := 0) d_SC_isNumber_18 (by decide) ?_
  refine g_msk [true, false] ?_
  exact okJ_SC_isNumber_19 H
set_option maxRecDepth 100000 in
set_option maxHeartbeats 4000000 in
def wp_SC_isNumber (G : Gx) (l : Launch) (d w : Nat) (P : Int32 → Hp → Prop) (y0 : Int64) (h : Hp) : Prop := ((lg_cmp y0 1) < 0 → wJ_SC_isNumber_18 G l d w P y0 h) ∧ (¬ (lg_cmp y0 1) < 0 → (0 < (lg_cmp y0 999999999999) → wJ_SC_isNumber_18 G l d w P y0 h) ∧ (¬ 0 < (lg_cmp y0 999999999999) → wJ_SC_isNumber_19 G l d w P y0 1 h))
set_option maxRecDepth 100000 in
set_option maxHeartbeats 4000000 in
theorem ok_SC_isNumber {G : Gx} {l : Launch} {d w : Nat} {P : Int32 → Hp → Prop} {y0 : Int64} {h : Hp} (H : wp_SC_isNumber G l d w P y0 h) : Ci G l M_SC_isNumber (d + 0) (w + 0) [.long y0] h 0 0 P := by
  unfold wp_SC_isNumber at H
  refine Ct.of (lv := [some (.long y0), none]) (by decide) (Nat.le_of_ble_eq_true rfl) rfl (fun p e s m args below meth c => ?_)
  refine g_lload_n d_SC_isNumber_0 rfl ?_
  refine g_lconst (v := 1) d_SC_isNumber_1 (by decide) ?_
  refine g_lcmp d_SC_isNumber_2 ?_
  obtain ⟨H1, H2⟩ := H
  refine g_if_lt (tgt := 18) d_SC_isNumber_3 (by decide) (fun c_2 => ?_) (fun c_2 => ?_)
  · have H := H1 c_2
    refine g_msk [true, false] ?_
    exact okJ_SC_isNumber_18 H
  · have H := H2 c_2
    refine g_lload_n d_SC_isNumber_6 rfl ?_
    refine g_ldc2 d_SC_isNumber_7 k_SC_202 ?_
    refine g_lcmp d_SC_isNumber_10 ?_
    obtain ⟨H1, H2⟩ := H
    refine g_if_gt (tgt := 18) d_SC_isNumber_11 (by decide) (fun c_3 => ?_) (fun c_3 => ?_)
    · have H := H1 c_3
      refine g_msk [true, false] ?_
      exact okJ_SC_isNumber_18 H
    · have H := H2 c_3
      refine g_iconst (v := 1) d_SC_isNumber_14 (by decide) ?_
      refine g_goto (tgt := 19) d_SC_isNumber_15 (by decide) ?_
      refine g_msk [true, false] ?_
      exact okJ_SC_isNumber_19 H
set_option maxRecDepth 100000 in
set_option maxHeartbeats 4000000 in
def wJ_SC_deviceOf_19 (G : Gx) (l : Launch) (d w : Nat) (P : Option Nat → Hp → Prop) (q0 : Nat) (x1 : Int32) (so0 : Option Nat) (h : Hp)  : Prop := P so0 h
set_option maxRecDepth 100000 in
set_option maxHeartbeats 4000000 in
theorem okJ_SC_deviceOf_19 {G : Gx} {l : Launch} {d w : Nat} {P : Option Nat → Hp → Prop} {p : Program} {e : Env} {s : State} {m : MethodId} {args : Array Value} {below : List Frame} {meth : Method} {c : Code} {q0 : Nat} {x1 : Int32} {so0 : Option Nat} {h : Hp}  (H : wJ_SC_deviceOf_19 G l d w P  q0 x1 so0 h ) : Go M_SC_deviceOf (mkX G (fun r h' => ∃ x, r = some (va_rf x) ∧ P x h') (d + 0) (w + 0) 0 0 p l e s m args below meth c) 19 [some (.ref q0), some (.int x1)] [va_rf so0] h 0 0 := by
  unfold wJ_SC_deviceOf_19 at H
  exact g_areturn (x := so0) d_SC_deviceOf_19 rfl (Or.inl ⟨_, rfl⟩) (Nat.le_refl _) (Nat.le_refl _) ⟨_, rfl, H⟩
set_option maxRecDepth 100000 in
set_option maxHeartbeats 4000000 in
def wJ_SC_deviceOf_9 (G : Gx) (l : Launch) (d w : Nat) (P : Option Nat → Hp → Prop) (q0 : Nat) (x1 : Int32) (h : Hp)  : Prop := wJ_SC_deviceOf_19 G l d w P q0 x1 none h
set_option maxRecDepth 100000 in
set_option maxHeartbeats 4000000 in
theorem okJ_SC_deviceOf_9 {G : Gx} {l : Launch} {d w : Nat} {P : Option Nat → Hp → Prop} {p : Program} {e : Env} {s : State} {m : MethodId} {args : Array Value} {below : List Frame} {meth : Method} {c : Code} {q0 : Nat} {x1 : Int32} {h : Hp}  (H : wJ_SC_deviceOf_9 G l d w P  q0 x1 h ) : Go M_SC_deviceOf (mkX G (fun r h' => ∃ x, r = some (va_rf x) ∧ P x h') (d + 0) (w + 0) 0 0 p l e s m args below meth c) 9 [some (.ref q0), some (.int x1)] [] h 0 0 := by
  unfold wJ_SC_deviceOf_9 at H
  refine g_null d_SC_deviceOf_9 ?_
  refine g_goto (tgt := 19) d_SC_deviceOf_10 (by decide) ?_
  refine g_msk [true, true] ?_
  exact okJ_SC_deviceOf_19 H
set_option maxRecDepth 100000 in
set_option maxHeartbeats 4000000 in
def wp_SC_deviceOf (G : Gx) (l : Launch) (d w : Nat) (P : Option Nat → Hp → Prop) (q0 : Nat) (x1 : Int32) (h : Hp) : Prop := (x1 < 0 → wJ_SC_deviceOf_9 G l d w P q0 x1 h) ∧ (¬ x1 < 0 → (x1 < 4 → (hS h q0 = some (10, 0)) ∧ (∃ q_4 : Nat, (hR h q0 0) = some q_4 ∧ (∃ N_6 : Nat, ∃ j_7 : Nat, (hS h q_4 = some (5, N_6) ∧ x1 = nI j_7 ∧ j_7 < N_6 ∧ j_7 < 2147483648) ∧ (wJ_SC_deviceOf_19 G l d w P q0 x1 (hR h q_4 j_7) h)))) ∧ (¬ x1 < 4 → wJ_SC_deviceOf_9 G l d w P q0 x1 h))
set_option maxRecDepth 100000 in
set_option maxHeartbeats 4000000 in
theorem ok_SC_deviceOf {G : Gx} {l : Launch} {d w : Nat} {P : Option Nat → Hp → Prop} {q0 : Nat} {x1 : Int32} {h : Hp} (H : wp_SC_deviceOf G l d w P q0 x1 h) : Cr G l M_SC_deviceOf (d + 0) (w + 0) [.ref q0, .int x1] h 0 0 P := by
  unfold wp_SC_deviceOf at H
  refine Ct.of (lv := [some (.ref q0), some (.int x1)]) (by decide) (Nat.le_of_ble_eq_true rfl) rfl (fun p e s m args below meth c => ?_)
  refine g_iload_n d_SC_deviceOf_0 rfl ?_
  obtain ⟨H1, H2⟩ := H
  refine g_if_lt (tgt := 9) d_SC_deviceOf_1 (by decide) (fun c_1 => ?_) (fun c_1 => ?_)
  · have H := H1 c_1
    refine g_msk [true, true] ?_
    exact okJ_SC_deviceOf_9 H
  · have H := H2 c_1
    refine g_iload_n d_SC_deviceOf_4 rfl ?_
    refine g_iconst (v := 4) d_SC_deviceOf_5 (by decide) ?_
    obtain ⟨H1, H2⟩ := H
    refine g_icmp_lt (tgt := 13) d_SC_deviceOf_6 (by decide) (fun c_2 => ?_) (fun c_2 => ?_)
    · have H := H1 c_2
      refine g_aload_n d_SC_deviceOf_13 rfl ?_
      obtain ⟨z_3, H⟩ := H
      refine g_getR d_SC_deviceOf_14 f_SC_11 z_3 (by decide) ?_
      refine g_iload_n d_SC_deviceOf_17 rfl ?_
      obtain ⟨q_4, e_5, H⟩ := H
      show Go _ _ _ [some (.ref q0), some (.int x1)] [.int x1, va_rf (hR h q0 0)] _ _ _
      rw [show va_rf (hR h q0 0) = Value.ref q_4 from by rw [e_5]; rfl]
      obtain ⟨N_6, H⟩ := H
      obtain ⟨j_7, H⟩ := H
      obtain ⟨z_8, H⟩ := H
      refine g_aald d_SC_deviceOf_18 z_8.1 (by decide) z_8.2.1 z_8.2.2.1 z_8.2.2.2 ?_
      refine g_msk [true, true] ?_
      exact okJ_SC_deviceOf_19 H
    · have H := H2 c_2
      refine g_msk [true, true] ?_
      exact okJ_SC_deviceOf_9 H
set_option maxRecDepth 100000 in
set_option maxHeartbeats 4000000 in
def wJ_SC_lineOf_54 (G : Gx) (l : Launch) (d w : Nat) (P : Option Nat → Hp → Prop) (q0 : Nat) (x1 : Int32) (o2 : Option Nat) (so0 : Option Nat) (h : Hp)  : Prop := P so0 h
set_option maxRecDepth 100000 in
set_option maxHeartbeats 4000000 in
theorem okJ_SC_lineOf_54 {G : Gx} {l : Launch} {d w : Nat} {P : Option Nat → Hp → Prop} {p : Program} {e : Env} {s : State} {m : MethodId} {args : Array Value} {below : List Frame} {meth : Method} {c : Code} {q0 : Nat} {x1 : Int32} {o2 : Option Nat} {so0 : Option Nat} {h : Hp}  (H : wJ_SC_lineOf_54 G l d w P  q0 x1 o2 so0 h ) : Go M_SC_lineOf (mkX G (fun r h' => ∃ x, r = some (va_rf x) ∧ P x h') (d + 1) (w + 21) 0 0 p l e s m args below meth c) 54 [some (.ref q0), some (.int x1), some (va_rf o2)] [va_rf so0] h 0 0 := by
  unfold wJ_SC_lineOf_54 at H
  exact g_areturn (x := so0) d_SC_lineOf_54 rfl (Or.inl ⟨_, rfl⟩) (Nat.le_refl _) (Nat.le_refl _) ⟨_, rfl, H⟩
set_option maxRecDepth 100000 in
set_option maxHeartbeats 4000000 in
def wJ_SC_lineOf_35 (G : Gx) (l : Launch) (d w : Nat) (P : Option Nat → Hp → Prop) (q0 : Nat) (x1 : Int32) (o2 : Option Nat) (so0 : Option Nat) (h : Hp)  : Prop := P so0 h
set_option maxRecDepth 100000 in
set_option maxHeartbeats 4000000 in
theorem okJ_SC_lineOf_35 {G : Gx} {l : Launch} {d w : Nat} {P : Option Nat → Hp → Prop} {p : Program} {e : Env} {s : State} {m : MethodId} {args : Array Value} {below : List Frame} {meth : Method} {c : Code} {q0 : Nat} {x1 : Int32} {o2 : Option Nat} {so0 : Option Nat} {h : Hp}  (H : wJ_SC_lineOf_35 G l d w P  q0 x1 o2 so0 h ) : Go M_SC_lineOf (mkX G (fun r h' => ∃ x, r = some (va_rf x) ∧ P x h') (d + 1) (w + 21) 0 0 p l e s m args below meth c) 35 [some (.ref q0), some (.int x1), some (va_rf o2)] [va_rf so0] h 0 0 := by
  unfold wJ_SC_lineOf_35 at H
  exact g_areturn (x := so0) d_SC_lineOf_35 rfl (Or.inl ⟨_, rfl⟩) (Nat.le_refl _) (Nat.le_refl _) ⟨_, rfl, H⟩
set_option maxRecDepth 100000 in
set_option maxHeartbeats 4000000 in
def wp_SC_lineOf (G : Gx) (l : Launch) (d w : Nat) (P : Option Nat → Hp → Prop) (q0 : Nat) (x1 : Int32) (h : Hp) : Prop := (¬ x1 = (-1) → (x1 < 4 → (hS h q0 = some (10, 0)) ∧ (∃ P_4 : Option Nat → Hp → Prop, (Cr G l M_SC_deviceOf (d + 0) (w + 0) [.ref q0, .int x1] h 0 0 P_4) ∧ (∀ (o_8 : Option Nat) (h_6 : Hp), P_4 o_8 h_6 → (o_8 = none → wJ_SC_lineOf_54 G l d w P q0 x1 o_8 none h_6) ∧ (∀ q_12 : Nat, o_8 = some q_12 → (hS h_6 q_12 = some (14, 0)) ∧ (wJ_SC_lineOf_54 G l d w P q0 x1 (some q_12) (hR h_6 q_12 2) h_6))))) ∧ (¬ x1 < 4 → (hS h q0 = some (10, 0)) ∧ (∃ P_15 : Option Nat → Hp → Prop, (Cr G l M_SC_deviceOf (d + 0) (w + 0) [.ref q0, .int (x1 - 4)] h 0 0 P_15) ∧ (∀ (o_19 : Option Nat) (h_17 : Hp), P_15 o_19 h_17 → (o_19 = none → wJ_SC_lineOf_35 G l d w P q0 x1 o_19 none h_17) ∧ (∀ q_23 : Nat, o_19 = some q_23 → (hS h_17 q_23 = some (14, 0)) ∧ (wJ_SC_lineOf_35 G l d w P q0 x1 (some q_23) (hR h_17 q_23 3) h_17)))))) ∧ (x1 = (-1) → (hS h q0 = some (10, 0)) ∧ (P (hR h q0 1) h))
set_option maxRecDepth 100000 in
set_option maxHeartbeats 4000000 in
theorem ok_SC_lineOf {G : Gx} {l : Launch} {d w : Nat} {P : Option Nat → Hp → Prop} {q0 : Nat} {x1 : Int32} {h : Hp} (H : wp_SC_lineOf G l d w P q0 x1 h) : Cr G l M_SC_lineOf (d + 1) (w + 21) [.ref q0, .int x1] h 0 0 P := by
  unfold wp_SC_lineOf at H
  refine Ct.of (lv := [some (.ref q0), some (.int x1), none]) (by decide) (Nat.le_of_ble_eq_true rfl) rfl (fun p e s m args below meth c => ?_)
  refine g_iload_n d_SC_lineOf_0 rfl ?_
  refine g_iconst (v := (-1)) d_SC_lineOf_1 (by decide) ?_
  obtain ⟨H1, H2⟩ := H
  refine g_icmp_ne (tgt := 10) d_SC_lineOf_2 (by decide) (fun c_1 => ?_) (fun c_1 => ?_)
  · have H := H1 c_1
    refine g_iload_n d_SC_lineOf_10 rfl ?_
    refine g_iconst (v := 4) d_SC_lineOf_11 (by decide) ?_
    obtain ⟨H1, H2⟩ := H
    refine g_icmp_lt (tgt := 36) d_SC_lineOf_12 (by decide) (fun c_2 => ?_) (fun c_2 => ?_)
    · have H := H1 c_2
      refine g_aload_n d_SC_lineOf_36 rfl ?_
      refine g_iload_n d_SC_lineOf_37 rfl ?_
      obtain ⟨z_3, H⟩ := H
      obtain ⟨P_4, C_5, H⟩ := H
      refine q_V (As := [.int x1]) (st := []) (nl := 2) d_SC_lineOf_38 v_SC_42 C_5 z_3 rfl (catS_le (Nat.le_of_ble_eq_true rfl)) rfl ⟨by omega, by omega, Nat.le_refl _, Nat.le_refl _⟩ (fun r_10 h_6 p_7 => ?_)
      obtain ⟨o_8, rfl, p_7⟩ := p_7
      replace H := H o_8 h_6 p_7
      show Go _ _ _ _ [va_rf o_8] _ _ _
      refine g_astore_nV (lv' := [some (.ref q0), some (.int x1), some (va_rf o_8)]) d_SC_lineOf_41 (by decide) rfl ?_
      refine g_aload_nV d_SC_lineOf_42 rfl ?_
      obtain ⟨H1, H2⟩ := H
      refine g_ifnonnull (tgt := 50) d_SC_lineOf_43 (by decide) (fun q_12 c_11 => ?_) (fun c_11 => ?_)
      · replace H2 := H2 q_12 c_11
        have H := H2
        show Go _ _ _ [some (.ref q0), some (.int x1), some (va_rf o_8)] [] _ _ _
        rw [show va_rf o_8 = Value.ref q_12 from by rw [c_11]; rfl]
        refine g_aload_n d_SC_lineOf_50 rfl ?_
        obtain ⟨z_13, H⟩ := H
        refine g_getR d_SC_lineOf_51 f_SC_160 z_13 (by decide) ?_
        refine g_msk [true, true, true] ?_
        exact okJ_SC_lineOf_54 H
      · replace H1 := H1 c_11
        have H := H1
        refine g_null d_SC_lineOf_46 ?_
        refine g_goto (tgt := 54) d_SC_lineOf_47 (by decide) ?_
        refine g_msk [true, true, true] ?_
        exact okJ_SC_lineOf_54 H
    · have H := H2 c_2
      refine g_aload_n d_SC_lineOf_15 rfl ?_
      refine g_iload_n d_SC_lineOf_16 rfl ?_
      refine g_iconst (v := 4) d_SC_lineOf_17 (by decide) ?_
      refine g_isub d_SC_lineOf_18 ?_
      obtain ⟨z_14, H⟩ := H
      obtain ⟨P_15, C_16, H⟩ := H
      refine q_V (As := [.int (x1 - 4)]) (st := []) (nl := 2) d_SC_lineOf_19 v_SC_42 C_16 z_14 rfl (catS_le (Nat.le_of_ble_eq_true rfl)) rfl ⟨by omega, by omega, Nat.le_refl _, Nat.le_refl _⟩ (fun r_21 h_17 p_18 => ?_)
      obtain ⟨o_19, rfl, p_18⟩ := p_18
      replace H := H o_19 h_17 p_18
      show Go _ _ _ _ [va_rf o_19] _ _ _
      refine g_astore_nV (lv' := [some (.ref q0), some (.int x1), some (va_rf o_19)]) d_SC_lineOf_22 (by decide) rfl ?_
      refine g_aload_nV d_SC_lineOf_23 rfl ?_
      obtain ⟨H1, H2⟩ := H
      refine g_ifnonnull (tgt := 31) d_SC_lineOf_24 (by decide) (fun q_23 c_22 => ?_) (fun c_22 => ?_)
      · replace H2 := H2 q_23 c_22
        have H := H2
        show Go _ _ _ [some (.ref q0), some (.int x1), some (va_rf o_19)] [] _ _ _
        rw [show va_rf o_19 = Value.ref q_23 from by rw [c_22]; rfl]
        refine g_aload_n d_SC_lineOf_31 rfl ?_
        obtain ⟨z_24, H⟩ := H
        refine g_getR d_SC_lineOf_32 f_SC_173 z_24 (by decide) ?_
        refine g_msk [true, true, true] ?_
        exact okJ_SC_lineOf_35 H
      · replace H1 := H1 c_22
        have H := H1
        refine g_null d_SC_lineOf_27 ?_
        refine g_goto (tgt := 35) d_SC_lineOf_28 (by decide) ?_
        refine g_msk [true, true, true] ?_
        exact okJ_SC_lineOf_35 H
  · have H := H2 c_1
    refine g_aload_n d_SC_lineOf_5 rfl ?_
    obtain ⟨z_25, H⟩ := H
    refine g_getR d_SC_lineOf_6 f_SC_20 z_25 (by decide) ?_
    exact g_areturn (x := (hR h q0 1)) d_SC_lineOf_9 rfl (Or.inl ⟨_, rfl⟩) (Nat.le_refl _) (Nat.le_refl _) ⟨_, rfl, H⟩
set_option maxRecDepth 100000 in
set_option maxHeartbeats 4000000 in
def wJ_SC_sendUp_164 (G : Gx) (l : Launch) (d w mc ms : Nat) (P : Hp → Prop) (q0 : Nat) (q1 : Nat) (y2 : Int64) (x4 : Int32) (x5 : Int32) (x6 : Int32) (x7 : Int32) (x8 : Int32) (h : Hp) (k n : Nat) : Prop := (k ≤ mc ∧ n ≤ ms) ∧ (P h)
set_option maxRecDepth 100000 in
set_option maxHeartbeats 4000000 in
theorem okJ_SC_sendUp_164 {G : Gx} {l : Launch} {d w : Nat} {mc ms : Nat} {P : Hp → Prop} {p : Program} {e : Env} {s : State} {m : MethodId} {args : Array Value} {below : List Frame} {meth : Method} {c : Code} {q0 : Nat} {q1 : Nat} {y2 : Int64} {x4 : Int32} {x5 : Int32} {x6 : Int32} {x7 : Int32} {x8 : Int32} {h : Hp} {k n : Nat} (H : wJ_SC_sendUp_164 G l d w mc ms P  q0 q1 y2 x4 x5 x6 x7 x8 h k n) : Go M_SC_sendUp (mkX G (fun r h' => r = none ∧ P h') (d + 8) (w + 183) mc ms p l e s m args below meth c) 164 [some (.ref q0), some (.ref q1), some (.long y2), none, some (.int x4), some (.int x5), some (.int x6), some (.int x7), some (.int x8), none, none, none] [] h k n := by
  unfold wJ_SC_sendUp_164 at H
  obtain ⟨b_1, H⟩ := H
  exact g_return d_SC_sendUp_164 rfl b_1.1 b_1.2 ⟨rfl, H⟩
set_option maxRecDepth 100000 in
set_option maxHeartbeats 4000000 in
def wJ_SC_sendUp_122 (G : Gx) (l : Launch) (d w mc ms : Nat) (P : Hp → Prop) (C6 : Int32 → Int32 → Hp → Nat → Nat → Prop) (q0 : Nat) (q1 : Nat) (y2 : Int64) (x4 : Int32) (x5 : Int32) (x6 : Int32) (x7 : Int32) (x8 : Int32) (x9 : Int32) (x10 : Int32) (q11 : Nat) (h : Hp) (k n : Nat) : Prop := (hS h q0 = some (10, 0)) ∧ (∃ q_3 : Nat, (hR h q0 2) = some q_3 ∧ ((hS h q_3 = some (13, 0)) ∧ (∃ P_6 : Hp → Prop, (Cv G l M_Dr_pack (d + 4) (w + 82) [.ref q_3, .int x7, .int x9, .ref q11] h 0 0 P_6) ∧ ((k ≤ mc ∧ n ≤ ms) ∧ (∀ h_8 : Hp, P_6 h_8 → (hS h_8 q0 = some (10, 0)) ∧ (∃ q_14 : Nat, (hR h_8 q0 1) = some q_14 ∧ ((hS h_8 q_14 = some (11, 0)) ∧ (∃ mc_22 : Nat, ∃ ms_23 : Nat, ∃ P_17 : Hp → Prop, (Cv G l M_Li_append (d + 7) (w + 162) [.ref q_14, .ref q11] h_8 mc_22 ms_23 P_17) ∧ ((k + mc_22 ≤ mc ∧ n + ms_23 ≤ ms) ∧ (∀ h_19 : Hp, P_17 h_19 → ∀ x_26 : Int32, x_26 = x8 + 1 → C6 x9 x_26 h_19 (k + mc_22) (n + ms_23)))))))))))
set_option maxRecDepth 100000 in
set_option maxHeartbeats 4000000 in
theorem okJ_SC_sendUp_122 {G : Gx} {l : Launch} {d w : Nat} {mc ms : Nat} {P : Hp → Prop} {p : Program} {e : Env} {s : State} {m : MethodId} {args : Array Value} {below : List Frame} {meth : Method} {c : Code} {C6 : Int32 → Int32 → Hp → Nat → Nat → Prop} {q0 : Nat} {q1 : Nat} {y2 : Int64} {x4 : Int32} {x5 : Int32} {x6 : Int32} {x7 : Int32} {x8 : Int32} {x9 : Int32} {x10 : Int32} {q11 : Nat} (hC6 : ∀ (x7 : Int32) (x8 : Int32) (h : Hp) (k n : Nat), C6 x7 x8 h k n → Go M_SC_sendUp (mkX G (fun r h' => r = none ∧ P h') (d + 8) (w + 183) mc ms p l e s m args below meth c) 6 [some (.ref q0), some (.ref q1), some (.long y2), none, some (.int x4), some (.int x5), some (.int x6), some (.int x7), some (.int x8), none, none, none] [] h k n) {h : Hp} {k n : Nat} (H : wJ_SC_sendUp_122 G l d w mc ms P C6 q0 q1 y2 x4 x5 x6 x7 x8 x9 x10 q11 h k n) : Go M_SC_sendUp (mkX G (fun r h' => r = none ∧ P h') (d + 8) (w + 183) mc ms p l e s m args below meth c) 122 [some (.ref q0), some (.ref q1), some (.long y2), none, some (.int x4), some (.int x5), some (.int x6), some (.int x7), some (.int x8), some (.int x9), some (.int x10), some (.ref q11)] [] h k n := by
  unfold wJ_SC_sendUp_122 at H
  refine g_aload_n d_SC_sendUp_122 rfl ?_
  obtain ⟨z_2, H⟩ := H
  refine g_getR d_SC_sendUp_123 f_SC_27 z_2 (by decide) ?_
  refine g_iload d_SC_sendUp_126 rfl ?_
  refine g_iload d_SC_sendUp_128 rfl ?_
  refine g_aload d_SC_sendUp_130 rfl ?_
  obtain ⟨q_3, e_4, H⟩ := H
  show Go _ _ _ [some (.ref q0), some (.ref q1), some (.long y2), none, some (.int x4), some (.int x5), some (.int x6), some (.int x7), some (.int x8), some (.int x9), some (.int x10), some (.ref q11)] [.ref q11, .int x9, .int x7, va_rf (hR h q0 2)] _ _ _
  rw [show va_rf (hR h q0 2) = Value.ref q_3 from by rw [e_4]; rfl]
  obtain ⟨z_5, H⟩ := H
  obtain ⟨P_6, C_7, H⟩ := H
  obtain ⟨b_11, H⟩ := H
  refine q_V (As := [.int x7, .int x9, .ref q11]) (st := []) (nl := 8) d_SC_sendUp_132 v_SC_235 C_7 z_5 rfl (catS_le (Nat.le_of_ble_eq_true rfl)) rfl ⟨by omega, by omega, b_11.1, b_11.2⟩ (fun r_12 h_8 p_9 => ?_)
  obtain ⟨rfl, p_9⟩ := p_9
  replace H := H h_8 p_9
  show Go _ _ _ _ [] _ _ _
  refine g_aload_n d_SC_sendUp_135 rfl ?_
  obtain ⟨z_13, H⟩ := H
  refine g_getR d_SC_sendUp_136 f_SC_20 z_13 (by decide) ?_
  refine g_aload d_SC_sendUp_139 rfl ?_
  obtain ⟨q_14, e_15, H⟩ := H
  show Go _ _ _ [some (.ref q0), some (.ref q1), some (.long y2), none, some (.int x4), some (.int x5), some (.int x6), some (.int x7), some (.int x8), some (.int x9), some (.int x10), some (.ref q11)] [.ref q11, va_rf (hR h_8 q0 1)] _ _ _
  rw [show va_rf (hR h_8 q0 1) = Value.ref q_14 from by rw [e_15]; rfl]
  obtain ⟨z_16, H⟩ := H
  obtain ⟨mc_22, H⟩ := H
  obtain ⟨ms_23, H⟩ := H
  obtain ⟨P_17, C_18, H⟩ := H
  obtain ⟨b_24, H⟩ := H
  refine q_V (As := [.ref q11]) (st := []) (nl := 2) d_SC_sendUp_141 v_SC_167 C_18 z_16 rfl (catS_le (Nat.le_of_ble_eq_true rfl)) rfl ⟨by omega, by omega, b_24.1, b_24.2⟩ (fun r_25 h_19 p_20 => ?_)
  obtain ⟨rfl, p_20⟩ := p_20
  replace H := H h_19 p_20
  show Go _ _ _ _ [] _ _ _
  refine g_iload d_SC_sendUp_144 rfl ?_
  refine g_istore (lv' := [some (.ref q0), some (.ref q1), some (.long y2), none, some (.int x4), some (.int x5), some (.int x6), some (.int x9), some (.int x8), some (.int x9), some (.int x10), some (.ref q11)]) d_SC_sendUp_146 (by decide) rfl ?_
  obtain ⟨x_26, ex_26⟩ : ∃ z : Int32, z = x8 + 1 := ⟨_, rfl⟩
  replace H := H x_26 ex_26
  refine g_iinc (v := x_26) (lv' := [some (.ref q0), some (.ref q1), some (.long y2), none, some (.int x4), some (.int x5), some (.int x6), some (.int x9), some (.int x_26), some (.int x9), some (.int x10), some (.ref q11)]) d_SC_sendUp_148 rfl (by decide) (by rw [ex_26]; rfl) rfl ?_
  refine g_goto (tgt := 6) d_SC_sendUp_151 (by decide) ?_
  refine g_msk [true, true, true, false, true, true, true, true, true, false, false, false] ?_
  exact hC6 _ _ _ _ _ H
set_option maxRecDepth 100000 in
set_option maxHeartbeats 4000000 in
def wJ_SC_sendUp_63 (G : Gx) (l : Launch) (d w mc ms : Nat) (P : Hp → Prop) (C6 : Int32 → Int32 → Hp → Nat → Nat → Prop) (q0 : Nat) (q1 : Nat) (y2 : Int64) (x4 : Int32) (x5 : Int32) (x6 : Int32) (x7 : Int32) (x8 : Int32) (x9 : Int32) (sx0 : Int32) (sx1 : Int32) (h : Hp) (k n : Nat) : Prop := ∀ x_27 : Int32, x_27 = (sx1 + sx0) → (k + 1 ≤ mc ∧ n + 3 ≤ ms) ∧ (∀ q_28 : Nat, Fre h q_28 → ∃ P_31 : Int32 → Hp → Prop, (Ci G l M_Ro_submitSize (d + 1) (w + 24) [.long y2, .int x_27] (pN h q_28 (15, 0)) 0 0 P_31) ∧ (((k + 1) ≤ mc ∧ (n + 3) ≤ ms) ∧ (∀ (x_35 : Int32) (h_33 : Hp), P_31 x_35 h_33 → ∃ mc_43 : Nat, ∃ ms_44 : Nat, ∃ P_38 : Hp → Prop, (Cv G l M_Ro_init (d + 1) (w + 20) [.ref q_28, .int x_35, .ref q1] h_33 mc_43 ms_44 P_38) ∧ (((k + 1) + mc_43 ≤ mc ∧ (n + 3) + ms_44 ≤ ms) ∧ (∀ h_40 : Hp, P_38 h_40 → (hS h_40 q1 = some (14, 0)) ∧ (∃ P_48 : Int32 → Hp → Prop, (Ci G l M_De_nextMessageNumber (d + 0) (w + 0) [.ref q1] h_40 0 0 P_48) ∧ ((((k + 1) + mc_43) ≤ mc ∧ ((n + 3) + ms_44) ≤ ms) ∧ (∀ (x_52 : Int32) (h_50 : Hp), P_48 x_52 h_50 → (hS h_50 q_28 = some (15, 0)) ∧ (∃ P_56 : Hp → Prop, (Cv G l M_Ro_putSubmitHead (d + 4) (w + 93) [.ref q_28, .int x5, .int x_52, .long y2, .int x4] h_50 0 0 P_56) ∧ ((((k + 1) + mc_43) ≤ mc ∧ ((n + 3) + ms_44) ≤ ms) ∧ (∀ h_58 : Hp, P_56 h_58 → (hS h_58 q_28 = some (15, 0)) ∧ (∃ P_64 : Hp → Prop, (Cv G l M_Ro_put (d + 1) (w + 21) [.ref q_28, .int x_27] h_58 0 0 P_64) ∧ ((((k + 1) + mc_43) ≤ mc ∧ ((n + 3) + ms_44) ≤ ms) ∧ (∀ h_66 : Hp, P_64 h_66 → (x6 ≤ 1 → wJ_SC_sendUp_122 G l d w mc ms P C6 q0 q1 y2 x4 x5 x6 x7 x8 x9 x_27 q_28 h_66 ((k + 1) + mc_43) ((n + 3) + ms_44)) ∧ (¬ x6 ≤ 1 → (hS h_66 q1 = some (14, 0)) ∧ ((hS h_66 q_28 = some (15, 0)) ∧ (∃ P_74 : Hp → Prop, (Cv G l M_Ro_putHeader (d + 2) (w + 42) [.ref q_28, .int (hI h_66 q1 4), .int x6, .int x8] h_66 0 0 P_74) ∧ ((((k + 1) + mc_43) ≤ mc ∧ ((n + 3) + ms_44) ≤ ms) ∧ (∀ h_76 : Hp, P_74 h_76 → wJ_SC_sendUp_122 G l d w mc ms P C6 q0 q1 y2 x4 x5 x6 x7 x8 x9 x_27 q_28 h_76 ((k + 1) + mc_43) ((n + 3) + ms_44))))))))))))))))))))
set_option maxRecDepth 100000 in
set_option maxHeartbeats 4000000 in
theorem okJ_SC_sendUp_63 {G : Gx} {l : Launch} {d w : Nat} {mc ms : Nat} {P : Hp → Prop} {p : Program} {e : Env} {s : State} {m : MethodId} {args : Array Value} {below : List Frame} {meth : Method} {c : Code} {C6 : Int32 → Int32 → Hp → Nat → Nat → Prop} {q0 : Nat} {q1 : Nat} {y2 : Int64} {x4 : Int32} {x5 : Int32} {x6 : Int32} {x7 : Int32} {x8 : Int32} {x9 : Int32} {sx0 : Int32} {sx1 : Int32} (hC6 : ∀ (x7 : Int32) (x8 : Int32) (h : Hp) (k n : Nat), C6 x7 x8 h k n → Go M_SC_sendUp (mkX G (fun r h' => r = none ∧ P h') (d + 8) (w + 183) mc ms p l e s m args below meth c) 6 [some (.ref q0), some (.ref q1), some (.long y2), none, some (.int x4), some (.int x5), some (.int x6), some (.int x7), some (.int x8), none, none, none] [] h k n) {h : Hp} {k n : Nat} (H : wJ_SC_sendUp_63 G l d w mc ms P C6 q0 q1 y2 x4 x5 x6 x7 x8 x9 sx0 sx1 h k n) : Go M_SC_sendUp (mkX G (fun r h' => r = none ∧ P h') (d + 8) (w + 183) mc ms p l e s m args below meth c) 63 [some (.ref q0), some (.ref q1), some (.long y2), none, some (.int x4), some (.int x5), some (.int x6), some (.int x7), some (.int x8), some (.int x9), none, none] [.int sx0, .int sx1] h k n := by
  unfold wJ_SC_sendUp_63 at H
  refine g_iadd d_SC_sendUp_63 ?_
  refine g_topi (fun x_27 ex_27 => ?_)
  replace H := H x_27 ex_27
  refine g_istore (lv' := [some (.ref q0), some (.ref q1), some (.long y2), none, some (.int x4), some (.int x5), some (.int x6), some (.int x7), some (.int x8), some (.int x9), some (.int x_27), none]) d_SC_sendUp_64 (by decide) rfl ?_
  obtain ⟨b_29, H⟩ := H
  refine g_new d_SC_sendUp_66 (ci := 5) rfl k_SC_84 kI_5 kJ_5 b_29.1 b_29.2 (fun q_28 Fq_28 => ?_)
  replace H := H q_28 Fq_28
  have z_30 : hS (pN h q_28 (15, 0)) q_28 = some (15, 0) := Fre.new
  refine g_dup d_SC_sendUp_69 rfl ?_
  refine g_lload_n d_SC_sendUp_70 rfl ?_
  refine g_iload d_SC_sendUp_71 rfl ?_
  obtain ⟨P_31, C_32, H⟩ := H
  obtain ⟨b_36, H⟩ := H
  refine q_S (As := [.long y2, .int x_27]) (st := [.ref q_28, .ref q_28]) (nl := 3) d_SC_sendUp_73 v_SC_211 C_32 rfl (catS_le (Nat.le_of_ble_eq_true rfl)) rfl ⟨by omega, by omega, b_36.1, b_36.2⟩ (fun r_37 h_33 p_34 => ?_)
  obtain ⟨x_35, rfl, p_34⟩ := p_34
  replace H := H x_35 h_33 p_34
  show Go _ _ _ _ [.int x_35, .ref q_28, .ref q_28] _ _ _
  refine g_aload_n d_SC_sendUp_76 rfl ?_
  obtain ⟨mc_43, H⟩ := H
  obtain ⟨ms_44, H⟩ := H
  obtain ⟨P_38, C_39, H⟩ := H
  obtain ⟨b_45, H⟩ := H
  refine q_I (As := [.int x_35, .ref q1]) (st := [.ref q_28]) (nl := 3) d_SC_sendUp_77 v_SC_215 C_39 rfl (catS_le (Nat.le_of_ble_eq_true rfl)) rfl ⟨by omega, by omega, b_45.1, b_45.2⟩ (fun r_46 h_40 p_41 => ?_)
  obtain ⟨rfl, p_41⟩ := p_41
  replace H := H h_40 p_41
  show Go _ _ _ _ [.ref q_28] _ _ _
  refine g_astore (lv' := [some (.ref q0), some (.ref q1), some (.long y2), none, some (.int x4), some (.int x5), some (.int x6), some (.int x7), some (.int x8), some (.int x9), some (.int x_27), some (.ref q_28)]) d_SC_sendUp_80 (by decide) rfl ?_
  refine g_aload d_SC_sendUp_82 rfl ?_
  refine g_iload d_SC_sendUp_84 rfl ?_
  refine g_aload_n d_SC_sendUp_86 rfl ?_
  obtain ⟨z_47, H⟩ := H
  obtain ⟨P_48, C_49, H⟩ := H
  obtain ⟨b_53, H⟩ := H
  refine q_V (As := []) (st := [.int x5, .ref q_28]) (nl := 2) d_SC_sendUp_87 v_SC_218 C_49 z_47 rfl (catS_le (Nat.le_of_ble_eq_true rfl)) rfl ⟨by omega, by omega, b_53.1, b_53.2⟩ (fun r_54 h_50 p_51 => ?_)
  obtain ⟨x_52, rfl, p_51⟩ := p_51
  replace H := H x_52 h_50 p_51
  show Go _ _ _ _ [.int x_52, .int x5, .ref q_28] _ _ _
  refine g_lload_n d_SC_sendUp_90 rfl ?_
  refine g_iload d_SC_sendUp_91 rfl ?_
  obtain ⟨z_55, H⟩ := H
  obtain ⟨P_56, C_57, H⟩ := H
  obtain ⟨b_61, H⟩ := H
  refine q_V (As := [.int x5, .int x_52, .long y2, .int x4]) (st := []) (nl := 6) d_SC_sendUp_93 v_SC_221 C_57 z_55 rfl (catS_le (Nat.le_of_ble_eq_true rfl)) rfl ⟨by omega, by omega, b_61.1, b_61.2⟩ (fun r_62 h_58 p_59 => ?_)
  obtain ⟨rfl, p_59⟩ := p_59
  replace H := H h_58 p_59
  show Go _ _ _ _ [] _ _ _
  refine g_aload d_SC_sendUp_96 rfl ?_
  refine g_iload d_SC_sendUp_98 rfl ?_
  obtain ⟨z_63, H⟩ := H
  obtain ⟨P_64, C_65, H⟩ := H
  obtain ⟨b_69, H⟩ := H
  refine q_V (As := [.int x_27]) (st := []) (nl := 2) d_SC_sendUp_100 v_SC_225 C_65 z_63 rfl (catS_le (Nat.le_of_ble_eq_true rfl)) rfl ⟨by omega, by omega, b_69.1, b_69.2⟩ (fun r_70 h_66 p_67 => ?_)
  obtain ⟨rfl, p_67⟩ := p_67
  replace H := H h_66 p_67
  show Go _ _ _ _ [] _ _ _
  refine g_iload d_SC_sendUp_103 rfl ?_
  refine g_iconst (v := 1) d_SC_sendUp_105 (by decide) ?_
  obtain ⟨H1, H2⟩ := H
  refine g_icmp_le (tgt := 122) d_SC_sendUp_106 (by decide) (fun c_71 => ?_) (fun c_71 => ?_)
  · have H := H1 c_71
    refine g_msk [true, true, true, false, true, true, true, true, true, true, true, true] ?_
    exact okJ_SC_sendUp_122 hC6 H
  · have H := H2 c_71
    refine g_aload d_SC_sendUp_109 rfl ?_
    refine g_aload_n d_SC_sendUp_111 rfl ?_
    obtain ⟨z_72, H⟩ := H
    refine g_getI d_SC_sendUp_112 f_SC_228 z_72 ?_
    refine g_iload d_SC_sendUp_115 rfl ?_
    refine g_iload d_SC_sendUp_117 rfl ?_
    obtain ⟨z_73, H⟩ := H
    obtain ⟨P_74, C_75, H⟩ := H
    obtain ⟨b_79, H⟩ := H
    refine q_V (As := [.int (hI h_66 q1 4), .int x6, .int x8]) (st := []) (nl := 4) d_SC_sendUp_119 v_SC_231 C_75 z_73 rfl (catS_le (Nat.le_of_ble_eq_true rfl)) rfl ⟨by omega, by omega, b_79.1, b_79.2⟩ (fun r_80 h_76 p_77 => ?_)
    obtain ⟨rfl, p_77⟩ := p_77
    replace H := H h_76 p_77
    show Go _ _ _ _ [] _ _ _
    refine g_msk [true, true, true, false, true, true, true, true, true, true, true, true] ?_
    exact okJ_SC_sendUp_122 hC6 H
set_option maxRecDepth 100000 in
set_option maxHeartbeats 4000000 in
def wJ_SC_sendUp_38 (G : Gx) (l : Launch) (d w mc ms : Nat) (P : Hp → Prop) (C6 : Int32 → Int32 → Hp → Nat → Nat → Prop) (q0 : Nat) (q1 : Nat) (y2 : Int64) (x4 : Int32) (x5 : Int32) (x6 : Int32) (x7 : Int32) (x8 : Int32) (sx0 : Int32) (h : Hp) (k n : Nat) : Prop := (hS h q0 = some (10, 0)) ∧ (∃ q_82 : Nat, (hR h q0 2) = some q_82 ∧ ((hS h q_82 = some (13, 0)) ∧ (∃ P_85 : Int32 → Hp → Prop, (Ci G l M_Dr_septets (d + 1) (w + 20) [.ref q_82, .int x7, .int sx0] h 0 0 P_85) ∧ ((k ≤ mc ∧ n ≤ ms) ∧ (∀ (x_89 : Int32) (h_87 : Hp), P_85 x_89 h_87 → (¬ x6 = 1 → wJ_SC_sendUp_63 G l d w mc ms P C6 q0 q1 y2 x4 x5 x6 x7 x8 sx0 7 x_89 h_87 k n) ∧ (x6 = 1 → wJ_SC_sendUp_63 G l d w mc ms P C6 q0 q1 y2 x4 x5 x6 x7 x8 sx0 0 x_89 h_87 k n))))))
set_option maxRecDepth 100000 in
set_option maxHeartbeats 4000000 in
theorem okJ_SC_sendUp_38 {G : Gx} {l : Launch} {d w : Nat} {mc ms : Nat} {P : Hp → Prop} {p : Program} {e : Env} {s : State} {m : MethodId} {args : Array Value} {below : List Frame} {meth : Method} {c : Code} {C6 : Int32 → Int32 → Hp → Nat → Nat → Prop} {q0 : Nat} {q1 : Nat} {y2 : Int64} {x4 : Int32} {x5 : Int32} {x6 : Int32} {x7 : Int32} {x8 : Int32} {sx0 : Int32} (hC6 : ∀ (x7 : Int32) (x8 : Int32) (h : Hp) (k n : Nat), C6 x7 x8 h k n → Go M_SC_sendUp (mkX G (fun r h' => r = none ∧ P h') (d + 8) (w + 183) mc ms p l e s m args below meth c) 6 [some (.ref q0), some (.ref q1), some (.long y2), none, some (.int x4), some (.int x5), some (.int x6), some (.int x7), some (.int x8), none, none, none] [] h k n) {h : Hp} {k n : Nat} (H : wJ_SC_sendUp_38 G l d w mc ms P C6 q0 q1 y2 x4 x5 x6 x7 x8 sx0 h k n) : Go M_SC_sendUp (mkX G (fun r h' => r = none ∧ P h') (d + 8) (w + 183) mc ms p l e s m args below meth c) 38 [some (.ref q0), some (.ref q1), some (.long y2), none, some (.int x4), some (.int x5), some (.int x6), some (.int x7), some (.int x8), none, none, none] [.int sx0] h k n := by
  unfold wJ_SC_sendUp_38 at H
  refine g_istore (lv' := [some (.ref q0), some (.ref q1), some (.long y2), none, some (.int x4), some (.int x5), some (.int x6), some (.int x7), some (.int x8), some (.int sx0), none, none]) d_SC_sendUp_38 (by decide) rfl ?_
  refine g_aload_n d_SC_sendUp_40 rfl ?_
  obtain ⟨z_81, H⟩ := H
  refine g_getR d_SC_sendUp_41 f_SC_27 z_81 (by decide) ?_
  refine g_iload d_SC_sendUp_44 rfl ?_
  refine g_iload d_SC_sendUp_46 rfl ?_
  obtain ⟨q_82, e_83, H⟩ := H
  show Go _ _ _ [some (.ref q0), some (.ref q1), some (.long y2), none, some (.int x4), some (.int x5), some (.int x6), some (.int x7), some (.int x8), some (.int sx0), none, none] [.int sx0, .int x7, va_rf (hR h q0 2)] _ _ _
  rw [show va_rf (hR h q0 2) = Value.ref q_82 from by rw [e_83]; rfl]
  obtain ⟨z_84, H⟩ := H
  obtain ⟨P_85, C_86, H⟩ := H
  obtain ⟨b_90, H⟩ := H
  refine q_V (As := [.int x7, .int sx0]) (st := []) (nl := 5) d_SC_sendUp_48 v_SC_207 C_86 z_84 rfl (catS_le (Nat.le_of_ble_eq_true rfl)) rfl ⟨by omega, by omega, b_90.1, b_90.2⟩ (fun r_91 h_87 p_88 => ?_)
  obtain ⟨x_89, rfl, p_88⟩ := p_88
  replace H := H x_89 h_87 p_88
  show Go _ _ _ _ [.int x_89] _ _ _
  refine g_iload d_SC_sendUp_51 rfl ?_
  refine g_iconst (v := 1) d_SC_sendUp_53 (by decide) ?_
  obtain ⟨H1, H2⟩ := H
  refine g_icmp_ne (tgt := 61) d_SC_sendUp_54 (by decide) (fun c_92 => ?_) (fun c_92 => ?_)
  · have H := H1 c_92
    refine g_bipush (v := 7) d_SC_sendUp_61 (by decide) ?_
    refine g_msk [true, true, true, false, true, true, true, true, true, true, false, false] ?_
    exact okJ_SC_sendUp_63 hC6 H
  · have H := H2 c_92
    refine g_iconst (v := 0) d_SC_sendUp_57 (by decide) ?_
    refine g_goto (tgt := 63) d_SC_sendUp_58 (by decide) ?_
    refine g_msk [true, true, true, false, true, true, true, true, true, true, false, false] ?_
    exact okJ_SC_sendUp_63 hC6 H
set_option maxRecDepth 100000 in
set_option maxHeartbeats 4000000 in
def wB_SC_sendUp_6 (G : Gx) (l : Launch) (d w mc ms : Nat) (P : Hp → Prop) (C6 : Int32 → Int32 → Hp → Nat → Nat → Prop) (q0 : Nat) (q1 : Nat) (y2 : Int64) (x4 : Int32) (x5 : Int32) (x6 : Int32) (x7 : Int32) (x8 : Int32) (h : Hp) (k n : Nat) : Prop := (x6 < x8 → (x6 ≤ 1 → wJ_SC_sendUp_164 G l d w mc ms P q0 q1 y2 x4 x5 x6 x7 x8 h k n) ∧ (¬ x6 ≤ 1 → (hS h q1 = some (14, 0)) ∧ (∃ P_96 : Hp → Prop, (Cv G l M_De_countReference (d + 0) (w + 0) [.ref q1] h 0 0 P_96) ∧ ((k ≤ mc ∧ n ≤ ms) ∧ (∀ h_98 : Hp, P_96 h_98 → wJ_SC_sendUp_164 G l d w mc ms P q0 q1 y2 x4 x5 x6 x7 x8 h_98 k n))))) ∧ (¬ x6 < x8 → (¬ x6 = 1 → (hS h q0 = some (10, 0)) ∧ (∃ q_105 : Nat, (hR h q0 2) = some q_105 ∧ ((hS h q_105 = some (13, 0)) ∧ (∃ P_108 : Int32 → Hp → Prop, (Ci G l M_Dr_partEnd (d + 1) (w + 20) [.ref q_105, .int x7] h 0 0 P_108) ∧ ((k ≤ mc ∧ n ≤ ms) ∧ (∀ (x_112 : Int32) (h_110 : Hp), P_108 x_112 h_110 → wJ_SC_sendUp_38 G l d w mc ms P C6 q0 q1 y2 x4 x5 x6 x7 x8 x_112 h_110 k n)))))) ∧ (x6 = 1 → (hS h q0 = some (10, 0)) ∧ (∃ q_116 : Nat, (hR h q0 2) = some q_116 ∧ ((hS h q_116 = some (13, 0)) ∧ (wJ_SC_sendUp_38 G l d w mc ms P C6 q0 q1 y2 x4 x5 x6 x7 x8 (hI h q_116 1) h k n)))))
set_option maxRecDepth 100000 in
set_option maxHeartbeats 4000000 in
theorem okB_SC_sendUp_6 {G : Gx} {l : Launch} {d w : Nat} {mc ms : Nat} {P : Hp → Prop} {p : Program} {e : Env} {s : State} {m : MethodId} {args : Array Value} {below : List Frame} {meth : Method} {c : Code} {C6 : Int32 → Int32 → Hp → Nat → Nat → Prop} {q0 : Nat} {q1 : Nat} {y2 : Int64} {x4 : Int32} {x5 : Int32} {x6 : Int32} {x7 : Int32} {x8 : Int32} (hC6 : ∀ (x7 : Int32) (x8 : Int32) (h : Hp) (k n : Nat), C6 x7 x8 h k n → Go M_SC_sendUp (mkX G (fun r h' => r = none ∧ P h') (d + 8) (w + 183) mc ms p l e s m args below meth c) 6 [some (.ref q0), some (.ref q1), some (.long y2), none, some (.int x4), some (.int x5), some (.int x6), some (.int x7), some (.int x8), none, none, none] [] h k n) {h : Hp} {k n : Nat} (H : wB_SC_sendUp_6 G l d w mc ms P C6 q0 q1 y2 x4 x5 x6 x7 x8 h k n) : Go M_SC_sendUp (mkX G (fun r h' => r = none ∧ P h') (d + 8) (w + 183) mc ms p l e s m args below meth c) 6 [some (.ref q0), some (.ref q1), some (.long y2), none, some (.int x4), some (.int x5), some (.int x6), some (.int x7), some (.int x8), none, none, none] [] h k n := by
  unfold wB_SC_sendUp_6 at H
  refine g_iload d_SC_sendUp_6 rfl ?_
  refine g_iload d_SC_sendUp_8 rfl ?_
  obtain ⟨H1, H2⟩ := H
  refine g_icmp_gt (tgt := 154) d_SC_sendUp_10 (by decide) (fun c_93 => ?_) (fun c_93 => ?_)
  · have H := H1 c_93
    refine g_iload d_SC_sendUp_154 rfl ?_
    refine g_iconst (v := 1) d_SC_sendUp_156 (by decide) ?_
    obtain ⟨H1, H2⟩ := H
    refine g_icmp_le (tgt := 164) d_SC_sendUp_157 (by decide) (fun c_94 => ?_) (fun c_94 => ?_)
    · have H := H1 c_94
      refine g_msk [true, true, true, false, true, true, true, true, true, false, false, false] ?_
      exact okJ_SC_sendUp_164 H
    · have H := H2 c_94
      refine g_aload_n d_SC_sendUp_160 rfl ?_
      obtain ⟨z_95, H⟩ := H
      obtain ⟨P_96, C_97, H⟩ := H
      obtain ⟨b_101, H⟩ := H
      refine q_V (As := []) (st := []) (nl := 1) d_SC_sendUp_161 v_SC_239 C_97 z_95 rfl (catS_le (Nat.le_of_ble_eq_true rfl)) rfl ⟨by omega, by omega, b_101.1, b_101.2⟩ (fun r_102 h_98 p_99 => ?_)
      obtain ⟨rfl, p_99⟩ := p_99
      replace H := H h_98 p_99
      show Go _ _ _ _ [] _ _ _
      refine g_msk [true, true, true, false, true, true, true, true, true, false, false, false] ?_
      exact okJ_SC_sendUp_164 H
  · have H := H2 c_93
    refine g_iload d_SC_sendUp_13 rfl ?_
    refine g_iconst (v := 1) d_SC_sendUp_15 (by decide) ?_
    obtain ⟨H1, H2⟩ := H
    refine g_icmp_ne (tgt := 29) d_SC_sendUp_16 (by decide) (fun c_103 => ?_) (fun c_103 => ?_)
    · have H := H1 c_103
      refine g_aload_n d_SC_sendUp_29 rfl ?_
      obtain ⟨z_104, H⟩ := H
      refine g_getR d_SC_sendUp_30 f_SC_27 z_104 (by decide) ?_
      refine g_iload d_SC_sendUp_33 rfl ?_
      obtain ⟨q_105, e_106, H⟩ := H
      show Go _ _ _ [some (.ref q0), some (.ref q1), some (.long y2), none, some (.int x4), some (.int x5), some (.int x6), some (.int x7), some (.int x8), none, none, none] [.int x7, va_rf (hR h q0 2)] _ _ _
      rw [show va_rf (hR h q0 2) = Value.ref q_105 from by rw [e_106]; rfl]
      obtain ⟨z_107, H⟩ := H
      obtain ⟨P_108, C_109, H⟩ := H
      obtain ⟨b_113, H⟩ := H
      refine q_V (As := [.int x7]) (st := []) (nl := 4) d_SC_sendUp_35 v_SC_204 C_109 z_107 rfl (catS_le (Nat.le_of_ble_eq_true rfl)) rfl ⟨by omega, by omega, b_113.1, b_113.2⟩ (fun r_114 h_110 p_111 => ?_)
      obtain ⟨x_112, rfl, p_111⟩ := p_111
      replace H := H x_112 h_110 p_111
      show Go _ _ _ _ [.int x_112] _ _ _
      refine g_msk [true, true, true, false, true, true, true, true, true, false, false, false] ?_
      exact okJ_SC_sendUp_38 hC6 H
    · have H := H2 c_103
      refine g_aload_n d_SC_sendUp_19 rfl ?_
      obtain ⟨z_115, H⟩ := H
      refine g_getR d_SC_sendUp_20 f_SC_27 z_115 (by decide) ?_
      obtain ⟨q_116, e_117, H⟩ := H
      refine g_eqr e_117 ?_
      obtain ⟨z_118, H⟩ := H
      refine g_getI d_SC_sendUp_23 f_SC_72 z_118 ?_
      refine g_goto (tgt := 38) d_SC_sendUp_26 (by decide) ?_
      refine g_msk [true, true, true, false, true, true, true, true, true, false, false, false] ?_
      exact okJ_SC_sendUp_38 hC6 H
set_option maxRecDepth 100000 in
set_option maxHeartbeats 4000000 in
def wL_SC_sendUp_6 (G : Gx) (l : Launch) (d w mc ms : Nat) (P : Hp → Prop) (q0 : Nat) (q1 : Nat) (y2 : Int64) (x4 : Int32) (x5 : Int32) (x6 : Int32) (x7 : Int32) (x8 : Int32) (h : Hp) (k n : Nat) : Prop := ∃ (I : Int32 → Int32 → Hp → Nat → Nat → Prop) (μ : Int32 → Int32 → Hp → Nat → Nat → Nat), I x7 x8 h k n ∧ ∀ (x7' : Int32) (x8' : Int32) (h' : Hp) (k' n' : Nat), I x7' x8' h' k' n' → wB_SC_sendUp_6 G l d w mc ms P (fun x7_ x8_ h_ k_ n_ => I x7_ x8_ h_ k_ n_ ∧ μ x7_ x8_ h_ k_ n_ < μ x7' x8' h' k' n') q0 q1 y2 x4 x5 x6 x7' x8' h' k' n'
set_option maxRecDepth 100000 in
set_option maxHeartbeats 4000000 in
theorem okL_SC_sendUp_6 {G : Gx} {l : Launch} {d w : Nat} {mc ms : Nat} {P : Hp → Prop} {p : Program} {e : Env} {s : State} {m : MethodId} {args : Array Value} {below : List Frame} {meth : Method} {c : Code} {q0 : Nat} {q1 : Nat} {y2 : Int64} {x4 : Int32} {x5 : Int32} {x6 : Int32} {x7 : Int32} {x8 : Int32} {h : Hp} {k n : Nat} (H : wL_SC_sendUp_6 G l d w mc ms P  q0 q1 y2 x4 x5 x6 x7 x8 h k n) : Go M_SC_sendUp (mkX G (fun r h' => r = none ∧ P h') (d + 8) (w + 183) mc ms p l e s m args below meth c) 6 [some (.ref q0), some (.ref q1), some (.long y2), none, some (.int x4), some (.int x5), some (.int x6), some (.int x7), some (.int x8), none, none, none] [] h k n := by
  obtain ⟨I, μ, h0, hs⟩ := H
  have key : ∀ (N : Nat) (x7 : Int32) (x8 : Int32) (h : Hp) (k n : Nat), I x7 x8 h k n → μ x7 x8 h k n < N → Go M_SC_sendUp (mkX G (fun r h' => r = none ∧ P h') (d + 8) (w + 183) mc ms p l e s m args below meth c) 6 [some (.ref q0), some (.ref q1), some (.long y2), none, some (.int x4), some (.int x5), some (.int x6), some (.int x7), some (.int x8), none, none, none] [] h k n := by
    intro N
    induction N with
    | zero => intro x7 x8 h k n _ hN; exact absurd hN (Nat.not_lt_zero _)
    | succ N ih =>
      intro x7 x8 h k n hI hN
      exact okB_SC_sendUp_6 (fun x7_ x8_ h_ k_ n_ hh => ih x7_ x8_ h_ k_ n_ hh.1 (Nat.lt_of_lt_of_le hh.2 (Nat.le_of_lt_succ hN))) (hs x7 x8 h k n hI)
  exact key _ _ _ _ _ _ h0 (Nat.lt_succ_self _)
set_option maxRecDepth 100000 in
set_option maxHeartbeats 4000000 in
def wp_SC_sendUp (G : Gx) (l : Launch) (d w mc ms : Nat) (P : Hp → Prop) (q0 : Nat) (q1 : Nat) (y2 : Int64) (x4 : Int32) (x5 : Int32) (x6 : Int32) (h : Hp) : Prop := wL_SC_sendUp_6 G l d w mc ms P q0 q1 y2 x4 x5 x6 0 1 h 0 0
set_option maxRecDepth 100000 in
set_option maxHeartbeats 4000000 in
theorem ok_SC_sendUp {G : Gx} {l : Launch} {d w : Nat} {mc ms : Nat} {P : Hp → Prop} {q0 : Nat} {q1 : Nat} {y2 : Int64} {x4 : Int32} {x5 : Int32} {x6 : Int32} {h : Hp} (H : wp_SC_sendUp G l d w mc ms P q0 q1 y2 x4 x5 x6 h) : Cv G l M_SC_sendUp (d + 8) (w + 183) [.ref q0, .ref q1, .long y2, .int x4, .int x5, .int x6] h mc ms P := by
  unfold wp_SC_sendUp at H
  refine Ct.of (lv := [some (.ref q0), some (.ref q1), some (.long y2), none, some (.int x4), some (.int x5), some (.int x6), none, none, none, none, none]) (by decide) (Nat.le_of_ble_eq_true rfl) rfl (fun p e s m args below meth c => ?_)
  refine g_iconst (v := 0) d_SC_sendUp_0 (by decide) ?_
  refine g_istore (lv' := [some (.ref q0), some (.ref q1), some (.long y2), none, some (.int x4), some (.int x5), some (.int x6), some (.int 0), none, none, none, none]) d_SC_sendUp_1 (by decide) rfl ?_
  refine g_iconst (v := 1) d_SC_sendUp_3 (by decide) ?_
  refine g_istore (lv' := [some (.ref q0), some (.ref q1), some (.long y2), none, some (.int x4), some (.int x5), some (.int x6), some (.int 0), some (.int 1), none, none, none]) d_SC_sendUp_4 (by decide) rfl ?_
  refine g_msk [true, true, true, false, true, true, true, true, true, false, false, false] ?_
  exact okL_SC_sendUp_6 H
set_option maxRecDepth 100000 in
set_option maxHeartbeats 4000000 in
def wJ_SC_earliestPlace_52 (G : Gx) (l : Launch) (d w : Nat) (P : Int32 → Hp → Prop) (C4 : Int32 → Int32 → Hp → Prop) (q0 : Nat) (x1 : Int32) (x2 : Int32) (h : Hp)  : Prop := ∀ x_1 : Int32, x_1 = x2 + 1 → C4 x1 x_1 h
set_option maxRecDepth 100000 in
set_option maxHeartbeats 4000000 in
theorem okJ_SC_earliestPlace_52 {G : Gx} {l : Launch} {d w : Nat} {P : Int32 → Hp → Prop} {p : Program} {e : Env} {s : State} {m : MethodId} {args : Array Value} {below : List Frame} {meth : Method} {c : Code} {C4 : Int32 → Int32 → Hp → Prop} {q0 : Nat} {x1 : Int32} {x2 : Int32} (hC4 : ∀ (x1 : Int32) (x2 : Int32) (h : Hp), C4 x1 x2 h → Go M_SC_earliestPlace (mkX G (fun r h' => ∃ x, r = some (.int x) ∧ P x h') (d + 4) (w + 94) 0 0 p l e s m args below meth c) 4 [some (.ref q0), some (.int x1), some (.int x2)] [] h 0 0) {h : Hp}  (H : wJ_SC_earliestPlace_52 G l d w P C4 q0 x1 x2 h ) : Go M_SC_earliestPlace (mkX G (fun r h' => ∃ x, r = some (.int x) ∧ P x h') (d + 4) (w + 94) 0 0 p l e s m args below meth c) 52 [some (.ref q0), some (.int x1), some (.int x2)] [] h 0 0 := by
  unfold wJ_SC_earliestPlace_52 at H
  obtain ⟨x_1, ex_1⟩ : ∃ z : Int32, z = x2 + 1 := ⟨_, rfl⟩
  replace H := H x_1 ex_1
  refine g_iinc (v := x_1) (lv' := [some (.ref q0), some (.int x1), some (.int x_1)]) d_SC_earliestPlace_52 rfl (by decide) (by rw [ex_1]; rfl) rfl ?_
  refine g_goto (tgt := 4) d_SC_earliestPlace_55 (by decide) ?_
  refine g_msk [true, true, true] ?_
  exact hC4 _ _ _ H
set_option maxRecDepth 100000 in
set_option maxHeartbeats 4000000 in
def wJ_SC_earliestPlace_50 (G : Gx) (l : Launch) (d w : Nat) (P : Int32 → Hp → Prop) (C4 : Int32 → Int32 → Hp → Prop) (q0 : Nat) (x1 : Int32) (x2 : Int32) (h : Hp)  : Prop := wJ_SC_earliestPlace_52 G l d w P C4 q0 x2 x2 h
set_option maxRecDepth 100000 in
set_option maxHeartbeats 4000000 in
theorem okJ_SC_earliestPlace_50 {G : Gx} {l : Launch} {d w : Nat} {P : Int32 → Hp → Prop} {p : Program} {e : Env} {s : State} {m : MethodId} {args : Array Value} {below : List Frame} {meth : Method} {c : Code} {C4 : Int32 → Int32 → Hp → Prop} {q0 : Nat} {x1 : Int32} {x2 : Int32} (hC4 : ∀ (x1 : Int32) (x2 : Int32) (h : Hp), C4 x1 x2 h → Go M_SC_earliestPlace (mkX G (fun r h' => ∃ x, r = some (.int x) ∧ P x h') (d + 4) (w + 94) 0 0 p l e s m args below meth c) 4 [some (.ref q0), some (.int x1), some (.int x2)] [] h 0 0) {h : Hp}  (H : wJ_SC_earliestPlace_50 G l d w P C4 q0 x1 x2 h ) : Go M_SC_earliestPlace (mkX G (fun r h' => ∃ x, r = some (.int x) ∧ P x h') (d + 4) (w + 94) 0 0 p l e s m args below meth c) 50 [some (.ref q0), some (.int x1), some (.int x2)] [] h 0 0 := by
  unfold wJ_SC_earliestPlace_50 at H
  refine g_iload_n d_SC_earliestPlace_50 rfl ?_
  refine g_istore_n (lv' := [some (.ref q0), some (.int x2), some (.int x2)]) d_SC_earliestPlace_51 (by decide) rfl ?_
  refine g_msk [true, true, true] ?_
  exact okJ_SC_earliestPlace_52 hC4 H
set_option maxRecDepth 100000 in
set_option maxHeartbeats 4000000 in
def wB_SC_earliestPlace_4 (G : Gx) (l : Launch) (d w : Nat) (P : Int32 → Hp → Prop) (C4 : Int32 → Int32 → Hp → Prop) (q0 : Nat) (x1 : Int32) (x2 : Int32) (h : Hp)  : Prop := (hS h q0 = some (10, 0)) ∧ (∃ q_3 : Nat, (hR h q0 4) = some q_3 ∧ ((hS h q_3 = some (12, 0)) ∧ (∃ P_6 : Int32 → Hp → Prop, (Ci G l M_AL_size (d + 0) (w + 0) [.ref q_3] h 0 0 P_6) ∧ (∀ (x_10 : Int32) (h_8 : Hp), P_6 x_10 h_8 → (x_10 ≤ x2 → P x1 h_8) ∧ (¬ x_10 ≤ x2 → (x1 < 0 → wJ_SC_earliestPlace_50 G l d w P C4 q0 x1 x2 h_8) ∧ (¬ x1 < 0 → (hS h_8 q0 = some (10, 0)) ∧ (∃ q_16 : Nat, (hR h_8 q0 4) = some q_16 ∧ ((hS h_8 q_16 = some (12, 0)) ∧ (∃ P_19 : Option Nat → Hp → Prop, (Cr G l M_AL_get (d + 3) (w + 73) [.ref q_16, .int x2] h_8 0 0 P_19) ∧ (∀ (o_23 : Option Nat) (h_21 : Hp), P_19 o_23 h_21 → ∃ q_26 : Nat, o_23 = some q_26 ∧ ((hS h_21 q_26 = some (16, 0)) ∧ (∃ P_29 : Int32 → Hp → Prop, (Ci G l M_Me_moment (d + 1) (w + 21) [.ref q_26] h_21 0 0 P_29) ∧ (∀ (x_33 : Int32) (h_31 : Hp), P_29 x_33 h_31 → (hS h_31 q0 = some (10, 0)) ∧ (∃ q_37 : Nat, (hR h_31 q0 4) = some q_37 ∧ ((hS h_31 q_37 = some (12, 0)) ∧ (∃ P_40 : Option Nat → Hp → Prop, (Cr G l M_AL_get (d + 3) (w + 73) [.ref q_37, .int x1] h_31 0 0 P_40) ∧ (∀ (o_44 : Option Nat) (h_42 : Hp), P_40 o_44 h_42 → ∃ q_47 : Nat, o_44 = some q_47 ∧ ((hS h_42 q_47 = some (16, 0)) ∧ (∃ P_50 : Int32 → Hp → Prop, (Ci G l M_Me_moment (d + 1) (w + 21) [.ref q_47] h_42 0 0 P_50) ∧ (∀ (x_54 : Int32) (h_52 : Hp), P_50 x_54 h_52 → (x_54 ≤ x_33 → wJ_SC_earliestPlace_52 G l d w P C4 q0 x1 x2 h_52) ∧ (¬ x_54 ≤ x_33 → wJ_SC_earliestPlace_50 G l d w P C4 q0 x1 x2 h_52)))))))))))))))))))))
set_option maxRecDepth 100000 in
set_option maxHeartbeats 4000000 in
theorem okB_SC_earliestPlace_4 {G : Gx} {l : Launch} {d w : Nat} {P : Int32 → Hp → Prop} {p : Program} {e : Env} {s : State} {m : MethodId} {args : Array Value} {below : List Frame} {meth : Method} {c : Code} {C4 : Int32 → Int32 → Hp → Prop} {q0 : Nat} {x1 : Int32} {x2 : Int32} (hC4 : ∀ (x1 : Int32) (x2 : Int32) (h : Hp), C4 x1 x2 h → Go M_SC_earliestPlace (mkX G (fun r h' => ∃ x, r = some (.int x) ∧ P x h') (d + 4) (w + 94) 0 0 p l e s m args below meth c) 4 [some (.ref q0), some (.int x1), some (.int x2)] [] h 0 0) {h : Hp}  (H : wB_SC_earliestPlace_4 G l d w P C4 q0 x1 x2 h ) : Go M_SC_earliestPlace (mkX G (fun r h' => ∃ x, r = some (.int x) ∧ P x h') (d + 4) (w + 94) 0 0 p l e s m args below meth c) 4 [some (.ref q0), some (.int x1), some (.int x2)] [] h 0 0 := by
  unfold wB_SC_earliestPlace_4 at H
  refine g_iload_n d_SC_earliestPlace_4 rfl ?_
  refine g_aload_n d_SC_earliestPlace_5 rfl ?_
  obtain ⟨z_2, H⟩ := H
  refine g_getR d_SC_earliestPlace_6 f_SC_38 z_2 (by decide) ?_
  obtain ⟨q_3, e_4, H⟩ := H
  refine g_eqr e_4 ?_
  obtain ⟨z_5, H⟩ := H
  obtain ⟨P_6, C_7, H⟩ := H
  refine q_V (As := []) (st := [.int x2]) (nl := 1) d_SC_earliestPlace_9 v_SC_101 C_7 z_5 rfl (catS_le (Nat.le_of_ble_eq_true rfl)) rfl ⟨by omega, by omega, Nat.le_refl _, Nat.le_refl _⟩ (fun r_12 h_8 p_9 => ?_)
  obtain ⟨x_10, rfl, p_9⟩ := p_9
  replace H := H x_10 h_8 p_9
  show Go _ _ _ _ [.int x_10, .int x2] _ _ _
  obtain ⟨H1, H2⟩ := H
  refine g_icmp_ge (tgt := 58) d_SC_earliestPlace_12 (by decide) (fun c_13 => ?_) (fun c_13 => ?_)
  · have H := H1 c_13
    refine g_iload_n d_SC_earliestPlace_58 rfl ?_
    exact g_ireturn d_SC_earliestPlace_59 rfl (Nat.le_refl _) (Nat.le_refl _) ⟨_, rfl, H⟩
  · have H := H2 c_13
    refine g_iload_n d_SC_earliestPlace_15 rfl ?_
    obtain ⟨H1, H2⟩ := H
    refine g_if_lt (tgt := 50) d_SC_earliestPlace_16 (by decide) (fun c_14 => ?_) (fun c_14 => ?_)
    · have H := H1 c_14
      refine g_msk [true, true, true] ?_
      exact okJ_SC_earliestPlace_50 hC4 H
    · have H := H2 c_14
      refine g_aload_n d_SC_earliestPlace_19 rfl ?_
      obtain ⟨z_15, H⟩ := H
      refine g_getR d_SC_earliestPlace_20 f_SC_38 z_15 (by decide) ?_
      refine g_iload_n d_SC_earliestPlace_23 rfl ?_
      obtain ⟨q_16, e_17, H⟩ := H
      show Go _ _ _ [some (.ref q0), some (.int x1), some (.int x2)] [.int x2, va_rf (hR h_8 q0 4)] _ _ _
      rw [show va_rf (hR h_8 q0 4) = Value.ref q_16 from by rw [e_17]; rfl]
      obtain ⟨z_18, H⟩ := H
      obtain ⟨P_19, C_20, H⟩ := H
      refine q_V (As := [.int x2]) (st := []) (nl := 2) d_SC_earliestPlace_24 v_SC_134 C_20 z_18 rfl (catS_le (Nat.le_of_ble_eq_true rfl)) rfl ⟨by omega, by omega, Nat.le_refl _, Nat.le_refl _⟩ (fun r_25 h_21 p_22 => ?_)
      obtain ⟨o_23, rfl, p_22⟩ := p_22
      replace H := H o_23 h_21 p_22
      show Go _ _ _ _ [va_rf o_23] _ _ _
      obtain ⟨q_26, e_27, H⟩ := H
      refine g_eqr e_27 ?_
      obtain ⟨z_28, H⟩ := H
      refine g_cast d_SC_earliestPlace_27 (ci := 6) rfl k_SC_117 kC_6 z_28 ?_
      obtain ⟨P_29, C_30, H⟩ := H
      refine q_V (As := []) (st := []) (nl := 1) d_SC_earliestPlace_30 v_SC_138 C_30 z_28 rfl (catS_le (Nat.le_of_ble_eq_true rfl)) rfl ⟨by omega, by omega, Nat.le_refl _, Nat.le_refl _⟩ (fun r_35 h_31 p_32 => ?_)
      obtain ⟨x_33, rfl, p_32⟩ := p_32
      replace H := H x_33 h_31 p_32
      show Go _ _ _ _ [.int x_33] _ _ _
      refine g_aload_n d_SC_earliestPlace_33 rfl ?_
      obtain ⟨z_36, H⟩ := H
      refine g_getR d_SC_earliestPlace_34 f_SC_38 z_36 (by decide) ?_
      refine g_iload_n d_SC_earliestPlace_37 rfl ?_
      obtain ⟨q_37, e_38, H⟩ := H
      show Go _ _ _ [some (.ref q0), some (.int x1), some (.int x2)] [.int x1, va_rf (hR h_31 q0 4), .int x_33] _ _ _
      rw [show va_rf (hR h_31 q0 4) = Value.ref q_37 from by rw [e_38]; rfl]
      obtain ⟨z_39, H⟩ := H
      obtain ⟨P_40, C_41, H⟩ := H
      refine q_V (As := [.int x1]) (st := [.int x_33]) (nl := 2) d_SC_earliestPlace_38 v_SC_134 C_41 z_39 rfl (catS_le (Nat.le_of_ble_eq_true rfl)) rfl ⟨by omega, by omega, Nat.le_refl _, Nat.le_refl _⟩ (fun r_46 h_42 p_43 => ?_)
      obtain ⟨o_44, rfl, p_43⟩ := p_43
      replace H := H o_44 h_42 p_43
      show Go _ _ _ _ [va_rf o_44, .int x_33] _ _ _
      obtain ⟨q_47, e_48, H⟩ := H
      refine g_eqr e_48 ?_
      obtain ⟨z_49, H⟩ := H
      refine g_cast d_SC_earliestPlace_41 (ci := 6) rfl k_SC_117 kC_6 z_49 ?_
      obtain ⟨P_50, C_51, H⟩ := H
      refine q_V (As := []) (st := [.int x_33]) (nl := 1) d_SC_earliestPlace_44 v_SC_138 C_51 z_49 rfl (catS_le (Nat.le_of_ble_eq_true rfl)) rfl ⟨by omega, by omega, Nat.le_refl _, Nat.le_refl _⟩ (fun r_56 h_52 p_53 => ?_)
      obtain ⟨x_54, rfl, p_53⟩ := p_53
      replace H := H x_54 h_52 p_53
      show Go _ _ _ _ [.int x_54, .int x_33] _ _ _
      obtain ⟨H1, H2⟩ := H
      refine g_icmp_ge (tgt := 52) d_SC_earliestPlace_47 (by decide) (fun c_57 => ?_) (fun c_57 => ?_)
      · have H := H1 c_57
        refine g_msk [true, true, true] ?_
        exact okJ_SC_earliestPlace_52 hC4 H
      · have H := H2 c_57
        refine g_msk [true, true, true] ?_
        exact okJ_SC_earliestPlace_50 hC4 H
set_option maxRecDepth 100000 in
set_option maxHeartbeats 4000000 in
def wL_SC_earliestPlace_4 (G : Gx) (l : Launch) (d w : Nat) (P : Int32 → Hp → Prop) (q0 : Nat) (x1 : Int32) (x2 : Int32) (h : Hp)  : Prop := ∃ (I : Int32 → Int32 → Hp → Prop) (μ : Int32 → Int32 → Hp → Nat), I x1 x2 h ∧ ∀ (x1' : Int32) (x2' : Int32) (h' : Hp), I x1' x2' h' → wB_SC_earliestPlace_4 G l d w P (fun x1_ x2_ h_ => I x1_ x2_ h_ ∧ μ x1_ x2_ h_ < μ x1' x2' h') q0 x1' x2' h'
set_option maxRecDepth 100000 in
set_option maxHeartbeats 4000000 in
theorem okL_SC_earliestPlace_4 {G : Gx} {l : Launch} {d w : Nat} {P : Int32 → Hp → Prop} {p : Program} {e : Env} {s : State} {m : MethodId} {args : Array Value} {below : List Frame} {meth : Method} {c : Code} {q0 : Nat} {x1 : Int32} {x2 : Int32} {h : Hp}  (H : wL_SC_earliestPlace_4 G l d w P  q0 x1 x2 h ) : Go M_SC_earliestPlace (mkX G (fun r h' => ∃ x, r = some (.int x) ∧ P x h') (d + 4) (w + 94) 0 0 p l e s m args below meth c) 4 [some (.ref q0), some (.int x1), some (.int x2)] [] h 0 0 := by
  obtain ⟨I, μ, h0, hs⟩ := H
  have key : ∀ (N : Nat) (x1 : Int32) (x2 : Int32) (h : Hp), I x1 x2 h → μ x1 x2 h < N → Go M_SC_earliestPlace (mkX G (fun r h' => ∃ x, r = some (.int x) ∧ P x h') (d + 4) (w + 94) 0 0 p l e s m args below meth c) 4 [some (.ref q0), some (.int x1), some (.int x2)] [] h 0 0 := by
    intro N
    induction N with
    | zero => intro x1 x2 h _ hN; exact absurd hN (Nat.not_lt_zero _)
    | succ N ih =>
      intro x1 x2 h hI hN
      exact okB_SC_earliestPlace_4 (fun x1_ x2_ h_ hh => ih x1_ x2_ h_ hh.1 (Nat.lt_of_lt_of_le hh.2 (Nat.le_of_lt_succ hN))) (hs x1 x2 h hI)
  exact key _ _ _ _ h0 (Nat.lt_succ_self _)
set_option maxRecDepth 100000 in
set_option maxHeartbeats 4000000 in
def wp_SC_earliestPlace (G : Gx) (l : Launch) (d w : Nat) (P : Int32 → Hp → Prop) (q0 : Nat) (h : Hp) : Prop := wL_SC_earliestPlace_4 G l d w P q0 (-1) 0 h
set_option maxRecDepth 100000 in
set_option maxHeartbeats 4000000 in
theorem ok_SC_earliestPlace {G : Gx} {l : Launch} {d w : Nat} {P : Int32 → Hp → Prop} {q0 : Nat} {h : Hp} (H : wp_SC_earliestPlace G l d w P q0 h) : Ci G l M_SC_earliestPlace (d + 4) (w + 94) [.ref q0] h 0 0 P := by
  unfold wp_SC_earliestPlace at H
  refine Ct.of (lv := [some (.ref q0), none, none]) (by decide) (Nat.le_of_ble_eq_true rfl) rfl (fun p e s m args below meth c => ?_)
  refine g_iconst (v := (-1)) d_SC_earliestPlace_0 (by decide) ?_
  refine g_istore_n (lv' := [some (.ref q0), some (.int (-1)), none]) d_SC_earliestPlace_1 (by decide) rfl ?_
  refine g_iconst (v := 0) d_SC_earliestPlace_2 (by decide) ?_
  refine g_istore_n (lv' := [some (.ref q0), some (.int (-1)), some (.int 0)]) d_SC_earliestPlace_3 (by decide) rfl ?_
  refine g_msk [true, true, true] ?_
  exact okL_SC_earliestPlace_4 H
set_option maxRecDepth 100000 in
set_option maxHeartbeats 4000000 in
def wJ_SC_dealWith_92 (G : Gx) (l : Launch) (d w mc ms : Nat) (P : Hp → Prop) (q0 : Nat) (q1 : Nat) (x2 : Int32) (o3 : Option Nat) (h : Hp) (k n : Nat) : Prop := (k ≤ mc ∧ n ≤ ms) ∧ (P h)
set_option maxRecDepth 100000 in
set_option maxHeartbeats 4000000 in
theorem okJ_SC_dealWith_92 {G : Gx} {l : Launch} {d w : Nat} {mc ms : Nat} {P : Hp → Prop} {p : Program} {e : Env} {s : State} {m : MethodId} {args : Array Value} {below : List Frame} {meth : Method} {c : Code} {q0 : Nat} {q1 : Nat} {x2 : Int32} {o3 : Option Nat} {h : Hp} {k n : Nat} (H : wJ_SC_dealWith_92 G l d w mc ms P  q0 q1 x2 o3 h k n) : Go M_SC_dealWith (mkX G (fun r h' => r = none ∧ P h') (d + 8) (w + 183) mc ms p l e s m args below meth c) 92 [some (.ref q0), some (.ref q1), some (.int x2), some (va_rf o3)] [] h k n := by
  unfold wJ_SC_dealWith_92 at H
  obtain ⟨b_1, H⟩ := H
  exact g_return d_SC_dealWith_92 rfl b_1.1 b_1.2 ⟨rfl, H⟩
set_option maxRecDepth 100000 in
set_option maxHeartbeats 4000000 in
def wJ_SC_dealWith_87 (G : Gx) (l : Launch) (d w mc ms : Nat) (P : Hp → Prop) (q0 : Nat) (q1 : Nat) (x2 : Int32) (q3 : Nat) (h : Hp) (k n : Nat) : Prop := (hS h q1 = some (16, 0)) ∧ (∃ P_3 : Hp → Prop, (Cv G l M_Me_putOff (d + 0) (w + 0) [.ref q1, .int x2] h 0 0 P_3) ∧ ((k ≤ mc ∧ n ≤ ms) ∧ (∀ h_5 : Hp, P_3 h_5 → wJ_SC_dealWith_92 G l d w mc ms P q0 q1 x2 (some q3) h_5 k n)))
set_option maxRecDepth 100000 in
set_option maxHeartbeats 4000000 in
theorem okJ_SC_dealWith_87 {G : Gx} {l : Launch} {d w : Nat} {mc ms : Nat} {P : Hp → Prop} {p : Program} {e : Env} {s : State} {m : MethodId} {args : Array Value} {below : List Frame} {meth : Method} {c : Code} {q0 : Nat} {q1 : Nat} {x2 : Int32} {q3 : Nat} {h : Hp} {k n : Nat} (H : wJ_SC_dealWith_87 G l d w mc ms P  q0 q1 x2 q3 h k n) : Go M_SC_dealWith (mkX G (fun r h' => r = none ∧ P h') (d + 8) (w + 183) mc ms p l e s m args below meth c) 87 [some (.ref q0), some (.ref q1), some (.int x2), some (.ref q3)] [] h k n := by
  unfold wJ_SC_dealWith_87 at H
  refine g_aload_n d_SC_dealWith_87 rfl ?_
  refine g_iload_n d_SC_dealWith_88 rfl ?_
  obtain ⟨z_2, H⟩ := H
  obtain ⟨P_3, C_4, H⟩ := H
  obtain ⟨b_8, H⟩ := H
  refine q_V (As := [.int x2]) (st := []) (nl := 2) d_SC_dealWith_89 v_SC_264 C_4 z_2 rfl (catS_le (Nat.le_of_ble_eq_true rfl)) rfl ⟨by omega, by omega, b_8.1, b_8.2⟩ (fun r_9 h_5 p_6 => ?_)
  obtain ⟨rfl, p_6⟩ := p_6
  replace H := H h_5 p_6
  show Go _ _ _ _ [] _ _ _
  refine g_msk [true, true, true, true] ?_
  exact okJ_SC_dealWith_92 H
set_option maxRecDepth 100000 in
set_option maxHeartbeats 4000000 in
def wp_SC_dealWith (G : Gx) (l : Launch) (d w mc ms : Nat) (P : Hp → Prop) (q0 : Nat) (q1 : Nat) (x2 : Int32) (h : Hp) : Prop := (hS h q1 = some (16, 0)) ∧ ((¬ x2 = (hI h q1 6) → (hS h q0 = some (10, 0)) ∧ (∃ P_13 : Option Nat → Hp → Prop, (Cr G l M_SC_holderOf (d + 0) (w + 0) [.ref q0, .long (hL h q1 5)] (pI h q1 7 ((hI h q1 7) + 1)) 0 0 P_13) ∧ ((0 ≤ mc ∧ 0 ≤ ms) ∧ (∀ (o_17 : Option Nat) (h_15 : Hp), P_13 o_17 h_15 → (o_17 = none → (hS h_15 q1 = some (16, 0)) ∧ (wJ_SC_dealWith_92 G l d w mc ms P q0 q1 x2 o_17 (pR h_15 q1 8 (some (gK G 7))) 0 0)) ∧ (∀ q_21 : Nat, o_17 = some q_21 → (hS h_15 q_21 = some (14, 0)) ∧ (((hI h_15 q_21 1) = 0 → wJ_SC_dealWith_87 G l d w mc ms P q0 q1 x2 q_21 h_15 0 0) ∧ (¬ (hI h_15 q_21 1) = 0 → ∃ q_25 : Nat, (hR h_15 q_21 2) = some q_25 ∧ ((hS h_15 q_25 = some (11, 0)) ∧ (∃ P_28 : Int32 → Hp → Prop, (Ci G l M_Li_room (d + 1) (w + 20) [.ref q_25] h_15 0 0 P_28) ∧ ((0 ≤ mc ∧ 0 ≤ ms) ∧ (∀ (x_32 : Int32) (h_30 : Hp), P_28 x_32 h_30 → (x_32 ≤ 0 → wJ_SC_dealWith_87 G l d w mc ms P q0 q1 x2 q_21 h_30 0 0) ∧ (¬ x_32 ≤ 0 → (hS h_30 q_21 = some (14, 0)) ∧ ((hS h_30 q1 = some (16, 0)) ∧ (∃ mc_43 : Nat, ∃ ms_44 : Nat, ∃ P_38 : Option Nat → Hp → Prop, (Cr G l M_Me_asDeliver (d + 4) (w + 93) [.ref q1] h_30 mc_43 ms_44 P_38) ∧ ((0 + mc_43 ≤ mc ∧ 0 + ms_44 ≤ ms) ∧ (∀ (o_42 : Option Nat) (h_40 : Hp), P_38 o_42 h_40 → ∃ q_47 : Nat, o_42 = some q_47 ∧ (∃ q_49 : Nat, (hR h_30 q_21 2) = some q_49 ∧ ((hS h_40 q_49 = some (11, 0)) ∧ (∃ mc_57 : Nat, ∃ ms_58 : Nat, ∃ P_52 : Hp → Prop, (Cv G l M_Li_append (d + 7) (w + 162) [.ref q_49, .ref q_47] h_40 mc_57 ms_58 P_52) ∧ (((0 + mc_43) + mc_57 ≤ mc ∧ (0 + ms_44) + ms_58 ≤ ms) ∧ (∀ h_54 : Hp, P_52 h_54 → (hS h_54 q1 = some (16, 0)) ∧ (wJ_SC_dealWith_92 G l d w mc ms P q0 q1 x2 (some q_21) (pR h_54 q1 8 (some (gK G 5))) ((0 + mc_43) + mc_57) ((0 + ms_44) + ms_58))))))))))))))))))))))) ∧ (x2 = (hI h q1 6) → (0 ≤ mc ∧ 0 ≤ ms) ∧ (P (pR h q1 8 (some (gK G 6))))))
set_option maxRecDepth 100000 in
set_option maxHeartbeats 4000000 in
theorem ok_SC_dealWith {G : Gx} {l : Launch} {d w : Nat} {mc ms : Nat} {P : Hp → Prop} {q0 : Nat} {q1 : Nat} {x2 : Int32} {h : Hp} (H : wp_SC_dealWith G l d w mc ms P q0 q1 x2 h) : Cv G l M_SC_dealWith (d + 8) (w + 183) [.ref q0, .ref q1, .int x2] h mc ms P := by
  unfold wp_SC_dealWith at H
  refine Ct.of (lv := [some (.ref q0), some (.ref q1), some (.int x2), none]) (by decide) (Nat.le_of_ble_eq_true rfl) rfl (fun p e s m args below meth c => ?_)
  refine g_iload_n d_SC_dealWith_0 rfl ?_
  refine g_aload_n d_SC_dealWith_1 rfl ?_
  obtain ⟨z_10, H⟩ := H
  refine g_getI d_SC_dealWith_2 f_SC_242 z_10 ?_
  obtain ⟨H1, H2⟩ := H
  refine g_icmp_ne (tgt := 16) d_SC_dealWith_5 (by decide) (fun c_11 => ?_) (fun c_11 => ?_)
  · have H := H1 c_11
    refine g_aload_n d_SC_dealWith_16 rfl ?_
    refine g_dup d_SC_dealWith_17 rfl ?_
    refine g_getI d_SC_dealWith_18 f_SC_199 z_10 ?_
    refine g_iconst (v := 1) d_SC_dealWith_21 (by decide) ?_
    refine g_iadd d_SC_dealWith_22 ?_
    refine g_putI d_SC_dealWith_23 f_SC_199 (fo_6_7 _) z_10 ?_
    refine g_aload_n d_SC_dealWith_26 rfl ?_
    refine g_aload_n d_SC_dealWith_27 rfl ?_
    refine g_getJ d_SC_dealWith_28 f_SC_248 z_10 ?_
    obtain ⟨z_12, H⟩ := H
    obtain ⟨P_13, C_14, H⟩ := H
    obtain ⟨b_18, H⟩ := H
    refine q_V (As := [.long (hL h q1 5)]) (st := []) (nl := 4) d_SC_dealWith_31 v_SC_251 C_14 z_12 rfl (catS_le (Nat.le_of_ble_eq_true rfl)) rfl ⟨by omega, by omega, b_18.1, b_18.2⟩ (fun r_19 h_15 p_16 => ?_)
    obtain ⟨o_17, rfl, p_16⟩ := p_16
    replace H := H o_17 h_15 p_16
    show Go _ _ _ _ [va_rf o_17] _ _ _
    refine g_astore_nV (lv' := [some (.ref q0), some (.ref q1), some (.int x2), some (va_rf o_17)]) d_SC_dealWith_34 (by decide) rfl ?_
    refine g_aload_nV d_SC_dealWith_35 rfl ?_
    obtain ⟨H1, H2⟩ := H
    refine g_ifnonnull (tgt := 49) d_SC_dealWith_36 (by decide) (fun q_21 c_20 => ?_) (fun c_20 => ?_)
    · replace H2 := H2 q_21 c_20
      have H := H2
      show Go _ _ _ [some (.ref q0), some (.ref q1), some (.int x2), some (va_rf o_17)] [] _ _ _
      rw [show va_rf o_17 = Value.ref q_21 from by rw [c_20]; rfl]
      refine g_aload_n d_SC_dealWith_49 rfl ?_
      obtain ⟨z_23, H⟩ := H
      refine g_getZ d_SC_dealWith_50 f_SC_54 z_23 ?_
      obtain ⟨H1, H2⟩ := H
      refine g_if_eq (tgt := 87) d_SC_dealWith_53 (by decide) (fun c_24 => ?_) (fun c_24 => ?_)
      · have H := H1 c_24
        refine g_msk [true, true, true, true] ?_
        exact okJ_SC_dealWith_87 H
      · have H := H2 c_24
        refine g_aload_n d_SC_dealWith_56 rfl ?_
        refine g_getR d_SC_dealWith_57 f_SC_160 z_23 (by decide) ?_
        obtain ⟨q_25, e_26, H⟩ := H
        refine g_eqr e_26 ?_
        obtain ⟨z_27, H⟩ := H
        obtain ⟨P_28, C_29, H⟩ := H
        obtain ⟨b_33, H⟩ := H
        refine q_V (As := []) (st := []) (nl := 1) d_SC_dealWith_60 v_SC_83 C_29 z_27 rfl (catS_le (Nat.le_of_ble_eq_true rfl)) rfl ⟨by omega, by omega, b_33.1, b_33.2⟩ (fun r_34 h_30 p_31 => ?_)
        obtain ⟨x_32, rfl, p_31⟩ := p_31
        replace H := H x_32 h_30 p_31
        show Go _ _ _ _ [.int x_32] _ _ _
        obtain ⟨H1, H2⟩ := H
        refine g_if_le (tgt := 87) d_SC_dealWith_63 (by decide) (fun c_35 => ?_) (fun c_35 => ?_)
        · have H := H1 c_35
          refine g_msk [true, true, true, true] ?_
          exact okJ_SC_dealWith_87 H
        · have H := H2 c_35
          refine g_aload_n d_SC_dealWith_66 rfl ?_
          obtain ⟨z_36, H⟩ := H
          refine g_getR d_SC_dealWith_67 f_SC_160 z_36 (by decide) ?_
          refine g_aload_n d_SC_dealWith_70 rfl ?_
          obtain ⟨z_37, H⟩ := H
          obtain ⟨mc_43, H⟩ := H
          obtain ⟨ms_44, H⟩ := H
          obtain ⟨P_38, C_39, H⟩ := H
          obtain ⟨b_45, H⟩ := H
          refine q_V (As := []) (st := [va_rf (hR h_30 q_21 2)]) (nl := 3) d_SC_dealWith_71 v_SC_258 C_39 z_37 rfl (catS_le (Nat.le_of_ble_eq_true rfl)) rfl ⟨by omega, by omega, b_45.1, b_45.2⟩ (fun r_46 h_40 p_41 => ?_)
          obtain ⟨o_42, rfl, p_41⟩ := p_41
          replace H := H o_42 h_40 p_41
          show Go _ _ _ _ [va_rf o_42, va_rf (hR h_30 q_21 2)] _ _ _
          obtain ⟨q_47, e_48, H⟩ := H
          refine g_eqr e_48 ?_
          obtain ⟨q_49, e_50, H⟩ := H
          show Go _ _ _ [some (.ref q0), some (.ref q1), some (.int x2), some (.ref q_21)] [.ref q_47, va_rf (hR h_30 q_21 2)] _ _ _
          rw [show va_rf (hR h_30 q_21 2) = Value.ref q_49 from by rw [e_50]; rfl]
          obtain ⟨z_51, H⟩ := H
          obtain ⟨mc_57, H⟩ := H
          obtain ⟨ms_58, H⟩ := H
          obtain ⟨P_52, C_53, H⟩ := H
          obtain ⟨b_59, H⟩ := H
          refine q_V (As := [.ref q_47]) (st := []) (nl := 2) d_SC_dealWith_74 v_SC_167 C_53 z_51 rfl (catS_le (Nat.le_of_ble_eq_true rfl)) rfl ⟨by omega, by omega, b_59.1, b_59.2⟩ (fun r_60 h_54 p_55 => ?_)
          obtain ⟨rfl, p_55⟩ := p_55
          replace H := H h_54 p_55
          show Go _ _ _ _ [] _ _ _
          refine g_aload_n d_SC_dealWith_77 rfl ?_
          refine g_gets (t := 5) d_SC_dealWith_78 f_SC_261 (fun hz => hz.2.1.2.1) ?_
          obtain ⟨z_61, H⟩ := H
          refine g_putR (x := (some (gK G 5))) (ty := .object "SeptetCentre$Fate") d_SC_dealWith_81 f_SC_145 (fo_6_8 _) z_61 (by decide) (by decide +kernel) (Or.inl ⟨_, rfl⟩) ?_
          refine g_goto (tgt := 92) d_SC_dealWith_84 (by decide) ?_
          refine g_msk [true, true, true, true] ?_
          exact okJ_SC_dealWith_92 H
    · replace H1 := H1 c_20
      have H := H1
      refine g_aload_n d_SC_dealWith_39 rfl ?_
      refine g_gets (t := 7) d_SC_dealWith_40 f_SC_255 (fun hz => hz.2.1.2.2.2) ?_
      obtain ⟨z_22, H⟩ := H
      refine g_putR (x := (some (gK G 7))) (ty := .object "SeptetCentre$Fate") d_SC_dealWith_43 f_SC_145 (fo_6_8 _) z_22 (by decide) (by decide +kernel) (Or.inl ⟨_, rfl⟩) ?_
      refine g_goto (tgt := 92) d_SC_dealWith_46 (by decide) ?_
      refine g_msk [true, true, true, true] ?_
      exact okJ_SC_dealWith_92 H
  · have H := H2 c_11
    refine g_aload_n d_SC_dealWith_8 rfl ?_
    refine g_gets (t := 6) d_SC_dealWith_9 f_SC_245 (fun hz => hz.2.1.2.2.1) ?_
    refine g_putR (x := (some (gK G 6))) (ty := .object "SeptetCentre$Fate") d_SC_dealWith_12 f_SC_145 (fo_6_8 _) z_10 (by decide) (by decide +kernel) (Or.inl ⟨_, rfl⟩) ?_
    obtain ⟨b_62, H⟩ := H
    exact g_return d_SC_dealWith_15 rfl b_62.1 b_62.2 ⟨rfl, H⟩
set_option maxRecDepth 100000 in
set_option maxHeartbeats 4000000 in
def wB_SC_holderOf_2 (G : Gx) (l : Launch) (d w : Nat) (P : Option Nat → Hp → Prop) (C2 : Int32 → Hp → Prop) (q0 : Nat) (y1 : Int64) (x3 : Int32) (h : Hp)  : Prop := (4 ≤ x3 → P none h) ∧ (¬ 4 ≤ x3 → (hS h q0 = some (10, 0)) ∧ (∃ q_3 : Nat, (hR h q0 0) = some q_3 ∧ (∃ N_5 : Nat, ∃ j_6 : Nat, (hS h q_3 = some (5, N_5) ∧ x3 = nI j_6 ∧ j_6 < N_5 ∧ j_6 < 2147483648) ∧ (∃ q_8 : Nat, (hR h q_3 j_6) = some q_8 ∧ ((hS h q_8 = some (14, 0)) ∧ ((¬ (lg_cmp (hL h q_8 0) y1) = 0 → ∀ x_12 : Int32, x_12 = x3 + 1 → C2 x_12 h) ∧ ((lg_cmp (hL h q_8 0) y1) = 0 → ∃ q_13 : Nat, (hR h q0 0) = some q_13 ∧ (∃ N_15 : Nat, ∃ j_16 : Nat, (hS h q_13 = some (5, N_15) ∧ x3 = nI j_16 ∧ j_16 < N_15 ∧ j_16 < 2147483648) ∧ (P (hR h q_13 j_16) h)))))))))
set_option maxRecDepth 100000 in
set_option maxHeartbeats 4000000 in
theorem okB_SC_holderOf_2 {G : Gx} {l : Launch} {d w : Nat} {P : Option Nat → Hp → Prop} {p : Program} {e : Env} {s : State} {m : MethodId} {args : Array Value} {below : List Frame} {meth : Method} {c : Code} {C2 : Int32 → Hp → Prop} {q0 : Nat} {y1 : Int64} {x3 : Int32} (hC2 : ∀ (x3 : Int32) (h : Hp), C2 x3 h → Go M_SC_holderOf (mkX G (fun r h' => ∃ x, r = some (va_rf x) ∧ P x h') (d + 0) (w + 0) 0 0 p l e s m args below meth c) 2 [some (.ref q0), some (.long y1), none, some (.int x3)] [] h 0 0) {h : Hp}  (H : wB_SC_holderOf_2 G l d w P C2 q0 y1 x3 h ) : Go M_SC_holderOf (mkX G (fun r h' => ∃ x, r = some (va_rf x) ∧ P x h') (d + 0) (w + 0) 0 0 p l e s m args below meth c) 2 [some (.ref q0), some (.long y1), none, some (.int x3)] [] h 0 0 := by
  unfold wB_SC_holderOf_2 at H
  refine g_iload_n d_SC_holderOf_2 rfl ?_
  refine g_iconst (v := 4) d_SC_holderOf_3 (by decide) ?_
  obtain ⟨H1, H2⟩ := H
  refine g_icmp_ge (tgt := 34) d_SC_holderOf_4 (by decide) (fun c_1 => ?_) (fun c_1 => ?_)
  · have H := H1 c_1
    refine g_null d_SC_holderOf_34 ?_
    exact g_areturn (x := none) d_SC_holderOf_35 rfl (Or.inl ⟨_, rfl⟩) (Nat.le_refl _) (Nat.le_refl _) ⟨_, rfl, H⟩
  · have H := H2 c_1
    refine g_aload_n d_SC_holderOf_7 rfl ?_
    obtain ⟨z_2, H⟩ := H
    refine g_getR d_SC_holderOf_8 f_SC_11 z_2 (by decide) ?_
    refine g_iload_n d_SC_holderOf_11 rfl ?_
    obtain ⟨q_3, e_4, H⟩ := H
    show Go _ _ _ [some (.ref q0), some (.long y1), none, some (.int x3)] [.int x3, va_rf (hR h q0 0)] _ _ _
    rw [show va_rf (hR h q0 0) = Value.ref q_3 from by rw [e_4]; rfl]
    obtain ⟨N_5, H⟩ := H
    obtain ⟨j_6, H⟩ := H
    obtain ⟨z_7, H⟩ := H
    refine g_aald d_SC_holderOf_12 z_7.1 (by decide) z_7.2.1 z_7.2.2.1 z_7.2.2.2 ?_
    obtain ⟨q_8, e_9, H⟩ := H
    refine g_eqr e_9 ?_
    obtain ⟨z_10, H⟩ := H
    refine g_getJ d_SC_holderOf_13 f_SC_50 z_10 ?_
    refine g_lload_n d_SC_holderOf_16 rfl ?_
    refine g_lcmp d_SC_holderOf_17 ?_
    obtain ⟨H1, H2⟩ := H
    refine g_if_ne (tgt := 28) d_SC_holderOf_18 (by decide) (fun c_11 => ?_) (fun c_11 => ?_)
    · have H := H1 c_11
      obtain ⟨x_12, ex_12⟩ : ∃ z : Int32, z = x3 + 1 := ⟨_, rfl⟩
      replace H := H x_12 ex_12
      refine g_iinc (v := x_12) (lv' := [some (.ref q0), some (.long y1), none, some (.int x_12)]) d_SC_holderOf_28 rfl (by decide) (by rw [ex_12]; rfl) rfl ?_
      refine g_goto (tgt := 2) d_SC_holderOf_31 (by decide) ?_
      refine g_msk [true, true, false, true] ?_
      exact hC2 _ _ H
    · have H := H2 c_11
      refine g_aload_n d_SC_holderOf_21 rfl ?_
      refine g_getR d_SC_holderOf_22 f_SC_11 z_2 (by decide) ?_
      refine g_iload_n d_SC_holderOf_25 rfl ?_
      obtain ⟨q_13, e_14, H⟩ := H
      show Go _ _ _ [some (.ref q0), some (.long y1), none, some (.int x3)] [.int x3, va_rf (hR h q0 0)] _ _ _
      rw [show va_rf (hR h q0 0) = Value.ref q_13 from by rw [e_14]; rfl]
      obtain ⟨N_15, H⟩ := H
      obtain ⟨j_16, H⟩ := H
      obtain ⟨z_17, H⟩ := H
      refine g_aald d_SC_holderOf_26 z_17.1 (by decide) z_17.2.1 z_17.2.2.1 z_17.2.2.2 ?_
      exact g_areturn (x := (hR h q_13 j_16)) d_SC_holderOf_27 rfl (Or.inl ⟨_, rfl⟩) (Nat.le_refl _) (Nat.le_refl _) ⟨_, rfl, H⟩
set_option maxRecDepth 100000 in
set_option maxHeartbeats 4000000 in
def wL_SC_holderOf_2 (G : Gx) (l : Launch) (d w : Nat) (P : Option Nat → Hp → Prop) (q0 : Nat) (y1 : Int64) (x3 : Int32) (h : Hp)  : Prop := ∃ (I : Int32 → Hp → Prop) (μ : Int32 → Hp → Nat), I x3 h ∧ ∀ (x3' : Int32) (h' : Hp), I x3' h' → wB_SC_holderOf_2 G l d w P (fun x3_ h_ => I x3_ h_ ∧ μ x3_ h_ < μ x3' h') q0 y1 x3' h'
set_option maxRecDepth 100000 in
set_option maxHeartbeats 4000000 in
theorem okL_SC_holderOf_2 {G : Gx} {l : Launch} {d w : Nat} {P : Option Nat → Hp → Prop} {p : Program} {e : Env} {s : State} {m : MethodId} {args : Array Value} {below : List Frame} {meth : Method} {c : Code} {q0 : Nat} {y1 : Int64} {x3 : Int32} {h : Hp}  (H : wL_SC_holderOf_2 G l d w P  q0 y1 x3 h ) : Go M_SC_holderOf (mkX G (fun r h' => ∃ x, r = some (va_rf x) ∧ P x h') (d + 0) (w + 0) 0 0 p l e s m args below meth c) 2 [some (.ref q0), some (.long y1), none, some (.int x3)] [] h 0 0 := by
  obtain ⟨I, μ, h0, hs⟩ := H
  have key : ∀ (N : Nat) (x3 : Int32) (h : Hp), I x3 h → μ x3 h < N → Go M_SC_holderOf (mkX G (fun r h' => ∃ x, r = some (va_rf x) ∧ P x h') (d + 0) (w + 0) 0 0 p l e s m args below meth c) 2 [some (.ref q0), some (.long y1), none, some (.int x3)] [] h 0 0 := by
    intro N
    induction N with
    | zero => intro x3 h _ hN; exact absurd hN (Nat.not_lt_zero _)
    | succ N ih =>
      intro x3 h hI hN
      exact okB_SC_holderOf_2 (fun x3_ h_ hh => ih x3_ h_ hh.1 (Nat.lt_of_lt_of_le hh.2 (Nat.le_of_lt_succ hN))) (hs x3 h hI)
  exact key _ _ _ h0 (Nat.lt_succ_self _)
set_option maxRecDepth 100000 in
set_option maxHeartbeats 4000000 in
def wp_SC_holderOf (G : Gx) (l : Launch) (d w : Nat) (P : Option Nat → Hp → Prop) (q0 : Nat) (y1 : Int64) (h : Hp) : Prop := wL_SC_holderOf_2 G l d w P q0 y1 0 h
set_option maxRecDepth 100000 in
set_option maxHeartbeats 4000000 in
theorem ok_SC_holderOf {G : Gx} {l : Launch} {d w : Nat} {P : Option Nat → Hp → Prop} {q0 : Nat} {y1 : Int64} {h : Hp} (H : wp_SC_holderOf G l d w P q0 y1 h) : Cr G l M_SC_holderOf (d + 0) (w + 0) [.ref q0, .long y1] h 0 0 P := by
  unfold wp_SC_holderOf at H
  refine Ct.of (lv := [some (.ref q0), some (.long y1), none, none]) (by decide) (Nat.le_of_ble_eq_true rfl) rfl (fun p e s m args below meth c => ?_)
  refine g_iconst (v := 0) d_SC_holderOf_0 (by decide) ?_
  refine g_istore_n (lv' := [some (.ref q0), some (.long y1), none, some (.int 0)]) d_SC_holderOf_1 (by decide) rfl ?_
  refine g_msk [true, true, false, true] ?_
  exact okL_SC_holderOf_2 H
