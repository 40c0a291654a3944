set_option maxRecDepth 100000 in
set_option maxHeartbeats 4000000 in
def wB_Al_formOf_29 (G : Gx) (l : Launch) (d w : Nat) (P : Int32 → Hp → Prop) (C29 : Int32 → Hp → Prop) (x0 : Int32) (x1 : Int32) (h : Hp)  : Prop := ((nI (kLen G 2)) ≤ x1 → P (-1) h) ∧ (¬ (nI (kLen G 2)) ≤ x1 → ∃ j_2 : Nat, (x1 = nI j_2 ∧ j_2 < kLen G 3 ∧ j_2 < 2147483648) ∧ ((¬ (kTab G 3 j_2) = x0 → ∀ x_5 : Int32, x_5 = x1 + 1 → C29 x_5 h) ∧ ((kTab G 3 j_2) = x0 → ∃ j_6 : Nat, (x1 = nI j_6 ∧ j_6 < kLen G 2 ∧ j_6 < 2147483648) ∧ (P (128 + (kTab G 2 j_6)) h))))
set_option maxRecDepth 100000 in
set_option maxHeartbeats 4000000 in
theorem okB_Al_formOf_29 {G : Gx} {l : Launch} {d w : Nat} {P : Int32 → Hp → Prop} {p : Program} {e : Env} {s : State} {m : MethodId} {args : Array Value} {below : List Frame} {meth : Method} {c : Code} {C29 : Int32 → Hp → Prop} {x0 : Int32} {x1 : Int32} (hC29 : ∀ (x1 : Int32) (h : Hp), C29 x1 h → Go M_Al_formOf (mkX G (fun r h' => ∃ x, r = some (.int x) ∧ P x h') (d + 0) (w + 0) 0 0 p l e s m args below meth c) 29 [some (.int x0), some (.int x1)] [] h 0 0) {h : Hp}  (H : wB_Al_formOf_29 G l d w P C29 x0 x1 h ) : Go M_Al_formOf (mkX G (fun r h' => ∃ x, r = some (.int x) ∧ P x h') (d + 0) (w + 0) 0 0 p l e s m args below meth c) 29 [some (.int x0), some (.int x1)] [] h 0 0 := by
  unfold wB_Al_formOf_29 at H
  refine g_iload_n d_Al_formOf_29 rfl ?_
  refine g_gets (t := 2) d_Al_formOf_30 f_Al_13 (fun hz => hz.1.2.2.1) ?_
  refine g_clen (t := 2) d_Al_formOf_33 (by decide) ?_
  obtain ⟨H1, H2⟩ := H
  refine g_icmp_ge (tgt := 62) d_Al_formOf_34 (by decide) (fun c_1 => ?_) (fun c_1 => ?_)
  · have H := H1 c_1
    refine g_iconst (v := (-1)) d_Al_formOf_62 (by decide) ?_
    exact g_ireturn d_Al_formOf_63 rfl (Nat.le_refl _) (Nat.le_refl _) ⟨_, rfl, H⟩
  · have H := H2 c_1
    refine g_gets (t := 3) d_Al_formOf_37 f_Al_16 (fun hz => hz.1.2.2.2) ?_
    refine g_iload_n d_Al_formOf_40 rfl ?_
    obtain ⟨j_2, H⟩ := H
    obtain ⟨z_3, H⟩ := H
    refine g_cald (t := 3) d_Al_formOf_41 (by decide) z_3.1 z_3.2.1 z_3.2.2 ?_
    refine g_iload_n d_Al_formOf_42 rfl ?_
    obtain ⟨H1, H2⟩ := H
    refine g_icmp_ne (tgt := 56) d_Al_formOf_43 (by decide) (fun c_4 => ?_) (fun c_4 => ?_)
    · have H := H1 c_4
      obtain ⟨x_5, ex_5⟩ : ∃ z : Int32, z = x1 + 1 := ⟨_, rfl⟩
      replace H := H x_5 ex_5
      refine g_iinc (v := x_5) (lv' := [some (.int x0), some (.int x_5)]) d_Al_formOf_56 rfl (by decide) (by rw [ex_5]; rfl) rfl ?_
      refine g_goto (tgt := 29) d_Al_formOf_59 (by decide) ?_
      refine g_msk [true, true] ?_
      exact hC29 _ _ H
    · have H := H2 c_4
      refine g_sipush (v := 128) d_Al_formOf_46 (by decide) ?_
      refine g_gets (t := 2) d_Al_formOf_49 f_Al_13 (fun hz => hz.1.2.2.1) ?_
      refine g_iload_n d_Al_formOf_52 rfl ?_
      obtain ⟨j_6, H⟩ := H
      obtain ⟨z_7, H⟩ := H
      refine g_cald (t := 2) d_Al_formOf_53 (by decide) z_7.1 z_7.2.1 z_7.2.2 ?_
      refine g_iadd d_Al_formOf_54 ?_
      exact g_ireturn d_Al_formOf_55 rfl (Nat.le_refl _) (Nat.le_refl _) ⟨_, rfl, H⟩
set_option maxRecDepth 100000 in
set_option maxHeartbeats 4000000 in
def wL_Al_formOf_29 (G : Gx) (l : Launch) (d w : Nat) (P : Int32 → Hp → Prop) (x0 : Int32) (x1 : Int32) (h : Hp)  : Prop := ∃ (I : Int32 → Hp → Prop) (μ : Int32 → Hp → Nat), I x1 h ∧ ∀ (x1' : Int32) (h' : Hp), I x1' h' → wB_Al_formOf_29 G l d w P (fun x1_ h_ => I x1_ h_ ∧ μ x1_ h_ < μ x1' h') x0 x1' h'
set_option maxRecDepth 100000 in
set_option maxHeartbeats 4000000 in
theorem okL_Al_formOf_29 {G : Gx} {l : Launch} {d w : Nat} {P : Int32 → Hp → Prop} {p : Program} {e : Env} {s : State} {m : MethodId} {args : Array Value} {below : List Frame} {meth : Method} {c : Code} {x0 : Int32} {x1 : Int32} {h : Hp}  (H : wL_Al_formOf_29 G l d w P  x0 x1 h ) : Go M_Al_formOf (mkX G (fun r h' => ∃ x, r = some (.int x) ∧ P x h') (d + 0) (w + 0) 0 0 p l e s m args below meth c) 29 [some (.int x0), some (.int x1)] [] h 0 0 := by
  obtain ⟨I, μ, h0, hs⟩ := H
  have key : ∀ (N : Nat) (x1 : Int32) (h : Hp), I x1 h → μ x1 h < N → Go M_Al_formOf (mkX G (fun r h' => ∃ x, r = some (.int x) ∧ P x h') (d + 0) (w + 0) 0 0 p l e s m args below meth c) 29 [some (.int x0), some (.int x1)] [] h 0 0 := by
    intro N
    induction N with
    | zero => intro x1 h _ hN; exact absurd hN (Nat.not_lt_zero _)
    | succ N ih =>
      intro x1 h hI hN
      exact okB_Al_formOf_29 (fun x1_ h_ hh => ih x1_ h_ hh.1 (Nat.lt_of_lt_of_le hh.2 (Nat.le_of_lt_succ hN))) (hs x1 h hI)
  exact key _ _ _ h0 (Nat.lt_succ_self _)
set_option maxRecDepth 100000 in
set_option maxHeartbeats 4000000 in
def wB_Al_formOf_2 (G : Gx) (l : Launch) (d w : Nat) (P : Int32 → Hp → Prop) (C2 : Int32 → Hp → Prop) (x0 : Int32) (x1 : Int32) (h : Hp)  : Prop := ((nI (kLen G 1)) ≤ x1 → wL_Al_formOf_29 G l d w P x0 0 h) ∧ (¬ (nI (kLen G 1)) ≤ x1 → ∃ j_9 : Nat, (x1 = nI j_9 ∧ j_9 < kLen G 1 ∧ j_9 < 2147483648) ∧ ((¬ (kTab G 1 j_9) = x0 → ∀ x_12 : Int32, x_12 = x1 + 1 → C2 x_12 h) ∧ ((kTab G 1 j_9) = x0 → P x1 h)))
set_option maxRecDepth 100000 in
set_option maxHeartbeats 4000000 in
theorem okB_Al_formOf_2 {G : Gx} {l : Launch} {d w : Nat} {P : Int32 → Hp → Prop} {p : Program} {e : Env} {s : State} {m : MethodId} {args : Array Value} {below : List Frame} {meth : Method} {c : Code} {C2 : Int32 → Hp → Prop} {x0 : Int32} {x1 : Int32} (hC2 : ∀ (x1 : Int32) (h : Hp), C2 x1 h → Go M_Al_formOf (mkX G (fun r h' => ∃ x, r = some (.int x) ∧ P x h') (d + 0) (w + 0) 0 0 p l e s m args below meth c) 2 [some (.int x0), some (.int x1)] [] h 0 0) {h : Hp}  (H : wB_Al_formOf_2 G l d w P C2 x0 x1 h ) : Go M_Al_formOf (mkX G (fun r h' => ∃ x, r = some (.int x) ∧ P x h') (d + 0) (w + 0) 0 0 p l e s m args below meth c) 2 [some (.int x0), some (.int x1)] [] h 0 0 := by
  unfold wB_Al_formOf_2 at H
  refine g_iload_n d_Al_formOf_2 rfl ?_
  refine g_gets (t := 1) d_Al_formOf_3 f_Al_7 (fun hz => hz.1.2.1) ?_
  refine g_clen (t := 1) d_Al_formOf_6 (by decide) ?_
  obtain ⟨H1, H2⟩ := H
  refine g_icmp_ge (tgt := 27) d_Al_formOf_7 (by decide) (fun c_8 => ?_) (fun c_8 => ?_)
  · have H := H1 c_8
    refine g_iconst (v := 0) d_Al_formOf_27 (by decide) ?_
    refine g_istore_n (lv' := [some (.int x0), some (.int 0)]) d_Al_formOf_28 (by decide) rfl ?_
    refine g_msk [true, true] ?_
    exact okL_Al_formOf_29 H
  · have H := H2 c_8
    refine g_gets (t := 1) d_Al_formOf_10 f_Al_7 (fun hz => hz.1.2.1) ?_
    refine g_iload_n d_Al_formOf_13 rfl ?_
    obtain ⟨j_9, H⟩ := H
    obtain ⟨z_10, H⟩ := H
    refine g_cald (t := 1) d_Al_formOf_14 (by decide) z_10.1 z_10.2.1 z_10.2.2 ?_
    refine g_iload_n d_Al_formOf_15 rfl ?_
    obtain ⟨H1, H2⟩ := H
    refine g_icmp_ne (tgt := 21) d_Al_formOf_16 (by decide) (fun c_11 => ?_) (fun c_11 => ?_)
    · have H := H1 c_11
      obtain ⟨x_12, ex_12⟩ : ∃ z : Int32, z = x1 + 1 := ⟨_, rfl⟩
      replace H := H x_12 ex_12
      refine g_iinc (v := x_12) (lv' := [some (.int x0), some (.int x_12)]) d_Al_formOf_21 rfl (by decide) (by rw [ex_12]; rfl) rfl ?_
      refine g_goto (tgt := 2) d_Al_formOf_24 (by decide) ?_
      refine g_msk [true, true] ?_
      exact hC2 _ _ H
    · have H := H2 c_11
      refine g_iload_n d_Al_formOf_19 rfl ?_
      exact g_ireturn d_Al_formOf_20 rfl (Nat.le_refl _) (Nat.le_refl _) ⟨_, rfl, H⟩
set_option maxRecDepth 100000 in
set_option maxHeartbeats 4000000 in
def wL_Al_formOf_2 (G : Gx) (l : Launch) (d w : Nat) (P : Int32 → Hp → Prop) (x0 : Int32) (x1 : Int32) (h : Hp)  : Prop := ∃ (I : Int32 → Hp → Prop) (μ : Int32 → Hp → Nat), I x1 h ∧ ∀ (x1' : Int32) (h' : Hp), I x1' h' → wB_Al_formOf_2 G l d w P (fun x1_ h_ => I x1_ h_ ∧ μ x1_ h_ < μ x1' h') x0 x1' h'
set_option maxRecDepth 100000 in
set_option maxHeartbeats 4000000 in
theorem okL_Al_formOf_2 {G : Gx} {l : Launch} {d w : Nat} {P : Int32 → Hp → Prop} {p : Program} {e : Env} {s : State} {m : MethodId} {args : Array Value} {below : List Frame} {meth : Method} {c : Code} {x0 : Int32} {x1 : Int32} {h : Hp}  (H : wL_Al_formOf_2 G l d w P  x0 x1 h ) : Go M_Al_formOf (mkX G (fun r h' => ∃ x, r = some (.int x) ∧ P x h') (d + 0) (w + 0) 0 0 p l e s m args below meth c) 2 [some (.int x0), some (.int x1)] [] h 0 0 := by
  obtain ⟨I, μ, h0, hs⟩ := H
  have key : ∀ (N : Nat) (x1 : Int32) (h : Hp), I x1 h → μ x1 h < N → Go M_Al_formOf (mkX G (fun r h' => ∃ x, r = some (.int x) ∧ P x h') (d + 0) (w + 0) 0 0 p l e s m args below meth c) 2 [some (.int x0), some (.int x1)] [] h 0 0 := by
    intro N
    induction N with
    | zero => intro x1 h _ hN; exact absurd hN (Nat.not_lt_zero _)
    | succ N ih =>
      intro x1 h hI hN
      exact okB_Al_formOf_2 (fun x1_ h_ hh => ih x1_ h_ hh.1 (Nat.lt_of_lt_of_le hh.2 (Nat.le_of_lt_succ hN))) (hs x1 h hI)
  exact key _ _ _ h0 (Nat.lt_succ_self _)
set_option maxRecDepth 100000 in
set_option maxHeartbeats 4000000 in
def wp_Al_formOf (G : Gx) (l : Launch) (d w : Nat) (P : Int32 → Hp → Prop) (x0 : Int32) (h : Hp) : Prop := wL_Al_formOf_2 G l d w P x0 0 h
set_option maxRecDepth 100000 in
set_option maxHeartbeats 4000000 in
theorem ok_Al_formOf {G : Gx} {l : Launch} {d w : Nat} {P : Int32 → Hp → Prop} {x0 : Int32} {h : Hp} (H : wp_Al_formOf G l d w P x0 h) : Ci G l M_Al_formOf (d + 0) (w + 0) [.int x0] h 0 0 P := by
  unfold wp_Al_formOf at H
  refine Ct.of (lv := [some (.int x0), none]) (by decide) (Nat.le_of_ble_eq_true rfl) rfl (fun p e s m args below meth c => ?_)
  refine g_iconst (v := 0) d_Al_formOf_0 (by decide) ?_
  refine g_istore_n (lv' := [some (.int x0), some (.int 0)]) d_Al_formOf_1 (by decide) rfl ?_
  refine g_msk [true, true] ?_
  exact okL_Al_formOf_2 H
set_option maxRecDepth 100000 in
set_option maxHeartbeats 4000000 in
def wJ_Al_septetsOf_12 (G : Gx) (l : Launch) (d w : Nat) (P : Int32 → Hp → Prop) (x0 : Int32) (sx0 : Int32) (h : Hp)  : Prop := P sx0 h
set_option maxRecDepth 100000 in
set_option maxHeartbeats 4000000 in
theorem okJ_Al_septetsOf_12 {G : Gx} {l : Launch} {d w : Nat} {P : Int32 → Hp → Prop} {p : Program} {e : Env} {s : State} {m : MethodId} {args : Array Value} {below : List Frame} {meth : Method} {c : Code} {x0 : Int32} {sx0 : Int32} {h : Hp}  (H : wJ_Al_septetsOf_12 G l d w P  x0 sx0 h ) : Go M_Al_septetsOf (mkX G (fun r h' => ∃ x, r = some (.int x) ∧ P x h') (d + 0) (w + 0) 0 0 p l e s m args below meth c) 12 [some (.int x0)] [.int sx0] h 0 0 := by
  unfold wJ_Al_septetsOf_12 at H
  exact g_ireturn d_Al_septetsOf_12 rfl (Nat.le_refl _) (Nat.le_refl _) ⟨_, rfl, H⟩
set_option maxRecDepth 100000 in
set_option maxHeartbeats 4000000 in
def wp_Al_septetsOf (G : Gx) (l : Launch) (d w : Nat) (P : Int32 → Hp → Prop) (x0 : Int32) (h : Hp) : Prop := (x0 < 128 → wJ_Al_septetsOf_12 G l d w P x0 1 h) ∧ (¬ x0 < 128 → wJ_Al_septetsOf_12 G l d w P x0 2 h)
set_option maxRecDepth 100000 in
set_option maxHeartbeats 4000000 in
theorem ok_Al_septetsOf {G : Gx} {l : Launch} {d w : Nat} {P : Int32 → Hp → Prop} {x0 : Int32} {h : Hp} (H : wp_Al_septetsOf G l d w P x0 h) : Ci G l M_Al_septetsOf (d + 0) (w + 0) [.int x0] h 0 0 P := by
  unfold wp_Al_septetsOf at H
  refine Ct.of (lv := [some (.int x0)]) (by decide) (Nat.le_of_ble_eq_true rfl) rfl (fun p e s m args below meth c => ?_)
  refine g_iload_n d_Al_septetsOf_0 rfl ?_
  refine g_sipush (v := 128) d_Al_septetsOf_1 (by decide) ?_
  obtain ⟨H1, H2⟩ := H
  refine g_icmp_lt (tgt := 11) d_Al_septetsOf_4 (by decide) (fun c_1 => ?_) (fun c_1 => ?_)
  · have H := H1 c_1
    refine g_iconst (v := 1) d_Al_septetsOf_11 (by decide) ?_
    refine g_msk [true] ?_
    exact okJ_Al_septetsOf_12 H
  · have H := H2 c_1
    refine g_iconst (v := 2) d_Al_septetsOf_7 (by decide) ?_
    refine g_goto (tgt := 12) d_Al_septetsOf_8 (by decide) ?_
    refine g_msk [true] ?_
    exact okJ_Al_septetsOf_12 H
set_option maxRecDepth 100000 in
set_option maxHeartbeats 4000000 in
def wJ_Al_plain_21 (G : Gx) (l : Launch) (d w : Nat) (P : Int32 → Hp → Prop) (x0 : Int32) (sx0 : Int32) (h : Hp)  : Prop := P sx0 h
set_option maxRecDepth 100000 in
set_option maxHeartbeats 4000000 in
theorem okJ_Al_plain_21 {G : Gx} {l : Launch} {d w : Nat} {P : Int32 → Hp → Prop} {p : Program} {e : Env} {s : State} {m : MethodId} {args : Array Value} {below : List Frame} {meth : Method} {c : Code} {x0 : Int32} {sx0 : Int32} {h : Hp}  (H : wJ_Al_plain_21 G l d w P  x0 sx0 h ) : Go M_Al_plain (mkX G (fun r h' => ∃ x, r = some (.int x) ∧ P x h') (d + 0) (w + 0) 0 0 p l e s m args below meth c) 21 [some (.int x0)] [.int sx0] h 0 0 := by
  unfold wJ_Al_plain_21 at H
  exact g_ireturn d_Al_plain_21 rfl (Nat.le_refl _) (Nat.le_refl _) ⟨_, rfl, H⟩
set_option maxRecDepth 100000 in
set_option maxHeartbeats 4000000 in
def wJ_Al_plain_12 (G : Gx) (l : Launch) (d w : Nat) (P : Int32 → Hp → Prop) (x0 : Int32) (h : Hp)  : Prop := wJ_Al_plain_21 G l d w P x0 (-1) h
set_option maxRecDepth 100000 in
set_option maxHeartbeats 4000000 in
theorem okJ_Al_plain_12 {G : Gx} {l : Launch} {d w : Nat} {P : Int32 → Hp → Prop} {p : Program} {e : Env} {s : State} {m : MethodId} {args : Array Value} {below : List Frame} {meth : Method} {c : Code} {x0 : Int32} {h : Hp}  (H : wJ_Al_plain_12 G l d w P  x0 h ) : Go M_Al_plain (mkX G (fun r h' => ∃ x, r = some (.int x) ∧ P x h') (d + 0) (w + 0) 0 0 p l e s m args below meth c) 12 [some (.int x0)] [] h 0 0 := by
  unfold wJ_Al_plain_12 at H
  refine g_iconst (v := (-1)) d_Al_plain_12 (by decide) ?_
  refine g_goto (tgt := 21) d_Al_plain_13 (by decide) ?_
  refine g_msk [true] ?_
  exact okJ_Al_plain_21 H
set_option maxRecDepth 100000 in
set_option maxHeartbeats 4000000 in
def wp_Al_plain (G : Gx) (l : Launch) (d w : Nat) (P : Int32 → Hp → Prop) (x0 : Int32) (h : Hp) : Prop := (x0 < 0 → wJ_Al_plain_12 G l d w P x0 h) ∧ (¬ x0 < 0 → (x0 < (nI (kLen G 1)) → ∃ j_3 : Nat, (x0 = nI j_3 ∧ j_3 < kLen G 1 ∧ j_3 < 2147483648) ∧ (wJ_Al_plain_21 G l d w P x0 (kTab G 1 j_3) h)) ∧ (¬ x0 < (nI (kLen G 1)) → wJ_Al_plain_12 G l d w P x0 h))
set_option maxRecDepth 100000 in
set_option maxHeartbeats 4000000 in
theorem ok_Al_plain {G : Gx} {l : Launch} {d w : Nat} {P : Int32 → Hp → Prop} {x0 : Int32} {h : Hp} (H : wp_Al_plain G l d w P x0 h) : Ci G l M_Al_plain (d + 0) (w + 0) [.int x0] h 0 0 P := by
  unfold wp_Al_plain at H
  refine Ct.of (lv := [some (.int x0)]) (by decide) (Nat.le_of_ble_eq_true rfl) rfl (fun p e s m args below meth c => ?_)
  refine g_iload_n d_Al_plain_0 rfl ?_
  obtain ⟨H1, H2⟩ := H
  refine g_if_lt (tgt := 12) d_Al_plain_1 (by decide) (fun c_1 => ?_) (fun c_1 => ?_)
  · have H := H1 c_1
    refine g_msk [true] ?_
    exact okJ_Al_plain_12 H
  · have H := H2 c_1
    refine g_iload_n d_Al_plain_4 rfl ?_
    refine g_gets (t := 1) d_Al_plain_5 f_Al_7 (fun hz => hz.1.2.1) ?_
    refine g_clen (t := 1) d_Al_plain_8 (by decide) ?_
    obtain ⟨H1, H2⟩ := H
    refine g_icmp_lt (tgt := 16) d_Al_plain_9 (by decide) (fun c_2 => ?_) (fun c_2 => ?_)
    · have H := H1 c_2
      refine g_gets (t := 1) d_Al_plain_16 f_Al_7 (fun hz => hz.1.2.1) ?_
      refine g_iload_n d_Al_plain_19 rfl ?_
      obtain ⟨j_3, H⟩ := H
      obtain ⟨z_4, H⟩ := H
      refine g_cald (t := 1) d_Al_plain_20 (by decide) z_4.1 z_4.2.1 z_4.2.2 ?_
      refine g_msk [true] ?_
      exact okJ_Al_plain_21 H
    · have H := H2 c_2
      refine g_msk [true] ?_
      exact okJ_Al_plain_12 H
set_option maxRecDepth 100000 in
set_option maxHeartbeats 4000000 in
def wB_Al_second_2 (G : Gx) (l : Launch) (d w : Nat) (P : Int32 → Hp → Prop) (C2 : Int32 → Hp → Prop) (x0 : Int32) (x1 : Int32) (h : Hp)  : Prop := ((nI (kLen G 2)) ≤ x1 → P (-1) h) ∧ (¬ (nI (kLen G 2)) ≤ x1 → ∃ j_2 : Nat, (x1 = nI j_2 ∧ j_2 < kLen G 2 ∧ j_2 < 2147483648) ∧ ((¬ (kTab G 2 j_2) = x0 → ∀ x_5 : Int32, x_5 = x1 + 1 → C2 x_5 h) ∧ ((kTab G 2 j_2) = x0 → ∃ j_6 : Nat, (x1 = nI j_6 ∧ j_6 < kLen G 3 ∧ j_6 < 2147483648) ∧ (P (kTab G 3 j_6) h))))
set_option maxRecDepth 100000 in
set_option maxHeartbeats 4000000 in
theorem okB_Al_second_2 {G : Gx} {l : Launch} {d w : Nat} {P : Int32 → Hp → Prop} {p : Program} {e : Env} {s : State} {m : MethodId} {args : Array Value} {below : List Frame} {meth : Method} {c : Code} {C2 : Int32 → Hp → Prop} {x0 : Int32} {x1 : Int32} (hC2 : ∀ (x1 : Int32) (h : Hp), C2 x1 h → Go M_Al_second (mkX G (fun r h' => ∃ x, r = some (.int x) ∧ P x h') (d + 0) (w + 0) 0 0 p l e s m args below meth c) 2 [some (.int x0), some (.int x1)] [] h 0 0) {h : Hp}  (H : wB_Al_second_2 G l d w P C2 x0 x1 h ) : Go M_Al_second (mkX G (fun r h' => ∃ x, r = some (.int x) ∧ P x h') (d + 0) (w + 0) 0 0 p l e s m args below meth c) 2 [some (.int x0), some (.int x1)] [] h 0 0 := by
  unfold wB_Al_second_2 at H
  refine g_iload_n d_Al_second_2 rfl ?_
  refine g_gets (t := 2) d_Al_second_3 f_Al_13 (fun hz => hz.1.2.2.1) ?_
  refine g_clen (t := 2) d_Al_second_6 (by decide) ?_
  obtain ⟨H1, H2⟩ := H
  refine g_icmp_ge (tgt := 31) d_Al_second_7 (by decide) (fun c_1 => ?_) (fun c_1 => ?_)
  · have H := H1 c_1
    refine g_iconst (v := (-1)) d_Al_second_31 (by decide) ?_
    exact g_ireturn d_Al_second_32 rfl (Nat.le_refl _) (Nat.le_refl _) ⟨_, rfl, H⟩
  · have H := H2 c_1
    refine g_gets (t := 2) d_Al_second_10 f_Al_13 (fun hz => hz.1.2.2.1) ?_
    refine g_iload_n d_Al_second_13 rfl ?_
    obtain ⟨j_2, H⟩ := H
    obtain ⟨z_3, H⟩ := H
    refine g_cald (t := 2) d_Al_second_14 (by decide) z_3.1 z_3.2.1 z_3.2.2 ?_
    refine g_iload_n d_Al_second_15 rfl ?_
    obtain ⟨H1, H2⟩ := H
    refine g_icmp_ne (tgt := 25) d_Al_second_16 (by decide) (fun c_4 => ?_) (fun c_4 => ?_)
    · have H := H1 c_4
      obtain ⟨x_5, ex_5⟩ : ∃ z : Int32, z = x1 + 1 := ⟨_, rfl⟩
      replace H := H x_5 ex_5
      refine g_iinc (v := x_5) (lv' := [some (.int x0), some (.int x_5)]) d_Al_second_25 rfl (by decide) (by rw [ex_5]; rfl) rfl ?_
      refine g_goto (tgt := 2) d_Al_second_28 (by decide) ?_
      refine g_msk [true, true] ?_
      exact hC2 _ _ H
    · have H := H2 c_4
      refine g_gets (t := 3) d_Al_second_19 f_Al_16 (fun hz => hz.1.2.2.2) ?_
      refine g_iload_n d_Al_second_22 rfl ?_
      obtain ⟨j_6, H⟩ := H
      obtain ⟨z_7, H⟩ := H
      refine g_cald (t := 3) d_Al_second_23 (by decide) z_7.1 z_7.2.1 z_7.2.2 ?_
      exact g_ireturn d_Al_second_24 rfl (Nat.le_refl _) (Nat.le_refl _) ⟨_, rfl, H⟩
set_option maxRecDepth 100000 in
set_option maxHeartbeats 4000000 in
def wL_Al_second_2 (G : Gx) (l : Launch) (d w : Nat) (P : Int32 → Hp → Prop) (x0 : Int32) (x1 : Int32) (h : Hp)  : Prop := ∃ (I : Int32 → Hp → Prop) (μ : Int32 → Hp → Nat), I x1 h ∧ ∀ (x1' : Int32) (h' : Hp), I x1' h' → wB_Al_second_2 G l d w P (fun x1_ h_ => I x1_ h_ ∧ μ x1_ h_ < μ x1' h') x0 x1' h'
set_option maxRecDepth 100000 in
set_option maxHeartbeats 4000000 in
theorem okL_Al_second_2 {G : Gx} {l : Launch} {d w : Nat} {P : Int32 → Hp → Prop} {p : Program} {e : Env} {s : State} {m : MethodId} {args : Array Value} {below : List Frame} {meth : Method} {c : Code} {x0 : Int32} {x1 : Int32} {h : Hp}  (H : wL_Al_second_2 G l d w P  x0 x1 h ) : Go M_Al_second (mkX G (fun r h' => ∃ x, r = some (.int x) ∧ P x h') (d + 0) (w + 0) 0 0 p l e s m args below meth c) 2 [some (.int x0), some (.int x1)] [] h 0 0 := by
  obtain ⟨I, μ, h0, hs⟩ := H
  have key : ∀ (N : Nat) (x1 : Int32) (h : Hp), I x1 h → μ x1 h < N → Go M_Al_second (mkX G (fun r h' => ∃ x, r = some (.int x) ∧ P x h') (d + 0) (w + 0) 0 0 p l e s m args below meth c) 2 [some (.int x0), some (.int x1)] [] h 0 0 := by
    intro N
    induction N with
    | zero => intro x1 h _ hN; exact absurd hN (Nat.not_lt_zero _)
    | succ N ih =>
      intro x1 h hI hN
      exact okB_Al_second_2 (fun x1_ h_ hh => ih x1_ h_ hh.1 (Nat.lt_of_lt_of_le hh.2 (Nat.le_of_lt_succ hN))) (hs x1 h hI)
  exact key _ _ _ h0 (Nat.lt_succ_self _)
set_option maxRecDepth 100000 in
set_option maxHeartbeats 4000000 in
def wp_Al_second (G : Gx) (l : Launch) (d w : Nat) (P : Int32 → Hp → Prop) (x0 : Int32) (h : Hp) : Prop := wL_Al_second_2 G l d w P x0 0 h
set_option maxRecDepth 100000 in
set_option maxHeartbeats 4000000 in
theorem ok_Al_second {G : Gx} {l : Launch} {d w : Nat} {P : Int32 → Hp → Prop} {x0 : Int32} {h : Hp} (H : wp_Al_second G l d w P x0 h) : Ci G l M_Al_second (d + 0) (w + 0) [.int x0] h 0 0 P := by
  unfold wp_Al_second at H
  refine Ct.of (lv := [some (.int x0), none]) (by decide) (Nat.le_of_ble_eq_true rfl) rfl (fun p e s m args below meth c => ?_)
  refine g_iconst (v := 0) d_Al_second_0 (by decide) ?_
  refine g_istore_n (lv' := [some (.int x0), some (.int 0)]) d_Al_second_1 (by decide) rfl ?_
  refine g_msk [true, true] ?_
  exact okL_Al_second_2 H
set_option maxRecDepth 100000 in
set_option maxHeartbeats 4000000 in
def wp_Ro_init (G : Gx) (l : Launch) (d w mc ms : Nat) (P : Hp → Prop) (q0 : Nat) (x1 : Int32) (o2 : Option Nat) (h : Hp) : Prop := ∃ N_3 : Nat, (x1 = nI N_3 ∧ N_3 < 2147483648 ∧ N_3 * 4 ≤ 536870912) ∧ ((0 + 1 ≤ mc ∧ 0 + N_3 ≤ ms) ∧ (∀ q_1 : Nat, Fre h q_1 → (hS (pN h q_1 (0, N_3)) q0 = some (15, 0)) ∧ (((0 + 1) ≤ mc ∧ (0 + N_3) ≤ ms) ∧ (P (pR (pR (pN h q_1 (0, N_3)) q0 0 (some q_1)) q0 2 o2)))))
set_option maxRecDepth 100000 in
set_option maxHeartbeats 4000000 in
theorem ok_Ro_init {G : Gx} {l : Launch} {d w : Nat} {mc ms : Nat} {P : Hp → Prop} {q0 : Nat} {x1 : Int32} {o2 : Option Nat} {h : Hp} (H : wp_Ro_init G l d w mc ms P q0 x1 o2 h) : Cv G l M_Ro_init (d + 1) (w + 20) [.ref q0, .int x1, va_rf o2] h mc ms P := by
  unfold wp_Ro_init at H
  refine Ct.of (lv := [some (.ref q0), some (.int x1), some (va_rf o2)]) (by decide) (by cases o2 <;> exact Nat.le_of_ble_eq_true rfl) (by cases o2 <;> rfl) (fun p e s m args below meth c => ?_)
  refine g_aload_n d_Ro_init_0 rfl ?_
  refine g_objInit d_Ro_init_1 kx_Ro kx_n kx_c (catS_le (Nat.le_of_ble_eq_true rfl)) ⟨show 1 ≤ d + 1 by omega, show 20 ≤ w + 20 by omega⟩ ?_
  refine g_aload_n d_Ro_init_4 rfl ?_
  refine g_iload_n d_Ro_init_5 rfl ?_
  obtain ⟨N_3, H⟩ := H
  obtain ⟨z_4, H⟩ := H
  obtain ⟨b_2, H⟩ := H
  refine g_newarr d_Ro_init_6 kA_i z_4.1 z_4.2.1 z_4.2.2 b_2.1 b_2.2 (Or.inl ⟨rfl, rfl⟩) (fun q_1 Fq_1 => ?_)
  replace H := H q_1 Fq_1
  have z_5 : hS (pN h q_1 (0, N_3)) q_1 = some (0, N_3) := Fre.new
  obtain ⟨z_6, H⟩ := H
  refine g_putR (x := (some q_1)) (ty := .array .int) d_Ro_init_8 f_Ro_7 ⟨_, rfl, Or.inr ⟨rfl, rfl, rfl⟩⟩ z_6 (by decide) (by decide +kernel) (Or.inr ⟨_, rfl⟩) ?_
  refine g_aload_n d_Ro_init_11 rfl ?_
  refine g_aload_nV d_Ro_init_12 rfl ?_
  refine g_putR (x := o2) (ty := .object "SeptetCentre$Device") d_Ro_init_13 f_Ro_13 ⟨_, rfl, Or.inr ⟨rfl, rfl, rfl⟩⟩ z_6 (by decide) (by decide +kernel) (Or.inl ⟨_, rfl⟩) ?_
  obtain ⟨b_7, H⟩ := H
  exact g_return d_Ro_init_16 rfl b_7.1 b_7.2 ⟨rfl, H⟩
set_option maxRecDepth 100000 in
set_option maxHeartbeats 4000000 in
def wJ_Ro_digitsOf_32 (G : Gx) (l : Launch) (d w : Nat) (P : Int32 → Hp → Prop) (y0 : Int64) (x2 : Int32) (y3 : Int64) (h : Hp)  : Prop := P x2 h
set_option maxRecDepth 100000 in
set_option maxHeartbeats 4000000 in
theorem okJ_Ro_digitsOf_32 {G : Gx} {l : Launch} {d w : Nat} {P : Int32 → Hp → Prop} {p : Program} {e : Env} {s : State} {m : MethodId} {args : Array Value} {below : List Frame} {meth : Method} {c : Code} {y0 : Int64} {x2 : Int32} {y3 : Int64} {h : Hp}  (H : wJ_Ro_digitsOf_32 G l d w P  y0 x2 y3 h ) : Go M_Ro_digitsOf (mkX G (fun r h' => ∃ x, r = some (.int x) ∧ P x h') (d + 0) (w + 0) 0 0 p l e s m args below meth c) 32 [some (.long y0), none, some (.int x2), some (.long y3), none] [] h 0 0 := by
  unfold wJ_Ro_digitsOf_32 at H
  refine g_iload_n d_Ro_digitsOf_32 rfl ?_
  exact g_ireturn d_Ro_digitsOf_33 rfl (Nat.le_refl _) (Nat.le_refl _) ⟨_, rfl, H⟩
set_option maxRecDepth 100000 in
set_option maxHeartbeats 4000000 in
def wB_Ro_digitsOf_8 (G : Gx) (l : Launch) (d w : Nat) (P : Int32 → Hp → Prop) (C8 : Int32 → Int64 → Hp → Prop) (y0 : Int64) (x2 : Int32) (y3 : Int64) (h : Hp)  : Prop := ((lg_cmp y3 0) ≤ 0 → wJ_Ro_digitsOf_32 G l d w P y0 x2 y3 h) ∧ (¬ (lg_cmp y3 0) ≤ 0 → (12 ≤ x2 → wJ_Ro_digitsOf_32 G l d w P y0 x2 y3 h) ∧ (¬ 12 ≤ x2 → ∀ y_3 : Int64, y_3 = (y3 / 10) → ∀ x_4 : Int32, x_4 = x2 + 1 → C8 x_4 y_3 h))
set_option maxRecDepth 100000 in
set_option maxHeartbeats 4000000 in
theorem okB_Ro_digitsOf_8 {G : Gx} {l : Launch} {d w : Nat} {P : Int32 → Hp → Prop} {p : Program} {e : Env} {s : State} {m : MethodId} {args : Array Value} {below : List Frame} {meth : Method} {c : Code} {C8 : Int32 → Int64 → Hp → Prop} {y0 : Int64} {x2 : Int32} {y3 : Int64} (hC8 : ∀ (x2 : Int32) (y3 : Int64) (h : Hp), C8 x2 y3 h → Go M_Ro_digitsOf (mkX G (fun r h' => ∃ x, r = some (.int x) ∧ P x h') (d + 0) (w + 0) 0 0 p l e s m args below meth c) 8 [some (.long y0), none, some (.int x2), some (.long y3), none] [] h 0 0) {h : Hp}  (H : wB_Ro_digitsOf_8 G l d w P C8 y0 x2 y3 h ) : Go M_Ro_digitsOf (mkX G (fun r h' => ∃ x, r = some (.int x) ∧ P x h') (d + 0) (w + 0) 0 0 p l e s m args below meth c) 8 [some (.long y0), none, some (.int x2), some (.long y3), none] [] h 0 0 := by
  unfold wB_Ro_digitsOf_8 at H
  refine g_lload_n d_Ro_digitsOf_8 rfl ?_
  refine g_lconst (v := 0) d_Ro_digitsOf_9 (by decide) ?_
  refine g_lcmp d_Ro_digitsOf_10 ?_
  obtain ⟨H1, H2⟩ := H
  refine g_if_le (tgt := 32) d_Ro_digitsOf_11 (by decide) (fun c_1 => ?_) (fun c_1 => ?_)
  · have H := H1 c_1
    refine g_msk [true, false, true, true, false] ?_
    exact okJ_Ro_digitsOf_32 H
  · have H := H2 c_1
    refine g_iload_n d_Ro_digitsOf_14 rfl ?_
    refine g_bipush (v := 12) d_Ro_digitsOf_15 (by decide) ?_
    obtain ⟨H1, H2⟩ := H
    refine g_icmp_ge (tgt := 32) d_Ro_digitsOf_17 (by decide) (fun c_2 => ?_) (fun c_2 => ?_)
    · have H := H1 c_2
      refine g_msk [true, false, true, true, false] ?_
      exact okJ_Ro_digitsOf_32 H
    · have H := H2 c_2
      refine g_lload_n d_Ro_digitsOf_20 rfl ?_
      refine g_ldc2 d_Ro_digitsOf_21 k_Ro_17 ?_
      refine g_ldiv d_Ro_digitsOf_24 (by decide) ?_
      refine g_topl (fun y_3 ey_3 => ?_)
      replace H := H y_3 ey_3
      refine g_lstore_n (lv' := [some (.long y0), none, some (.int x2), some (.long y_3), none]) d_Ro_digitsOf_25 (by decide) rfl ?_
      obtain ⟨x_4, ex_4⟩ : ∃ z : Int32, z = x2 + 1 := ⟨_, rfl⟩
      replace H := H x_4 ex_4
      refine g_iinc (v := x_4) (lv' := [some (.long y0), none, some (.int x_4), some (.long y_3), none]) d_Ro_digitsOf_26 rfl (by decide) (by rw [ex_4]; rfl) rfl ?_
      refine g_goto (tgt := 8) d_Ro_digitsOf_29 (by decide) ?_
      refine g_msk [true, false, true, true, false] ?_
      exact hC8 _ _ _ H
set_option maxRecDepth 100000 in
set_option maxHeartbeats 4000000 in
def wL_Ro_digitsOf_8 (G : Gx) (l : Launch) (d w : Nat) (P : Int32 → Hp → Prop) (y0 : Int64) (x2 : Int32) (y3 : Int64) (h : Hp)  : Prop := ∃ (I : Int32 → Int64 → Hp → Prop) (μ : Int32 → Int64 → Hp → Nat), I x2 y3 h ∧ ∀ (x2' : Int32) (y3' : Int64) (h' : Hp), I x2' y3' h' → wB_Ro_digitsOf_8 G l d w P (fun x2_ y3_ h_ => I x2_ y3_ h_ ∧ μ x2_ y3_ h_ < μ x2' y3' h') y0 x2' y3' h'
set_option maxRecDepth 100000 in
set_option maxHeartbeats 4000000 in
theorem okL_Ro_digitsOf_8 {G : Gx} {l : Launch} {d w : Nat} {P : Int32 → Hp → Prop} {p : Program} {e : Env} {s : State} {m : MethodId} {args : Array Value} {below : List Frame} {meth : Method} {c : Code} {y0 : Int64} {x2 : Int32} {y3 : Int64} {h : Hp}  (H : wL_Ro_digitsOf_8 G l d w P  y0 x2 y3 h ) : Go M_Ro_digitsOf (mkX G (fun r h' => ∃ x, r = some (.int x) ∧ P x h') (d + 0) (w + 0) 0 0 p l e s m args below meth c) 8 [some (.long y0), none, some (.int x2), some (.long y3), none] [] h 0 0 := by
  obtain ⟨I, μ, h0, hs⟩ := H
  have key : ∀ (N : Nat) (x2 : Int32) (y3 : Int64) (h : Hp), I x2 y3 h → μ x2 y3 h < N → Go M_Ro_digitsOf (mkX G (fun r h' => ∃ x, r = some (.int x) ∧ P x h') (d + 0) (w + 0) 0 0 p l e s m args below meth c) 8 [some (.long y0), none, some (.int x2), some (.long y3), none] [] h 0 0 := by
    intro N
    induction N with
    | zero => intro x2 y3 h _ hN; exact absurd hN (Nat.not_lt_zero _)
    | succ N ih =>
      intro x2 y3 h hI hN
      exact okB_Ro_digitsOf_8 (fun x2_ y3_ h_ hh => ih x2_ y3_ h_ hh.1 (Nat.lt_of_lt_of_le hh.2 (Nat.le_of_lt_succ hN))) (hs x2 y3 h hI)
  exact key _ _ _ _ h0 (Nat.lt_succ_self _)
set_option maxRecDepth 100000 in
set_option maxHeartbeats 4000000 in
def wp_Ro_digitsOf (G : Gx) (l : Launch) (d w : Nat) (P : Int32 → Hp → Prop) (y0 : Int64) (h : Hp) : Prop := ∀ y_5 : Int64, y_5 = (y0 / 10) → wL_Ro_digitsOf_8 G l d w P y0 1 y_5 h
set_option maxRecDepth 100000 in
set_option maxHeartbeats 4000000 in
theorem ok_Ro_digitsOf {G : Gx} {l : Launch} {d w : Nat} {P : Int32 → Hp → Prop} {y0 : Int64} {h : Hp} (H : wp_Ro_digitsOf G l d w P y0 h) : Ci G l M_Ro_digitsOf (d + 0) (w + 0) [.long y0] h 0 0 P := by
  unfold wp_Ro_digitsOf at H
  refine Ct.of (lv := [some (.long y0), none, none, none, none]) (by decide) (Nat.le_of_ble_eq_true rfl) rfl (fun p e s m args below meth c => ?_)
  refine g_iconst (v := 1) d_Ro_digitsOf_0 (by decide) ?_
  refine g_istore_n (lv' := [some (.long y0), none, some (.int 1), none, none]) d_Ro_digitsOf_1 (by decide) rfl ?_
  refine g_lload_n d_Ro_digitsOf_2 rfl ?_
  refine g_ldc2 d_Ro_digitsOf_3 k_Ro_17 ?_
  refine g_ldiv d_Ro_digitsOf_6 (by decide) ?_
  refine g_topl (fun y_5 ey_5 => ?_)
  replace H := H y_5 ey_5
  refine g_lstore_n (lv' := [some (.long y0), none, some (.int 1), some (.long y_5), none]) d_Ro_digitsOf_7 (by decide) rfl ?_
  refine g_msk [true, false, true, true, false] ?_
  exact okL_Ro_digitsOf_8 H
set_option maxRecDepth 100000 in
set_option maxHeartbeats 4000000 in
def wp_Ro_addressSize (G : Gx) (l : Launch) (d w : Nat) (P : Int32 → Hp → Prop) (x0 : Int32) (h : Hp) : Prop := P (2 + ((x0 + 1) / 2)) h
set_option maxRecDepth 100000 in
set_option maxHeartbeats 4000000 in
theorem ok_Ro_addressSize {G : Gx} {l : Launch} {d w : Nat} {P : Int32 → Hp → Prop} {x0 : Int32} {h : Hp} (H : wp_Ro_addressSize G l d w P x0 h) : Ci G l M_Ro_addressSize (d + 0) (w + 0) [.int x0] h 0 0 P := by
  unfold wp_Ro_addressSize at H
  refine Ct.of (lv := [some (.int x0)]) (by decide) (Nat.le_of_ble_eq_true rfl) rfl (fun p e s m args below meth c => ?_)
  refine g_iconst (v := 2) d_Ro_addressSize_0 (by decide) ?_
  refine g_iload_n d_Ro_addressSize_1 rfl ?_
  refine g_iconst (v := 1) d_Ro_addressSize_2 (by decide) ?_
  refine g_iadd d_Ro_addressSize_3 ?_
  refine g_iconst (v := 2) d_Ro_addressSize_4 (by decide) ?_
  refine g_idiv d_Ro_addressSize_5 (by decide) ?_
  refine g_iadd d_Ro_addressSize_6 ?_
  exact g_ireturn d_Ro_addressSize_7 rfl (Nat.le_refl _) (Nat.le_refl _) ⟨_, rfl, H⟩
set_option maxRecDepth 100000 in
set_option maxHeartbeats 4000000 in
def wp_Ro_dataSize (G : Gx) (l : Launch) (d w : Nat) (P : Int32 → Hp → Prop) (x0 : Int32) (h : Hp) : Prop := P (1 + (((7 * x0) + 7) / 8)) h
set_option maxRecDepth 100000 in
set_option maxHeartbeats 4000000 in
theorem ok_Ro_dataSize {G : Gx} {l : Launch} {d w : Nat} {P : Int32 → Hp → Prop} {x0 : Int32} {h : Hp} (H : wp_Ro_dataSize G l d w P x0 h) : Ci G l M_Ro_dataSize (d + 0) (w + 0) [.int x0] h 0 0 P := by
  unfold wp_Ro_dataSize at H
  refine Ct.of (lv := [some (.int x0)]) (by decide) (Nat.le_of_ble_eq_true rfl) rfl (fun p e s m args below meth c => ?_)
  refine g_iconst (v := 1) d_Ro_dataSize_0 (by decide) ?_
  refine g_bipush (v := 7) d_Ro_dataSize_1 (by decide) ?_
  refine g_iload_n d_Ro_dataSize_3 rfl ?_
  refine g_imul d_Ro_dataSize_4 ?_
  refine g_bipush (v := 7) d_Ro_dataSize_5 (by decide) ?_
  refine g_iadd d_Ro_dataSize_7 ?_
  refine g_bipush (v := 8) d_Ro_dataSize_8 (by decide) ?_
  refine g_idiv d_Ro_dataSize_10 (by decide) ?_
  refine g_iadd d_Ro_dataSize_11 ?_
  exact g_ireturn d_Ro_dataSize_12 rfl (Nat.le_refl _) (Nat.le_refl _) ⟨_, rfl, H⟩
set_option maxRecDepth 100000 in
set_option maxHeartbeats 4000000 in
def wp_Ro_submitSize (G : Gx) (l : Launch) (d w : Nat) (P : Int32 → Hp → Prop) (y0 : Int64) (x2 : Int32) (h : Hp) : Prop := ∃ P_1 : Int32 → Hp → Prop, (Ci G l M_Ro_digitsOf (d + 0) (w + 0) [.long y0] h 0 0 P_1) ∧ (∀ (x_5 : Int32) (h_3 : Hp), P_1 x_5 h_3 → ∃ P_8 : Int32 → Hp → Prop, (Ci G l M_Ro_addressSize (d + 0) (w + 0) [.int x_5] h_3 0 0 P_8) ∧ (∀ (x_12 : Int32) (h_10 : Hp), P_8 x_12 h_10 → ∃ P_15 : Int32 → Hp → Prop, (Ci G l M_Ro_dataSize (d + 0) (w + 0) [.int x2] h_10 0 0 P_15) ∧ (∀ (x_19 : Int32) (h_17 : Hp), P_15 x_19 h_17 → P (((2 + x_12) + 3) + x_19) h_17)))
set_option maxRecDepth 100000 in
set_option maxHeartbeats 4000000 in
theorem ok_Ro_submitSize {G : Gx} {l : Launch} {d w : Nat} {P : Int32 → Hp → Prop} {y0 : Int64} {x2 : Int32} {h : Hp} (H : wp_Ro_submitSize G l d w P y0 x2 h) : Ci G l M_Ro_submitSize (d + 1) (w + 24) [.long y0, .int x2] h 0 0 P := by
  unfold wp_Ro_submitSize at H
  refine Ct.of (lv := [some (.long y0), none, some (.int x2)]) (by decide) (Nat.le_of_ble_eq_true rfl) rfl (fun p e s m args below meth c => ?_)
  refine g_iconst (v := 2) d_Ro_submitSize_0 (by decide) ?_
  refine g_lload_n d_Ro_submitSize_1 rfl ?_
  obtain ⟨P_1, C_2, H⟩ := H
  refine q_S (As := [.long y0]) (st := [.int 2]) (nl := 5) d_Ro_submitSize_2 v_Ro_19 C_2 rfl (catS_le (Nat.le_of_ble_eq_true rfl)) rfl ⟨by omega, by omega, Nat.le_refl _, Nat.le_refl _⟩ (fun r_7 h_3 p_4 => ?_)
  obtain ⟨x_5, rfl, p_4⟩ := p_4
  replace H := H x_5 h_3 p_4
  show Go _ _ _ _ [.int x_5, .int 2] _ _ _
  obtain ⟨P_8, C_9, H⟩ := H
  refine q_S (As := [.int x_5]) (st := [.int 2]) (nl := 1) d_Ro_submitSize_5 v_Ro_23 C_9 rfl (catS_le (Nat.le_of_ble_eq_true rfl)) rfl ⟨by omega, by omega, Nat.le_refl _, Nat.le_refl _⟩ (fun r_14 h_10 p_11 => ?_)
  obtain ⟨x_12, rfl, p_11⟩ := p_11
  replace H := H x_12 h_10 p_11
  show Go _ _ _ _ [.int x_12, .int 2] _ _ _
  refine g_iadd d_Ro_submitSize_8 ?_
  refine g_iconst (v := 3) d_Ro_submitSize_9 (by decide) ?_
  refine g_iadd d_Ro_submitSize_10 ?_
  refine g_iload_n d_Ro_submitSize_11 rfl ?_
  obtain ⟨P_15, C_16, H⟩ := H
  refine q_S (As := [.int x2]) (st := [.int ((2 + x_12) + 3)]) (nl := 1) d_Ro_submitSize_12 v_Ro_27 C_16 rfl (catS_le (Nat.le_of_ble_eq_true rfl)) rfl ⟨by omega, by omega, Nat.le_refl _, Nat.le_refl _⟩ (fun r_21 h_17 p_18 => ?_)
  obtain ⟨x_19, rfl, p_18⟩ := p_18
  replace H := H x_19 h_17 p_18
  show Go _ _ _ _ [.int x_19, .int ((2 + x_12) + 3)] _ _ _
  refine g_iadd d_Ro_submitSize_15 ?_
  exact g_ireturn d_Ro_submitSize_16 rfl (Nat.le_refl _) (Nat.le_refl _) ⟨_, rfl, H⟩
set_option maxRecDepth 100000 in
set_option maxHeartbeats 4000000 in
def wp_Ro_deliverSize (G : Gx) (l : Launch) (d w : Nat) (P : Int32 → Hp → Prop) (y0 : Int64) (x2 : Int32) (h : Hp) : Prop := ∃ P_1 : Int32 → Hp → Prop, (Ci G l M_Ro_digitsOf (d + 0) (w + 0) [.long y0] h 0 0 P_1) ∧ (∀ (x_5 : Int32) (h_3 : Hp), P_1 x_5 h_3 → ∃ P_8 : Int32 → Hp → Prop, (Ci G l M_Ro_addressSize (d + 0) (w + 0) [.int x_5] h_3 0 0 P_8) ∧ (∀ (x_12 : Int32) (h_10 : Hp), P_8 x_12 h_10 → P ((((1 + x_12) + 2) + 7) + x2) h_10))
set_option maxRecDepth 100000 in
set_option maxHeartbeats 4000000 in
theorem ok_Ro_deliverSize {G : Gx} {l : Launch} {d w : Nat} {P : Int32 → Hp → Prop} {y0 : Int64} {x2 : Int32} {h : Hp} (H : wp_Ro_deliverSize G l d w P y0 x2 h) : Ci G l M_Ro_deliverSize (d + 1) (w + 24) [.long y0, .int x2] h 0 0 P := by
  unfold wp_Ro_deliverSize at H
  refine Ct.of (lv := [some (.long y0), none, some (.int x2)]) (by decide) (Nat.le_of_ble_eq_true rfl) rfl (fun p e s m args below meth c => ?_)
  refine g_iconst (v := 1) d_Ro_deliverSize_0 (by decide) ?_
  refine g_lload_n d_Ro_deliverSize_1 rfl ?_
  obtain ⟨P_1, C_2, H⟩ := H
  refine q_S (As := [.long y0]) (st := [.int 1]) (nl := 5) d_Ro_deliverSize_2 v_Ro_19 C_2 rfl (catS_le (Nat.le_of_ble_eq_true rfl)) rfl ⟨by omega, by omega, Nat.le_refl _, Nat.le_refl _⟩ (fun r_7 h_3 p_4 => ?_)
  obtain ⟨x_5, rfl, p_4⟩ := p_4
  replace H := H x_5 h_3 p_4
  show Go _ _ _ _ [.int x_5, .int 1] _ _ _
  obtain ⟨P_8, C_9, H⟩ := H
  refine q_S (As := [.int x_5]) (st := [.int 1]) (nl := 1) d_Ro_deliverSize_5 v_Ro_23 C_9 rfl (catS_le (Nat.le_of_ble_eq_true rfl)) rfl ⟨by omega, by omega, Nat.le_refl _, Nat.le_refl _⟩ (fun r_14 h_10 p_11 => ?_)
  obtain ⟨x_12, rfl, p_11⟩ := p_11
  replace H := H x_12 h_10 p_11
  show Go _ _ _ _ [.int x_12, .int 1] _ _ _
  refine g_iadd d_Ro_deliverSize_8 ?_
  refine g_iconst (v := 2) d_Ro_deliverSize_9 (by decide) ?_
  refine g_iadd d_Ro_deliverSize_10 ?_
  refine g_bipush (v := 7) d_Ro_deliverSize_11 (by decide) ?_
  refine g_iadd d_Ro_deliverSize_13 ?_
  refine g_iload_n d_Ro_deliverSize_14 rfl ?_
  refine g_iadd d_Ro_deliverSize_15 ?_
  exact g_ireturn d_Ro_deliverSize_16 rfl (Nat.le_refl _) (Nat.le_refl _) ⟨_, rfl, H⟩
set_option maxRecDepth 100000 in
set_option maxHeartbeats 4000000 in
def wp_Ro_reportSize (G : Gx) (l : Launch) (d w : Nat) (P : Int32 → Hp → Prop) (y0 : Int64) (h : Hp) : Prop := ∃ P_1 : Int32 → Hp → Prop, (Ci G l M_Ro_digitsOf (d + 0) (w + 0) [.long y0] h 0 0 P_1) ∧ (∀ (x_5 : Int32) (h_3 : Hp), P_1 x_5 h_3 → ∃ P_8 : Int32 → Hp → Prop, (Ci G l M_Ro_addressSize (d + 0) (w + 0) [.int x_5] h_3 0 0 P_8) ∧ (∀ (x_12 : Int32) (h_10 : Hp), P_8 x_12 h_10 → P (((2 + x_12) + 14) + 1) h_10))
set_option maxRecDepth 100000 in
set_option maxHeartbeats 4000000 in
theorem ok_Ro_reportSize {G : Gx} {l : Launch} {d w : Nat} {P : Int32 → Hp → Prop} {y0 : Int64} {h : Hp} (H : wp_Ro_reportSize G l d w P y0 h) : Ci G l M_Ro_reportSize (d + 1) (w + 24) [.long y0] h 0 0 P := by
  unfold wp_Ro_reportSize at H
  refine Ct.of (lv := [some (.long y0), none]) (by decide) (Nat.le_of_ble_eq_true rfl) rfl (fun p e s m args below meth c => ?_)
  refine g_iconst (v := 2) d_Ro_reportSize_0 (by decide) ?_
  refine g_lload_n d_Ro_reportSize_1 rfl ?_
  obtain ⟨P_1, C_2, H⟩ := H
  refine q_S (As := [.long y0]) (st := [.int 2]) (nl := 5) d_Ro_reportSize_2 v_Ro_19 C_2 rfl (catS_le (Nat.le_of_ble_eq_true rfl)) rfl ⟨by omega, by omega, Nat.le_refl _, Nat.le_refl _⟩ (fun r_7 h_3 p_4 => ?_)
  obtain ⟨x_5, rfl, p_4⟩ := p_4
  replace H := H x_5 h_3 p_4
  show Go _ _ _ _ [.int x_5, .int 2] _ _ _
  obtain ⟨P_8, C_9, H⟩ := H
  refine q_S (As := [.int x_5]) (st := [.int 2]) (nl := 1) d_Ro_reportSize_5 v_Ro_23 C_9 rfl (catS_le (Nat.le_of_ble_eq_true rfl)) rfl ⟨by omega, by omega, Nat.le_refl _, Nat.le_refl _⟩ (fun r_14 h_10 p_11 => ?_)
  obtain ⟨x_12, rfl, p_11⟩ := p_11
  replace H := H x_12 h_10 p_11
  show Go _ _ _ _ [.int x_12, .int 2] _ _ _
  refine g_iadd d_Ro_reportSize_8 ?_
  refine g_bipush (v := 14) d_Ro_reportSize_9 (by decide) ?_
  refine g_iadd d_Ro_reportSize_11 ?_
  refine g_iconst (v := 1) d_Ro_reportSize_12 (by decide) ?_
  refine g_iadd d_Ro_reportSize_13 ?_
  exact g_ireturn d_Ro_reportSize_14 rfl (Nat.le_refl _) (Nat.le_refl _) ⟨_, rfl, H⟩
set_option maxRecDepth 100000 in
set_option maxHeartbeats 4000000 in
def wp_Ro_size (G : Gx) (l : Launch) (d w : Nat) (P : Int32 → Hp → Prop) (q0 : Nat) (h : Hp) : Prop := (hS h q0 = some (15, 0)) ∧ (∃ q_2 : Nat, (hR h q0 0) = some q_2 ∧ (∃ N_4 : Nat, (hS h q_2 = some (0, N_4)) ∧ (P (nI N_4) h)))
set_option maxRecDepth 100000 in
set_option maxHeartbeats 4000000 in
theorem ok_Ro_size {G : Gx} {l : Launch} {d w : Nat} {P : Int32 → Hp → Prop} {q0 : Nat} {h : Hp} (H : wp_Ro_size G l d w P q0 h) : Ci G l M_Ro_size (d + 0) (w + 0) [.ref q0] h 0 0 P := by
  unfold wp_Ro_size at H
  refine Ct.of (lv := [some (.ref q0)]) (by decide) (Nat.le_of_ble_eq_true rfl) rfl (fun p e s m args below meth c => ?_)
  refine g_aload_n d_Ro_size_0 rfl ?_
  obtain ⟨z_1, H⟩ := H
  refine g_getR d_Ro_size_1 f_Ro_7 z_1 (by decide) ?_
  obtain ⟨q_2, e_3, H⟩ := H
  refine g_eqr e_3 ?_
  obtain ⟨N_4, H⟩ := H
  obtain ⟨z_5, H⟩ := H
  refine g_alen d_Ro_size_4 z_5 (by decide) ?_
  exact g_ireturn d_Ro_size_5 rfl (Nat.le_refl _) (Nat.le_refl _) ⟨_, rfl, H⟩
set_option maxRecDepth 100000 in
set_option maxHeartbeats 4000000 in
def wJ_Ro_has_18 (G : Gx) (l : Launch) (d w : Nat) (P : Int32 → Hp → Prop) (q0 : Nat) (x1 : Int32) (sx0 : Int32) (h : Hp)  : Prop := (sx0 = 0 ∨ sx0 = 1) ∧ (P sx0 h)
set_option maxRecDepth 100000 in
set_option maxHeartbeats 4000000 in
theorem okJ_Ro_has_18 {G : Gx} {l : Launch} {d w : Nat} {P : Int32 → Hp → Prop} {p : Program} {e : Env} {s : State} {m : MethodId} {args : Array Value} {below : List Frame} {meth : Method} {c : Code} {q0 : Nat} {x1 : Int32} {sx0 : Int32} {h : Hp}  (H : wJ_Ro_has_18 G l d w P  q0 x1 sx0 h ) : Go M_Ro_has (mkX G (fun r h' => ∃ x, r = some (.int x) ∧ P x h') (d + 0) (w + 0) 0 0 p l e s m args below meth c) 18 [some (.ref q0), some (.int x1)] [.int sx0] h 0 0 := by
  unfold wJ_Ro_has_18 at H
  obtain ⟨z_1, H⟩ := H
  exact g_zreturn d_Ro_has_18 rfl z_1 (Nat.le_refl _) (Nat.le_refl _) ⟨_, rfl, H⟩
set_option maxRecDepth 100000 in
set_option maxHeartbeats 4000000 in
def wJ_Ro_has_17 (G : Gx) (l : Launch) (d w : Nat) (P : Int32 → Hp → Prop) (q0 : Nat) (x1 : Int32) (h : Hp)  : Prop := wJ_Ro_has_18 G l d w P q0 x1 0 h
set_option maxRecDepth 100000 in
set_option maxHeartbeats 4000000 in
theorem okJ_Ro_has_17 {G : Gx} {l : Launch} {d w : Nat} {P : Int32 → Hp → Prop} {p : Program} {e : Env} {s : State} {m : MethodId} {args : Array Value} {below : List Frame} {meth : Method} {c : Code} {q0 : Nat} {x1 : Int32} {h : Hp}  (H : wJ_Ro_has_17 G l d w P  q0 x1 h ) : Go M_Ro_has (mkX G (fun r h' => ∃ x, r = some (.int x) ∧ P x h') (d + 0) (w + 0) 0 0 p l e s m args below meth c) 17 [some (.ref q0), some (.int x1)] [] h 0 0 := by
  unfold wJ_Ro_has_17 at H
  refine g_iconst (v := 0) d_Ro_has_17 (by decide) ?_
  refine g_msk [true, true] ?_
  exact okJ_Ro_has_18 H
set_option maxRecDepth 100000 in
set_option maxHeartbeats 4000000 in
def wp_Ro_has (G : Gx) (l : Launch) (d w : Nat) (P : Int32 → Hp → Prop) (q0 : Nat) (x1 : Int32) (h : Hp) : Prop := (x1 < 0 → wJ_Ro_has_17 G l d w P q0 x1 h) ∧ (¬ x1 < 0 → (hS h q0 = some (15, 0)) ∧ (∃ q_4 : Nat, (hR h q0 0) = some q_4 ∧ (∃ N_6 : Nat, (hS h q_4 = some (0, N_6)) ∧ (((nI N_6) ≤ x1 → wJ_Ro_has_17 G l d w P q0 x1 h) ∧ (¬ (nI N_6) ≤ x1 → wJ_Ro_has_18 G l d w P q0 x1 1 h)))))
set_option maxRecDepth 100000 in
set_option maxHeartbeats 4000000 in
theorem ok_Ro_has {G : Gx} {l : Launch} {d w : Nat} {P : Int32 → Hp → Prop} {q0 : Nat} {x1 : Int32} {h : Hp} (H : wp_Ro_has G l d w P q0 x1 h) : Ci G l M_Ro_has (d + 0) (w + 0) [.ref q0, .int x1] h 0 0 P := by
  unfold wp_Ro_has at H
  refine Ct.of (lv := [some (.ref q0), some (.int x1)]) (by decide) (Nat.le_of_ble_eq_true rfl) rfl (fun p e s m args below meth c => ?_)
  refine g_iload_n d_Ro_has_0 rfl ?_
  obtain ⟨H1, H2⟩ := H
  refine g_if_lt (tgt := 17) d_Ro_has_1 (by decide) (fun c_2 => ?_) (fun c_2 => ?_)
  · have H := H1 c_2
    refine g_msk [true, true] ?_
    exact okJ_Ro_has_17 H
  · have H := H2 c_2
    refine g_iload_n d_Ro_has_4 rfl ?_
    refine g_aload_n d_Ro_has_5 rfl ?_
    obtain ⟨z_3, H⟩ := H
    refine g_getR d_Ro_has_6 f_Ro_7 z_3 (by decide) ?_
    obtain ⟨q_4, e_5, H⟩ := H
    refine g_eqr e_5 ?_
    obtain ⟨N_6, H⟩ := H
    obtain ⟨z_7, H⟩ := H
    refine g_alen d_Ro_has_9 z_7 (by decide) ?_
    obtain ⟨H1, H2⟩ := H
    refine g_icmp_ge (tgt := 17) d_Ro_has_10 (by decide) (fun c_8 => ?_) (fun c_8 => ?_)
    · have H := H1 c_8
      refine g_msk [true, true] ?_
      exact okJ_Ro_has_17 H
    · have H := H2 c_8
      refine g_iconst (v := 1) d_Ro_has_13 (by decide) ?_
      refine g_goto (tgt := 18) d_Ro_has_14 (by decide) ?_
      refine g_msk [true, true] ?_
      exact okJ_Ro_has_18 H
set_option maxRecDepth 100000 in
set_option maxHeartbeats 4000000 in
def wJ_Ro_at_18 (G : Gx) (l : Launch) (d w : Nat) (P : Int32 → Hp → Prop) (q0 : Nat) (x1 : Int32) (sx0 : Int32) (h : Hp)  : Prop := P sx0 h
set_option maxRecDepth 100000 in
set_option maxHeartbeats 4000000 in
theorem okJ_Ro_at_18 {G : Gx} {l : Launch} {d w : Nat} {P : Int32 → Hp → Prop} {p : Program} {e : Env} {s : State} {m : MethodId} {args : Array Value} {below : List Frame} {meth : Method} {c : Code} {q0 : Nat} {x1 : Int32} {sx0 : Int32} {h : Hp}  (H : wJ_Ro_at_18 G l d w P  q0 x1 sx0 h ) : Go M_Ro_at (mkX G (fun r h' => ∃ x, r = some (.int x) ∧ P x h') (d + 1) (w + 21) 0 0 p l e s m args below meth c) 18 [some (.ref q0), some (.int x1)] [.int sx0] h 0 0 := by
  unfold wJ_Ro_at_18 at H
  exact g_ireturn d_Ro_at_18 rfl (Nat.le_refl _) (Nat.le_refl _) ⟨_, rfl, H⟩
set_option maxRecDepth 100000 in
set_option maxHeartbeats 4000000 in
def wp_Ro_at (G : Gx) (l : Launch) (d w : Nat) (P : Int32 → Hp → Prop) (q0 : Nat) (x1 : Int32) (h : Hp) : Prop := (hS h q0 = some (15, 0)) ∧ (∃ P_2 : Int32 → Hp → Prop, (Ci G l M_Ro_has (d + 0) (w + 0) [.ref q0, .int x1] h 0 0 P_2) ∧ (∀ (x_6 : Int32) (h_4 : Hp), P_2 x_6 h_4 → (x_6 = 0 → wJ_Ro_at_18 G l d w P q0 x1 (-1) h_4) ∧ (¬ x_6 = 0 → (hS h_4 q0 = some (15, 0)) ∧ (∃ q_11 : Nat, (hR h_4 q0 0) = some q_11 ∧ (∃ N_13 : Nat, ∃ j_14 : Nat, (hS h_4 q_11 = some (0, N_13) ∧ x1 = nI j_14 ∧ j_14 < N_13 ∧ j_14 < 2147483648) ∧ (wJ_Ro_at_18 G l d w P q0 x1 (hI h_4 q_11 j_14) h_4))))))
set_option maxRecDepth 100000 in
set_option maxHeartbeats 4000000 in
theorem ok_Ro_at {G : Gx} {l : Launch} {d w : Nat} {P : Int32 → Hp → Prop} {q0 : Nat} {x1 : Int32} {h : Hp} (H : wp_Ro_at G l d w P q0 x1 h) : Ci G l M_Ro_at (d + 1) (w + 21) [.ref q0, .int x1] h 0 0 P := by
  unfold wp_Ro_at at H
  refine Ct.of (lv := [some (.ref q0), some (.int x1)]) (by decide) (Nat.le_of_ble_eq_true rfl) rfl (fun p e s m args below meth c => ?_)
  refine g_aload_n d_Ro_at_0 rfl ?_
  refine g_iload_n d_Ro_at_1 rfl ?_
  obtain ⟨z_1, H⟩ := H
  obtain ⟨P_2, C_3, H⟩ := H
  refine q_V (As := [.int x1]) (st := []) (nl := 2) d_Ro_at_2 v_Ro_30 C_3 z_1 rfl (catS_le (Nat.le_of_ble_eq_true rfl)) rfl ⟨by omega, by omega, Nat.le_refl _, Nat.le_refl _⟩ (fun r_8 h_4 p_5 => ?_)
  obtain ⟨x_6, rfl, p_5⟩ := p_5
  replace H := H x_6 h_4 p_5
  show Go _ _ _ _ [.int x_6] _ _ _
  obtain ⟨H1, H2⟩ := H
  refine g_if_eq (tgt := 17) d_Ro_at_5 (by decide) (fun c_9 => ?_) (fun c_9 => ?_)
  · have H := H1 c_9
    refine g_iconst (v := (-1)) d_Ro_at_17 (by decide) ?_
    refine g_msk [true, true] ?_
    exact okJ_Ro_at_18 H
  · have H := H2 c_9
    refine g_aload_n d_Ro_at_8 rfl ?_
    obtain ⟨z_10, H⟩ := H
    refine g_getR d_Ro_at_9 f_Ro_7 z_10 (by decide) ?_
    refine g_iload_n d_Ro_at_12 rfl ?_
    obtain ⟨q_11, e_12, H⟩ := H
    show Go _ _ _ [some (.ref q0), some (.int x1)] [.int x1, va_rf (hR h_4 q0 0)] _ _ _
    rw [show va_rf (hR h_4 q0 0) = Value.ref q_11 from by rw [e_12]; rfl]
    obtain ⟨N_13, H⟩ := H
    obtain ⟨j_14, H⟩ := H
    obtain ⟨z_15, H⟩ := H
    refine g_iald d_Ro_at_13 z_15.1 z_15.2.1 z_15.2.2.1 z_15.2.2.2 ?_
    refine g_goto (tgt := 18) d_Ro_at_14 (by decide) ?_
    refine g_msk [true, true] ?_
    exact okJ_Ro_at_18 H
set_option maxRecDepth 100000 in
set_option maxHeartbeats 4000000 in
def wJ_Ro_flip_18 (G : Gx) (l : Launch) (d w : Nat) (P : Hp → Prop) (q0 : Nat) (x1 : Int32) (x2 : Int32) (h : Hp)  : Prop := P h
set_option maxRecDepth 100000 in
set_option maxHeartbeats 4000000 in
theorem okJ_Ro_flip_18 {G : Gx} {l : Launch} {d w : Nat} {P : Hp → Prop} {p : Program} {e : Env} {s : State} {m : MethodId} {args : Array Value} {below : List Frame} {meth : Method} {c : Code} {q0 : Nat} {x1 : Int32} {x2 : Int32} {h : Hp}  (H : wJ_Ro_flip_18 G l d w P  q0 x1 x2 h ) : Go M_Ro_flip (mkX G (fun r h' => r = none ∧ P h') (d + 1) (w + 21) 0 0 p l e s m args below meth c) 18 [some (.ref q0), some (.int x1), some (.int x2)] [] h 0 0 := by
  unfold wJ_Ro_flip_18 at H
  exact g_return d_Ro_flip_18 rfl (Nat.le_refl _) (Nat.le_refl _) ⟨rfl, H⟩
set_option maxRecDepth 100000 in
set_option maxHeartbeats 4000000 in
def wp_Ro_flip (G : Gx) (l : Launch) (d w : Nat) (P : Hp → Prop) (q0 : Nat) (x1 : Int32) (x2 : Int32) (h : Hp) : Prop := (hS h q0 = some (15, 0)) ∧ (∃ P_2 : Int32 → Hp → Prop, (Ci G l M_Ro_has (d + 0) (w + 0) [.ref q0, .int x1] h 0 0 P_2) ∧ (∀ (x_6 : Int32) (h_4 : Hp), P_2 x_6 h_4 → (x_6 = 0 → wJ_Ro_flip_18 G l d w P q0 x1 x2 h_4) ∧ (¬ x_6 = 0 → (hS h_4 q0 = some (15, 0)) ∧ (∃ q_11 : Nat, (hR h_4 q0 0) = some q_11 ∧ (∃ N_13 : Nat, ∃ j_14 : Nat, (hS h_4 q_11 = some (0, N_13) ∧ x1 = nI j_14 ∧ j_14 < N_13 ∧ j_14 < 2147483648) ∧ (wJ_Ro_flip_18 G l d w P q0 x1 x2 (pI h_4 q_11 j_14 ((hI h_4 q_11 j_14) ^^^ x2))))))))
set_option maxRecDepth 100000 in
set_option maxHeartbeats 4000000 in
theorem ok_Ro_flip {G : Gx} {l : Launch} {d w : Nat} {P : Hp → Prop} {q0 : Nat} {x1 : Int32} {x2 : Int32} {h : Hp} (H : wp_Ro_flip G l d w P q0 x1 x2 h) : Cv G l M_Ro_flip (d + 1) (w + 21) [.ref q0, .int x1, .int x2] h 0 0 P := by
  unfold wp_Ro_flip at H
  refine Ct.of (lv := [some (.ref q0), some (.int x1), some (.int x2)]) (by decide) (Nat.le_of_ble_eq_true rfl) rfl (fun p e s m args below meth c => ?_)
  refine g_aload_n d_Ro_flip_0 rfl ?_
  refine g_iload_n d_Ro_flip_1 rfl ?_
  obtain ⟨z_1, H⟩ := H
  obtain ⟨P_2, C_3, H⟩ := H
  refine q_V (As := [.int x1]) (st := []) (nl := 2) d_Ro_flip_2 v_Ro_30 C_3 z_1 rfl (catS_le (Nat.le_of_ble_eq_true rfl)) rfl ⟨by omega, by omega, Nat.le_refl _, Nat.le_refl _⟩ (fun r_8 h_4 p_5 => ?_)
  obtain ⟨x_6, rfl, p_5⟩ := p_5
  replace H := H x_6 h_4 p_5
  show Go _ _ _ _ [.int x_6] _ _ _
  obtain ⟨H1, H2⟩ := H
  refine g_if_eq (tgt := 18) d_Ro_flip_5 (by decide) (fun c_9 => ?_) (fun c_9 => ?_)
  · have H := H1 c_9
    refine g_msk [true, true, true] ?_
    exact okJ_Ro_flip_18 H
  · have H := H2 c_9
    refine g_aload_n d_Ro_flip_8 rfl ?_
    obtain ⟨z_10, H⟩ := H
    refine g_getR d_Ro_flip_9 f_Ro_7 z_10 (by decide) ?_
    refine g_iload_n d_Ro_flip_12 rfl ?_
    refine g_dup2 d_Ro_flip_13 rfl (vcat _) ?_
    obtain ⟨q_11, e_12, H⟩ := H
    show Go _ _ _ [some (.ref q0), some (.int x1), some (.int x2)] [.int x1, va_rf (hR h_4 q0 0), .int x1, va_rf (hR h_4 q0 0)] _ _ _
    rw [show va_rf (hR h_4 q0 0) = Value.ref q_11 from by rw [e_12]; rfl]
    obtain ⟨N_13, H⟩ := H
    obtain ⟨j_14, H⟩ := H
    obtain ⟨z_15, H⟩ := H
    refine g_iald d_Ro_flip_14 z_15.1 z_15.2.1 z_15.2.2.1 z_15.2.2.2 ?_
    refine g_iload_n d_Ro_flip_15 rfl ?_
    refine g_ixor d_Ro_flip_16 ?_
    refine g_iast d_Ro_flip_17 z_15.1 z_15.2.1 z_15.2.2.1 z_15.2.2.2 ?_
    refine g_msk [true, true, true] ?_
    exact okJ_Ro_flip_18 H
set_option maxRecDepth 100000 in
set_option maxHeartbeats 4000000 in
def wJ_Ro_put_31 (G : Gx) (l : Launch) (d w : Nat) (P : Hp → Prop) (q0 : Nat) (x1 : Int32) (h : Hp)  : Prop := P h
set_option maxRecDepth 100000 in
set_option maxHeartbeats 4000000 in
theorem okJ_Ro_put_31 {G : Gx} {l : Launch} {d w : Nat} {P : Hp → Prop} {p : Program} {e : Env} {s : State} {m : MethodId} {args : Array Value} {below : List Frame} {meth : Method} {c : Code} {q0 : Nat} {x1 : Int32} {h : Hp}  (H : wJ_Ro_put_31 G l d w P  q0 x1 h ) : Go M_Ro_put (mkX G (fun r h' => r = none ∧ P h') (d + 1) (w + 21) 0 0 p l e s m args below meth c) 31 [some (.ref q0), some (.int x1)] [] h 0 0 := by
  unfold wJ_Ro_put_31 at H
  exact g_return d_Ro_put_31 rfl (Nat.le_refl _) (Nat.le_refl _) ⟨rfl, H⟩
set_option maxRecDepth 100000 in
set_option maxHeartbeats 4000000 in
def wp_Ro_put (G : Gx) (l : Launch) (d w : Nat) (P : Hp → Prop) (q0 : Nat) (x1 : Int32) (h : Hp) : Prop := (hS h q0 = some (15, 0)) ∧ (∃ P_2 : Int32 → Hp → Prop, (Ci G l M_Ro_has (d + 0) (w + 0) [.ref q0, .int (hI h q0 1)] h 0 0 P_2) ∧ (∀ (x_6 : Int32) (h_4 : Hp), P_2 x_6 h_4 → (x_6 = 0 → wJ_Ro_put_31 G l d w P q0 x1 h_4) ∧ (¬ x_6 = 0 → (hS h_4 q0 = some (15, 0)) ∧ (∃ q_11 : Nat, (hR h_4 q0 0) = some q_11 ∧ (∃ N_13 : Nat, ∃ j_14 : Nat, (hS h_4 q_11 = some (0, N_13) ∧ (hI h_4 q0 1) = nI j_14 ∧ j_14 < N_13 ∧ j_14 < 2147483648) ∧ (wJ_Ro_put_31 G l d w P q0 x1 (pI (pI h_4 q_11 j_14 x1) q0 1 ((hI (pI h_4 q_11 j_14 x1) q0 1) + 1))))))))
set_option maxRecDepth 100000 in
set_option maxHeartbeats 4000000 in
theorem ok_Ro_put {G : Gx} {l : Launch} {d w : Nat} {P : Hp → Prop} {q0 : Nat} {x1 : Int32} {h : Hp} (H : wp_Ro_put G l d w P q0 x1 h) : Cv G l M_Ro_put (d + 1) (w + 21) [.ref q0, .int x1] h 0 0 P := by
  unfold wp_Ro_put at H
  refine Ct.of (lv := [some (.ref q0), some (.int x1)]) (by decide) (Nat.le_of_ble_eq_true rfl) rfl (fun p e s m args below meth c => ?_)
  refine g_aload_n d_Ro_put_0 rfl ?_
  refine g_aload_n d_Ro_put_1 rfl ?_
  obtain ⟨z_1, H⟩ := H
  refine g_getI d_Ro_put_2 f_Ro_34 z_1 ?_
  obtain ⟨P_2, C_3, H⟩ := H
  refine q_V (As := [.int (hI h q0 1)]) (st := []) (nl := 2) d_Ro_put_5 v_Ro_30 C_3 z_1 rfl (catS_le (Nat.le_of_ble_eq_true rfl)) rfl ⟨by omega, by omega, Nat.le_refl _, Nat.le_refl _⟩ (fun r_8 h_4 p_5 => ?_)
  obtain ⟨x_6, rfl, p_5⟩ := p_5
  replace H := H x_6 h_4 p_5
  show Go _ _ _ _ [.int x_6] _ _ _
  obtain ⟨H1, H2⟩ := H
  refine g_if_eq (tgt := 31) d_Ro_put_8 (by decide) (fun c_9 => ?_) (fun c_9 => ?_)
  · have H := H1 c_9
    refine g_msk [true, true] ?_
    exact okJ_Ro_put_31 H
  · have H := H2 c_9
    refine g_aload_n d_Ro_put_11 rfl ?_
    obtain ⟨z_10, H⟩ := H
    refine g_getR d_Ro_put_12 f_Ro_7 z_10 (by decide) ?_
    refine g_aload_n d_Ro_put_15 rfl ?_
    refine g_getI d_Ro_put_16 f_Ro_34 z_10 ?_
    refine g_iload_n d_Ro_put_19 rfl ?_
    obtain ⟨q_11, e_12, H⟩ := H
    show Go _ _ _ [some (.ref q0), some (.int x1)] [.int x1, .int (hI h_4 q0 1), va_rf (hR h_4 q0 0)] _ _ _
    rw [show va_rf (hR h_4 q0 0) = Value.ref q_11 from by rw [e_12]; rfl]
    obtain ⟨N_13, H⟩ := H
    obtain ⟨j_14, H⟩ := H
    obtain ⟨z_15, H⟩ := H
    refine g_iast d_Ro_put_20 z_15.1 z_15.2.1 z_15.2.2.1 z_15.2.2.2 ?_
    refine g_aload_n d_Ro_put_21 rfl ?_
    refine g_dup d_Ro_put_22 rfl ?_
    refine g_getI d_Ro_put_23 f_Ro_34 z_10 ?_
    refine g_iconst (v := 1) d_Ro_put_26 (by decide) ?_
    refine g_iadd d_Ro_put_27 ?_
    refine g_putI d_Ro_put_28 f_Ro_34 (fo_5_1 _) z_10 ?_
    refine g_msk [true, true] ?_
    exact okJ_Ro_put_31 H
set_option maxRecDepth 100000 in
set_option maxHeartbeats 4000000 in
def wJ_Ro_merge_18 (G : Gx) (l : Launch) (d w : Nat) (P : Hp → Prop) (q0 : Nat) (x1 : Int32) (x2 : Int32) (h : Hp)  : Prop := P h
set_option maxRecDepth 100000 in
set_option maxHeartbeats 4000000 in
theorem okJ_Ro_merge_18 {G : Gx} {l : Launch} {d w : Nat} {P : Hp → Prop} {p : Program} {e : Env} {s : State} {m : MethodId} {args : Array Value} {below : List Frame} {meth : Method} {c : Code} {q0 : Nat} {x1 : Int32} {x2 : Int32} {h : Hp}  (H : wJ_Ro_merge_18 G l d w P  q0 x1 x2 h ) : Go M_Ro_merge (mkX G (fun r h' => r = none ∧ P h') (d + 1) (w + 21) 0 0 p l e s m args below meth c) 18 [some (.ref q0), some (.int x1), some (.int x2)] [] h 0 0 := by
  unfold wJ_Ro_merge_18 at H
  exact g_return d_Ro_merge_18 rfl (Nat.le_refl _) (Nat.le_refl _) ⟨rfl, H⟩
set_option maxRecDepth 100000 in
set_option maxHeartbeats 4000000 in
def wp_Ro_merge (G : Gx) (l : Launch) (d w : Nat) (P : Hp → Prop) (q0 : Nat) (x1 : Int32) (x2 : Int32) (h : Hp) : Prop := (hS h q0 = some (15, 0)) ∧ (∃ P_2 : Int32 → Hp → Prop, (Ci G l M_Ro_has (d + 0) (w + 0) [.ref q0, .int x1] h 0 0 P_2) ∧ (∀ (x_6 : Int32) (h_4 : Hp), P_2 x_6 h_4 → (x_6 = 0 → wJ_Ro_merge_18 G l d w P q0 x1 x2 h_4) ∧ (¬ x_6 = 0 → (hS h_4 q0 = some (15, 0)) ∧ (∃ q_11 : Nat, (hR h_4 q0 0) = some q_11 ∧ (∃ N_13 : Nat, ∃ j_14 : Nat, (hS h_4 q_11 = some (0, N_13) ∧ x1 = nI j_14 ∧ j_14 < N_13 ∧ j_14 < 2147483648) ∧ (wJ_Ro_merge_18 G l d w P q0 x1 x2 (pI h_4 q_11 j_14 ((hI h_4 q_11 j_14) ||| x2))))))))
set_option maxRecDepth 100000 in
set_option maxHeartbeats 4000000 in
theorem ok_Ro_merge {G : Gx} {l : Launch} {d w : Nat} {P : Hp → Prop} {q0 : Nat} {x1 : Int32} {x2 : Int32} {h : Hp} (H : wp_Ro_merge G l d w P q0 x1 x2 h) : Cv G l M_Ro_merge (d + 1) (w + 21) [.ref q0, .int x1, .int x2] h 0 0 P := by
  unfold wp_Ro_merge at H
  refine Ct.of (lv := [some (.ref q0), some (.int x1), some (.int x2)]) (by decide) (Nat.le_of_ble_eq_true rfl) rfl (fun p e s m args below meth c => ?_)
  refine g_aload_n d_Ro_merge_0 rfl ?_
  refine g_iload_n d_Ro_merge_1 rfl ?_
  obtain ⟨z_1, H⟩ := H
  obtain ⟨P_2, C_3, H⟩ := H
  refine q_V (As := [.int x1]) (st := []) (nl := 2) d_Ro_merge_2 v_Ro_30 C_3 z_1 rfl (catS_le (Nat.le_of_ble_eq_true rfl)) rfl ⟨by omega, by omega, Nat.le_refl _, Nat.le_refl _⟩ (fun r_8 h_4 p_5 => ?_)
  obtain ⟨x_6, rfl, p_5⟩ := p_5
  replace H := H x_6 h_4 p_5
  show Go _ _ _ _ [.int x_6] _ _ _
  obtain ⟨H1, H2⟩ := H
  refine g_if_eq (tgt := 18) d_Ro_merge_5 (by decide) (fun c_9 => ?_) (fun c_9 => ?_)
  · have H := H1 c_9
    refine g_msk [true, true, true] ?_
    exact okJ_Ro_merge_18 H
  · have H := H2 c_9
    refine g_aload_n d_Ro_merge_8 rfl ?_
    obtain ⟨z_10, H⟩ := H
    refine g_getR d_Ro_merge_9 f_Ro_7 z_10 (by decide) ?_
    refine g_iload_n d_Ro_merge_12 rfl ?_
    refine g_dup2 d_Ro_merge_13 rfl (vcat _) ?_
    obtain ⟨q_11, e_12, H⟩ := H
    show Go _ _ _ [some (.ref q0), some (.int x1), some (.int x2)] [.int x1, va_rf (hR h_4 q0 0), .int x1, va_rf (hR h_4 q0 0)] _ _ _
    rw [show va_rf (hR h_4 q0 0) = Value.ref q_11 from by rw [e_12]; rfl]
    obtain ⟨N_13, H⟩ := H
    obtain ⟨j_14, H⟩ := H
    obtain ⟨z_15, H⟩ := H
    refine g_iald d_Ro_merge_14 z_15.1 z_15.2.1 z_15.2.2.1 z_15.2.2.2 ?_
    refine g_iload_n d_Ro_merge_15 rfl ?_
    refine g_ior d_Ro_merge_16 ?_
    refine g_iast d_Ro_merge_17 z_15.1 z_15.2.1 z_15.2.2.1 z_15.2.2.2 ?_
    refine g_msk [true, true, true] ?_
    exact okJ_Ro_merge_18 H
set_option maxRecDepth 100000 in
set_option maxHeartbeats 4000000 in
def wB_Ro_putDigits_48 (G : Gx) (l : Launch) (d w : Nat) (P : Hp → Prop) (C48 : Int64 → Int32 → Hp → Prop) (q0 : Nat) (y1 : Int64) (x3 : Int32) (x4 : Int32) (y5 : Int64) (x7 : Int32) (h : Hp)  : Prop := (x7 < 0 → P h) ∧ (¬ x7 < 0 → (hS h q0 = some (15, 0)) ∧ (∃ P_3 : Hp → Prop, (Cv G l M_Ro_merge (d + 1) (w + 21) [.ref q0, .int (x4 + (x7 / 2)), .int (((y5 - y5 / 10 * 10).toInt32) <<< (((x7 - x7 / 2 * 2) * 4) &&& 31))] h 0 0 P_3) ∧ (∀ h_5 : Hp, P_3 h_5 → ∀ y_10 : Int64, y_10 = (y5 / 10) → ∀ x_11 : Int32, x_11 = x7 + (-1) → C48 y_10 x_11 h_5)))
set_option maxRecDepth 100000 in
set_option maxHeartbeats 4000000 in
theorem okB_Ro_putDigits_48 {G : Gx} {l : Launch} {d w : Nat} {P : Hp → Prop} {p : Program} {e : Env} {s : State} {m : MethodId} {args : Array Value} {below : List Frame} {meth : Method} {c : Code} {C48 : Int64 → Int32 → Hp → Prop} {q0 : Nat} {y1 : Int64} {x3 : Int32} {x4 : Int32} {y5 : Int64} {x7 : Int32} (hC48 : ∀ (y5 : Int64) (x7 : Int32) (h : Hp), C48 y5 x7 h → Go M_Ro_putDigits (mkX G (fun r h' => r = none ∧ P h') (d + 2) (w + 43) 0 0 p l e s m args below meth c) 48 [some (.ref q0), some (.long y1), none, some (.int x3), some (.int x4), some (.long y5), none, some (.int x7)] [] h 0 0) {h : Hp}  (H : wB_Ro_putDigits_48 G l d w P C48 q0 y1 x3 x4 y5 x7 h ) : Go M_Ro_putDigits (mkX G (fun r h' => r = none ∧ P h') (d + 2) (w + 43) 0 0 p l e s m args below meth c) 48 [some (.ref q0), some (.long y1), none, some (.int x3), some (.int x4), some (.long y5), none, some (.int x7)] [] h 0 0 := by
  unfold wB_Ro_putDigits_48 at H
  refine g_iload d_Ro_putDigits_48 rfl ?_
  obtain ⟨H1, H2⟩ := H
  refine g_if_lt (tgt := 92) d_Ro_putDigits_50 (by decide) (fun c_1 => ?_) (fun c_1 => ?_)
  · have H := H1 c_1
    exact g_return d_Ro_putDigits_92 rfl (Nat.le_refl _) (Nat.le_refl _) ⟨rfl, H⟩
  · have H := H2 c_1
    refine g_aload_n d_Ro_putDigits_53 rfl ?_
    refine g_iload d_Ro_putDigits_54 rfl ?_
    refine g_iload d_Ro_putDigits_56 rfl ?_
    refine g_iconst (v := 2) d_Ro_putDigits_58 (by decide) ?_
    refine g_idiv d_Ro_putDigits_59 (by decide) ?_
    refine g_iadd d_Ro_putDigits_60 ?_
    refine g_lload d_Ro_putDigits_61 rfl ?_
    refine g_ldc2 d_Ro_putDigits_63 k_Ro_17 ?_
    refine g_lrem d_Ro_putDigits_66 (by decide) ?_
    refine g_l2i d_Ro_putDigits_67 ?_
    refine g_iload d_Ro_putDigits_68 rfl ?_
    refine g_iconst (v := 2) d_Ro_putDigits_70 (by decide) ?_
    refine g_irem d_Ro_putDigits_71 (by decide) ?_
    refine g_iconst (v := 4) d_Ro_putDigits_72 (by decide) ?_
    refine g_imul d_Ro_putDigits_73 ?_
    refine g_ishl d_Ro_putDigits_74 ?_
    obtain ⟨z_2, H⟩ := H
    obtain ⟨P_3, C_4, H⟩ := H
    refine q_V (As := [.int (x4 + (x7 / 2)), .int (((y5 - y5 / 10 * 10).toInt32) <<< (((x7 - x7 / 2 * 2) * 4) &&& 31))]) (st := []) (nl := 3) d_Ro_putDigits_75 v_Ro_42 C_4 z_2 rfl (catS_le (Nat.le_of_ble_eq_true rfl)) rfl ⟨by omega, by omega, Nat.le_refl _, Nat.le_refl _⟩ (fun r_9 h_5 p_6 => ?_)
    obtain ⟨rfl, p_6⟩ := p_6
    replace H := H h_5 p_6
    show Go _ _ _ _ [] _ _ _
    refine g_lload d_Ro_putDigits_78 rfl ?_
    refine g_ldc2 d_Ro_putDigits_80 k_Ro_17 ?_
    refine g_ldiv d_Ro_putDigits_83 (by decide) ?_
    refine g_topl (fun y_10 ey_10 => ?_)
    replace H := H y_10 ey_10
    refine g_lstore (lv' := [some (.ref q0), some (.long y1), none, some (.int x3), some (.int x4), some (.long y_10), none, some (.int x7)]) d_Ro_putDigits_84 (by decide) rfl ?_
    obtain ⟨x_11, ex_11⟩ : ∃ z : Int32, z = x7 + (-1) := ⟨_, rfl⟩
    replace H := H x_11 ex_11
    refine g_iinc (v := x_11) (lv' := [some (.ref q0), some (.long y1), none, some (.int x3), some (.int x4), some (.long y_10), none, some (.int x_11)]) d_Ro_putDigits_86 rfl (by decide) (by rw [ex_11]; rfl) rfl ?_
    refine g_goto (tgt := 48) d_Ro_putDigits_89 (by decide) ?_
    refine g_msk [true, true, false, true, true, true, false, true] ?_
    exact hC48 _ _ _ H
set_option maxRecDepth 100000 in
set_option maxHeartbeats 4000000 in
def wL_Ro_putDigits_48 (G : Gx) (l : Launch) (d w : Nat) (P : Hp → Prop) (q0 : Nat) (y1 : Int64) (x3 : Int32) (x4 : Int32) (y5 : Int64) (x7 : Int32) (h : Hp)  : Prop := ∃ (I : Int64 → Int32 → Hp → Prop) (μ : Int64 → Int32 → Hp → Nat), I y5 x7 h ∧ ∀ (y5' : Int64) (x7' : Int32) (h' : Hp), I y5' x7' h' → wB_Ro_putDigits_48 G l d w P (fun y5_ x7_ h_ => I y5_ x7_ h_ ∧ μ y5_ x7_ h_ < μ y5' x7' h') q0 y1 x3 x4 y5' x7' h'
set_option maxRecDepth 100000 in
set_option maxHeartbeats 4000000 in
theorem okL_Ro_putDigits_48 {G : Gx} {l : Launch} {d w : Nat} {P : Hp → Prop} {p : Program} {e : Env} {s : State} {m : MethodId} {args : Array Value} {below : List Frame} {meth : Method} {c : Code} {q0 : Nat} {y1 : Int64} {x3 : Int32} {x4 : Int32} {y5 : Int64} {x7 : Int32} {h : Hp}  (H : wL_Ro_putDigits_48 G l d w P  q0 y1 x3 x4 y5 x7 h ) : Go M_Ro_putDigits (mkX G (fun r h' => r = none ∧ P h') (d + 2) (w + 43) 0 0 p l e s m args below meth c) 48 [some (.ref q0), some (.long y1), none, some (.int x3), some (.int x4), some (.long y5), none, some (.int x7)] [] h 0 0 := by
  obtain ⟨I, μ, h0, hs⟩ := H
  have key : ∀ (N : Nat) (y5 : Int64) (x7 : Int32) (h : Hp), I y5 x7 h → μ y5 x7 h < N → Go M_Ro_putDigits (mkX G (fun r h' => r = none ∧ P h') (d + 2) (w + 43) 0 0 p l e s m args below meth c) 48 [some (.ref q0), some (.long y1), none, some (.int x3), some (.int x4), some (.long y5), none, some (.int x7)] [] h 0 0 := by
    intro N
    induction N with
    | zero => intro y5 x7 h _ hN; exact absurd hN (Nat.not_lt_zero _)
    | succ N ih =>
      intro y5 x7 h hI hN
      exact okB_Ro_putDigits_48 (fun y5_ x7_ h_ hh => ih y5_ x7_ h_ hh.1 (Nat.lt_of_lt_of_le hh.2 (Nat.le_of_lt_succ hN))) (hs y5 x7 h hI)
  exact key _ _ _ _ h0 (Nat.lt_succ_self _)
set_option maxRecDepth 100000 in
set_option maxHeartbeats 4000000 in
def wJ_Ro_putDigits_31 (G : Gx) (l : Launch) (d w : Nat) (P : Hp → Prop) (C9 : Int32 → Hp → Prop) (q0 : Nat) (y1 : Int64) (x3 : Int32) (x4 : Int32) (x5 : Int32) (sx0 : Int32) (sq1 : Nat) (h : Hp)  : Prop := (hS h sq1 = some (15, 0)) ∧ (∃ P_13 : Hp → Prop, (Cv G l M_Ro_put (d + 1) (w + 21) [.ref sq1, .int sx0] h 0 0 P_13) ∧ (∀ h_15 : Hp, P_13 h_15 → ∀ x_20 : Int32, x_20 = x5 + 2 → C9 x_20 h_15))
set_option maxRecDepth 100000 in
set_option maxHeartbeats 4000000 in
theorem okJ_Ro_putDigits_31 {G : Gx} {l : Launch} {d w : Nat} {P : Hp → Prop} {p : Program} {e : Env} {s : State} {m : MethodId} {args : Array Value} {below : List Frame} {meth : Method} {c : Code} {C9 : Int32 → Hp → Prop} {q0 : Nat} {y1 : Int64} {x3 : Int32} {x4 : Int32} {x5 : Int32} {sx0 : Int32} {sq1 : Nat} (hC9 : ∀ (x5 : Int32) (h : Hp), C9 x5 h → Go M_Ro_putDigits (mkX G (fun r h' => r = none ∧ P h') (d + 2) (w + 43) 0 0 p l e s m args below meth c) 9 [some (.ref q0), some (.long y1), none, some (.int x3), some (.int x4), some (.int x5), none, none] [] h 0 0) {h : Hp}  (H : wJ_Ro_putDigits_31 G l d w P C9 q0 y1 x3 x4 x5 sx0 sq1 h ) : Go M_Ro_putDigits (mkX G (fun r h' => r = none ∧ P h') (d + 2) (w + 43) 0 0 p l e s m args below meth c) 31 [some (.ref q0), some (.long y1), none, some (.int x3), some (.int x4), some (.int x5), none, none] [.int sx0, .ref sq1] h 0 0 := by
  unfold wJ_Ro_putDigits_31 at H
  obtain ⟨z_12, H⟩ := H
  obtain ⟨P_13, C_14, H⟩ := H
  refine q_V (As := [.int sx0]) (st := []) (nl := 2) d_Ro_putDigits_31 v_Ro_38 C_14 z_12 rfl (catS_le (Nat.le_of_ble_eq_true rfl)) rfl ⟨by omega, by omega, Nat.le_refl _, Nat.le_refl _⟩ (fun r_19 h_15 p_16 => ?_)
  obtain ⟨rfl, p_16⟩ := p_16
  replace H := H h_15 p_16
  show Go _ _ _ _ [] _ _ _
  obtain ⟨x_20, ex_20⟩ : ∃ z : Int32, z = x5 + 2 := ⟨_, rfl⟩
  replace H := H x_20 ex_20
  refine g_iinc (v := x_20) (lv' := [some (.ref q0), some (.long y1), none, some (.int x3), some (.int x4), some (.int x_20), none, none]) d_Ro_putDigits_34 rfl (by decide) (by rw [ex_20]; rfl) rfl ?_
  refine g_goto (tgt := 9) d_Ro_putDigits_37 (by decide) ?_
  refine g_msk [true, true, false, true, true, true, false, false] ?_
  exact hC9 _ _ H
set_option maxRecDepth 100000 in
set_option maxHeartbeats 4000000 in
def wB_Ro_putDigits_9 (G : Gx) (l : Launch) (d w : Nat) (P : Hp → Prop) (C9 : Int32 → Hp → Prop) (q0 : Nat) (y1 : Int64) (x3 : Int32) (x4 : Int32) (x5 : Int32) (h : Hp)  : Prop := (x3 ≤ x5 → ∀ x_22 : Int32, x_22 = (x3 - 1) → wL_Ro_putDigits_48 G l d w P q0 y1 x3 x4 y1 x_22 h) ∧ (¬ x3 ≤ x5 → (x3 ≤ (x5 + 1) → wJ_Ro_putDigits_31 G l d w P C9 q0 y1 x3 x4 x5 240 q0 h) ∧ (¬ x3 ≤ (x5 + 1) → wJ_Ro_putDigits_31 G l d w P C9 q0 y1 x3 x4 x5 0 q0 h))
set_option maxRecDepth 100000 in
set_option maxHeartbeats 4000000 in
theorem okB_Ro_putDigits_9 {G : Gx} {l : Launch} {d w : Nat} {P : Hp → Prop} {p : Program} {e : Env} {s : State} {m : MethodId} {args : Array Value} {below : List Frame} {meth : Method} {c : Code} {C9 : Int32 → Hp → Prop} {q0 : Nat} {y1 : Int64} {x3 : Int32} {x4 : Int32} {x5 : Int32} (hC9 : ∀ (x5 : Int32) (h : Hp), C9 x5 h → Go M_Ro_putDigits (mkX G (fun r h' => r = none ∧ P h') (d + 2) (w + 43) 0 0 p l e s m args below meth c) 9 [some (.ref q0), some (.long y1), none, some (.int x3), some (.int x4), some (.int x5), none, none] [] h 0 0) {h : Hp}  (H : wB_Ro_putDigits_9 G l d w P C9 q0 y1 x3 x4 x5 h ) : Go M_Ro_putDigits (mkX G (fun r h' => r = none ∧ P h') (d + 2) (w + 43) 0 0 p l e s m args below meth c) 9 [some (.ref q0), some (.long y1), none, some (.int x3), some (.int x4), some (.int x5), none, none] [] h 0 0 := by
  unfold wB_Ro_putDigits_9 at H
  refine g_iload d_Ro_putDigits_9 rfl ?_
  refine g_iload_n d_Ro_putDigits_11 rfl ?_
  obtain ⟨H1, H2⟩ := H
  refine g_icmp_ge (tgt := 40) d_Ro_putDigits_12 (by decide) (fun c_21 => ?_) (fun c_21 => ?_)
  · have H := H1 c_21
    refine g_lload_n d_Ro_putDigits_40 rfl ?_
    refine g_lstore (lv' := [some (.ref q0), some (.long y1), none, some (.int x3), some (.int x4), some (.long y1), none, none]) d_Ro_putDigits_41 (by decide) rfl ?_
    refine g_iload_n d_Ro_putDigits_43 rfl ?_
    refine g_iconst (v := 1) d_Ro_putDigits_44 (by decide) ?_
    refine g_isub d_Ro_putDigits_45 ?_
    refine g_topi (fun x_22 ex_22 => ?_)
    replace H := H x_22 ex_22
    refine g_istore (lv' := [some (.ref q0), some (.long y1), none, some (.int x3), some (.int x4), some (.long y1), none, some (.int x_22)]) d_Ro_putDigits_46 (by decide) rfl ?_
    refine g_msk [true, true, false, true, true, true, false, true] ?_
    exact okL_Ro_putDigits_48 H
  · have H := H2 c_21
    refine g_aload_n d_Ro_putDigits_15 rfl ?_
    refine g_iload d_Ro_putDigits_16 rfl ?_
    refine g_iconst (v := 1) d_Ro_putDigits_18 (by decide) ?_
    refine g_iadd d_Ro_putDigits_19 ?_
    refine g_iload_n d_Ro_putDigits_20 rfl ?_
    obtain ⟨H1, H2⟩ := H
    refine g_icmp_ge (tgt := 28) d_Ro_putDigits_21 (by decide) (fun c_23 => ?_) (fun c_23 => ?_)
    · have H := H1 c_23
      refine g_sipush (v := 240) d_Ro_putDigits_28 (by decide) ?_
      refine g_msk [true, true, false, true, true, true, false, false] ?_
      exact okJ_Ro_putDigits_31 hC9 H
    · have H := H2 c_23
      refine g_iconst (v := 0) d_Ro_putDigits_24 (by decide) ?_
      refine g_goto (tgt := 31) d_Ro_putDigits_25 (by decide) ?_
      refine g_msk [true, true, false, true, true, true, false, false] ?_
      exact okJ_Ro_putDigits_31 hC9 H
set_option maxRecDepth 100000 in
set_option maxHeartbeats 4000000 in
def wL_Ro_putDigits_9 (G : Gx) (l : Launch) (d w : Nat) (P : Hp → Prop) (q0 : Nat) (y1 : Int64) (x3 : Int32) (x4 : Int32) (x5 : Int32) (h : Hp)  : Prop := ∃ (I : Int32 → Hp → Prop) (μ : Int32 → Hp → Nat), I x5 h ∧ ∀ (x5' : Int32) (h' : Hp), I x5' h' → wB_Ro_putDigits_9 G l d w P (fun x5_ h_ => I x5_ h_ ∧ μ x5_ h_ < μ x5' h') q0 y1 x3 x4 x5' h'
set_option maxRecDepth 100000 in
set_option maxHeartbeats 4000000 in
theorem okL_Ro_putDigits_9 {G : Gx} {l : Launch} {d w : Nat} {P : Hp → Prop} {p : Program} {e : Env} {s : State} {m : MethodId} {args : Array Value} {below : List Frame} {meth : Method} {c : Code} {q0 : Nat} {y1 : Int64} {x3 : Int32} {x4 : Int32} {x5 : Int32} {h : Hp}  (H : wL_Ro_putDigits_9 G l d w P  q0 y1 x3 x4 x5 h ) : Go M_Ro_putDigits (mkX G (fun r h' => r = none ∧ P h') (d + 2) (w + 43) 0 0 p l e s m args below meth c) 9 [some (.ref q0), some (.long y1), none, some (.int x3), some (.int x4), some (.int x5), none, none] [] h 0 0 := by
  obtain ⟨I, μ, h0, hs⟩ := H
  have key : ∀ (N : Nat) (x5 : Int32) (h : Hp), I x5 h → μ x5 h < N → Go M_Ro_putDigits (mkX G (fun r h' => r = none ∧ P h') (d + 2) (w + 43) 0 0 p l e s m args below meth c) 9 [some (.ref q0), some (.long y1), none, some (.int x3), some (.int x4), some (.int x5), none, none] [] h 0 0 := by
    intro N
    induction N with
    | zero => intro x5 h _ hN; exact absurd hN (Nat.not_lt_zero _)
    | succ N ih =>
      intro x5 h hI hN
      exact okB_Ro_putDigits_9 (fun x5_ h_ hh => ih x5_ h_ hh.1 (Nat.lt_of_lt_of_le hh.2 (Nat.le_of_lt_succ hN))) (hs x5 h hI)
  exact key _ _ _ h0 (Nat.lt_succ_self _)
set_option maxRecDepth 100000 in
set_option maxHeartbeats 4000000 in
def wp_Ro_putDigits (G : Gx) (l : Launch) (d w : Nat) (P : Hp → Prop) (q0 : Nat) (y1 : Int64) (x3 : Int32) (h : Hp) : Prop := (hS h q0 = some (15, 0)) ∧ (∀ x_25 : Int32, x_25 = (hI h q0 1) → wL_Ro_putDigits_9 G l d w P q0 y1 x3 x_25 0 h)
set_option maxRecDepth 100000 in
set_option maxHeartbeats 4000000 in
theorem ok_Ro_putDigits {G : Gx} {l : Launch} {d w : Nat} {P : Hp → Prop} {q0 : Nat} {y1 : Int64} {x3 : Int32} {h : Hp} (H : wp_Ro_putDigits G l d w P q0 y1 x3 h) : Cv G l M_Ro_putDigits (d + 2) (w + 43) [.ref q0, .long y1, .int x3] h 0 0 P := by
  unfold wp_Ro_putDigits at H
  refine Ct.of (lv := [some (.ref q0), some (.long y1), none, some (.int x3), none, none, none, none]) (by decide) (Nat.le_of_ble_eq_true rfl) rfl (fun p e s m args below meth c => ?_)
  refine g_aload_n d_Ro_putDigits_0 rfl ?_
  obtain ⟨z_24, H⟩ := H
  refine g_getI d_Ro_putDigits_1 f_Ro_34 z_24 ?_
  refine g_topi (fun x_25 ex_25 => ?_)
  replace H := H x_25 ex_25
  refine g_istore (lv' := [some (.ref q0), some (.long y1), none, some (.int x3), some (.int x_25), none, none, none]) d_Ro_putDigits_4 (by decide) rfl ?_
  refine g_iconst (v := 0) d_Ro_putDigits_6 (by decide) ?_
  refine g_istore (lv' := [some (.ref q0), some (.long y1), none, some (.int x3), some (.int x_25), some (.int 0), none, none]) d_Ro_putDigits_7 (by decide) rfl ?_
  refine g_msk [true, true, false, true, true, true, false, false] ?_
  exact okL_Ro_putDigits_9 H
set_option maxRecDepth 100000 in
set_option maxHeartbeats 4000000 in
def wp_Ro_putAddress (G : Gx) (l : Launch) (d w : Nat) (P : Hp → Prop) (q0 : Nat) (y1 : Int64) (h : Hp) : Prop := ∃ P_1 : Int32 → Hp → Prop, (Ci G l M_Ro_digitsOf (d + 0) (w + 0) [.long y1] h 0 0 P_1) ∧ (∀ (x_5 : Int32) (h_3 : Hp), P_1 x_5 h_3 → (hS h_3 q0 = some (15, 0)) ∧ (∃ P_9 : Hp → Prop, (Cv G l M_Ro_put (d + 1) (w + 21) [.ref q0, .int x_5] h_3 0 0 P_9) ∧ (∀ h_11 : Hp, P_9 h_11 → (hS h_11 q0 = some (15, 0)) ∧ (∃ P_17 : Hp → Prop, (Cv G l M_Ro_put (d + 1) (w + 21) [.ref q0, .int 145] h_11 0 0 P_17) ∧ (∀ h_19 : Hp, P_17 h_19 → (hS h_19 q0 = some (15, 0)) ∧ (∃ P_25 : Hp → Prop, (Cv G l M_Ro_putDigits (d + 2) (w + 43) [.ref q0, .long y1, .int x_5] h_19 0 0 P_25) ∧ (∀ h_27 : Hp, P_25 h_27 → P h_27)))))))
set_option maxRecDepth 100000 in
set_option maxHeartbeats 4000000 in
theorem ok_Ro_putAddress {G : Gx} {l : Launch} {d w : Nat} {P : Hp → Prop} {q0 : Nat} {y1 : Int64} {h : Hp} (H : wp_Ro_putAddress G l d w P q0 y1 h) : Cv G l M_Ro_putAddress (d + 3) (w + 70) [.ref q0, .long y1] h 0 0 P := by
  unfold wp_Ro_putAddress at H
  refine Ct.of (lv := [some (.ref q0), some (.long y1), none, none]) (by decide) (Nat.le_of_ble_eq_true rfl) rfl (fun p e s m args below meth c => ?_)
  refine g_lload_n d_Ro_putAddress_0 rfl ?_
  obtain ⟨P_1, C_2, H⟩ := H
  refine q_S (As := [.long y1]) (st := []) (nl := 5) d_Ro_putAddress_1 v_Ro_19 C_2 rfl (catS_le (Nat.le_of_ble_eq_true rfl)) rfl ⟨by omega, by omega, Nat.le_refl _, Nat.le_refl _⟩ (fun r_7 h_3 p_4 => ?_)
  obtain ⟨x_5, rfl, p_4⟩ := p_4
  replace H := H x_5 h_3 p_4
  show Go _ _ _ _ [.int x_5] _ _ _
  refine g_istore_n (lv' := [some (.ref q0), some (.long y1), none, some (.int x_5)]) d_Ro_putAddress_4 (by decide) rfl ?_
  refine g_aload_n d_Ro_putAddress_5 rfl ?_
  refine g_iload_n d_Ro_putAddress_6 rfl ?_
  obtain ⟨z_8, H⟩ := H
  obtain ⟨P_9, C_10, H⟩ := H
  refine q_V (As := [.int x_5]) (st := []) (nl := 2) d_Ro_putAddress_7 v_Ro_38 C_10 z_8 rfl (catS_le (Nat.le_of_ble_eq_true rfl)) rfl ⟨by omega, by omega, Nat.le_refl _, Nat.le_refl _⟩ (fun r_15 h_11 p_12 => ?_)
  obtain ⟨rfl, p_12⟩ := p_12
  replace H := H h_11 p_12
  show Go _ _ _ _ [] _ _ _
  refine g_aload_n d_Ro_putAddress_10 rfl ?_
  refine g_sipush (v := 145) d_Ro_putAddress_11 (by decide) ?_
  obtain ⟨z_16, H⟩ := H
  obtain ⟨P_17, C_18, H⟩ := H
  refine q_V (As := [.int 145]) (st := []) (nl := 2) d_Ro_putAddress_14 v_Ro_38 C_18 z_16 rfl (catS_le (Nat.le_of_ble_eq_true rfl)) rfl ⟨by omega, by omega, Nat.le_refl _, Nat.le_refl _⟩ (fun r_23 h_19 p_20 => ?_)
  obtain ⟨rfl, p_20⟩ := p_20
  replace H := H h_19 p_20
  show Go _ _ _ _ [] _ _ _
  refine g_aload_n d_Ro_putAddress_17 rfl ?_
  refine g_lload_n d_Ro_putAddress_18 rfl ?_
  refine g_iload_n d_Ro_putAddress_19 rfl ?_
  obtain ⟨z_24, H⟩ := H
  obtain ⟨P_25, C_26, H⟩ := H
  refine q_V (As := [.long y1, .int x_5]) (st := []) (nl := 8) d_Ro_putAddress_20 v_Ro_46 C_26 z_24 rfl (catS_le (Nat.le_of_ble_eq_true rfl)) rfl ⟨by omega, by omega, Nat.le_refl _, Nat.le_refl _⟩ (fun r_31 h_27 p_28 => ?_)
  obtain ⟨rfl, p_28⟩ := p_28
  replace H := H h_27 p_28
  show Go _ _ _ _ [] _ _ _
  exact g_return d_Ro_putAddress_23 rfl (Nat.le_refl _) (Nat.le_refl _) ⟨rfl, H⟩
set_option maxRecDepth 100000 in
set_option maxHeartbeats 4000000 in
def wp_Ro_putTime (G : Gx) (l : Launch) (d w : Nat) (P : Hp → Prop) (q0 : Nat) (x1 : Int32) (h : Hp) : Prop := (hS h q0 = some (15, 0)) ∧ (∃ P_2 : Hp → Prop, (Cv G l M_Ro_putDigits (d + 2) (w + 43) [.ref q0, .long x1.toInt64, .int 14] h 0 0 P_2) ∧ (∀ h_4 : Hp, P_2 h_4 → P h_4))
set_option maxRecDepth 100000 in
set_option maxHeartbeats 4000000 in
theorem ok_Ro_putTime {G : Gx} {l : Launch} {d w : Nat} {P : Hp → Prop} {q0 : Nat} {x1 : Int32} {h : Hp} (H : wp_Ro_putTime G l d w P q0 x1 h) : Cv G l M_Ro_putTime (d + 3) (w + 70) [.ref q0, .int x1] h 0 0 P := by
  unfold wp_Ro_putTime at H
  refine Ct.of (lv := [some (.ref q0), some (.int x1)]) (by decide) (Nat.le_of_ble_eq_true rfl) rfl (fun p e s m args below meth c => ?_)
  refine g_aload_n d_Ro_putTime_0 rfl ?_
  refine g_iload_n d_Ro_putTime_1 rfl ?_
  refine g_i2l d_Ro_putTime_2 ?_
  refine g_bipush (v := 14) d_Ro_putTime_3 (by decide) ?_
  obtain ⟨z_1, H⟩ := H
  obtain ⟨P_2, C_3, H⟩ := H
  refine q_V (As := [.long x1.toInt64, .int 14]) (st := []) (nl := 8) d_Ro_putTime_5 v_Ro_46 C_3 z_1 rfl (catS_le (Nat.le_of_ble_eq_true rfl)) rfl ⟨by omega, by omega, Nat.le_refl _, Nat.le_refl _⟩ (fun r_8 h_4 p_5 => ?_)
  obtain ⟨rfl, p_5⟩ := p_5
  replace H := H h_4 p_5
  show Go _ _ _ _ [] _ _ _
  exact g_return d_Ro_putTime_8 rfl (Nat.le_refl _) (Nat.le_refl _) ⟨rfl, H⟩
set_option maxRecDepth 100000 in
set_option maxHeartbeats 4000000 in
def wp_Ro_putSubmitHead (G : Gx) (l : Launch) (d w : Nat) (P : Hp → Prop) (q0 : Nat) (x1 : Int32) (x2 : Int32) (y3 : Int64) (x5 : Int32) (h : Hp) : Prop := (hS h q0 = some (15, 0)) ∧ (∃ P_2 : Hp → Prop, (Cv G l M_Ro_put (d + 1) (w + 21) [.ref q0, .int x1] h 0 0 P_2) ∧ (∀ h_4 : Hp, P_2 h_4 → (hS h_4 q0 = some (15, 0)) ∧ (∃ P_10 : Hp → Prop, (Cv G l M_Ro_put (d + 1) (w + 21) [.ref q0, .int x2] h_4 0 0 P_10) ∧ (∀ h_12 : Hp, P_10 h_12 → (hS h_12 q0 = some (15, 0)) ∧ (∃ P_18 : Hp → Prop, (Cv G l M_Ro_putAddress (d + 3) (w + 70) [.ref q0, .long y3] h_12 0 0 P_18) ∧ (∀ h_20 : Hp, P_18 h_20 → (hS h_20 q0 = some (15, 0)) ∧ (∃ P_26 : Hp → Prop, (Cv G l M_Ro_put (d + 1) (w + 21) [.ref q0, .int 0] h_20 0 0 P_26) ∧ (∀ h_28 : Hp, P_26 h_28 → (hS h_28 q0 = some (15, 0)) ∧ (∃ P_34 : Hp → Prop, (Cv G l M_Ro_put (d + 1) (w + 21) [.ref q0, .int 0] h_28 0 0 P_34) ∧ (∀ h_36 : Hp, P_34 h_36 → (hS h_36 q0 = some (15, 0)) ∧ (∃ P_42 : Hp → Prop, (Cv G l M_Ro_put (d + 1) (w + 21) [.ref q0, .int x5] h_36 0 0 P_42) ∧ (∀ h_44 : Hp, P_42 h_44 → P h_44))))))))))))
set_option maxRecDepth 100000 in
set_option maxHeartbeats 4000000 in
theorem ok_Ro_putSubmitHead {G : Gx} {l : Launch} {d w : Nat} {P : Hp → Prop} {q0 : Nat} {x1 : Int32} {x2 : Int32} {y3 : Int64} {x5 : Int32} {h : Hp} (H : wp_Ro_putSubmitHead G l d w P q0 x1 x2 y3 x5 h) : Cv G l M_Ro_putSubmitHead (d + 4) (w + 93) [.ref q0, .int x1, .int x2, .long y3, .int x5] h 0 0 P := by
  unfold wp_Ro_putSubmitHead at H
  refine Ct.of (lv := [some (.ref q0), some (.int x1), some (.int x2), some (.long y3), none, some (.int x5)]) (by decide) (Nat.le_of_ble_eq_true rfl) rfl (fun p e s m args below meth c => ?_)
  refine g_aload_n d_Ro_putSubmitHead_0 rfl ?_
  refine g_iload_n d_Ro_putSubmitHead_1 rfl ?_
  obtain ⟨z_1, H⟩ := H
  obtain ⟨P_2, C_3, H⟩ := H
  refine q_V (As := [.int x1]) (st := []) (nl := 2) d_Ro_putSubmitHead_2 v_Ro_38 C_3 z_1 rfl (catS_le (Nat.le_of_ble_eq_true rfl)) rfl ⟨by omega, by omega, Nat.le_refl _, Nat.le_refl _⟩ (fun r_8 h_4 p_5 => ?_)
  obtain ⟨rfl, p_5⟩ := p_5
  replace H := H h_4 p_5
  show Go _ _ _ _ [] _ _ _
  refine g_aload_n d_Ro_putSubmitHead_5 rfl ?_
  refine g_iload_n d_Ro_putSubmitHead_6 rfl ?_
  obtain ⟨z_9, H⟩ := H
  obtain ⟨P_10, C_11, H⟩ := H
  refine q_V (As := [.int x2]) (st := []) (nl := 2) d_Ro_putSubmitHead_7 v_Ro_38 C_11 z_9 rfl (catS_le (Nat.le_of_ble_eq_true rfl)) rfl ⟨by omega, by omega, Nat.le_refl _, Nat.le_refl _⟩ (fun r_16 h_12 p_13 => ?_)
  obtain ⟨rfl, p_13⟩ := p_13
  replace H := H h_12 p_13
  show Go _ _ _ _ [] _ _ _
  refine g_aload_n d_Ro_putSubmitHead_10 rfl ?_
  refine g_lload_n d_Ro_putSubmitHead_11 rfl ?_
  obtain ⟨z_17, H⟩ := H
  obtain ⟨P_18, C_19, H⟩ := H
  refine q_V (As := [.long y3]) (st := []) (nl := 4) d_Ro_putSubmitHead_12 v_Ro_50 C_19 z_17 rfl (catS_le (Nat.le_of_ble_eq_true rfl)) rfl ⟨by omega, by omega, Nat.le_refl _, Nat.le_refl _⟩ (fun r_24 h_20 p_21 => ?_)
  obtain ⟨rfl, p_21⟩ := p_21
  replace H := H h_20 p_21
  show Go _ _ _ _ [] _ _ _
  refine g_aload_n d_Ro_putSubmitHead_15 rfl ?_
  refine g_iconst (v := 0) d_Ro_putSubmitHead_16 (by decide) ?_
  obtain ⟨z_25, H⟩ := H
  obtain ⟨P_26, C_27, H⟩ := H
  refine q_V (As := [.int 0]) (st := []) (nl := 2) d_Ro_putSubmitHead_17 v_Ro_38 C_27 z_25 rfl (catS_le (Nat.le_of_ble_eq_true rfl)) rfl ⟨by omega, by omega, Nat.le_refl _, Nat.le_refl _⟩ (fun r_32 h_28 p_29 => ?_)
  obtain ⟨rfl, p_29⟩ := p_29
  replace H := H h_28 p_29
  show Go _ _ _ _ [] _ _ _
  refine g_aload_n d_Ro_putSubmitHead_20 rfl ?_
  refine g_iconst (v := 0) d_Ro_putSubmitHead_21 (by decide) ?_
  obtain ⟨z_33, H⟩ := H
  obtain ⟨P_34, C_35, H⟩ := H
  refine q_V (As := [.int 0]) (st := []) (nl := 2) d_Ro_putSubmitHead_22 v_Ro_38 C_35 z_33 rfl (catS_le (Nat.le_of_ble_eq_true rfl)) rfl ⟨by omega, by omega, Nat.le_refl _, Nat.le_refl _⟩ (fun r_40 h_36 p_37 => ?_)
  obtain ⟨rfl, p_37⟩ := p_37
  replace H := H h_36 p_37
  show Go _ _ _ _ [] _ _ _
  refine g_aload_n d_Ro_putSubmitHead_25 rfl ?_
  refine g_iload d_Ro_putSubmitHead_26 rfl ?_
  obtain ⟨z_41, H⟩ := H
  obtain ⟨P_42, C_43, H⟩ := H
  refine q_V (As := [.int x5]) (st := []) (nl := 2) d_Ro_putSubmitHead_28 v_Ro_38 C_43 z_41 rfl (catS_le (Nat.le_of_ble_eq_true rfl)) rfl ⟨by omega, by omega, Nat.le_refl _, Nat.le_refl _⟩ (fun r_48 h_44 p_45 => ?_)
  obtain ⟨rfl, p_45⟩ := p_45
  replace H := H h_44 p_45
  show Go _ _ _ _ [] _ _ _
  exact g_return d_Ro_putSubmitHead_31 rfl (Nat.le_refl _) (Nat.le_refl _) ⟨rfl, H⟩
set_option maxRecDepth 100000 in
set_option maxHeartbeats 4000000 in
def wp_Ro_putHeader (G : Gx) (l : Launch) (d w : Nat) (P : Hp → Prop) (q0 : Nat) (x1 : Int32) (x2 : Int32) (x3 : Int32) (h : Hp) : Prop := (hS h q0 = some (15, 0)) ∧ (∃ P_2 : Hp → Prop, (Cv G l M_Ro_put (d + 1) (w + 21) [.ref q0, .int 5] h 0 0 P_2) ∧ (∀ h_4 : Hp, P_2 h_4 → (hS h_4 q0 = some (15, 0)) ∧ (∃ P_10 : Hp → Prop, (Cv G l M_Ro_put (d + 1) (w + 21) [.ref q0, .int 0] h_4 0 0 P_10) ∧ (∀ h_12 : Hp, P_10 h_12 → (hS h_12 q0 = some (15, 0)) ∧ (∃ P_18 : Hp → Prop, (Cv G l M_Ro_put (d + 1) (w + 21) [.ref q0, .int 3] h_12 0 0 P_18) ∧ (∀ h_20 : Hp, P_18 h_20 → (hS h_20 q0 = some (15, 0)) ∧ (∃ P_26 : Hp → Prop, (Cv G l M_Ro_put (d + 1) (w + 21) [.ref q0, .int x1] h_20 0 0 P_26) ∧ (∀ h_28 : Hp, P_26 h_28 → (hS h_28 q0 = some (15, 0)) ∧ (∃ P_34 : Hp → Prop, (Cv G l M_Ro_put (d + 1) (w + 21) [.ref q0, .int x2] h_28 0 0 P_34) ∧ (∀ h_36 : Hp, P_34 h_36 → (hS h_36 q0 = some (15, 0)) ∧ (∃ P_42 : Hp → Prop, (Cv G l M_Ro_put (d + 1) (w + 21) [.ref q0, .int x3] h_36 0 0 P_42) ∧ (∀ h_44 : Hp, P_42 h_44 → P h_44))))))))))))
set_option maxRecDepth 100000 in
set_option maxHeartbeats 4000000 in
theorem ok_Ro_putHeader {G : Gx} {l : Launch} {d w : Nat} {P : Hp → Prop} {q0 : Nat} {x1 : Int32} {x2 : Int32} {x3 : Int32} {h : Hp} (H : wp_Ro_putHeader G l d w P q0 x1 x2 x3 h) : Cv G l M_Ro_putHeader (d + 2) (w + 42) [.ref q0, .int x1, .int x2, .int x3] h 0 0 P := by
  unfold wp_Ro_putHeader at H
  refine Ct.of (lv := [some (.ref q0), some (.int x1), some (.int x2), some (.int x3)]) (by decide) (Nat.le_of_ble_eq_true rfl) rfl (fun p e s m args below meth c => ?_)
  refine g_aload_n d_Ro_putHeader_0 rfl ?_
  refine g_iconst (v := 5) d_Ro_putHeader_1 (by decide) ?_
  obtain ⟨z_1, H⟩ := H
  obtain ⟨P_2, C_3, H⟩ := H
  refine q_V (As := [.int 5]) (st := []) (nl := 2) d_Ro_putHeader_2 v_Ro_38 C_3 z_1 rfl (catS_le (Nat.le_of_ble_eq_true rfl)) rfl ⟨by omega, by omega, Nat.le_refl _, Nat.le_refl _⟩ (fun r_8 h_4 p_5 => ?_)
  obtain ⟨rfl, p_5⟩ := p_5
  replace H := H h_4 p_5
  show Go _ _ _ _ [] _ _ _
  refine g_aload_n d_Ro_putHeader_5 rfl ?_
  refine g_iconst (v := 0) d_Ro_putHeader_6 (by decide) ?_
  obtain ⟨z_9, H⟩ := H
  obtain ⟨P_10, C_11, H⟩ := H
  refine q_V (As := [.int 0]) (st := []) (nl := 2) d_Ro_putHeader_7 v_Ro_38 C_11 z_9 rfl (catS_le (Nat.le_of_ble_eq_true rfl)) rfl ⟨by omega, by omega, Nat.le_refl _, Nat.le_refl _⟩ (fun r_16 h_12 p_13 => ?_)
  obtain ⟨rfl, p_13⟩ := p_13
  replace H := H h_12 p_13
  show Go _ _ _ _ [] _ _ _
  refine g_aload_n d_Ro_putHeader_10 rfl ?_
  refine g_iconst (v := 3) d_Ro_putHeader_11 (by decide) ?_
  obtain ⟨z_17, H⟩ := H
  obtain ⟨P_18, C_19, H⟩ := H
  refine q_V (As := [.int 3]) (st := []) (nl := 2) d_Ro_putHeader_12 v_Ro_38 C_19 z_17 rfl (catS_le (Nat.le_of_ble_eq_true rfl)) rfl ⟨by omega, by omega, Nat.le_refl _, Nat.le_refl _⟩ (fun r_24 h_20 p_21 => ?_)
  obtain ⟨rfl, p_21⟩ := p_21
  replace H := H h_20 p_21
  show Go _ _ _ _ [] _ _ _
  refine g_aload_n d_Ro_putHeader_15 rfl ?_
  refine g_iload_n d_Ro_putHeader_16 rfl ?_
  obtain ⟨z_25, H⟩ := H
  obtain ⟨P_26, C_27, H⟩ := H
  refine q_V (As := [.int x1]) (st := []) (nl := 2) d_Ro_putHeader_17 v_Ro_38 C_27 z_25 rfl (catS_le (Nat.le_of_ble_eq_true rfl)) rfl ⟨by omega, by omega, Nat.le_refl _, Nat.le_refl _⟩ (fun r_32 h_28 p_29 => ?_)
  obtain ⟨rfl, p_29⟩ := p_29
  replace H := H h_28 p_29
  show Go _ _ _ _ [] _ _ _
  refine g_aload_n d_Ro_putHeader_20 rfl ?_
  refine g_iload_n d_Ro_putHeader_21 rfl ?_
  obtain ⟨z_33, H⟩ := H
  obtain ⟨P_34, C_35, H⟩ := H
  refine q_V (As := [.int x2]) (st := []) (nl := 2) d_Ro_putHeader_22 v_Ro_38 C_35 z_33 rfl (catS_le (Nat.le_of_ble_eq_true rfl)) rfl ⟨by omega, by omega, Nat.le_refl _, Nat.le_refl _⟩ (fun r_40 h_36 p_37 => ?_)
  obtain ⟨rfl, p_37⟩ := p_37
  replace H := H h_36 p_37
  show Go _ _ _ _ [] _ _ _
  refine g_aload_n d_Ro_putHeader_25 rfl ?_
  refine g_iload_n d_Ro_putHeader_26 rfl ?_
  obtain ⟨z_41, H⟩ := H
  obtain ⟨P_42, C_43, H⟩ := H
  refine q_V (As := [.int x3]) (st := []) (nl := 2) d_Ro_putHeader_27 v_Ro_38 C_43 z_41 rfl (catS_le (Nat.le_of_ble_eq_true rfl)) rfl ⟨by omega, by omega, Nat.le_refl _, Nat.le_refl _⟩ (fun r_48 h_44 p_45 => ?_)
  obtain ⟨rfl, p_45⟩ := p_45
  replace H := H h_44 p_45
  show Go _ _ _ _ [] _ _ _
  exact g_return d_Ro_putHeader_30 rfl (Nat.le_refl _) (Nat.le_refl _) ⟨rfl, H⟩
set_option maxRecDepth 100000 in
set_option maxHeartbeats 4000000 in
def wB_Ro_putRest_2 (G : Gx) (l : Launch) (d w : Nat) (P : Hp → Prop) (C2 : Int32 → Hp → Prop) (q0 : Nat) (q1 : Nat) (x2 : Int32) (x3 : Int32) (h : Hp)  : Prop := (hS h q1 = some (15, 0)) ∧ (∃ P_2 : Int32 → Hp → Prop, (Ci G l M_Ro_size (d + 0) (w + 0) [.ref q1] h 0 0 P_2) ∧ (∀ (x_6 : Int32) (h_4 : Hp), P_2 x_6 h_4 → (x_6 ≤ x3 → P h_4) ∧ (¬ x_6 ≤ x3 → (hS h_4 q1 = some (15, 0)) ∧ (∃ P_11 : Int32 → Hp → Prop, (Ci G l M_Ro_at (d + 1) (w + 21) [.ref q1, .int x3] h_4 0 0 P_11) ∧ (∀ (x_15 : Int32) (h_13 : Hp), P_11 x_15 h_13 → (hS h_13 q0 = some (15, 0)) ∧ (∃ P_19 : Hp → Prop, (Cv G l M_Ro_put (d + 1) (w + 21) [.ref q0, .int x_15] h_13 0 0 P_19) ∧ (∀ h_21 : Hp, P_19 h_21 → ∀ x_26 : Int32, x_26 = x3 + 1 → C2 x_26 h_21)))))))
set_option maxRecDepth 100000 in
set_option maxHeartbeats 4000000 in
theorem okB_Ro_putRest_2 {G : Gx} {l : Launch} {d w : Nat} {P : Hp → Prop} {p : Program} {e : Env} {s : State} {m : MethodId} {args : Array Value} {below : List Frame} {meth : Method} {c : Code} {C2 : Int32 → Hp → Prop} {q0 : Nat} {q1 : Nat} {x2 : Int32} {x3 : Int32} (hC2 : ∀ (x3 : Int32) (h : Hp), C2 x3 h → Go M_Ro_putRest (mkX G (fun r h' => r = none ∧ P h') (d + 2) (w + 42) 0 0 p l e s m args below meth c) 2 [some (.ref q0), some (.ref q1), some (.int x2), some (.int x3)] [] h 0 0) {h : Hp}  (H : wB_Ro_putRest_2 G l d w P C2 q0 q1 x2 x3 h ) : Go M_Ro_putRest (mkX G (fun r h' => r = none ∧ P h') (d + 2) (w + 42) 0 0 p l e s m args below meth c) 2 [some (.ref q0), some (.ref q1), some (.int x2), some (.int x3)] [] h 0 0 := by
  unfold wB_Ro_putRest_2 at H
  refine g_iload_n d_Ro_putRest_2 rfl ?_
  refine g_aload_n d_Ro_putRest_3 rfl ?_
  obtain ⟨z_1, H⟩ := H
  obtain ⟨P_2, C_3, H⟩ := H
  refine q_V (As := []) (st := [.int x3]) (nl := 1) d_Ro_putRest_4 v_Ro_54 C_3 z_1 rfl (catS_le (Nat.le_of_ble_eq_true rfl)) rfl ⟨by omega, by omega, Nat.le_refl _, Nat.le_refl _⟩ (fun r_8 h_4 p_5 => ?_)
  obtain ⟨x_6, rfl, p_5⟩ := p_5
  replace H := H x_6 h_4 p_5
  show Go _ _ _ _ [.int x_6, .int x3] _ _ _
  obtain ⟨H1, H2⟩ := H
  refine g_icmp_ge (tgt := 25) d_Ro_putRest_7 (by decide) (fun c_9 => ?_) (fun c_9 => ?_)
  · have H := H1 c_9
    exact g_return d_Ro_putRest_25 rfl (Nat.le_refl _) (Nat.le_refl _) ⟨rfl, H⟩
  · have H := H2 c_9
    refine g_aload_n d_Ro_putRest_10 rfl ?_
    refine g_aload_n d_Ro_putRest_11 rfl ?_
    refine g_iload_n d_Ro_putRest_12 rfl ?_
    obtain ⟨z_10, H⟩ := H
    obtain ⟨P_11, C_12, H⟩ := H
    refine q_V (As := [.int x3]) (st := [.ref q0]) (nl := 2) d_Ro_putRest_13 v_Ro_58 C_12 z_10 rfl (catS_le (Nat.le_of_ble_eq_true rfl)) rfl ⟨by omega, by omega, Nat.le_refl _, Nat.le_refl _⟩ (fun r_17 h_13 p_14 => ?_)
    obtain ⟨x_15, rfl, p_14⟩ := p_14
    replace H := H x_15 h_13 p_14
    show Go _ _ _ _ [.int x_15, .ref q0] _ _ _
    obtain ⟨z_18, H⟩ := H
    obtain ⟨P_19, C_20, H⟩ := H
    refine q_V (As := [.int x_15]) (st := []) (nl := 2) d_Ro_putRest_16 v_Ro_38 C_20 z_18 rfl (catS_le (Nat.le_of_ble_eq_true rfl)) rfl ⟨by omega, by omega, Nat.le_refl _, Nat.le_refl _⟩ (fun r_25 h_21 p_22 => ?_)
    obtain ⟨rfl, p_22⟩ := p_22
    replace H := H h_21 p_22
    show Go _ _ _ _ [] _ _ _
    obtain ⟨x_26, ex_26⟩ : ∃ z : Int32, z = x3 + 1 := ⟨_, rfl⟩
    replace H := H x_26 ex_26
    refine g_iinc (v := x_26) (lv' := [some (.ref q0), some (.ref q1), some (.int x2), some (.int x_26)]) d_Ro_putRest_19 rfl (by decide) (by rw [ex_26]; rfl) rfl ?_
    refine g_goto (tgt := 2) d_Ro_putRest_22 (by decide) ?_
    refine g_msk [true, true, true, true] ?_
    exact hC2 _ _ H
set_option maxRecDepth 100000 in
set_option maxHeartbeats 4000000 in
def wL_Ro_putRest_2 (G : Gx) (l : Launch) (d w : Nat) (P : Hp → Prop) (q0 : Nat) (q1 : Nat) (x2 : Int32) (x3 : Int32) (h : Hp)  : Prop := ∃ (I : Int32 → Hp → Prop) (μ : Int32 → Hp → Nat), I x3 h ∧ ∀ (x3' : Int32) (h' : Hp), I x3' h' → wB_Ro_putRest_2 G l d w P (fun x3_ h_ => I x3_ h_ ∧ μ x3_ h_ < μ x3' h') q0 q1 x2 x3' h'
set_option maxRecDepth 100000 in
set_option maxHeartbeats 4000000 in
theorem okL_Ro_putRest_2 {G : Gx} {l : Launch} {d w : Nat} {P : Hp → Prop} {p : Program} {e : Env} {s : State} {m : MethodId} {args : Array Value} {below : List Frame} {meth : Method} {c : Code} {q0 : Nat} {q1 : Nat} {x2 : Int32} {x3 : Int32} {h : Hp}  (H : wL_Ro_putRest_2 G l d w P  q0 q1 x2 x3 h ) : Go M_Ro_putRest (mkX G (fun r h' => r = none ∧ P h') (d + 2) (w + 42) 0 0 p l e s m args below meth c) 2 [some (.ref q0), some (.ref q1), some (.int x2), some (.int x3)] [] h 0 0 := by
  obtain ⟨I, μ, h0, hs⟩ := H
  have key : ∀ (N : Nat) (x3 : Int32) (h : Hp), I x3 h → μ x3 h < N → Go M_Ro_putRest (mkX G (fun r h' => r = none ∧ P h') (d + 2) (w + 42) 0 0 p l e s m args below meth c) 2 [some (.ref q0), some (.ref q1), some (.int x2), some (.int x3)] [] h 0 0 := by
    intro N
    induction N with
    | zero => intro x3 h _ hN; exact absurd hN (Nat.not_lt_zero _)
    | succ N ih =>
      intro x3 h hI hN
      exact okB_Ro_putRest_2 (fun x3_ h_ hh => ih x3_ h_ hh.1 (Nat.lt_of_lt_of_le hh.2 (Nat.le_of_lt_succ hN))) (hs x3 h hI)
  exact key _ _ _ h0 (Nat.lt_succ_self _)
set_option maxRecDepth 100000 in
set_option maxHeartbeats 4000000 in
def wp_Ro_putRest (G : Gx) (l : Launch) (d w : Nat) (P : Hp → Prop) (q0 : Nat) (q1 : Nat) (x2 : Int32) (h : Hp) : Prop := wL_Ro_putRest_2 G l d w P q0 q1 x2 x2 h
set_option maxRecDepth 100000 in
set_option maxHeartbeats 4000000 in
theorem ok_Ro_putRest {G : Gx} {l : Launch} {d w : Nat} {P : Hp → Prop} {q0 : Nat} {q1 : Nat} {x2 : Int32} {h : Hp} (H : wp_Ro_putRest G l d w P q0 q1 x2 h) : Cv G l M_Ro_putRest (d + 2) (w + 42) [.ref q0, .ref q1, .int x2] h 0 0 P := by
  unfold wp_Ro_putRest at H
  refine Ct.of (lv := [some (.ref q0), some (.ref q1), some (.int x2), none]) (by decide) (Nat.le_of_ble_eq_true rfl) rfl (fun p e s m args below meth c => ?_)
  refine g_iload_n d_Ro_putRest_0 rfl ?_
  refine g_istore_n (lv' := [some (.ref q0), some (.ref q1), some (.int x2), some (.int x2)]) d_Ro_putRest_1 (by decide) rfl ?_
  refine g_msk [true, true, true, true] ?_
  exact okL_Ro_putRest_2 H
set_option maxRecDepth 100000 in
set_option maxHeartbeats 4000000 in
def wp_Ro_mergeSeptet (G : Gx) (l : Launch) (d w : Nat) (P : Hp → Prop) (q0 : Nat) (x1 : Int32) (x2 : Int32) (x3 : Int32) (h : Hp) : Prop := ∀ x_1 : Int32, x_1 = (x1 + (x2 / 8)) → ∀ x_2 : Int32, x_2 = (x3 <<< ((x2 - x2 / 8 * 8) &&& 31)) → (hS h q0 = some (15, 0)) ∧ (∃ P_4 : Hp → Prop, (Cv G l M_Ro_merge (d + 1) (w + 21) [.ref q0, .int x_1, .int (x_2 &&& 255)] h 0 0 P_4) ∧ (∀ h_6 : Hp, P_4 h_6 → (hS h_6 q0 = some (15, 0)) ∧ (∃ P_12 : Hp → Prop, (Cv G l M_Ro_merge (d + 1) (w + 21) [.ref q0, .int (x_1 + 1), .int (x_2 >>> (8 &&& 31))] h_6 0 0 P_12) ∧ (∀ h_14 : Hp, P_12 h_14 → P h_14))))
set_option maxRecDepth 100000 in
set_option maxHeartbeats 4000000 in
theorem ok_Ro_mergeSeptet {G : Gx} {l : Launch} {d w : Nat} {P : Hp → Prop} {q0 : Nat} {x1 : Int32} {x2 : Int32} {x3 : Int32} {h : Hp} (H : wp_Ro_mergeSeptet G l d w P q0 x1 x2 x3 h) : Cv G l M_Ro_mergeSeptet (d + 2) (w + 43) [.ref q0, .int x1, .int x2, .int x3] h 0 0 P := by
  unfold wp_Ro_mergeSeptet at H
  refine Ct.of (lv := [some (.ref q0), some (.int x1), some (.int x2), some (.int x3), none, none]) (by decide) (Nat.le_of_ble_eq_true rfl) rfl (fun p e s m args below meth c => ?_)
  refine g_iload_n d_Ro_mergeSeptet_0 rfl ?_
  refine g_iload_n d_Ro_mergeSeptet_1 rfl ?_
  refine g_bipush (v := 8) d_Ro_mergeSeptet_2 (by decide) ?_
  refine g_idiv d_Ro_mergeSeptet_4 (by decide) ?_
  refine g_iadd d_Ro_mergeSeptet_5 ?_
  refine g_topi (fun x_1 ex_1 => ?_)
  replace H := H x_1 ex_1
  refine g_istore (lv' := [some (.ref q0), some (.int x1), some (.int x2), some (.int x3), some (.int x_1), none]) d_Ro_mergeSeptet_6 (by decide) rfl ?_
  refine g_iload_n d_Ro_mergeSeptet_8 rfl ?_
  refine g_iload_n d_Ro_mergeSeptet_9 rfl ?_
  refine g_bipush (v := 8) d_Ro_mergeSeptet_10 (by decide) ?_
  refine g_irem d_Ro_mergeSeptet_12 (by decide) ?_
  refine g_ishl d_Ro_mergeSeptet_13 ?_
  refine g_topi (fun x_2 ex_2 => ?_)
  replace H := H x_2 ex_2
  refine g_istore (lv' := [some (.ref q0), some (.int x1), some (.int x2), some (.int x3), some (.int x_1), some (.int x_2)]) d_Ro_mergeSeptet_14 (by decide) rfl ?_
  refine g_aload_n d_Ro_mergeSeptet_16 rfl ?_
  refine g_iload d_Ro_mergeSeptet_17 rfl ?_
  refine g_iload d_Ro_mergeSeptet_19 rfl ?_
  refine g_sipush (v := 255) d_Ro_mergeSeptet_21 (by decide) ?_
  refine g_iand d_Ro_mergeSeptet_24 ?_
  obtain ⟨z_3, H⟩ := H
  obtain ⟨P_4, C_5, H⟩ := H
  refine q_V (As := [.int x_1, .int (x_2 &&& 255)]) (st := []) (nl := 3) d_Ro_mergeSeptet_25 v_Ro_42 C_5 z_3 rfl (catS_le (Nat.le_of_ble_eq_true rfl)) rfl ⟨by omega, by omega, Nat.le_refl _, Nat.le_refl _⟩ (fun r_10 h_6 p_7 => ?_)
  obtain ⟨rfl, p_7⟩ := p_7
  replace H := H h_6 p_7
  show Go _ _ _ _ [] _ _ _
  refine g_aload_n d_Ro_mergeSeptet_28 rfl ?_
  refine g_iload d_Ro_mergeSeptet_29 rfl ?_
  refine g_iconst (v := 1) d_Ro_mergeSeptet_31 (by decide) ?_
  refine g_iadd d_Ro_mergeSeptet_32 ?_
  refine g_iload d_Ro_mergeSeptet_33 rfl ?_
  refine g_bipush (v := 8) d_Ro_mergeSeptet_35 (by decide) ?_
  refine g_ishr d_Ro_mergeSeptet_37 ?_
  obtain ⟨z_11, H⟩ := H
  obtain ⟨P_12, C_13, H⟩ := H
  refine q_V (As := [.int (x_1 + 1), .int (x_2 >>> (8 &&& 31))]) (st := []) (nl := 3) d_Ro_mergeSeptet_38 v_Ro_42 C_13 z_11 rfl (catS_le (Nat.le_of_ble_eq_true rfl)) rfl ⟨by omega, by omega, Nat.le_refl _, Nat.le_refl _⟩ (fun r_18 h_14 p_15 => ?_)
  obtain ⟨rfl, p_15⟩ := p_15
  replace H := H h_14 p_15
  show Go _ _ _ _ [] _ _ _
  exact g_return d_Ro_mergeSeptet_41 rfl (Nat.le_refl _) (Nat.le_refl _) ⟨rfl, H⟩
set_option maxRecDepth 100000 in
set_option maxHeartbeats 4000000 in
def wJ_Ro_septetAt_49 (G : Gx) (l : Launch) (d w : Nat) (P : Int32 → Hp → Prop) (q0 : Nat) (x1 : Int32) (x2 : Int32) (x3 : Int32) (x4 : Int32) (sx0 : Int32) (h : Hp)  : Prop := P ((((sx0 <<< (8 &&& 31)) ||| x4) >>> ((x2 - x2 / 8 * 8) &&& 31)) &&& 127) h
set_option maxRecDepth 100000 in
set_option maxHeartbeats 4000000 in
theorem okJ_Ro_septetAt_49 {G : Gx} {l : Launch} {d w : Nat} {P : Int32 → Hp → Prop} {p : Program} {e : Env} {s : State} {m : MethodId} {args : Array Value} {below : List Frame} {meth : Method} {c : Code} {q0 : Nat} {x1 : Int32} {x2 : Int32} {x3 : Int32} {x4 : Int32} {sx0 : Int32} {h : Hp}  (H : wJ_Ro_septetAt_49 G l d w P  q0 x1 x2 x3 x4 sx0 h ) : Go M_Ro_septetAt (mkX G (fun r h' => ∃ x, r = some (.int x) ∧ P x h') (d + 1) (w + 21) 0 0 p l e s m args below meth c) 49 [some (.ref q0), some (.int x1), some (.int x2), some (.int x3), some (.int x4), none] [.int sx0] h 0 0 := by
  unfold wJ_Ro_septetAt_49 at H
  refine g_istore (lv' := [some (.ref q0), some (.int x1), some (.int x2), some (.int x3), some (.int x4), some (.int sx0)]) d_Ro_septetAt_49 (by decide) rfl ?_
  refine g_iload d_Ro_septetAt_51 rfl ?_
  refine g_bipush (v := 8) d_Ro_septetAt_53 (by decide) ?_
  refine g_ishl d_Ro_septetAt_55 ?_
  refine g_iload d_Ro_septetAt_56 rfl ?_
  refine g_ior d_Ro_septetAt_58 ?_
  refine g_iload_n d_Ro_septetAt_59 rfl ?_
  refine g_bipush (v := 8) d_Ro_septetAt_60 (by decide) ?_
  refine g_irem d_Ro_septetAt_62 (by decide) ?_
  refine g_ishr d_Ro_septetAt_63 ?_
  refine g_bipush (v := 127) d_Ro_septetAt_64 (by decide) ?_
  refine g_iand d_Ro_septetAt_66 ?_
  exact g_ireturn d_Ro_septetAt_67 rfl (Nat.le_refl _) (Nat.le_refl _) ⟨_, rfl, H⟩
set_option maxRecDepth 100000 in
set_option maxHeartbeats 4000000 in
def wJ_Ro_septetAt_25 (G : Gx) (l : Launch) (d w : Nat) (P : Int32 → Hp → Prop) (q0 : Nat) (x1 : Int32) (x2 : Int32) (x3 : Int32) (sx0 : Int32) (h : Hp)  : Prop := (hS h q0 = some (15, 0)) ∧ (∃ P_2 : Int32 → Hp → Prop, (Ci G l M_Ro_has (d + 0) (w + 0) [.ref q0, .int (x3 + 1)] h 0 0 P_2) ∧ (∀ (x_6 : Int32) (h_4 : Hp), P_2 x_6 h_4 → (x_6 = 0 → wJ_Ro_septetAt_49 G l d w P q0 x1 x2 x3 sx0 0 h_4) ∧ (¬ x_6 = 0 → (hS h_4 q0 = some (15, 0)) ∧ (∃ q_11 : Nat, (hR h_4 q0 0) = some q_11 ∧ (∃ N_13 : Nat, ∃ j_14 : Nat, (hS h_4 q_11 = some (0, N_13) ∧ (x3 + 1) = nI j_14 ∧ j_14 < N_13 ∧ j_14 < 2147483648) ∧ (wJ_Ro_septetAt_49 G l d w P q0 x1 x2 x3 sx0 (hI h_4 q_11 j_14) h_4))))))
set_option maxRecDepth 100000 in
set_option maxHeartbeats 4000000 in
theorem okJ_Ro_septetAt_25 {G : Gx} {l : Launch} {d w : Nat} {P : Int32 → Hp → Prop} {p : Program} {e : Env} {s : State} {m : MethodId} {args : Array Value} {below : List Frame} {meth : Method} {c : Code} {q0 : Nat} {x1 : Int32} {x2 : Int32} {x3 : Int32} {sx0 : Int32} {h : Hp}  (H : wJ_Ro_septetAt_25 G l d w P  q0 x1 x2 x3 sx0 h ) : Go M_Ro_septetAt (mkX G (fun r h' => ∃ x, r = some (.int x) ∧ P x h') (d + 1) (w + 21) 0 0 p l e s m args below meth c) 25 [some (.ref q0), some (.int x1), some (.int x2), some (.int x3), none, none] [.int sx0] h 0 0 := by
  unfold wJ_Ro_septetAt_25 at H
  refine g_istore (lv' := [some (.ref q0), some (.int x1), some (.int x2), some (.int x3), some (.int sx0), none]) d_Ro_septetAt_25 (by decide) rfl ?_
  refine g_aload_n d_Ro_septetAt_27 rfl ?_
  refine g_iload_n d_Ro_septetAt_28 rfl ?_
  refine g_iconst (v := 1) d_Ro_septetAt_29 (by decide) ?_
  refine g_iadd d_Ro_septetAt_30 ?_
  obtain ⟨z_1, H⟩ := H
  obtain ⟨P_2, C_3, H⟩ := H
  refine q_V (As := [.int (x3 + 1)]) (st := []) (nl := 2) d_Ro_septetAt_31 v_Ro_30 C_3 z_1 rfl (catS_le (Nat.le_of_ble_eq_true rfl)) rfl ⟨by omega, by omega, Nat.le_refl _, Nat.le_refl _⟩ (fun r_8 h_4 p_5 => ?_)
  obtain ⟨x_6, rfl, p_5⟩ := p_5
  replace H := H x_6 h_4 p_5
  show Go _ _ _ _ [.int x_6] _ _ _
  obtain ⟨H1, H2⟩ := H
  refine g_if_eq (tgt := 48) d_Ro_septetAt_34 (by decide) (fun c_9 => ?_) (fun c_9 => ?_)
  · have H := H1 c_9
    refine g_iconst (v := 0) d_Ro_septetAt_48 (by decide) ?_
    refine g_msk [true, true, true, true, true, false] ?_
    exact okJ_Ro_septetAt_49 H
  · have H := H2 c_9
    refine g_aload_n d_Ro_septetAt_37 rfl ?_
    obtain ⟨z_10, H⟩ := H
    refine g_getR d_Ro_septetAt_38 f_Ro_7 z_10 (by decide) ?_
    refine g_iload_n d_Ro_septetAt_41 rfl ?_
    refine g_iconst (v := 1) d_Ro_septetAt_42 (by decide) ?_
    refine g_iadd d_Ro_septetAt_43 ?_
    obtain ⟨q_11, e_12, H⟩ := H
    show Go _ _ _ [some (.ref q0), some (.int x1), some (.int x2), some (.int x3), some (.int sx0), none] [.int (x3 + 1), va_rf (hR h_4 q0 0)] _ _ _
    rw [show va_rf (hR h_4 q0 0) = Value.ref q_11 from by rw [e_12]; rfl]
    obtain ⟨N_13, H⟩ := H
    obtain ⟨j_14, H⟩ := H
    obtain ⟨z_15, H⟩ := H
    refine g_iald d_Ro_septetAt_44 z_15.1 z_15.2.1 z_15.2.2.1 z_15.2.2.2 ?_
    refine g_goto (tgt := 49) d_Ro_septetAt_45 (by decide) ?_
    refine g_msk [true, true, true, true, true, false] ?_
    exact okJ_Ro_septetAt_49 H
set_option maxRecDepth 100000 in
set_option maxHeartbeats 4000000 in
def wp_Ro_septetAt (G : Gx) (l : Launch) (d w : Nat) (P : Int32 → Hp → Prop) (q0 : Nat) (x1 : Int32) (x2 : Int32) (h : Hp) : Prop := ∀ x_16 : Int32, x_16 = (x1 + (x2 / 8)) → (hS h q0 = some (15, 0)) ∧ (∃ P_18 : Int32 → Hp → Prop, (Ci G l M_Ro_has (d + 0) (w + 0) [.ref q0, .int x_16] h 0 0 P_18) ∧ (∀ (x_22 : Int32) (h_20 : Hp), P_18 x_22 h_20 → (x_22 = 0 → wJ_Ro_septetAt_25 G l d w P q0 x1 x2 x_16 0 h_20) ∧ (¬ x_22 = 0 → (hS h_20 q0 = some (15, 0)) ∧ (∃ q_27 : Nat, (hR h_20 q0 0) = some q_27 ∧ (∃ N_29 : Nat, ∃ j_30 : Nat, (hS h_20 q_27 = some (0, N_29) ∧ x_16 = nI j_30 ∧ j_30 < N_29 ∧ j_30 < 2147483648) ∧ (wJ_Ro_septetAt_25 G l d w P q0 x1 x2 x_16 (hI h_20 q_27 j_30) h_20))))))
set_option maxRecDepth 100000 in
set_option maxHeartbeats 4000000 in
theorem ok_Ro_septetAt {G : Gx} {l : Launch} {d w : Nat} {P : Int32 → Hp → Prop} {q0 : Nat} {x1 : Int32} {x2 : Int32} {h : Hp} (H : wp_Ro_septetAt G l d w P q0 x1 x2 h) : Ci G l M_Ro_septetAt (d + 1) (w + 21) [.ref q0, .int x1, .int x2] h 0 0 P := by
  unfold wp_Ro_septetAt at H
  refine Ct.of (lv := [some (.ref q0), some (.int x1), some (.int x2), none, none, none]) (by decide) (Nat.le_of_ble_eq_true rfl) rfl (fun p e s m args below meth c => ?_)
  refine g_iload_n d_Ro_septetAt_0 rfl ?_
  refine g_iload_n d_Ro_septetAt_1 rfl ?_
  refine g_bipush (v := 8) d_Ro_septetAt_2 (by decide) ?_
  refine g_idiv d_Ro_septetAt_4 (by decide) ?_
  refine g_iadd d_Ro_septetAt_5 ?_
  refine g_topi (fun x_16 ex_16 => ?_)
  replace H := H x_16 ex_16
  refine g_istore_n (lv' := [some (.ref q0), some (.int x1), some (.int x2), some (.int x_16), none, none]) d_Ro_septetAt_6 (by decide) rfl ?_
  refine g_aload_n d_Ro_septetAt_7 rfl ?_
  refine g_iload_n d_Ro_septetAt_8 rfl ?_
  obtain ⟨z_17, H⟩ := H
  obtain ⟨P_18, C_19, H⟩ := H
  refine q_V (As := [.int x_16]) (st := []) (nl := 2) d_Ro_septetAt_9 v_Ro_30 C_19 z_17 rfl (catS_le (Nat.le_of_ble_eq_true rfl)) rfl ⟨by omega, by omega, Nat.le_refl _, Nat.le_refl _⟩ (fun r_24 h_20 p_21 => ?_)
  obtain ⟨x_22, rfl, p_21⟩ := p_21
  replace H := H x_22 h_20 p_21
  show Go _ _ _ _ [.int x_22] _ _ _
  obtain ⟨H1, H2⟩ := H
  refine g_if_eq (tgt := 24) d_Ro_septetAt_12 (by decide) (fun c_25 => ?_) (fun c_25 => ?_)
  · have H := H1 c_25
    refine g_iconst (v := 0) d_Ro_septetAt_24 (by decide) ?_
    refine g_msk [true, true, true, true, false, false] ?_
    exact okJ_Ro_septetAt_25 H
  · have H := H2 c_25
    refine g_aload_n d_Ro_septetAt_15 rfl ?_
    obtain ⟨z_26, H⟩ := H
    refine g_getR d_Ro_septetAt_16 f_Ro_7 z_26 (by decide) ?_
    refine g_iload_n d_Ro_septetAt_19 rfl ?_
    obtain ⟨q_27, e_28, H⟩ := H
    show Go _ _ _ [some (.ref q0), some (.int x1), some (.int x2), some (.int x_16), none, none] [.int x_16, va_rf (hR h_20 q0 0)] _ _ _
    rw [show va_rf (hR h_20 q0 0) = Value.ref q_27 from by rw [e_28]; rfl]
    obtain ⟨N_29, H⟩ := H
    obtain ⟨j_30, H⟩ := H
    obtain ⟨z_31, H⟩ := H
    refine g_iald d_Ro_septetAt_20 z_31.1 z_31.2.1 z_31.2.2.1 z_31.2.2.2 ?_
    refine g_goto (tgt := 25) d_Ro_septetAt_21 (by decide) ?_
    refine g_msk [true, true, true, true, false, false] ?_
    exact okJ_Ro_septetAt_25 H
set_option maxRecDepth 100000 in
set_option maxHeartbeats 4000000 in
def wJ_Ro_digitAt_32 (G : Gx) (l : Launch) (d w : Nat) (P : Int32 → Hp → Prop) (q0 : Nat) (x1 : Int32) (x2 : Int32) (x3 : Int32) (sx0 : Int32) (h : Hp)  : Prop := P sx0 h
set_option maxRecDepth 100000 in
set_option maxHeartbeats 4000000 in
theorem okJ_Ro_digitAt_32 {G : Gx} {l : Launch} {d w : Nat} {P : Int32 → Hp → Prop} {p : Program} {e : Env} {s : State} {m : MethodId} {args : Array Value} {below : List Frame} {meth : Method} {c : Code} {q0 : Nat} {x1 : Int32} {x2 : Int32} {x3 : Int32} {sx0 : Int32} {h : Hp}  (H : wJ_Ro_digitAt_32 G l d w P  q0 x1 x2 x3 sx0 h ) : Go M_Ro_digitAt (mkX G (fun r h' => ∃ x, r = some (.int x) ∧ P x h') (d + 2) (w + 42) 0 0 p l e s m args below meth c) 32 [some (.ref q0), some (.int x1), some (.int x2), some (.int x3)] [.int sx0] h 0 0 := by
  unfold wJ_Ro_digitAt_32 at H
  exact g_ireturn d_Ro_digitAt_32 rfl (Nat.le_refl _) (Nat.le_refl _) ⟨_, rfl, H⟩
set_option maxRecDepth 100000 in
set_option maxHeartbeats 4000000 in
def wp_Ro_digitAt (G : Gx) (l : Launch) (d w : Nat) (P : Int32 → Hp → Prop) (q0 : Nat) (x1 : Int32) (x2 : Int32) (h : Hp) : Prop := (hS h q0 = some (15, 0)) ∧ (∃ P_2 : Int32 → Hp → Prop, (Ci G l M_Ro_at (d + 1) (w + 21) [.ref q0, .int (x1 + (x2 / 2))] h 0 0 P_2) ∧ (∀ (x_6 : Int32) (h_4 : Hp), P_2 x_6 h_4 → (0 ≤ x_6 → (¬ (x2 - x2 / 2 * 2) = 0 → wJ_Ro_digitAt_32 G l d w P q0 x1 x2 x_6 (x_6 >>> (4 &&& 31)) h_4) ∧ ((x2 - x2 / 2 * 2) = 0 → wJ_Ro_digitAt_32 G l d w P q0 x1 x2 x_6 (x_6 &&& 15) h_4)) ∧ (¬ 0 ≤ x_6 → P (-1) h_4)))
set_option maxRecDepth 100000 in
set_option maxHeartbeats 4000000 in
theorem ok_Ro_digitAt {G : Gx} {l : Launch} {d w : Nat} {P : Int32 → Hp → Prop} {q0 : Nat} {x1 : Int32} {x2 : Int32} {h : Hp} (H : wp_Ro_digitAt G l d w P q0 x1 x2 h) : Ci G l M_Ro_digitAt (d + 2) (w + 42) [.ref q0, .int x1, .int x2] h 0 0 P := by
  unfold wp_Ro_digitAt at H
  refine Ct.of (lv := [some (.ref q0), some (.int x1), some (.int x2), none]) (by decide) (Nat.le_of_ble_eq_true rfl) rfl (fun p e s m args below meth c => ?_)
  refine g_aload_n d_Ro_digitAt_0 rfl ?_
  refine g_iload_n d_Ro_digitAt_1 rfl ?_
  refine g_iload_n d_Ro_digitAt_2 rfl ?_
  refine g_iconst (v := 2) d_Ro_digitAt_3 (by decide) ?_
  refine g_idiv d_Ro_digitAt_4 (by decide) ?_
  refine g_iadd d_Ro_digitAt_5 ?_
  obtain ⟨z_1, H⟩ := H
  obtain ⟨P_2, C_3, H⟩ := H
  refine q_V (As := [.int (x1 + (x2 / 2))]) (st := []) (nl := 2) d_Ro_digitAt_6 v_Ro_58 C_3 z_1 rfl (catS_le (Nat.le_of_ble_eq_true rfl)) rfl ⟨by omega, by omega, Nat.le_refl _, Nat.le_refl _⟩ (fun r_8 h_4 p_5 => ?_)
  obtain ⟨x_6, rfl, p_5⟩ := p_5
  replace H := H x_6 h_4 p_5
  show Go _ _ _ _ [.int x_6] _ _ _
  refine g_istore_n (lv' := [some (.ref q0), some (.int x1), some (.int x2), some (.int x_6)]) d_Ro_digitAt_9 (by decide) rfl ?_
  refine g_iload_n d_Ro_digitAt_10 rfl ?_
  obtain ⟨H1, H2⟩ := H
  refine g_if_ge (tgt := 16) d_Ro_digitAt_11 (by decide) (fun c_9 => ?_) (fun c_9 => ?_)
  · have H := H1 c_9
    refine g_iload_n d_Ro_digitAt_16 rfl ?_
    refine g_iconst (v := 2) d_Ro_digitAt_17 (by decide) ?_
    refine g_irem d_Ro_digitAt_18 (by decide) ?_
    obtain ⟨H1, H2⟩ := H
    refine g_if_ne (tgt := 29) d_Ro_digitAt_19 (by decide) (fun c_10 => ?_) (fun c_10 => ?_)
    · have H := H1 c_10
      refine g_iload_n d_Ro_digitAt_29 rfl ?_
      refine g_iconst (v := 4) d_Ro_digitAt_30 (by decide) ?_
      refine g_ishr d_Ro_digitAt_31 ?_
      refine g_msk [true, true, true, true] ?_
      exact okJ_Ro_digitAt_32 H
    · have H := H2 c_10
      refine g_iload_n d_Ro_digitAt_22 rfl ?_
      refine g_bipush (v := 15) d_Ro_digitAt_23 (by decide) ?_
      refine g_iand d_Ro_digitAt_25 ?_
      refine g_goto (tgt := 32) d_Ro_digitAt_26 (by decide) ?_
      refine g_msk [true, true, true, true] ?_
      exact okJ_Ro_digitAt_32 H
  · have H := H2 c_9
    refine g_iconst (v := (-1)) d_Ro_digitAt_14 (by decide) ?_
    exact g_ireturn d_Ro_digitAt_15 rfl (Nat.le_refl _) (Nat.le_refl _) ⟨_, rfl, H⟩
set_option maxRecDepth 100000 in
set_option maxHeartbeats 4000000 in
def wB_Ro_numberAt_12 (G : Gx) (l : Launch) (d w : Nat) (P : Int64 → Hp → Prop) (C12 : Int64 → Int32 → Hp → Prop) (q0 : Nat) (x1 : Int32) (y2 : Int64) (x4 : Int32) (x5 : Int32) (h : Hp)  : Prop := (x4 ≤ x5 → P y2 h) ∧ (¬ x4 ≤ x5 → (hS h q0 = some (15, 0)) ∧ (∃ P_3 : Int32 → Hp → Prop, (Ci G l M_Ro_digitAt (d + 2) (w + 42) [.ref q0, .int (x1 + 2), .int x5] h 0 0 P_3) ∧ (∀ (x_7 : Int32) (h_5 : Hp), P_3 x_7 h_5 → ∀ y_10 : Int64, y_10 = ((10 * y2) + x_7.toInt64) → ∀ x_11 : Int32, x_11 = x5 + 1 → C12 y_10 x_11 h_5)))
set_option maxRecDepth 100000 in
set_option maxHeartbeats 4000000 in
theorem okB_Ro_numberAt_12 {G : Gx} {l : Launch} {d w : Nat} {P : Int64 → Hp → Prop} {p : Program} {e : Env} {s : State} {m : MethodId} {args : Array Value} {below : List Frame} {meth : Method} {c : Code} {C12 : Int64 → Int32 → Hp → Prop} {q0 : Nat} {x1 : Int32} {y2 : Int64} {x4 : Int32} {x5 : Int32} (hC12 : ∀ (y2 : Int64) (x5 : Int32) (h : Hp), C12 y2 x5 h → Go M_Ro_numberAt (mkX G (fun r h' => ∃ x, r = some (.long x) ∧ P x h') (d + 3) (w + 65) 0 0 p l e s m args below meth c) 12 [some (.ref q0), some (.int x1), some (.long y2), none, some (.int x4), some (.int x5)] [] h 0 0) {h : Hp}  (H : wB_Ro_numberAt_12 G l d w P C12 q0 x1 y2 x4 x5 h ) : Go M_Ro_numberAt (mkX G (fun r h' => ∃ x, r = some (.long x) ∧ P x h') (d + 3) (w + 65) 0 0 p l e s m args below meth c) 12 [some (.ref q0), some (.int x1), some (.long y2), none, some (.int x4), some (.int x5)] [] h 0 0 := by
  unfold wB_Ro_numberAt_12 at H
  refine g_iload d_Ro_numberAt_12 rfl ?_
  refine g_iload d_Ro_numberAt_14 rfl ?_
  obtain ⟨H1, H2⟩ := H
  refine g_icmp_ge (tgt := 42) d_Ro_numberAt_16 (by decide) (fun c_1 => ?_) (fun c_1 => ?_)
  · have H := H1 c_1
    refine g_lload_n d_Ro_numberAt_42 rfl ?_
    exact g_lreturn d_Ro_numberAt_43 rfl (Nat.le_refl _) (Nat.le_refl _) ⟨_, rfl, H⟩
  · have H := H2 c_1
    refine g_ldc2 d_Ro_numberAt_19 k_Ro_17 ?_
    refine g_lload_n d_Ro_numberAt_22 rfl ?_
    refine g_lmul d_Ro_numberAt_23 ?_
    refine g_aload_n d_Ro_numberAt_24 rfl ?_
    refine g_iload_n d_Ro_numberAt_25 rfl ?_
    refine g_iconst (v := 2) d_Ro_numberAt_26 (by decide) ?_
    refine g_iadd d_Ro_numberAt_27 ?_
    refine g_iload d_Ro_numberAt_28 rfl ?_
    obtain ⟨z_2, H⟩ := H
    obtain ⟨P_3, C_4, H⟩ := H
    refine q_V (As := [.int (x1 + 2), .int x5]) (st := [.long (10 * y2)]) (nl := 4) d_Ro_numberAt_30 v_Ro_61 C_4 z_2 rfl (catS_le (Nat.le_of_ble_eq_true rfl)) rfl ⟨by omega, by omega, Nat.le_refl _, Nat.le_refl _⟩ (fun r_9 h_5 p_6 => ?_)
    obtain ⟨x_7, rfl, p_6⟩ := p_6
    replace H := H x_7 h_5 p_6
    show Go _ _ _ _ [.int x_7, .long (10 * y2)] _ _ _
    refine g_i2l d_Ro_numberAt_33 ?_
    refine g_ladd d_Ro_numberAt_34 ?_
    refine g_topl (fun y_10 ey_10 => ?_)
    replace H := H y_10 ey_10
    refine g_lstore_n (lv' := [some (.ref q0), some (.int x1), some (.long y_10), none, some (.int x4), some (.int x5)]) d_Ro_numberAt_35 (by decide) rfl ?_
    obtain ⟨x_11, ex_11⟩ : ∃ z : Int32, z = x5 + 1 := ⟨_, rfl⟩
    replace H := H x_11 ex_11
    refine g_iinc (v := x_11) (lv' := [some (.ref q0), some (.int x1), some (.long y_10), none, some (.int x4), some (.int x_11)]) d_Ro_numberAt_36 rfl (by decide) (by rw [ex_11]; rfl) rfl ?_
    refine g_goto (tgt := 12) d_Ro_numberAt_39 (by decide) ?_
    refine g_msk [true, true, true, false, true, true] ?_
    exact hC12 _ _ _ H
set_option maxRecDepth 100000 in
set_option maxHeartbeats 4000000 in
def wL_Ro_numberAt_12 (G : Gx) (l : Launch) (d w : Nat) (P : Int64 → Hp → Prop) (q0 : Nat) (x1 : Int32) (y2 : Int64) (x4 : Int32) (x5 : Int32) (h : Hp)  : Prop := ∃ (I : Int64 → Int32 → Hp → Prop) (μ : Int64 → Int32 → Hp → Nat), I y2 x5 h ∧ ∀ (y2' : Int64) (x5' : Int32) (h' : Hp), I y2' x5' h' → wB_Ro_numberAt_12 G l d w P (fun y2_ x5_ h_ => I y2_ x5_ h_ ∧ μ y2_ x5_ h_ < μ y2' x5' h') q0 x1 y2' x4 x5' h'
set_option maxRecDepth 100000 in
set_option maxHeartbeats 4000000 in
theorem okL_Ro_numberAt_12 {G : Gx} {l : Launch} {d w : Nat} {P : Int64 → Hp → Prop} {p : Program} {e : Env} {s : State} {m : MethodId} {args : Array Value} {below : List Frame} {meth : Method} {c : Code} {q0 : Nat} {x1 : Int32} {y2 : Int64} {x4 : Int32} {x5 : Int32} {h : Hp}  (H : wL_Ro_numberAt_12 G l d w P  q0 x1 y2 x4 x5 h ) : Go M_Ro_numberAt (mkX G (fun r h' => ∃ x, r = some (.long x) ∧ P x h') (d + 3) (w + 65) 0 0 p l e s m args below meth c) 12 [some (.ref q0), some (.int x1), some (.long y2), none, some (.int x4), some (.int x5)] [] h 0 0 := by
  obtain ⟨I, μ, h0, hs⟩ := H
  have key : ∀ (N : Nat) (y2 : Int64) (x5 : Int32) (h : Hp), I y2 x5 h → μ y2 x5 h < N → Go M_Ro_numberAt (mkX G (fun r h' => ∃ x, r = some (.long x) ∧ P x h') (d + 3) (w + 65) 0 0 p l e s m args below meth c) 12 [some (.ref q0), some (.int x1), some (.long y2), none, some (.int x4), some (.int x5)] [] h 0 0 := by
    intro N
    induction N with
    | zero => intro y2 x5 h _ hN; exact absurd hN (Nat.not_lt_zero _)
    | succ N ih =>
      intro y2 x5 h hI hN
      exact okB_Ro_numberAt_12 (fun y2_ x5_ h_ hh => ih y2_ x5_ h_ hh.1 (Nat.lt_of_lt_of_le hh.2 (Nat.le_of_lt_succ hN))) (hs y2 x5 h hI)
  exact key _ _ _ _ h0 (Nat.lt_succ_self _)
set_option maxRecDepth 100000 in
set_option maxHeartbeats 4000000 in
def wp_Ro_numberAt (G : Gx) (l : Launch) (d w : Nat) (P : Int64 → Hp → Prop) (q0 : Nat) (x1 : Int32) (h : Hp) : Prop := (hS h q0 = some (15, 0)) ∧ (∃ P_13 : Int32 → Hp → Prop, (Ci G l M_Ro_at (d + 1) (w + 21) [.ref q0, .int x1] h 0 0 P_13) ∧ (∀ (x_17 : Int32) (h_15 : Hp), P_13 x_17 h_15 → wL_Ro_numberAt_12 G l d w P q0 x1 0 x_17 0 h_15))
set_option maxRecDepth 100000 in
set_option maxHeartbeats 4000000 in
theorem ok_Ro_numberAt {G : Gx} {l : Launch} {d w : Nat} {P : Int64 → Hp → Prop} {q0 : Nat} {x1 : Int32} {h : Hp} (H : wp_Ro_numberAt G l d w P q0 x1 h) : Cl G l M_Ro_numberAt (d + 3) (w + 65) [.ref q0, .int x1] h 0 0 P := by
  unfold wp_Ro_numberAt at H
  refine Ct.of (lv := [some (.ref q0), some (.int x1), none, none, none, none]) (by decide) (Nat.le_of_ble_eq_true rfl) rfl (fun p e s m args below meth c => ?_)
  refine g_lconst (v := 0) d_Ro_numberAt_0 (by decide) ?_
  refine g_lstore_n (lv' := [some (.ref q0), some (.int x1), some (.long 0), none, none, none]) d_Ro_numberAt_1 (by decide) rfl ?_
  refine g_aload_n d_Ro_numberAt_2 rfl ?_
  refine g_iload_n d_Ro_numberAt_3 rfl ?_
  obtain ⟨z_12, H⟩ := H
  obtain ⟨P_13, C_14, H⟩ := H
  refine q_V (As := [.int x1]) (st := []) (nl := 2) d_Ro_numberAt_4 v_Ro_58 C_14 z_12 rfl (catS_le (Nat.le_of_ble_eq_true rfl)) rfl ⟨by omega, by omega, Nat.le_refl _, Nat.le_refl _⟩ (fun r_19 h_15 p_16 => ?_)
  obtain ⟨x_17, rfl, p_16⟩ := p_16
  replace H := H x_17 h_15 p_16
  show Go _ _ _ _ [.int x_17] _ _ _
  refine g_istore (lv' := [some (.ref q0), some (.int x1), some (.long 0), none, some (.int x_17), none]) d_Ro_numberAt_7 (by decide) rfl ?_
  refine g_iconst (v := 0) d_Ro_numberAt_9 (by decide) ?_
  refine g_istore (lv' := [some (.ref q0), some (.int x1), some (.long 0), none, some (.int x_17), some (.int 0)]) d_Ro_numberAt_10 (by decide) rfl ?_
  refine g_msk [true, true, true, false, true, true] ?_
  exact okL_Ro_numberAt_12 H
set_option maxRecDepth 100000 in
set_option maxHeartbeats 4000000 in
def wJ_Ro_hasHeader_16 (G : Gx) (l : Launch) (d w : Nat) (P : Int32 → Hp → Prop) (q0 : Nat) (sx0 : Int32) (h : Hp)  : Prop := (sx0 = 0 ∨ sx0 = 1) ∧ (P sx0 h)
set_option maxRecDepth 100000 in
set_option maxHeartbeats 4000000 in
theorem okJ_Ro_hasHeader_16 {G : Gx} {l : Launch} {d w : Nat} {P : Int32 → Hp → Prop} {p : Program} {e : Env} {s : State} {m : MethodId} {args : Array Value} {below : List Frame} {meth : Method} {c : Code} {q0 : Nat} {sx0 : Int32} {h : Hp}  (H : wJ_Ro_hasHeader_16 G l d w P  q0 sx0 h ) : Go M_Ro_hasHeader (mkX G (fun r h' => ∃ x, r = some (.int x) ∧ P x h') (d + 2) (w + 42) 0 0 p l e s m args below meth c) 16 [some (.ref q0)] [.int sx0] h 0 0 := by
  unfold wJ_Ro_hasHeader_16 at H
  obtain ⟨z_1, H⟩ := H
  exact g_zreturn d_Ro_hasHeader_16 rfl z_1 (Nat.le_refl _) (Nat.le_refl _) ⟨_, rfl, H⟩
set_option maxRecDepth 100000 in
set_option maxHeartbeats 4000000 in
def wp_Ro_hasHeader (G : Gx) (l : Launch) (d w : Nat) (P : Int32 → Hp → Prop) (q0 : Nat) (h : Hp) : Prop := (hS h q0 = some (15, 0)) ∧ (∃ P_3 : Int32 → Hp → Prop, (Ci G l M_Ro_at (d + 1) (w + 21) [.ref q0, .int 0] h 0 0 P_3) ∧ (∀ (x_7 : Int32) (h_5 : Hp), P_3 x_7 h_5 → ((x_7 &&& 64) = 0 → wJ_Ro_hasHeader_16 G l d w P q0 0 h_5) ∧ (¬ (x_7 &&& 64) = 0 → wJ_Ro_hasHeader_16 G l d w P q0 1 h_5)))
set_option maxRecDepth 100000 in
set_option maxHeartbeats 4000000 in
theorem ok_Ro_hasHeader {G : Gx} {l : Launch} {d w : Nat} {P : Int32 → Hp → Prop} {q0 : Nat} {h : Hp} (H : wp_Ro_hasHeader G l d w P q0 h) : Ci G l M_Ro_hasHeader (d + 2) (w + 42) [.ref q0] h 0 0 P := by
  unfold wp_Ro_hasHeader at H
  refine Ct.of (lv := [some (.ref q0)]) (by decide) (Nat.le_of_ble_eq_true rfl) rfl (fun p e s m args below meth c => ?_)
  refine g_aload_n d_Ro_hasHeader_0 rfl ?_
  refine g_iconst (v := 0) d_Ro_hasHeader_1 (by decide) ?_
  obtain ⟨z_2, H⟩ := H
  obtain ⟨P_3, C_4, H⟩ := H
  refine q_V (As := [.int 0]) (st := []) (nl := 2) d_Ro_hasHeader_2 v_Ro_58 C_4 z_2 rfl (catS_le (Nat.le_of_ble_eq_true rfl)) rfl ⟨by omega, by omega, Nat.le_refl _, Nat.le_refl _⟩ (fun r_9 h_5 p_6 => ?_)
  obtain ⟨x_7, rfl, p_6⟩ := p_6
  replace H := H x_7 h_5 p_6
  show Go _ _ _ _ [.int x_7] _ _ _
  refine g_bipush (v := 64) d_Ro_hasHeader_5 (by decide) ?_
  refine g_iand d_Ro_hasHeader_7 ?_
  obtain ⟨H1, H2⟩ := H
  refine g_if_eq (tgt := 15) d_Ro_hasHeader_8 (by decide) (fun c_10 => ?_) (fun c_10 => ?_)
  · have H := H1 c_10
    refine g_iconst (v := 0) d_Ro_hasHeader_15 (by decide) ?_
    refine g_msk [true] ?_
    exact okJ_Ro_hasHeader_16 H
  · have H := H2 c_10
    refine g_iconst (v := 1) d_Ro_hasHeader_11 (by decide) ?_
    refine g_goto (tgt := 16) d_Ro_hasHeader_12 (by decide) ?_
    refine g_msk [true] ?_
    exact okJ_Ro_hasHeader_16 H
set_option maxRecDepth 100000 in
set_option maxHeartbeats 4000000 in
def wJ_Ro_firstBit_13 (G : Gx) (l : Launch) (d w : Nat) (P : Int32 → Hp → Prop) (q0 : Nat) (sx0 : Int32) (h : Hp)  : Prop := P sx0 h
set_option maxRecDepth 100000 in
set_option maxHeartbeats 4000000 in
theorem okJ_Ro_firstBit_13 {G : Gx} {l : Launch} {d w : Nat} {P : Int32 → Hp → Prop} {p : Program} {e : Env} {s : State} {m : MethodId} {args : Array Value} {below : List Frame} {meth : Method} {c : Code} {q0 : Nat} {sx0 : Int32} {h : Hp}  (H : wJ_Ro_firstBit_13 G l d w P  q0 sx0 h ) : Go M_Ro_firstBit (mkX G (fun r h' => ∃ x, r = some (.int x) ∧ P x h') (d + 3) (w + 62) 0 0 p l e s m args below meth c) 13 [some (.ref q0)] [.int sx0] h 0 0 := by
  unfold wJ_Ro_firstBit_13 at H
  exact g_ireturn d_Ro_firstBit_13 rfl (Nat.le_refl _) (Nat.le_refl _) ⟨_, rfl, H⟩
set_option maxRecDepth 100000 in
set_option maxHeartbeats 4000000 in
def wp_Ro_firstBit (G : Gx) (l : Launch) (d w : Nat) (P : Int32 → Hp → Prop) (q0 : Nat) (h : Hp) : Prop := (hS h q0 = some (15, 0)) ∧ (∃ P_2 : Int32 → Hp → Prop, (Ci G l M_Ro_hasHeader (d + 2) (w + 42) [.ref q0] h 0 0 P_2) ∧ (∀ (x_6 : Int32) (h_4 : Hp), P_2 x_6 h_4 → (x_6 = 0 → wJ_Ro_firstBit_13 G l d w P q0 0 h_4) ∧ (¬ x_6 = 0 → wJ_Ro_firstBit_13 G l d w P q0 49 h_4)))
set_option maxRecDepth 100000 in
set_option maxHeartbeats 4000000 in
theorem ok_Ro_firstBit {G : Gx} {l : Launch} {d w : Nat} {P : Int32 → Hp → Prop} {q0 : Nat} {h : Hp} (H : wp_Ro_firstBit G l d w P q0 h) : Ci G l M_Ro_firstBit (d + 3) (w + 62) [.ref q0] h 0 0 P := by
  unfold wp_Ro_firstBit at H
  refine Ct.of (lv := [some (.ref q0)]) (by decide) (Nat.le_of_ble_eq_true rfl) rfl (fun p e s m args below meth c => ?_)
  refine g_aload_n d_Ro_firstBit_0 rfl ?_
  obtain ⟨z_1, H⟩ := H
  obtain ⟨P_2, C_3, H⟩ := H
  refine q_V (As := []) (st := []) (nl := 1) d_Ro_firstBit_1 v_Ro_65 C_3 z_1 rfl (catS_le (Nat.le_of_ble_eq_true rfl)) rfl ⟨by omega, by omega, Nat.le_refl _, Nat.le_refl _⟩ (fun r_8 h_4 p_5 => ?_)
  obtain ⟨x_6, rfl, p_5⟩ := p_5
  replace H := H x_6 h_4 p_5
  show Go _ _ _ _ [.int x_6] _ _ _
  obtain ⟨H1, H2⟩ := H
  refine g_if_eq (tgt := 12) d_Ro_firstBit_4 (by decide) (fun c_9 => ?_) (fun c_9 => ?_)
  · have H := H1 c_9
    refine g_iconst (v := 0) d_Ro_firstBit_12 (by decide) ?_
    refine g_msk [true] ?_
    exact okJ_Ro_firstBit_13 H
  · have H := H2 c_9
    refine g_bipush (v := 49) d_Ro_firstBit_7 (by decide) ?_
    refine g_goto (tgt := 13) d_Ro_firstBit_9 (by decide) ?_
    refine g_msk [true] ?_
    exact okJ_Ro_firstBit_13 H
set_option maxRecDepth 100000 in
set_option maxHeartbeats 4000000 in
def wp_Ro_submitDataAt (G : Gx) (l : Launch) (d w : Nat) (P : Int32 → Hp → Prop) (q0 : Nat) (h : Hp) : Prop := (hS h q0 = some (15, 0)) ∧ (∃ P_2 : Int32 → Hp → Prop, (Ci G l M_Ro_at (d + 1) (w + 21) [.ref q0, .int 2] h 0 0 P_2) ∧ (∀ (x_6 : Int32) (h_4 : Hp), P_2 x_6 h_4 → ∃ P_9 : Int32 → Hp → Prop, (Ci G l M_Ro_addressSize (d + 0) (w + 0) [.int x_6] h_4 0 0 P_9) ∧ (∀ (x_13 : Int32) (h_11 : Hp), P_9 x_13 h_11 → P ((2 + x_13) + 3) h_11)))
set_option maxRecDepth 100000 in
set_option maxHeartbeats 4000000 in
theorem ok_Ro_submitDataAt {G : Gx} {l : Launch} {d w : Nat} {P : Int32 → Hp → Prop} {q0 : Nat} {h : Hp} (H : wp_Ro_submitDataAt G l d w P q0 h) : Ci G l M_Ro_submitDataAt (d + 2) (w + 42) [.ref q0] h 0 0 P := by
  unfold wp_Ro_submitDataAt at H
  refine Ct.of (lv := [some (.ref q0)]) (by decide) (Nat.le_of_ble_eq_true rfl) rfl (fun p e s m args below meth c => ?_)
  refine g_iconst (v := 2) d_Ro_submitDataAt_0 (by decide) ?_
  refine g_aload_n d_Ro_submitDataAt_1 rfl ?_
  refine g_iconst (v := 2) d_Ro_submitDataAt_2 (by decide) ?_
  obtain ⟨z_1, H⟩ := H
  obtain ⟨P_2, C_3, H⟩ := H
  refine q_V (As := [.int 2]) (st := [.int 2]) (nl := 2) d_Ro_submitDataAt_3 v_Ro_58 C_3 z_1 rfl (catS_le (Nat.le_of_ble_eq_true rfl)) rfl ⟨by omega, by omega, Nat.le_refl _, Nat.le_refl _⟩ (fun r_8 h_4 p_5 => ?_)
  obtain ⟨x_6, rfl, p_5⟩ := p_5
  replace H := H x_6 h_4 p_5
  show Go _ _ _ _ [.int x_6, .int 2] _ _ _
  obtain ⟨P_9, C_10, H⟩ := H
  refine q_S (As := [.int x_6]) (st := [.int 2]) (nl := 1) d_Ro_submitDataAt_6 v_Ro_23 C_10 rfl (catS_le (Nat.le_of_ble_eq_true rfl)) rfl ⟨by omega, by omega, Nat.le_refl _, Nat.le_refl _⟩ (fun r_15 h_11 p_12 => ?_)
  obtain ⟨x_13, rfl, p_12⟩ := p_12
  replace H := H x_13 h_11 p_12
  show Go _ _ _ _ [.int x_13, .int 2] _ _ _
  refine g_iadd d_Ro_submitDataAt_9 ?_
  refine g_iconst (v := 3) d_Ro_submitDataAt_10 (by decide) ?_
  refine g_iadd d_Ro_submitDataAt_11 ?_
  exact g_ireturn d_Ro_submitDataAt_12 rfl (Nat.le_refl _) (Nat.le_refl _) ⟨_, rfl, H⟩
set_option maxRecDepth 100000 in
set_option maxHeartbeats 4000000 in
def wp_Ro_deliverDataAt (G : Gx) (l : Launch) (d w : Nat) (P : Int32 → Hp → Prop) (q0 : Nat) (h : Hp) : Prop := (hS h q0 = some (15, 0)) ∧ (∃ P_2 : Int32 → Hp → Prop, (Ci G l M_Ro_at (d + 1) (w + 21) [.ref q0, .int 1] h 0 0 P_2) ∧ (∀ (x_6 : Int32) (h_4 : Hp), P_2 x_6 h_4 → ∃ P_9 : Int32 → Hp → Prop, (Ci G l M_Ro_addressSize (d + 0) (w + 0) [.int x_6] h_4 0 0 P_9) ∧ (∀ (x_13 : Int32) (h_11 : Hp), P_9 x_13 h_11 → P (((1 + x_13) + 2) + 7) h_11)))
set_option maxRecDepth 100000 in
set_option maxHeartbeats 4000000 in
theorem ok_Ro_deliverDataAt {G : Gx} {l : Launch} {d w : Nat} {P : Int32 → Hp → Prop} {q0 : Nat} {h : Hp} (H : wp_Ro_deliverDataAt G l d w P q0 h) : Ci G l M_Ro_deliverDataAt (d + 2) (w + 42) [.ref q0] h 0 0 P := by
  unfold wp_Ro_deliverDataAt at H
  refine Ct.of (lv := [some (.ref q0)]) (by decide) (Nat.le_of_ble_eq_true rfl) rfl (fun p e s m args below meth c => ?_)
  refine g_iconst (v := 1) d_Ro_deliverDataAt_0 (by decide) ?_
  refine g_aload_n d_Ro_deliverDataAt_1 rfl ?_
  refine g_iconst (v := 1) d_Ro_deliverDataAt_2 (by decide) ?_
  obtain ⟨z_1, H⟩ := H
  obtain ⟨P_2, C_3, H⟩ := H
  refine q_V (As := [.int 1]) (st := [.int 1]) (nl := 2) d_Ro_deliverDataAt_3 v_Ro_58 C_3 z_1 rfl (catS_le (Nat.le_of_ble_eq_true rfl)) rfl ⟨by omega, by omega, Nat.le_refl _, Nat.le_refl _⟩ (fun r_8 h_4 p_5 => ?_)
  obtain ⟨x_6, rfl, p_5⟩ := p_5
  replace H := H x_6 h_4 p_5
  show Go _ _ _ _ [.int x_6, .int 1] _ _ _
  obtain ⟨P_9, C_10, H⟩ := H
  refine q_S (As := [.int x_6]) (st := [.int 1]) (nl := 1) d_Ro_deliverDataAt_6 v_Ro_23 C_10 rfl (catS_le (Nat.le_of_ble_eq_true rfl)) rfl ⟨by omega, by omega, Nat.le_refl _, Nat.le_refl _⟩ (fun r_15 h_11 p_12 => ?_)
  obtain ⟨x_13, rfl, p_12⟩ := p_12
  replace H := H x_13 h_11 p_12
  show Go _ _ _ _ [.int x_13, .int 1] _ _ _
  refine g_iadd d_Ro_deliverDataAt_9 ?_
  refine g_iconst (v := 2) d_Ro_deliverDataAt_10 (by decide) ?_
  refine g_iadd d_Ro_deliverDataAt_11 ?_
  refine g_bipush (v := 7) d_Ro_deliverDataAt_12 (by decide) ?_
  refine g_iadd d_Ro_deliverDataAt_14 ?_
  exact g_ireturn d_Ro_deliverDataAt_15 rfl (Nat.le_refl _) (Nat.le_refl _) ⟨_, rfl, H⟩
set_option maxRecDepth 100000 in
set_option maxHeartbeats 4000000 in
def wJ_Ro_readText_99 (G : Gx) (l : Launch) (d w : Nat) (P : Int32 → Hp → Prop) (q0 : Nat) (q1 : Nat) (x2 : Int32) (x3 : Int32) (x4 : Int32) (x5 : Int32) (x6 : Int32) (x7 : Int32) (h : Hp)  : Prop := P x4 h
set_option maxRecDepth 100000 in
set_option maxHeartbeats 4000000 in
theorem okJ_Ro_readText_99 {G : Gx} {l : Launch} {d w : Nat} {P : Int32 → Hp → Prop} {p : Program} {e : Env} {s : State} {m : MethodId} {args : Array Value} {below : List Frame} {meth : Method} {c : Code} {q0 : Nat} {q1 : Nat} {x2 : Int32} {x3 : Int32} {x4 : Int32} {x5 : Int32} {x6 : Int32} {x7 : Int32} {h : Hp}  (H : wJ_Ro_readText_99 G l d w P  q0 q1 x2 x3 x4 x5 x6 x7 h ) : Go M_Ro_readText (mkX G (fun r h' => ∃ x, r = some (.int x) ∧ P x h') (d + 4) (w + 82) 0 0 p l e s m args below meth c) 99 [some (.ref q0), some (.ref q1), some (.int x2), some (.int x3), some (.int x4), some (.int x5), some (.int x6), some (.int x7), none] [] h 0 0 := by
  unfold wJ_Ro_readText_99 at H
  refine g_iload d_Ro_readText_99 rfl ?_
  exact g_ireturn d_Ro_readText_101 rfl (Nat.le_refl _) (Nat.le_refl _) ⟨_, rfl, H⟩
set_option maxRecDepth 100000 in
set_option maxHeartbeats 4000000 in
def wJ_Ro_readText_93 (G : Gx) (l : Launch) (d w : Nat) (P : Int32 → Hp → Prop) (C27 : Int32 → Int32 → Int32 → Hp → Prop) (q0 : Nat) (q1 : Nat) (x2 : Int32) (x3 : Int32) (x4 : Int32) (x5 : Int32) (x6 : Int32) (x7 : Int32) (x8 : Int32) (h : Hp)  : Prop := ∀ x_1 : Int32, x_1 = x7 + 7 → C27 x4 x6 x_1 h
set_option maxRecDepth 100000 in
set_option maxHeartbeats 4000000 in
theorem okJ_Ro_readText_93 {G : Gx} {l : Launch} {d w : Nat} {P : Int32 → Hp → Prop} {p : Program} {e : Env} {s : State} {m : MethodId} {args : Array Value} {below : List Frame} {meth : Method} {c : Code} {C27 : Int32 → Int32 → Int32 → Hp → Prop} {q0 : Nat} {q1 : Nat} {x2 : Int32} {x3 : Int32} {x4 : Int32} {x5 : Int32} {x6 : Int32} {x7 : Int32} {x8 : Int32} (hC27 : ∀ (x4 : Int32) (x6 : Int32) (x7 : Int32) (h : Hp), C27 x4 x6 x7 h → Go M_Ro_readText (mkX G (fun r h' => ∃ x, r = some (.int x) ∧ P x h') (d + 4) (w + 82) 0 0 p l e s m args below meth c) 27 [some (.ref q0), some (.ref q1), some (.int x2), some (.int x3), some (.int x4), some (.int x5), some (.int x6), some (.int x7), none] [] h 0 0) {h : Hp}  (H : wJ_Ro_readText_93 G l d w P C27 q0 q1 x2 x3 x4 x5 x6 x7 x8 h ) : Go M_Ro_readText (mkX G (fun r h' => ∃ x, r = some (.int x) ∧ P x h') (d + 4) (w + 82) 0 0 p l e s m args below meth c) 93 [some (.ref q0), some (.ref q1), some (.int x2), some (.int x3), some (.int x4), some (.int x5), some (.int x6), some (.int x7), some (.int x8)] [] h 0 0 := by
  unfold wJ_Ro_readText_93 at H
  obtain ⟨x_1, ex_1⟩ : ∃ z : Int32, z = x7 + 7 := ⟨_, rfl⟩
  replace H := H x_1 ex_1
  refine g_iinc (v := x_1) (lv' := [some (.ref q0), some (.ref q1), some (.int x2), some (.int x3), some (.int x4), some (.int x5), some (.int x6), some (.int x_1), some (.int x8)]) d_Ro_readText_93 rfl (by decide) (by rw [ex_1]; rfl) rfl ?_
  refine g_goto (tgt := 27) d_Ro_readText_96 (by decide) ?_
  refine g_msk [true, true, true, true, true, true, true, true, false] ?_
  exact hC27 _ _ _ _ H
set_option maxRecDepth 100000 in
set_option maxHeartbeats 4000000 in
def wJ_Ro_readText_86 (G : Gx) (l : Launch) (d w : Nat) (P : Int32 → Hp → Prop) (C27 : Int32 → Int32 → Int32 → Hp → Prop) (q0 : Nat) (q1 : Nat) (x2 : Int32) (x3 : Int32) (x4 : Int32) (x5 : Int32) (x6 : Int32) (x7 : Int32) (x8 : Int32) (sx0 : Int32) (sx1 : Int32) (sq2 : Nat) (h : Hp)  : Prop := ∃ N_2 : Nat, ∃ j_3 : Nat, (hS h sq2 = some (0, N_2) ∧ sx1 = nI j_3 ∧ j_3 < N_2 ∧ j_3 < 2147483648) ∧ (∀ x_5 : Int32, x_5 = x4 + 1 → wJ_Ro_readText_93 G l d w P C27 q0 q1 x2 x3 x_5 x5 0 x7 x8 (pI h sq2 j_3 sx0))
set_option maxRecDepth 100000 in
set_option maxHeartbeats 4000000 in
theorem okJ_Ro_readText_86 {G : Gx} {l : Launch} {d w : Nat} {P : Int32 → Hp → Prop} {p : Program} {e : Env} {s : State} {m : MethodId} {args : Array Value} {below : List Frame} {meth : Method} {c : Code} {C27 : Int32 → Int32 → Int32 → Hp → Prop} {q0 : Nat} {q1 : Nat} {x2 : Int32} {x3 : Int32} {x4 : Int32} {x5 : Int32} {x6 : Int32} {x7 : Int32} {x8 : Int32} {sx0 : Int32} {sx1 : Int32} {sq2 : Nat} (hC27 : ∀ (x4 : Int32) (x6 : Int32) (x7 : Int32) (h : Hp), C27 x4 x6 x7 h → Go M_Ro_readText (mkX G (fun r h' => ∃ x, r = some (.int x) ∧ P x h') (d + 4) (w + 82) 0 0 p l e s m args below meth c) 27 [some (.ref q0), some (.ref q1), some (.int x2), some (.int x3), some (.int x4), some (.int x5), some (.int x6), some (.int x7), none] [] h 0 0) {h : Hp}  (H : wJ_Ro_readText_86 G l d w P C27 q0 q1 x2 x3 x4 x5 x6 x7 x8 sx0 sx1 sq2 h ) : Go M_Ro_readText (mkX G (fun r h' => ∃ x, r = some (.int x) ∧ P x h') (d + 4) (w + 82) 0 0 p l e s m args below meth c) 86 [some (.ref q0), some (.ref q1), some (.int x2), some (.int x3), some (.int x4), some (.int x5), some (.int x6), some (.int x7), some (.int x8)] [.int sx0, .int sx1, .ref sq2] h 0 0 := by
  unfold wJ_Ro_readText_86 at H
  obtain ⟨N_2, H⟩ := H
  obtain ⟨j_3, H⟩ := H
  obtain ⟨z_4, H⟩ := H
  refine g_iast d_Ro_readText_86 z_4.1 z_4.2.1 z_4.2.2.1 z_4.2.2.2 ?_
  refine g_iconst (v := 0) d_Ro_readText_87 (by decide) ?_
  refine g_istore (lv' := [some (.ref q0), some (.ref q1), some (.int x2), some (.int x3), some (.int x4), some (.int x5), some (.int 0), some (.int x7), some (.int x8)]) d_Ro_readText_88 (by decide) rfl ?_
  obtain ⟨x_5, ex_5⟩ : ∃ z : Int32, z = x4 + 1 := ⟨_, rfl⟩
  replace H := H x_5 ex_5
  refine g_iinc (v := x_5) (lv' := [some (.ref q0), some (.ref q1), some (.int x2), some (.int x3), some (.int x_5), some (.int x5), some (.int 0), some (.int x7), some (.int x8)]) d_Ro_readText_90 rfl (by decide) (by rw [ex_5]; rfl) rfl ?_
  refine g_msk [true, true, true, true, true, true, true, true, true] ?_
  exact okJ_Ro_readText_93 hC27 H
set_option maxRecDepth 100000 in
set_option maxHeartbeats 4000000 in
def wB_Ro_readText_27 (G : Gx) (l : Launch) (d w : Nat) (P : Int32 → Hp → Prop) (C27 : Int32 → Int32 → Int32 → Hp → Prop) (q0 : Nat) (q1 : Nat) (x2 : Int32) (x3 : Int32) (x4 : Int32) (x5 : Int32) (x6 : Int32) (x7 : Int32) (h : Hp)  : Prop := (x5 ≤ x7 → wJ_Ro_readText_99 G l d w P q0 q1 x2 x3 x4 x5 x6 x7 h) ∧ (¬ x5 ≤ x7 → ∃ N_7 : Nat, (hS h q1 = some (0, N_7)) ∧ (((nI N_7) ≤ x4 → wJ_Ro_readText_99 G l d w P q0 q1 x2 x3 x4 x5 x6 x7 h) ∧ (¬ (nI N_7) ≤ x4 → (hS h q0 = some (15, 0)) ∧ (∃ P_11 : Int32 → Hp → Prop, (Ci G l M_Ro_septetAt (d + 1) (w + 21) [.ref q0, .int (x3 + 1), .int x7] h 0 0 P_11) ∧ (∀ (x_15 : Int32) (h_13 : Hp), P_11 x_15 h_13 → (¬ x_15 = 27 → (x6 = 0 → ∃ P_20 : Int32 → Hp → Prop, (Ci G l M_Al_plain (d + 0) (w + 0) [.int x_15] h_13 0 0 P_20) ∧ (∀ (x_24 : Int32) (h_22 : Hp), P_20 x_24 h_22 → wJ_Ro_readText_86 G l d w P C27 q0 q1 x2 x3 x4 x5 x6 x7 x_15 x_24 x4 q1 h_22)) ∧ (¬ x6 = 0 → ∃ P_27 : Int32 → Hp → Prop, (Ci G l M_Al_second (d + 0) (w + 0) [.int x_15] h_13 0 0 P_27) ∧ (∀ (x_31 : Int32) (h_29 : Hp), P_27 x_31 h_29 → wJ_Ro_readText_86 G l d w P C27 q0 q1 x2 x3 x4 x5 x6 x7 x_15 x_31 x4 q1 h_29))) ∧ (x_15 = 27 → wJ_Ro_readText_93 G l d w P C27 q0 q1 x2 x3 x4 x5 1 x7 x_15 h_13))))))
set_option maxRecDepth 100000 in
set_option maxHeartbeats 4000000 in
theorem okB_Ro_readText_27 {G : Gx} {l : Launch} {d w : Nat} {P : Int32 → Hp → Prop} {p : Program} {e : Env} {s : State} {m : MethodId} {args : Array Value} {below : List Frame} {meth : Method} {c : Code} {C27 : Int32 → Int32 → Int32 → Hp → Prop} {q0 : Nat} {q1 : Nat} {x2 : Int32} {x3 : Int32} {x4 : Int32} {x5 : Int32} {x6 : Int32} {x7 : Int32} (hC27 : ∀ (x4 : Int32) (x6 : Int32) (x7 : Int32) (h : Hp), C27 x4 x6 x7 h → Go M_Ro_readText (mkX G (fun r h' => ∃ x, r = some (.int x) ∧ P x h') (d + 4) (w + 82) 0 0 p l e s m args below meth c) 27 [some (.ref q0), some (.ref q1), some (.int x2), some (.int x3), some (.int x4), some (.int x5), some (.int x6), some (.int x7), none] [] h 0 0) {h : Hp}  (H : wB_Ro_readText_27 G l d w P C27 q0 q1 x2 x3 x4 x5 x6 x7 h ) : Go M_Ro_readText (mkX G (fun r h' => ∃ x, r = some (.int x) ∧ P x h') (d + 4) (w + 82) 0 0 p l e s m args below meth c) 27 [some (.ref q0), some (.ref q1), some (.int x2), some (.int x3), some (.int x4), some (.int x5), some (.int x6), some (.int x7), none] [] h 0 0 := by
  unfold wB_Ro_readText_27 at H
  refine g_iload d_Ro_readText_27 rfl ?_
  refine g_iload d_Ro_readText_29 rfl ?_
  obtain ⟨H1, H2⟩ := H
  refine g_icmp_ge (tgt := 99) d_Ro_readText_31 (by decide) (fun c_6 => ?_) (fun c_6 => ?_)
  · have H := H1 c_6
    refine g_msk [true, true, true, true, true, true, true, true, false] ?_
    exact okJ_Ro_readText_99 H
  · have H := H2 c_6
    refine g_iload d_Ro_readText_34 rfl ?_
    refine g_aload_n d_Ro_readText_36 rfl ?_
    obtain ⟨N_7, H⟩ := H
    obtain ⟨z_8, H⟩ := H
    refine g_alen d_Ro_readText_37 z_8 (by decide) ?_
    obtain ⟨H1, H2⟩ := H
    refine g_icmp_ge (tgt := 99) d_Ro_readText_38 (by decide) (fun c_9 => ?_) (fun c_9 => ?_)
    · have H := H1 c_9
      refine g_msk [true, true, true, true, true, true, true, true, false] ?_
      exact okJ_Ro_readText_99 H
    · have H := H2 c_9
      refine g_aload_n d_Ro_readText_41 rfl ?_
      refine g_iload_n d_Ro_readText_42 rfl ?_
      refine g_iconst (v := 1) d_Ro_readText_43 (by decide) ?_
      refine g_iadd d_Ro_readText_44 ?_
      refine g_iload d_Ro_readText_45 rfl ?_
      obtain ⟨z_10, H⟩ := H
      obtain ⟨P_11, C_12, H⟩ := H
      refine q_V (As := [.int (x3 + 1), .int x7]) (st := []) (nl := 6) d_Ro_readText_47 v_Ro_75 C_12 z_10 rfl (catS_le (Nat.le_of_ble_eq_true rfl)) rfl ⟨by omega, by omega, Nat.le_refl _, Nat.le_refl _⟩ (fun r_17 h_13 p_14 => ?_)
      obtain ⟨x_15, rfl, p_14⟩ := p_14
      replace H := H x_15 h_13 p_14
      show Go _ _ _ _ [.int x_15] _ _ _
      refine g_istore (lv' := [some (.ref q0), some (.ref q1), some (.int x2), some (.int x3), some (.int x4), some (.int x5), some (.int x6), some (.int x7), some (.int x_15)]) d_Ro_readText_50 (by decide) rfl ?_
      refine g_iload d_Ro_readText_52 rfl ?_
      refine g_bipush (v := 27) d_Ro_readText_54 (by decide) ?_
      obtain ⟨H1, H2⟩ := H
      refine g_icmp_ne (tgt := 65) d_Ro_readText_56 (by decide) (fun c_18 => ?_) (fun c_18 => ?_)
      · have H := H1 c_18
        refine g_aload_n d_Ro_readText_65 rfl ?_
        refine g_iload d_Ro_readText_66 rfl ?_
        refine g_iload d_Ro_readText_68 rfl ?_
        obtain ⟨H1, H2⟩ := H
        refine g_if_eq (tgt := 81) d_Ro_readText_70 (by decide) (fun c_19 => ?_) (fun c_19 => ?_)
        · have H := H1 c_19
          refine g_iload d_Ro_readText_81 rfl ?_
          obtain ⟨P_20, C_21, H⟩ := H
          refine q_S (As := [.int x_15]) (st := [.int x4, .ref q1]) (nl := 1) d_Ro_readText_83 v_Ro_83 C_21 rfl (catS_le (Nat.le_of_ble_eq_true rfl)) rfl ⟨by omega, by omega, Nat.le_refl _, Nat.le_refl _⟩ (fun r_26 h_22 p_23 => ?_)
          obtain ⟨x_24, rfl, p_23⟩ := p_23
          replace H := H x_24 h_22 p_23
          show Go _ _ _ _ [.int x_24, .int x4, .ref q1] _ _ _
          refine g_msk [true, true, true, true, true, true, true, true, true] ?_
          exact okJ_Ro_readText_86 hC27 H
        · have H := H2 c_19
          refine g_iload d_Ro_readText_73 rfl ?_
          obtain ⟨P_27, C_28, H⟩ := H
          refine q_S (As := [.int x_15]) (st := [.int x4, .ref q1]) (nl := 2) d_Ro_readText_75 v_Ro_80 C_28 rfl (catS_le (Nat.le_of_ble_eq_true rfl)) rfl ⟨by omega, by omega, Nat.le_refl _, Nat.le_refl _⟩ (fun r_33 h_29 p_30 => ?_)
          obtain ⟨x_31, rfl, p_30⟩ := p_30
          replace H := H x_31 h_29 p_30
          show Go _ _ _ _ [.int x_31, .int x4, .ref q1] _ _ _
          refine g_goto (tgt := 86) d_Ro_readText_78 (by decide) ?_
          refine g_msk [true, true, true, true, true, true, true, true, true] ?_
          exact okJ_Ro_readText_86 hC27 H
      · have H := H2 c_18
        refine g_iconst (v := 1) d_Ro_readText_59 (by decide) ?_
        refine g_istore (lv' := [some (.ref q0), some (.ref q1), some (.int x2), some (.int x3), some (.int x4), some (.int x5), some (.int 1), some (.int x7), some (.int x_15)]) d_Ro_readText_60 (by decide) rfl ?_
        refine g_goto (tgt := 93) d_Ro_readText_62 (by decide) ?_
        refine g_msk [true, true, true, true, true, true, true, true, true] ?_
        exact okJ_Ro_readText_93 hC27 H
set_option maxRecDepth 100000 in
set_option maxHeartbeats 4000000 in
def wL_Ro_readText_27 (G : Gx) (l : Launch) (d w : Nat) (P : Int32 → Hp → Prop) (q0 : Nat) (q1 : Nat) (x2 : Int32) (x3 : Int32) (x4 : Int32) (x5 : Int32) (x6 : Int32) (x7 : Int32) (h : Hp)  : Prop := ∃ (I : Int32 → Int32 → Int32 → Hp → Prop) (μ : Int32 → Int32 → Int32 → Hp → Nat), I x4 x6 x7 h ∧ ∀ (x4' : Int32) (x6' : Int32) (x7' : Int32) (h' : Hp), I x4' x6' x7' h' → wB_Ro_readText_27 G l d w P (fun x4_ x6_ x7_ h_ => I x4_ x6_ x7_ h_ ∧ μ x4_ x6_ x7_ h_ < μ x4' x6' x7' h') q0 q1 x2 x3 x4' x5 x6' x7' h'
set_option maxRecDepth 100000 in
set_option maxHeartbeats 4000000 in
theorem okL_Ro_readText_27 {G : Gx} {l : Launch} {d w : Nat} {P : Int32 → Hp → Prop} {p : Program} {e : Env} {s : State} {m : MethodId} {args : Array Value} {below : List Frame} {meth : Method} {c : Code} {q0 : Nat} {q1 : Nat} {x2 : Int32} {x3 : Int32} {x4 : Int32} {x5 : Int32} {x6 : Int32} {x7 : Int32} {h : Hp}  (H : wL_Ro_readText_27 G l d w P  q0 q1 x2 x3 x4 x5 x6 x7 h ) : Go M_Ro_readText (mkX G (fun r h' => ∃ x, r = some (.int x) ∧ P x h') (d + 4) (w + 82) 0 0 p l e s m args below meth c) 27 [some (.ref q0), some (.ref q1), some (.int x2), some (.int x3), some (.int x4), some (.int x5), some (.int x6), some (.int x7), none] [] h 0 0 := by
  obtain ⟨I, μ, h0, hs⟩ := H
  have key : ∀ (N : Nat) (x4 : Int32) (x6 : Int32) (x7 : Int32) (h : Hp), I x4 x6 x7 h → μ x4 x6 x7 h < N → Go M_Ro_readText (mkX G (fun r h' => ∃ x, r = some (.int x) ∧ P x h') (d + 4) (w + 82) 0 0 p l e s m args below meth c) 27 [some (.ref q0), some (.ref q1), some (.int x2), some (.int x3), some (.int x4), some (.int x5), some (.int x6), some (.int x7), none] [] h 0 0 := by
    intro N
    induction N with
    | zero => intro x4 x6 x7 h _ hN; exact absurd hN (Nat.not_lt_zero _)
    | succ N ih =>
      intro x4 x6 x7 h hI hN
      exact okB_Ro_readText_27 (fun x4_ x6_ x7_ h_ hh => ih x4_ x6_ x7_ h_ hh.1 (Nat.lt_of_lt_of_le hh.2 (Nat.le_of_lt_succ hN))) (hs x4 x6 x7 h hI)
  exact key _ _ _ _ _ h0 (Nat.lt_succ_self _)
set_option maxRecDepth 100000 in
set_option maxHeartbeats 4000000 in
def wp_Ro_readText (G : Gx) (l : Launch) (d w : Nat) (P : Int32 → Hp → Prop) (q0 : Nat) (q1 : Nat) (x2 : Int32) (h : Hp) : Prop := (hS h q0 = some (15, 0)) ∧ (∃ P_35 : Int32 → Hp → Prop, (Ci G l M_Ro_deliverDataAt (d + 2) (w + 42) [.ref q0] h 0 0 P_35) ∧ (∀ (x_39 : Int32) (h_37 : Hp), P_35 x_39 h_37 → (hS h_37 q0 = some (15, 0)) ∧ (∃ P_43 : Int32 → Hp → Prop, (Ci G l M_Ro_at (d + 1) (w + 21) [.ref q0, .int x_39] h_37 0 0 P_43) ∧ (∀ (x_47 : Int32) (h_45 : Hp), P_43 x_47 h_45 → ∀ x_50 : Int32, x_50 = (7 * x_47) → (hS h_45 q0 = some (15, 0)) ∧ (∃ P_52 : Int32 → Hp → Prop, (Ci G l M_Ro_firstBit (d + 3) (w + 62) [.ref q0] h_45 0 0 P_52) ∧ (∀ (x_56 : Int32) (h_54 : Hp), P_52 x_56 h_54 → wL_Ro_readText_27 G l d w P q0 q1 x2 x_39 x2 x_50 0 x_56 h_54))))))
set_option maxRecDepth 100000 in
set_option maxHeartbeats 4000000 in
theorem ok_Ro_readText {G : Gx} {l : Launch} {d w : Nat} {P : Int32 → Hp → Prop} {q0 : Nat} {q1 : Nat} {x2 : Int32} {h : Hp} (H : wp_Ro_readText G l d w P q0 q1 x2 h) : Ci G l M_Ro_readText (d + 4) (w + 82) [.ref q0, .ref q1, .int x2] h 0 0 P := by
  unfold wp_Ro_readText at H
  refine Ct.of (lv := [some (.ref q0), some (.ref q1), some (.int x2), none, none, none, none, none, none]) (by decide) (Nat.le_of_ble_eq_true rfl) rfl (fun p e s m args below meth c => ?_)
  refine g_aload_n d_Ro_readText_0 rfl ?_
  obtain ⟨z_34, H⟩ := H
  obtain ⟨P_35, C_36, H⟩ := H
  refine q_V (As := []) (st := []) (nl := 1) d_Ro_readText_1 v_Ro_69 C_36 z_34 rfl (catS_le (Nat.le_of_ble_eq_true rfl)) rfl ⟨by omega, by omega, Nat.le_refl _, Nat.le_refl _⟩ (fun r_41 h_37 p_38 => ?_)
  obtain ⟨x_39, rfl, p_38⟩ := p_38
  replace H := H x_39 h_37 p_38
  show Go _ _ _ _ [.int x_39] _ _ _
  refine g_istore_n (lv' := [some (.ref q0), some (.ref q1), some (.int x2), some (.int x_39), none, none, none, none, none]) d_Ro_readText_4 (by decide) rfl ?_
  refine g_iload_n d_Ro_readText_5 rfl ?_
  refine g_istore (lv' := [some (.ref q0), some (.ref q1), some (.int x2), some (.int x_39), some (.int x2), none, none, none, none]) d_Ro_readText_6 (by decide) rfl ?_
  refine g_bipush (v := 7) d_Ro_readText_8 (by decide) ?_
  refine g_aload_n d_Ro_readText_10 rfl ?_
  refine g_iload_n d_Ro_readText_11 rfl ?_
  obtain ⟨z_42, H⟩ := H
  obtain ⟨P_43, C_44, H⟩ := H
  refine q_V (As := [.int x_39]) (st := [.int 7]) (nl := 2) d_Ro_readText_12 v_Ro_58 C_44 z_42 rfl (catS_le (Nat.le_of_ble_eq_true rfl)) rfl ⟨by omega, by omega, Nat.le_refl _, Nat.le_refl _⟩ (fun r_49 h_45 p_46 => ?_)
  obtain ⟨x_47, rfl, p_46⟩ := p_46
  replace H := H x_47 h_45 p_46
  show Go _ _ _ _ [.int x_47, .int 7] _ _ _
  refine g_imul d_Ro_readText_15 ?_
  refine g_topi (fun x_50 ex_50 => ?_)
  replace H := H x_50 ex_50
  refine g_istore (lv' := [some (.ref q0), some (.ref q1), some (.int x2), some (.int x_39), some (.int x2), some (.int x_50), none, none, none]) d_Ro_readText_16 (by decide) rfl ?_
  refine g_iconst (v := 0) d_Ro_readText_18 (by decide) ?_
  refine g_istore (lv' := [some (.ref q0), some (.ref q1), some (.int x2), some (.int x_39), some (.int x2), some (.int x_50), some (.int 0), none, none]) d_Ro_readText_19 (by decide) rfl ?_
  refine g_aload_n d_Ro_readText_21 rfl ?_
  obtain ⟨z_51, H⟩ := H
  obtain ⟨P_52, C_53, H⟩ := H
  refine q_V (As := []) (st := []) (nl := 1) d_Ro_readText_22 v_Ro_72 C_53 z_51 rfl (catS_le (Nat.le_of_ble_eq_true rfl)) rfl ⟨by omega, by omega, Nat.le_refl _, Nat.le_refl _⟩ (fun r_58 h_54 p_55 => ?_)
  obtain ⟨x_56, rfl, p_55⟩ := p_55
  replace H := H x_56 h_54 p_55
  show Go _ _ _ _ [.int x_56] _ _ _
  refine g_istore (lv' := [some (.ref q0), some (.ref q1), some (.int x2), some (.int x_39), some (.int x2), some (.int x_50), some (.int 0), some (.int x_56), none]) d_Ro_readText_25 (by decide) rfl ?_
  refine g_msk [true, true, true, true, true, true, true, true, false] ?_
  exact okL_Ro_readText_27 H
