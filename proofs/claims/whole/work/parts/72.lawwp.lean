set_option maxRecDepth 100000 in
set_option maxHeartbeats 4000000 in
def wJ_LW_law_714 (G : Gx) (l : Launch) (C18 : Int32 → Hp → Nat → Nat → Prop) (q1 : Nat) (q2 : Nat) (x3 : Int32) (h : Hp) (k n : Nat) : Prop := ∀ x_1 : Int32, x_1 = x3 + 6 → C18 x_1 h k n
set_option maxRecDepth 100000 in
set_option maxHeartbeats 4000000 in
theorem okJ_LW_law_714 {G : Gx} {l : Launch} {p : Program} {e : Env} {m : MethodId} {b : Nat} {below : List Frame} {meth : Method} {c : Code} {C18 : Int32 → Hp → Nat → Nat → Prop} {q1 : Nat} {q2 : Nat} {x3 : Int32} (hC18 : ∀ (x3 : Int32) (h : Hp) (k n : Nat), C18 x3 h k n → Go M_LW_law (XL G p l e m b below meth c) 18 [some (.ref (gK G 9)), some (.ref q1), some (.ref q2), some (.int x3)] [] h k n) {h : Hp} {k n : Nat} (H : wJ_LW_law_714 G l C18 q1 q2 x3 h k n) : Go M_LW_law (XL G p l e m b below meth c) 714 [some (.ref (gK G 9)), some (.ref q1), some (.ref q2), some (.int x3)] [] h k n := by
  unfold wJ_LW_law_714 at H
  obtain ⟨x_1, ex_1⟩ : ∃ z : Int32, z = x3 + 6 := ⟨_, rfl⟩
  replace H := H x_1 ex_1
  refine g_iinc (v := x_1) (lv' := [some (.ref (gK G 9)), some (.ref q1), some (.ref q2), some (.int x_1)]) d_LW_law_714 rfl (by decide) (by rw [ex_1]; rfl) rfl ?_
  refine g_goto (tgt := 18) d_LW_law_717 (by decide) ?_
  refine g_msk [true, true, true, true] ?_
  exact hC18 _ _ _ _ H
set_option maxRecDepth 100000 in
set_option maxHeartbeats 4000000 in
def wJ_LW_law_228 (G : Gx) (l : Launch) (C18 : Int32 → Hp → Nat → Nat → Prop) (q1 : Nat) (q2 : Nat) (x3 : Int32) (sx0 : Int32) (sx1 : Int32) (sq2 : Nat) (sx3 : Int32) (h : Hp) (k n : Nat) : Prop := (hS h sq2 = some (18, 0)) ∧ (∃ P_3 : Int32 → Hp → Prop, (Ci G l M_MO_power1 1 20 [.ref sq2, .int sx1, .int sx0] h 0 0 P_3) ∧ ((k ≤ 600000 ∧ n ≤ 7302250) ∧ (∀ (x_7 : Int32) (h_5 : Hp), P_3 x_7 h_5 → (sx3 = x_7 → wJ_LW_law_714 G l C18 q1 q2 x3 h_5 k n) ∧ (¬ sx3 = x_7 → (k ≤ 600000 ∧ n ≤ 7302250) ∧ ((0 : Int32) = 1)))))
set_option maxRecDepth 100000 in
set_option maxHeartbeats 4000000 in
theorem okJ_LW_law_228 {G : Gx} {l : Launch} {p : Program} {e : Env} {m : MethodId} {b : Nat} {below : List Frame} {meth : Method} {c : Code} {C18 : Int32 → Hp → Nat → Nat → Prop} {q1 : Nat} {q2 : Nat} {x3 : Int32} {sx0 : Int32} {sx1 : Int32} {sq2 : Nat} {sx3 : Int32} (hC18 : ∀ (x3 : Int32) (h : Hp) (k n : Nat), C18 x3 h k n → Go M_LW_law (XL G p l e m b below meth c) 18 [some (.ref (gK G 9)), some (.ref q1), some (.ref q2), some (.int x3)] [] h k n) {h : Hp} {k n : Nat} (H : wJ_LW_law_228 G l C18 q1 q2 x3 sx0 sx1 sq2 sx3 h k n) : Go M_LW_law (XL G p l e m b below meth c) 228 [some (.ref (gK G 9)), some (.ref q1), some (.ref q2), some (.int x3)] [.int sx0, .int sx1, .ref sq2, .int sx3] h k n := by
  unfold wJ_LW_law_228 at H
  obtain ⟨z_2, H⟩ := H
  obtain ⟨P_3, C_4, H⟩ := H
  obtain ⟨b_8, H⟩ := H
  refine qL_V (As := [.int sx1, .int sx0]) (st := [.int sx3]) (nl := 3) d_LW_law_228 v_LW_24 C_4 z_2 rfl (catS_le (Nat.le_of_ble_eq_true rfl)) rfl ⟨by omega, by omega, b_8.1, b_8.2⟩ (fun r_9 h_5 p_6 => ?_)
  obtain ⟨x_7, rfl, p_6⟩ := p_6
  replace H := H x_7 h_5 p_6
  show Go _ _ _ _ [.int x_7, .int sx3] _ _ _
  obtain ⟨H1, H2⟩ := H
  refine g_icmp_eq (tgt := 714) d_LW_law_231 (by decide) (fun c_10 => ?_) (fun c_10 => ?_)
  · have H := H1 c_10
    refine g_msk [true, true, true, true] ?_
    exact okJ_LW_law_714 hC18 H
  · have H := H2 c_10
    refine g_iconst (v := 0) d_LW_law_234 (by decide) ?_
    obtain ⟨b_11, H⟩ := H
    exact g_lawret d_LW_law_235 b_11.1 b_11.2 H
set_option maxRecDepth 100000 in
set_option maxHeartbeats 4000000 in
def wJ_LW_law_206 (G : Gx) (l : Launch) (C18 : Int32 → Hp → Nat → Nat → Prop) (q1 : Nat) (q2 : Nat) (x3 : Int32) (sx0 : Int32) (sx1 : Int32) (sq2 : Nat) (h : Hp) (k n : Nat) : Prop := (hS h sq2 = some (10, 0)) ∧ (∃ P_13 : Int32 → Hp → Prop, (Ci G l M_SC_power 1 21 [.ref sq2, .int sx1, .int sx0] h 0 0 P_13) ∧ ((k ≤ 600000 ∧ n ≤ 7302250) ∧ (∀ (x_17 : Int32) (h_15 : Hp), P_13 x_17 h_15 → ∃ j_20 : Nat, ((x3 + 1) = nI j_20 ∧ j_20 < kLen G 9 ∧ j_20 < 2147483648) ∧ (∃ j_22 : Nat, ((x3 + 2) = nI j_22 ∧ j_22 < kLen G 9 ∧ j_22 < 2147483648) ∧ (((kTab G 9 j_22) = 0 → wJ_LW_law_228 G l C18 q1 q2 x3 0 (kTab G 9 j_20) q2 x_17 h_15 k n) ∧ (¬ (kTab G 9 j_22) = 0 → wJ_LW_law_228 G l C18 q1 q2 x3 1 (kTab G 9 j_20) q2 x_17 h_15 k n))))))
set_option maxRecDepth 100000 in
set_option maxHeartbeats 4000000 in
theorem okJ_LW_law_206 {G : Gx} {l : Launch} {p : Program} {e : Env} {m : MethodId} {b : Nat} {below : List Frame} {meth : Method} {c : Code} {C18 : Int32 → Hp → Nat → Nat → Prop} {q1 : Nat} {q2 : Nat} {x3 : Int32} {sx0 : Int32} {sx1 : Int32} {sq2 : Nat} (hC18 : ∀ (x3 : Int32) (h : Hp) (k n : Nat), C18 x3 h k n → Go M_LW_law (XL G p l e m b below meth c) 18 [some (.ref (gK G 9)), some (.ref q1), some (.ref q2), some (.int x3)] [] h k n) {h : Hp} {k n : Nat} (H : wJ_LW_law_206 G l C18 q1 q2 x3 sx0 sx1 sq2 h k n) : Go M_LW_law (XL G p l e m b below meth c) 206 [some (.ref (gK G 9)), some (.ref q1), some (.ref q2), some (.int x3)] [.int sx0, .int sx1, .ref sq2] h k n := by
  unfold wJ_LW_law_206 at H
  obtain ⟨z_12, H⟩ := H
  obtain ⟨P_13, C_14, H⟩ := H
  obtain ⟨b_18, H⟩ := H
  refine qL_V (As := [.int sx1, .int sx0]) (st := []) (nl := 4) d_LW_law_206 v_LW_20 C_14 z_12 rfl (catS_le (Nat.le_of_ble_eq_true rfl)) rfl ⟨by omega, by omega, b_18.1, b_18.2⟩ (fun r_19 h_15 p_16 => ?_)
  obtain ⟨x_17, rfl, p_16⟩ := p_16
  replace H := H x_17 h_15 p_16
  show Go _ _ _ _ [.int x_17] _ _ _
  refine g_aload_n d_LW_law_209 rfl ?_
  refine g_aload_n d_LW_law_210 rfl ?_
  refine g_iload_n d_LW_law_211 rfl ?_
  refine g_iconst (v := 1) d_LW_law_212 (by decide) ?_
  refine g_iadd d_LW_law_213 ?_
  obtain ⟨j_20, H⟩ := H
  obtain ⟨z_21, H⟩ := H
  refine g_cald (t := 9) d_LW_law_214 (by decide) z_21.1 z_21.2.1 z_21.2.2 ?_
  refine g_aload_n d_LW_law_215 rfl ?_
  refine g_iload_n d_LW_law_216 rfl ?_
  refine g_iconst (v := 2) d_LW_law_217 (by decide) ?_
  refine g_iadd d_LW_law_218 ?_
  obtain ⟨j_22, H⟩ := H
  obtain ⟨z_23, H⟩ := H
  refine g_cald (t := 9) d_LW_law_219 (by decide) z_23.1 z_23.2.1 z_23.2.2 ?_
  obtain ⟨H1, H2⟩ := H
  refine g_if_eq (tgt := 227) d_LW_law_220 (by decide) (fun c_24 => ?_) (fun c_24 => ?_)
  · have H := H1 c_24
    refine g_iconst (v := 0) d_LW_law_227 (by decide) ?_
    refine g_msk [true, true, true, true] ?_
    exact okJ_LW_law_228 hC18 H
  · have H := H2 c_24
    refine g_iconst (v := 1) d_LW_law_223 (by decide) ?_
    refine g_goto (tgt := 228) d_LW_law_224 (by decide) ?_
    refine g_msk [true, true, true, true] ?_
    exact okJ_LW_law_228 hC18 H
set_option maxRecDepth 100000 in
set_option maxHeartbeats 4000000 in
def wJ_LW_law_373 (G : Gx) (l : Launch) (C18 : Int32 → Hp → Nat → Nat → Prop) (q1 : Nat) (q2 : Nat) (x3 : Int32) (sx0 : Int32) (sx1 : Int32) (sy2 : Int64) (sx3 : Int32) (sq4 : Nat) (sx5 : Int32) (h : Hp) (k n : Nat) : Prop := (hS h sq4 = some (18, 0)) ∧ (∃ P_26 : Int32 → Hp → Prop, (Ci G l M_MO_send 4 102 [.ref sq4, .int sx3, .long sy2, .int sx1, .int sx0] h 0 0 P_26) ∧ ((k ≤ 600000 ∧ n ≤ 7302250) ∧ (∀ (x_30 : Int32) (h_28 : Hp), P_26 x_30 h_28 → (sx5 = x_30 → wJ_LW_law_714 G l C18 q1 q2 x3 h_28 k n) ∧ (¬ sx5 = x_30 → (k ≤ 600000 ∧ n ≤ 7302250) ∧ ((0 : Int32) = 1)))))
set_option maxRecDepth 100000 in
set_option maxHeartbeats 4000000 in
theorem okJ_LW_law_373 {G : Gx} {l : Launch} {p : Program} {e : Env} {m : MethodId} {b : Nat} {below : List Frame} {meth : Method} {c : Code} {C18 : Int32 → Hp → Nat → Nat → Prop} {q1 : Nat} {q2 : Nat} {x3 : Int32} {sx0 : Int32} {sx1 : Int32} {sy2 : Int64} {sx3 : Int32} {sq4 : Nat} {sx5 : Int32} (hC18 : ∀ (x3 : Int32) (h : Hp) (k n : Nat), C18 x3 h k n → Go M_LW_law (XL G p l e m b below meth c) 18 [some (.ref (gK G 9)), some (.ref q1), some (.ref q2), some (.int x3)] [] h k n) {h : Hp} {k n : Nat} (H : wJ_LW_law_373 G l C18 q1 q2 x3 sx0 sx1 sy2 sx3 sq4 sx5 h k n) : Go M_LW_law (XL G p l e m b below meth c) 373 [some (.ref (gK G 9)), some (.ref q1), some (.ref q2), some (.int x3)] [.int sx0, .int sx1, .long sy2, .int sx3, .ref sq4, .int sx5] h k n := by
  unfold wJ_LW_law_373 at H
  obtain ⟨z_25, H⟩ := H
  obtain ⟨P_26, C_27, H⟩ := H
  obtain ⟨b_31, H⟩ := H
  refine qL_V (As := [.int sx3, .long sy2, .int sx1, .int sx0]) (st := [.int sx5]) (nl := 10) d_LW_law_373 v_LW_38 C_27 z_25 rfl (catS_le (Nat.le_of_ble_eq_true rfl)) rfl ⟨by omega, by omega, b_31.1, b_31.2⟩ (fun r_32 h_28 p_29 => ?_)
  obtain ⟨x_30, rfl, p_29⟩ := p_29
  replace H := H x_30 h_28 p_29
  show Go _ _ _ _ [.int x_30, .int sx5] _ _ _
  obtain ⟨H1, H2⟩ := H
  refine g_icmp_eq (tgt := 714) d_LW_law_376 (by decide) (fun c_33 => ?_) (fun c_33 => ?_)
  · have H := H1 c_33
    refine g_msk [true, true, true, true] ?_
    exact okJ_LW_law_714 hC18 H
  · have H := H2 c_33
    refine g_iconst (v := 0) d_LW_law_379 (by decide) ?_
    obtain ⟨b_34, H⟩ := H
    exact g_lawret d_LW_law_380 b_34.1 b_34.2 H
set_option maxRecDepth 100000 in
set_option maxHeartbeats 4000000 in
def wJ_LW_law_326 (G : Gx) (l : Launch) (C18 : Int32 → Hp → Nat → Nat → Prop) (q1 : Nat) (q2 : Nat) (x3 : Int32) (sx0 : Int32) (sx1 : Int32) (sy2 : Int64) (sx3 : Int32) (sq4 : Nat) (h : Hp) (k n : Nat) : Prop := (hS h sq4 = some (10, 0)) ∧ (∃ mc_41 : Nat, ∃ ms_42 : Nat, ∃ P_36 : Int32 → Hp → Prop, (Ci G l M_SC_send 9 214 [.ref sq4, .int sx3, .long sy2, .int sx1, .int sx0] h mc_41 ms_42 P_36) ∧ ((k + mc_41 ≤ 600000 ∧ n + ms_42 ≤ 7302250) ∧ (∀ (x_40 : Int32) (h_38 : Hp), P_36 x_40 h_38 → ∃ j_45 : Nat, ((x3 + 1) = nI j_45 ∧ j_45 < kLen G 9 ∧ j_45 < 2147483648) ∧ (∃ j_47 : Nat, ((x3 + 2) = nI j_47 ∧ j_47 < kLen G 9 ∧ j_47 < 2147483648) ∧ (∃ j_49 : Nat, ((x3 + 3) = nI j_49 ∧ j_49 < kLen G 9 ∧ j_49 < 2147483648) ∧ (∃ j_51 : Nat, ((x3 + 4) = nI j_51 ∧ j_51 < kLen G 9 ∧ j_51 < 2147483648) ∧ (∃ j_53 : Nat, ((x3 + 5) = nI j_53 ∧ j_53 < kLen G 9 ∧ j_53 < 2147483648) ∧ (((kTab G 9 j_53) = 0 → wJ_LW_law_373 G l C18 q1 q2 x3 0 (kTab G 9 j_51) ((((kTab G 9 j_47).toInt64) <<< ((32 : Int32).toInt64 &&& 63)) ||| (((kTab G 9 j_49).toInt64) &&& 4294967295)) (kTab G 9 j_45) q2 x_40 h_38 (k + mc_41) (n + ms_42)) ∧ (¬ (kTab G 9 j_53) = 0 → wJ_LW_law_373 G l C18 q1 q2 x3 1 (kTab G 9 j_51) ((((kTab G 9 j_47).toInt64) <<< ((32 : Int32).toInt64 &&& 63)) ||| (((kTab G 9 j_49).toInt64) &&& 4294967295)) (kTab G 9 j_45) q2 x_40 h_38 (k + mc_41) (n + ms_42))))))))))
set_option maxRecDepth 100000 in
set_option maxHeartbeats 4000000 in
theorem okJ_LW_law_326 {G : Gx} {l : Launch} {p : Program} {e : Env} {m : MethodId} {b : Nat} {below : List Frame} {meth : Method} {c : Code} {C18 : Int32 → Hp → Nat → Nat → Prop} {q1 : Nat} {q2 : Nat} {x3 : Int32} {sx0 : Int32} {sx1 : Int32} {sy2 : Int64} {sx3 : Int32} {sq4 : Nat} (hC18 : ∀ (x3 : Int32) (h : Hp) (k n : Nat), C18 x3 h k n → Go M_LW_law (XL G p l e m b below meth c) 18 [some (.ref (gK G 9)), some (.ref q1), some (.ref q2), some (.int x3)] [] h k n) {h : Hp} {k n : Nat} (H : wJ_LW_law_326 G l C18 q1 q2 x3 sx0 sx1 sy2 sx3 sq4 h k n) : Go M_LW_law (XL G p l e m b below meth c) 326 [some (.ref (gK G 9)), some (.ref q1), some (.ref q2), some (.int x3)] [.int sx0, .int sx1, .long sy2, .int sx3, .ref sq4] h k n := by
  unfold wJ_LW_law_326 at H
  obtain ⟨z_35, H⟩ := H
  obtain ⟨mc_41, H⟩ := H
  obtain ⟨ms_42, H⟩ := H
  obtain ⟨P_36, C_37, H⟩ := H
  obtain ⟨b_43, H⟩ := H
  refine qL_V (As := [.int sx3, .long sy2, .int sx1, .int sx0]) (st := []) (nl := 9) d_LW_law_326 v_LW_34 C_37 z_35 rfl (catS_le (Nat.le_of_ble_eq_true rfl)) rfl ⟨by omega, by omega, b_43.1, b_43.2⟩ (fun r_44 h_38 p_39 => ?_)
  obtain ⟨x_40, rfl, p_39⟩ := p_39
  replace H := H x_40 h_38 p_39
  show Go _ _ _ _ [.int x_40] _ _ _
  refine g_aload_n d_LW_law_329 rfl ?_
  refine g_aload_n d_LW_law_330 rfl ?_
  refine g_iload_n d_LW_law_331 rfl ?_
  refine g_iconst (v := 1) d_LW_law_332 (by decide) ?_
  refine g_iadd d_LW_law_333 ?_
  obtain ⟨j_45, H⟩ := H
  obtain ⟨z_46, H⟩ := H
  refine g_cald (t := 9) d_LW_law_334 (by decide) z_46.1 z_46.2.1 z_46.2.2 ?_
  refine g_aload_n d_LW_law_335 rfl ?_
  refine g_iload_n d_LW_law_336 rfl ?_
  refine g_iconst (v := 2) d_LW_law_337 (by decide) ?_
  refine g_iadd d_LW_law_338 ?_
  obtain ⟨j_47, H⟩ := H
  obtain ⟨z_48, H⟩ := H
  refine g_cald (t := 9) d_LW_law_339 (by decide) z_48.1 z_48.2.1 z_48.2.2 ?_
  refine g_i2l d_LW_law_340 ?_
  refine g_bipush (v := 32) d_LW_law_341 (by decide) ?_
  refine g_lshl d_LW_law_343 rfl ?_
  refine g_aload_n d_LW_law_344 rfl ?_
  refine g_iload_n d_LW_law_345 rfl ?_
  refine g_iconst (v := 3) d_LW_law_346 (by decide) ?_
  refine g_iadd d_LW_law_347 ?_
  obtain ⟨j_49, H⟩ := H
  obtain ⟨z_50, H⟩ := H
  refine g_cald (t := 9) d_LW_law_348 (by decide) z_50.1 z_50.2.1 z_50.2.2 ?_
  refine g_i2l d_LW_law_349 ?_
  refine g_ldc2 d_LW_law_350 k_LW_13 ?_
  refine g_land d_LW_law_353 ?_
  refine g_lor d_LW_law_354 ?_
  refine g_aload_n d_LW_law_355 rfl ?_
  refine g_iload_n d_LW_law_356 rfl ?_
  refine g_iconst (v := 4) d_LW_law_357 (by decide) ?_
  refine g_iadd d_LW_law_358 ?_
  obtain ⟨j_51, H⟩ := H
  obtain ⟨z_52, H⟩ := H
  refine g_cald (t := 9) d_LW_law_359 (by decide) z_52.1 z_52.2.1 z_52.2.2 ?_
  refine g_aload_n d_LW_law_360 rfl ?_
  refine g_iload_n d_LW_law_361 rfl ?_
  refine g_iconst (v := 5) d_LW_law_362 (by decide) ?_
  refine g_iadd d_LW_law_363 ?_
  obtain ⟨j_53, H⟩ := H
  obtain ⟨z_54, H⟩ := H
  refine g_cald (t := 9) d_LW_law_364 (by decide) z_54.1 z_54.2.1 z_54.2.2 ?_
  obtain ⟨H1, H2⟩ := H
  refine g_if_eq (tgt := 372) d_LW_law_365 (by decide) (fun c_55 => ?_) (fun c_55 => ?_)
  · have H := H1 c_55
    refine g_iconst (v := 0) d_LW_law_372 (by decide) ?_
    refine g_msk [true, true, true, true] ?_
    exact okJ_LW_law_373 hC18 H
  · have H := H2 c_55
    refine g_iconst (v := 1) d_LW_law_368 (by decide) ?_
    refine g_goto (tgt := 373) d_LW_law_369 (by decide) ?_
    refine g_msk [true, true, true, true] ?_
    exact okJ_LW_law_373 hC18 H
set_option maxRecDepth 100000 in
set_option maxHeartbeats 4000000 in
def wB_LW_law_18 (G : Gx) (l : Launch) (C18 : Int32 → Hp → Nat → Nat → Prop) (q1 : Nat) (q2 : Nat) (x3 : Int32) (h : Hp) (k n : Nat) : Prop := (((nI (kLen G 9)) - 6) < x3 → (k ≤ 600000 ∧ n ≤ 7302250) ∧ ((1 : Int32) = 1)) ∧ (¬ ((nI (kLen G 9)) - 6) < x3 → ∃ j_58 : Nat, (x3 = nI j_58 ∧ j_58 < kLen G 9 ∧ j_58 < 2147483648) ∧ (∀ x_60 : Int32, x_60 = ((kTab G 9 j_58) &&& 31) → (x_60 = 0 → ∃ j_61 : Nat, ((x3 + 1) = nI j_61 ∧ j_61 < kLen G 9 ∧ j_61 < 2147483648) ∧ (∃ j_63 : Nat, ((x3 + 2) = nI j_63 ∧ j_63 < kLen G 9 ∧ j_63 < 2147483648) ∧ (∃ j_65 : Nat, ((x3 + 3) = nI j_65 ∧ j_65 < kLen G 9 ∧ j_65 < 2147483648) ∧ ((hS h q1 = some (10, 0)) ∧ (∃ P_68 : Int32 → Hp → Prop, (Ci G l M_SC_register 1 21 [.ref q1, .int (kTab G 9 j_61), .long ((((kTab G 9 j_63).toInt64) <<< ((32 : Int32).toInt64 &&& 63)) ||| (((kTab G 9 j_65).toInt64) &&& 4294967295))] h 0 0 P_68) ∧ ((k ≤ 600000 ∧ n ≤ 7302250) ∧ (∀ (x_72 : Int32) (h_70 : Hp), P_68 x_72 h_70 → ∃ j_75 : Nat, ((x3 + 1) = nI j_75 ∧ j_75 < kLen G 9 ∧ j_75 < 2147483648) ∧ (∃ j_77 : Nat, ((x3 + 2) = nI j_77 ∧ j_77 < kLen G 9 ∧ j_77 < 2147483648) ∧ (∃ j_79 : Nat, ((x3 + 3) = nI j_79 ∧ j_79 < kLen G 9 ∧ j_79 < 2147483648) ∧ ((hS h_70 q2 = some (18, 0)) ∧ (∃ P_82 : Int32 → Hp → Prop, (Ci G l M_MO_register 1 21 [.ref q2, .int (kTab G 9 j_75), .long ((((kTab G 9 j_77).toInt64) <<< ((32 : Int32).toInt64 &&& 63)) ||| (((kTab G 9 j_79).toInt64) &&& 4294967295))] h_70 0 0 P_82) ∧ ((k ≤ 600000 ∧ n ≤ 7302250) ∧ (∀ (x_86 : Int32) (h_84 : Hp), P_82 x_86 h_84 → (x_72 = x_86 → wJ_LW_law_714 G l C18 q1 q2 x3 h_84 k n) ∧ (¬ x_72 = x_86 → (k ≤ 600000 ∧ n ≤ 7302250) ∧ ((0 : Int32) = 1))))))))))))))) ∧ (x_60 = 1 → ∃ j_91 : Nat, ((x3 + 1) = nI j_91 ∧ j_91 < kLen G 9 ∧ j_91 < 2147483648) ∧ (∃ j_93 : Nat, ((x3 + 2) = nI j_93 ∧ j_93 < kLen G 9 ∧ j_93 < 2147483648) ∧ (((kTab G 9 j_93) = 0 → wJ_LW_law_206 G l C18 q1 q2 x3 0 (kTab G 9 j_91) q1 h k n) ∧ (¬ (kTab G 9 j_93) = 0 → wJ_LW_law_206 G l C18 q1 q2 x3 1 (kTab G 9 j_91) q1 h k n)))) ∧ (x_60 = 2 → ∃ j_96 : Nat, ((x3 + 1) = nI j_96 ∧ j_96 < kLen G 9 ∧ j_96 < 2147483648) ∧ (∃ j_98 : Nat, ((x3 + 2) = nI j_98 ∧ j_98 < kLen G 9 ∧ j_98 < 2147483648) ∧ ((hS h q1 = some (10, 0)) ∧ (∃ P_101 : Int32 → Hp → Prop, (Ci G l M_SC_type 1 23 [.ref q1, .int (((kTab G 9 j_96).toUInt32 % 65536).toInt32), .int (kTab G 9 j_98)] h 0 0 P_101) ∧ ((k ≤ 600000 ∧ n ≤ 7302250) ∧ (∀ (x_105 : Int32) (h_103 : Hp), P_101 x_105 h_103 → ∃ j_108 : Nat, ((x3 + 1) = nI j_108 ∧ j_108 < kLen G 9 ∧ j_108 < 2147483648) ∧ (∃ j_110 : Nat, ((x3 + 2) = nI j_110 ∧ j_110 < kLen G 9 ∧ j_110 < 2147483648) ∧ ((hS h_103 q2 = some (18, 0)) ∧ (∃ P_113 : Int32 → Hp → Prop, (Ci G l M_MO_type 0 0 [.ref q2, .int (((kTab G 9 j_108).toUInt32 % 65536).toInt32), .int (kTab G 9 j_110)] h_103 0 0 P_113) ∧ ((k ≤ 600000 ∧ n ≤ 7302250) ∧ (∀ (x_117 : Int32) (h_115 : Hp), P_113 x_117 h_115 → (x_105 = x_117 → wJ_LW_law_714 G l C18 q1 q2 x3 h_115 k n) ∧ (¬ x_105 = x_117 → (k ≤ 600000 ∧ n ≤ 7302250) ∧ ((0 : Int32) = 1))))))))))))) ∧ (x_60 = 3 → (hS h q1 = some (10, 0)) ∧ (∃ P_123 : Hp → Prop, (Cv G l M_SC_wipe 0 0 [.ref q1] h 0 0 P_123) ∧ ((k ≤ 600000 ∧ n ≤ 7302250) ∧ (∀ h_125 : Hp, P_123 h_125 → (hS h_125 q2 = some (18, 0)) ∧ (∃ P_131 : Hp → Prop, (Cv G l M_MO_wipe 0 0 [.ref q2] h_125 0 0 P_131) ∧ ((k ≤ 600000 ∧ n ≤ 7302250) ∧ (∀ h_133 : Hp, P_131 h_133 → wJ_LW_law_714 G l C18 q1 q2 x3 h_133 k n))))))) ∧ (x_60 = 4 → ∃ j_138 : Nat, ((x3 + 1) = nI j_138 ∧ j_138 < kLen G 9 ∧ j_138 < 2147483648) ∧ (∃ j_140 : Nat, ((x3 + 2) = nI j_140 ∧ j_140 < kLen G 9 ∧ j_140 < 2147483648) ∧ (∃ j_142 : Nat, ((x3 + 3) = nI j_142 ∧ j_142 < kLen G 9 ∧ j_142 < 2147483648) ∧ (∃ j_144 : Nat, ((x3 + 4) = nI j_144 ∧ j_144 < kLen G 9 ∧ j_144 < 2147483648) ∧ (∃ j_146 : Nat, ((x3 + 5) = nI j_146 ∧ j_146 < kLen G 9 ∧ j_146 < 2147483648) ∧ (((kTab G 9 j_146) = 0 → wJ_LW_law_326 G l C18 q1 q2 x3 0 (kTab G 9 j_144) ((((kTab G 9 j_140).toInt64) <<< ((32 : Int32).toInt64 &&& 63)) ||| (((kTab G 9 j_142).toInt64) &&& 4294967295)) (kTab G 9 j_138) q1 h k n) ∧ (¬ (kTab G 9 j_146) = 0 → wJ_LW_law_326 G l C18 q1 q2 x3 1 (kTab G 9 j_144) ((((kTab G 9 j_140).toInt64) <<< ((32 : Int32).toInt64 &&& 63)) ||| (((kTab G 9 j_142).toInt64) &&& 4294967295)) (kTab G 9 j_138) q1 h k n))))))) ∧ (x_60 = 5 → ∃ j_149 : Nat, ((x3 + 1) = nI j_149 ∧ j_149 < kLen G 9 ∧ j_149 < 2147483648) ∧ (∃ j_151 : Nat, ((x3 + 2) = nI j_151 ∧ j_151 < kLen G 9 ∧ j_151 < 2147483648) ∧ ((hS h q1 = some (10, 0)) ∧ (∃ P_154 : Int32 → Hp → Prop, (Ci G l M_SC_alter 5 114 [.ref q1, .int (kTab G 9 j_149), .int (kTab G 9 j_151)] h 0 0 P_154) ∧ ((k ≤ 600000 ∧ n ≤ 7302250) ∧ (∀ (x_158 : Int32) (h_156 : Hp), P_154 x_158 h_156 → ∃ j_161 : Nat, ((x3 + 1) = nI j_161 ∧ j_161 < kLen G 9 ∧ j_161 < 2147483648) ∧ (∃ j_163 : Nat, ((x3 + 2) = nI j_163 ∧ j_163 < kLen G 9 ∧ j_163 < 2147483648) ∧ ((hS h_156 q2 = some (18, 0)) ∧ (∃ P_166 : Int32 → Hp → Prop, (Ci G l M_MO_alter 0 0 [.ref q2, .int (kTab G 9 j_161), .int (kTab G 9 j_163)] h_156 0 0 P_166) ∧ ((k ≤ 600000 ∧ n ≤ 7302250) ∧ (∀ (x_170 : Int32) (h_168 : Hp), P_166 x_170 h_168 → (x_158 = x_170 → wJ_LW_law_714 G l C18 q1 q2 x3 h_168 k n) ∧ (¬ x_158 = x_170 → (k ≤ 600000 ∧ n ≤ 7302250) ∧ ((0 : Int32) = 1))))))))))))) ∧ (x_60 = 6 → (hS h q1 = some (10, 0)) ∧ (∃ mc_181 : Nat, ∃ ms_182 : Nat, ∃ P_176 : Int32 → Hp → Prop, (Ci G l M_SC_receive 7 162 [.ref q1] h mc_181 ms_182 P_176) ∧ ((k + mc_181 ≤ 600000 ∧ n + ms_182 ≤ 7302250) ∧ (∀ (x_180 : Int32) (h_178 : Hp), P_176 x_180 h_178 → (hS h_178 q2 = some (18, 0)) ∧ (∃ P_186 : Int32 → Hp → Prop, (Ci G l M_MO_receive 5 131 [.ref q2] h_178 0 0 P_186) ∧ (((k + mc_181) ≤ 600000 ∧ (n + ms_182) ≤ 7302250) ∧ (∀ (x_190 : Int32) (h_188 : Hp), P_186 x_190 h_188 → (x_180 = x_190 → wJ_LW_law_714 G l C18 q1 q2 x3 h_188 (k + mc_181) (n + ms_182)) ∧ (¬ x_180 = x_190 → ((k + mc_181) ≤ 600000 ∧ (n + ms_182) ≤ 7302250) ∧ ((0 : Int32) = 1))))))))) ∧ (x_60 = 7 → ∃ j_195 : Nat, ((x3 + 1) = nI j_195 ∧ j_195 < kLen G 9 ∧ j_195 < 2147483648) ∧ ((hS h q1 = some (10, 0)) ∧ (∃ mc_203 : Nat, ∃ ms_204 : Nat, ∃ P_198 : Int32 → Hp → Prop, (Ci G l M_SC_advance 9 206 [.ref q1, .int (kTab G 9 j_195)] h mc_203 ms_204 P_198) ∧ ((k + mc_203 ≤ 600000 ∧ n + ms_204 ≤ 7302250) ∧ (∀ (x_202 : Int32) (h_200 : Hp), P_198 x_202 h_200 → ∃ j_207 : Nat, ((x3 + 1) = nI j_207 ∧ j_207 < kLen G 9 ∧ j_207 < 2147483648) ∧ ((hS h_200 q2 = some (18, 0)) ∧ (∃ P_210 : Int32 → Hp → Prop, (Ci G l M_MO_advance 5 119 [.ref q2, .int (kTab G 9 j_207)] h_200 0 0 P_210) ∧ (((k + mc_203) ≤ 600000 ∧ (n + ms_204) ≤ 7302250) ∧ (∀ (x_214 : Int32) (h_212 : Hp), P_210 x_214 h_212 → (x_202 = x_214 → wJ_LW_law_714 G l C18 q1 q2 x3 h_212 (k + mc_203) (n + ms_204)) ∧ (¬ x_202 = x_214 → ((k + mc_203) ≤ 600000 ∧ (n + ms_204) ≤ 7302250) ∧ ((0 : Int32) = 1))))))))))) ∧ (x_60 = 8 → ∃ j_219 : Nat, ((x3 + 1) = nI j_219 ∧ j_219 < kLen G 9 ∧ j_219 < 2147483648) ∧ ((hS h q1 = some (10, 0)) ∧ (∃ mc_227 : Nat, ∃ ms_228 : Nat, ∃ P_222 : Int32 → Hp → Prop, (Ci G l M_SC_take 10 236 [.ref q1, .int (kTab G 9 j_219)] h mc_227 ms_228 P_222) ∧ ((k + mc_227 ≤ 600000 ∧ n + ms_228 ≤ 7302250) ∧ (∀ (x_226 : Int32) (h_224 : Hp), P_222 x_226 h_224 → ∃ j_231 : Nat, ((x3 + 1) = nI j_231 ∧ j_231 < kLen G 9 ∧ j_231 < 2147483648) ∧ ((hS h_224 q2 = some (18, 0)) ∧ (∃ P_234 : Int32 → Hp → Prop, (Ci G l M_MO_take 3 73 [.ref q2, .int (kTab G 9 j_231)] h_224 0 0 P_234) ∧ (((k + mc_227) ≤ 600000 ∧ (n + ms_228) ≤ 7302250) ∧ (∀ (x_238 : Int32) (h_236 : Hp), P_234 x_238 h_236 → (x_226 = x_238 → wJ_LW_law_714 G l C18 q1 q2 x3 h_236 (k + mc_227) (n + ms_228)) ∧ (¬ x_226 = x_238 → ((k + mc_227) ≤ 600000 ∧ (n + ms_228) ≤ 7302250) ∧ ((0 : Int32) = 1))))))))))) ∧ (x_60 = 9 → ∃ j_243 : Nat, ((x3 + 1) = nI j_243 ∧ j_243 < kLen G 9 ∧ j_243 < 2147483648) ∧ ((hS h q1 = some (10, 0)) ∧ (∃ mc_251 : Nat, ∃ ms_252 : Nat, ∃ P_246 : Int32 → Hp → Prop, (Ci G l M_SC_copy 8 183 [.ref q1, .int (kTab G 9 j_243)] h mc_251 ms_252 P_246) ∧ ((k + mc_251 ≤ 600000 ∧ n + ms_252 ≤ 7302250) ∧ (∀ (x_250 : Int32) (h_248 : Hp), P_246 x_250 h_248 → ∃ j_255 : Nat, ((x3 + 1) = nI j_255 ∧ j_255 < kLen G 9 ∧ j_255 < 2147483648) ∧ ((hS h_248 q2 = some (18, 0)) ∧ (∃ P_258 : Int32 → Hp → Prop, (Ci G l M_MO_copy 2 44 [.ref q2, .int (kTab G 9 j_255)] h_248 0 0 P_258) ∧ (((k + mc_251) ≤ 600000 ∧ (n + ms_252) ≤ 7302250) ∧ (∀ (x_262 : Int32) (h_260 : Hp), P_258 x_262 h_260 → (x_250 = x_262 → wJ_LW_law_714 G l C18 q1 q2 x3 h_260 (k + mc_251) (n + ms_252)) ∧ (¬ x_250 = x_262 → ((k + mc_251) ≤ 600000 ∧ (n + ms_252) ≤ 7302250) ∧ ((0 : Int32) = 1))))))))))) ∧ (x_60 = 10 → ∃ j_267 : Nat, ((x3 + 1) = nI j_267 ∧ j_267 < kLen G 9 ∧ j_267 < 2147483648) ∧ ((hS h q1 = some (10, 0)) ∧ (∃ P_270 : Int32 → Hp → Prop, (Ci G l M_SC_swap 5 117 [.ref q1, .int (kTab G 9 j_267)] h 0 0 P_270) ∧ ((k ≤ 600000 ∧ n ≤ 7302250) ∧ (∀ (x_274 : Int32) (h_272 : Hp), P_270 x_274 h_272 → ∃ j_277 : Nat, ((x3 + 1) = nI j_277 ∧ j_277 < kLen G 9 ∧ j_277 < 2147483648) ∧ ((hS h_272 q2 = some (18, 0)) ∧ (∃ P_280 : Int32 → Hp → Prop, (Ci G l M_MO_swap 2 44 [.ref q2, .int (kTab G 9 j_277)] h_272 0 0 P_280) ∧ ((k ≤ 600000 ∧ n ≤ 7302250) ∧ (∀ (x_284 : Int32) (h_282 : Hp), P_280 x_284 h_282 → (x_274 = x_284 → wJ_LW_law_714 G l C18 q1 q2 x3 h_282 k n) ∧ (¬ x_274 = x_284 → (k ≤ 600000 ∧ n ≤ 7302250) ∧ ((0 : Int32) = 1))))))))))) ∧ (x_60 = 11 → ∃ j_289 : Nat, ((x3 + 1) = nI j_289 ∧ j_289 < kLen G 9 ∧ j_289 < 2147483648) ∧ ((hS h q1 = some (10, 0)) ∧ (∃ P_292 : Int32 → Hp → Prop, (Ci G l M_SC_report 5 116 [.ref q1, .int (kTab G 9 j_289)] h 0 0 P_292) ∧ ((k ≤ 600000 ∧ n ≤ 7302250) ∧ (∀ (x_296 : Int32) (h_294 : Hp), P_292 x_296 h_294 → ∃ j_299 : Nat, ((x3 + 1) = nI j_299 ∧ j_299 < kLen G 9 ∧ j_299 < 2147483648) ∧ ((hS h_294 q2 = some (18, 0)) ∧ (∃ P_302 : Int32 → Hp → Prop, (Ci G l M_MO_report 2 46 [.ref q2, .int (kTab G 9 j_299)] h_294 0 0 P_302) ∧ ((k ≤ 600000 ∧ n ≤ 7302250) ∧ (∀ (x_306 : Int32) (h_304 : Hp), P_302 x_306 h_304 → (x_296 = x_306 → wJ_LW_law_714 G l C18 q1 q2 x3 h_304 k n) ∧ (¬ x_296 = x_306 → (k ≤ 600000 ∧ n ≤ 7302250) ∧ ((0 : Int32) = 1))))))))))) ∧ (x_60 = 12 → ∃ j_311 : Nat, ((x3 + 1) = nI j_311 ∧ j_311 < kLen G 9 ∧ j_311 < 2147483648) ∧ ((hS h q1 = some (10, 0)) ∧ (∃ P_314 : Int32 → Hp → Prop, (Ci G l M_SC_waiting 2 43 [.ref q1, .int (kTab G 9 j_311)] h 0 0 P_314) ∧ ((k ≤ 600000 ∧ n ≤ 7302250) ∧ (∀ (x_318 : Int32) (h_316 : Hp), P_314 x_318 h_316 → ∃ j_321 : Nat, ((x3 + 1) = nI j_321 ∧ j_321 < kLen G 9 ∧ j_321 < 2147483648) ∧ ((hS h_316 q2 = some (18, 0)) ∧ (∃ P_324 : Int32 → Hp → Prop, (Ci G l M_MO_waiting 0 0 [.ref q2, .int (kTab G 9 j_321)] h_316 0 0 P_324) ∧ ((k ≤ 600000 ∧ n ≤ 7302250) ∧ (∀ (x_328 : Int32) (h_326 : Hp), P_324 x_328 h_326 → (x_318 = x_328 → wJ_LW_law_714 G l C18 q1 q2 x3 h_326 k n) ∧ (¬ x_318 = x_328 → (k ≤ 600000 ∧ n ≤ 7302250) ∧ ((0 : Int32) = 1))))))))))) ∧ (x_60 = 13 → ∃ j_333 : Nat, ((x3 + 1) = nI j_333 ∧ j_333 < kLen G 9 ∧ j_333 < 2147483648) ∧ (∃ j_335 : Nat, ((x3 + 2) = nI j_335 ∧ j_335 < kLen G 9 ∧ j_335 < 2147483648) ∧ ((hS h q1 = some (10, 0)) ∧ (∃ P_338 : Int32 → Hp → Prop, (Ci G l M_SC_byteAt 5 114 [.ref q1, .int (kTab G 9 j_333), .int (kTab G 9 j_335)] h 0 0 P_338) ∧ ((k ≤ 600000 ∧ n ≤ 7302250) ∧ (∀ (x_342 : Int32) (h_340 : Hp), P_338 x_342 h_340 → ∃ j_345 : Nat, ((x3 + 1) = nI j_345 ∧ j_345 < kLen G 9 ∧ j_345 < 2147483648) ∧ (∃ j_347 : Nat, ((x3 + 2) = nI j_347 ∧ j_347 < kLen G 9 ∧ j_347 < 2147483648) ∧ ((hS h_340 q2 = some (18, 0)) ∧ (∃ P_350 : Int32 → Hp → Prop, (Ci G l M_MO_byteAt 1 20 [.ref q2, .int (kTab G 9 j_345), .int (kTab G 9 j_347)] h_340 0 0 P_350) ∧ ((k ≤ 600000 ∧ n ≤ 7302250) ∧ (∀ (x_354 : Int32) (h_352 : Hp), P_350 x_354 h_352 → (x_342 = x_354 → wJ_LW_law_714 G l C18 q1 q2 x3 h_352 k n) ∧ (¬ x_342 = x_354 → (k ≤ 600000 ∧ n ≤ 7302250) ∧ ((0 : Int32) = 1))))))))))))) ∧ (x_60 = 14 → ∃ j_359 : Nat, ((x3 + 1) = nI j_359 ∧ j_359 < kLen G 9 ∧ j_359 < 2147483648) ∧ (∃ j_361 : Nat, ((x3 + 2) = nI j_361 ∧ j_361 < kLen G 9 ∧ j_361 < 2147483648) ∧ ((hS h q1 = some (10, 0)) ∧ (∃ P_364 : Int32 → Hp → Prop, (Ci G l M_SC_text 1 21 [.ref q1, .int (kTab G 9 j_359), .int (kTab G 9 j_361)] h 0 0 P_364) ∧ ((k ≤ 600000 ∧ n ≤ 7302250) ∧ (∀ (x_368 : Int32) (h_366 : Hp), P_364 x_368 h_366 → ∃ j_371 : Nat, ((x3 + 1) = nI j_371 ∧ j_371 < kLen G 9 ∧ j_371 < 2147483648) ∧ (∃ j_373 : Nat, ((x3 + 2) = nI j_373 ∧ j_373 < kLen G 9 ∧ j_373 < 2147483648) ∧ ((hS h_366 q2 = some (18, 0)) ∧ (∃ P_376 : Int32 → Hp → Prop, (Ci G l M_MO_text 1 20 [.ref q2, .int (kTab G 9 j_371), .int (kTab G 9 j_373)] h_366 0 0 P_376) ∧ ((k ≤ 600000 ∧ n ≤ 7302250) ∧ (∀ (x_380 : Int32) (h_378 : Hp), P_376 x_380 h_378 → (x_368 = x_380 → wJ_LW_law_714 G l C18 q1 q2 x3 h_378 k n) ∧ (¬ x_368 = x_380 → (k ≤ 600000 ∧ n ≤ 7302250) ∧ ((0 : Int32) = 1))))))))))))) ∧ (x_60 = 15 → ∃ j_385 : Nat, ((x3 + 1) = nI j_385 ∧ j_385 < kLen G 9 ∧ j_385 < 2147483648) ∧ ((hS h q1 = some (10, 0)) ∧ (∃ P_388 : Int64 → Hp → Prop, (Cl G l M_SC_sender 1 21 [.ref q1, .int (kTab G 9 j_385)] h 0 0 P_388) ∧ ((k ≤ 600000 ∧ n ≤ 7302250) ∧ (∀ (y_392 : Int64) (h_390 : Hp), P_388 y_392 h_390 → ∃ j_395 : Nat, ((x3 + 1) = nI j_395 ∧ j_395 < kLen G 9 ∧ j_395 < 2147483648) ∧ ((hS h_390 q2 = some (18, 0)) ∧ (∃ P_398 : Int64 → Hp → Prop, (Cl G l M_MO_sender 1 20 [.ref q2, .int (kTab G 9 j_395)] h_390 0 0 P_398) ∧ ((k ≤ 600000 ∧ n ≤ 7302250) ∧ (∀ (y_402 : Int64) (h_400 : Hp), P_398 y_402 h_400 → ((lg_cmp y_392 y_402) = 0 → wJ_LW_law_714 G l C18 q1 q2 x3 h_400 k n) ∧ (¬ (lg_cmp y_392 y_402) = 0 → (k ≤ 600000 ∧ n ≤ 7302250) ∧ ((0 : Int32) = 1))))))))))) ∧ (x_60 = 16 → ∃ j_407 : Nat, ((x3 + 1) = nI j_407 ∧ j_407 < kLen G 9 ∧ j_407 < 2147483648) ∧ ((hS h q1 = some (10, 0)) ∧ (∃ P_410 : Int32 → Hp → Prop, (Ci G l M_SC_state 4 94 [.ref q1, .int (kTab G 9 j_407)] h 0 0 P_410) ∧ ((k ≤ 600000 ∧ n ≤ 7302250) ∧ (∀ (x_414 : Int32) (h_412 : Hp), P_410 x_414 h_412 → ∃ j_417 : Nat, ((x3 + 1) = nI j_417 ∧ j_417 < kLen G 9 ∧ j_417 < 2147483648) ∧ ((hS h_412 q2 = some (18, 0)) ∧ (∃ P_420 : Int32 → Hp → Prop, (Ci G l M_MO_state 0 0 [.ref q2, .int (kTab G 9 j_417)] h_412 0 0 P_420) ∧ ((k ≤ 600000 ∧ n ≤ 7302250) ∧ (∀ (x_424 : Int32) (h_422 : Hp), P_420 x_424 h_422 → (x_414 = x_424 → wJ_LW_law_714 G l C18 q1 q2 x3 h_422 k n) ∧ (¬ x_414 = x_424 → (k ≤ 600000 ∧ n ≤ 7302250) ∧ ((0 : Int32) = 1))))))))))) ∧ (x_60 = 17 → ∃ j_429 : Nat, ((x3 + 1) = nI j_429 ∧ j_429 < kLen G 9 ∧ j_429 < 2147483648) ∧ ((hS h q1 = some (10, 0)) ∧ (∃ P_432 : Int32 → Hp → Prop, (Ci G l M_SC_offers 4 94 [.ref q1, .int (kTab G 9 j_429)] h 0 0 P_432) ∧ ((k ≤ 600000 ∧ n ≤ 7302250) ∧ (∀ (x_436 : Int32) (h_434 : Hp), P_432 x_436 h_434 → ∃ j_439 : Nat, ((x3 + 1) = nI j_439 ∧ j_439 < kLen G 9 ∧ j_439 < 2147483648) ∧ ((hS h_434 q2 = some (18, 0)) ∧ (∃ P_442 : Int32 → Hp → Prop, (Ci G l M_MO_offers 0 0 [.ref q2, .int (kTab G 9 j_439)] h_434 0 0 P_442) ∧ ((k ≤ 600000 ∧ n ≤ 7302250) ∧ (∀ (x_446 : Int32) (h_444 : Hp), P_442 x_446 h_444 → (x_436 = x_446 → wJ_LW_law_714 G l C18 q1 q2 x3 h_444 k n) ∧ (¬ x_436 = x_446 → (k ≤ 600000 ∧ n ≤ 7302250) ∧ ((0 : Int32) = 1))))))))))) ∧ (x_60 = 18 → (hS h q1 = some (10, 0)) ∧ (∃ P_452 : Int32 → Hp → Prop, (Ci G l M_SC_time 0 0 [.ref q1] h 0 0 P_452) ∧ ((k ≤ 600000 ∧ n ≤ 7302250) ∧ (∀ (x_456 : Int32) (h_454 : Hp), P_452 x_456 h_454 → (hS h_454 q2 = some (18, 0)) ∧ (∃ P_460 : Int32 → Hp → Prop, (Ci G l M_MO_time 0 0 [.ref q2] h_454 0 0 P_460) ∧ ((k ≤ 600000 ∧ n ≤ 7302250) ∧ (∀ (x_464 : Int32) (h_462 : Hp), P_460 x_464 h_462 → (x_456 = x_464 → wJ_LW_law_714 G l C18 q1 q2 x3 h_462 k n) ∧ (¬ x_456 = x_464 → (k ≤ 600000 ∧ n ≤ 7302250) ∧ ((0 : Int32) = 1))))))))) ∧ (¬ x_60 = 0 → ¬ x_60 = 1 → ¬ x_60 = 2 → ¬ x_60 = 3 → ¬ x_60 = 4 → ¬ x_60 = 5 → ¬ x_60 = 6 → ¬ x_60 = 7 → ¬ x_60 = 8 → ¬ x_60 = 9 → ¬ x_60 = 10 → ¬ x_60 = 11 → ¬ x_60 = 12 → ¬ x_60 = 13 → ¬ x_60 = 14 → ¬ x_60 = 15 → ¬ x_60 = 16 → ¬ x_60 = 17 → ¬ x_60 = 18 → wJ_LW_law_714 G l C18 q1 q2 x3 h k n)))
set_option maxRecDepth 100000 in
set_option maxHeartbeats 4000000 in
theorem okB_LW_law_18 {G : Gx} {l : Launch} {p : Program} {e : Env} {m : MethodId} {b : Nat} {below : List Frame} {meth : Method} {c : Code} {C18 : Int32 → Hp → Nat → Nat → Prop} {q1 : Nat} {q2 : Nat} {x3 : Int32} (hC18 : ∀ (x3 : Int32) (h : Hp) (k n : Nat), C18 x3 h k n → Go M_LW_law (XL G p l e m b below meth c) 18 [some (.ref (gK G 9)), some (.ref q1), some (.ref q2), some (.int x3)] [] h k n) {h : Hp} {k n : Nat} (H : wB_LW_law_18 G l C18 q1 q2 x3 h k n) : Go M_LW_law (XL G p l e m b below meth c) 18 [some (.ref (gK G 9)), some (.ref q1), some (.ref q2), some (.int x3)] [] h k n := by
  unfold wB_LW_law_18 at H
  refine g_iload_n d_LW_law_18 rfl ?_
  refine g_aload_n d_LW_law_19 rfl ?_
  refine g_clen (t := 9) d_LW_law_20 (by decide) ?_
  refine g_bipush (v := 6) d_LW_law_21 (by decide) ?_
  refine g_isub d_LW_law_23 ?_
  obtain ⟨H1, H2⟩ := H
  refine g_icmp_gt (tgt := 720) d_LW_law_24 (by decide) (fun c_56 => ?_) (fun c_56 => ?_)
  · have H := H1 c_56
    refine g_iconst (v := 1) d_LW_law_720 (by decide) ?_
    obtain ⟨b_57, H⟩ := H
    exact g_lawret d_LW_law_721 b_57.1 b_57.2 H
  · have H := H2 c_56
    refine g_aload_n d_LW_law_27 rfl ?_
    refine g_iload_n d_LW_law_28 rfl ?_
    obtain ⟨j_58, H⟩ := H
    obtain ⟨z_59, H⟩ := H
    refine g_cald (t := 9) d_LW_law_29 (by decide) z_59.1 z_59.2.1 z_59.2.2 ?_
    refine g_bipush (v := 31) d_LW_law_30 (by decide) ?_
    refine g_iand d_LW_law_32 ?_
    refine g_topi (fun x_60 ex_60 => ?_)
    replace H := H x_60 ex_60
    obtain ⟨HA, H⟩ := H
    by_cases c0_x_60 : x_60 = 0
    · have H := HA c0_x_60
      refine g_tabIn (tgt := 124) d_LW_law_33 (by rw [c0_x_60]; decide) (by rw [c0_x_60]; decide) (by rw [c0_x_60]; rfl) (by decide) ?_
      refine g_aload_n d_LW_law_124 rfl ?_
      refine g_aload_n d_LW_law_125 rfl ?_
      refine g_iload_n d_LW_law_126 rfl ?_
      refine g_iconst (v := 1) d_LW_law_127 (by decide) ?_
      refine g_iadd d_LW_law_128 ?_
      obtain ⟨j_61, H⟩ := H
      obtain ⟨z_62, H⟩ := H
      refine g_cald (t := 9) d_LW_law_129 (by decide) z_62.1 z_62.2.1 z_62.2.2 ?_
      refine g_aload_n d_LW_law_130 rfl ?_
      refine g_iload_n d_LW_law_131 rfl ?_
      refine g_iconst (v := 2) d_LW_law_132 (by decide) ?_
      refine g_iadd d_LW_law_133 ?_
      obtain ⟨j_63, H⟩ := H
      obtain ⟨z_64, H⟩ := H
      refine g_cald (t := 9) d_LW_law_134 (by decide) z_64.1 z_64.2.1 z_64.2.2 ?_
      refine g_i2l d_LW_law_135 ?_
      refine g_bipush (v := 32) d_LW_law_136 (by decide) ?_
      refine g_lshl d_LW_law_138 rfl ?_
      refine g_aload_n d_LW_law_139 rfl ?_
      refine g_iload_n d_LW_law_140 rfl ?_
      refine g_iconst (v := 3) d_LW_law_141 (by decide) ?_
      refine g_iadd d_LW_law_142 ?_
      obtain ⟨j_65, H⟩ := H
      obtain ⟨z_66, H⟩ := H
      refine g_cald (t := 9) d_LW_law_143 (by decide) z_66.1 z_66.2.1 z_66.2.2 ?_
      refine g_i2l d_LW_law_144 ?_
      refine g_ldc2 d_LW_law_145 k_LW_13 ?_
      refine g_land d_LW_law_148 ?_
      refine g_lor d_LW_law_149 ?_
      obtain ⟨z_67, H⟩ := H
      obtain ⟨P_68, C_69, H⟩ := H
      obtain ⟨b_73, H⟩ := H
      refine qL_V (As := [.int (kTab G 9 j_61), .long ((((kTab G 9 j_63).toInt64) <<< ((32 : Int32).toInt64 &&& 63)) ||| (((kTab G 9 j_65).toInt64) &&& 4294967295))]) (st := []) (nl := 5) d_LW_law_150 v_LW_15 C_69 z_67 rfl (catS_le (Nat.le_of_ble_eq_true rfl)) rfl ⟨by omega, by omega, b_73.1, b_73.2⟩ (fun r_74 h_70 p_71 => ?_)
      obtain ⟨x_72, rfl, p_71⟩ := p_71
      replace H := H x_72 h_70 p_71
      show Go _ _ _ _ [.int x_72] _ _ _
      refine g_aload_n d_LW_law_153 rfl ?_
      refine g_aload_n d_LW_law_154 rfl ?_
      refine g_iload_n d_LW_law_155 rfl ?_
      refine g_iconst (v := 1) d_LW_law_156 (by decide) ?_
      refine g_iadd d_LW_law_157 ?_
      obtain ⟨j_75, H⟩ := H
      obtain ⟨z_76, H⟩ := H
      refine g_cald (t := 9) d_LW_law_158 (by decide) z_76.1 z_76.2.1 z_76.2.2 ?_
      refine g_aload_n d_LW_law_159 rfl ?_
      refine g_iload_n d_LW_law_160 rfl ?_
      refine g_iconst (v := 2) d_LW_law_161 (by decide) ?_
      refine g_iadd d_LW_law_162 ?_
      obtain ⟨j_77, H⟩ := H
      obtain ⟨z_78, H⟩ := H
      refine g_cald (t := 9) d_LW_law_163 (by decide) z_78.1 z_78.2.1 z_78.2.2 ?_
      refine g_i2l d_LW_law_164 ?_
      refine g_bipush (v := 32) d_LW_law_165 (by decide) ?_
      refine g_lshl d_LW_law_167 rfl ?_
      refine g_aload_n d_LW_law_168 rfl ?_
      refine g_iload_n d_LW_law_169 rfl ?_
      refine g_iconst (v := 3) d_LW_law_170 (by decide) ?_
      refine g_iadd d_LW_law_171 ?_
      obtain ⟨j_79, H⟩ := H
      obtain ⟨z_80, H⟩ := H
      refine g_cald (t := 9) d_LW_law_172 (by decide) z_80.1 z_80.2.1 z_80.2.2 ?_
      refine g_i2l d_LW_law_173 ?_
      refine g_ldc2 d_LW_law_174 k_LW_13 ?_
      refine g_land d_LW_law_177 ?_
      refine g_lor d_LW_law_178 ?_
      obtain ⟨z_81, H⟩ := H
      obtain ⟨P_82, C_83, H⟩ := H
      obtain ⟨b_87, H⟩ := H
      refine qL_V (As := [.int (kTab G 9 j_75), .long ((((kTab G 9 j_77).toInt64) <<< ((32 : Int32).toInt64 &&& 63)) ||| (((kTab G 9 j_79).toInt64) &&& 4294967295))]) (st := [.int x_72]) (nl := 4) d_LW_law_179 v_LW_19 C_83 z_81 rfl (catS_le (Nat.le_of_ble_eq_true rfl)) rfl ⟨by omega, by omega, b_87.1, b_87.2⟩ (fun r_88 h_84 p_85 => ?_)
      obtain ⟨x_86, rfl, p_85⟩ := p_85
      replace H := H x_86 h_84 p_85
      show Go _ _ _ _ [.int x_86, .int x_72] _ _ _
      obtain ⟨H1, H2⟩ := H
      refine g_icmp_eq (tgt := 714) d_LW_law_182 (by decide) (fun c_89 => ?_) (fun c_89 => ?_)
      · have H := H1 c_89
        refine g_msk [true, true, true, true] ?_
        exact okJ_LW_law_714 hC18 H
      · have H := H2 c_89
        refine g_iconst (v := 0) d_LW_law_185 (by decide) ?_
        obtain ⟨b_90, H⟩ := H
        exact g_lawret d_LW_law_186 b_90.1 b_90.2 H
    obtain ⟨HA, H⟩ := H
    by_cases c1_x_60 : x_60 = 1
    · have H := HA c1_x_60
      refine g_tabIn (tgt := 187) d_LW_law_33 (by rw [c1_x_60]; decide) (by rw [c1_x_60]; decide) (by rw [c1_x_60]; rfl) (by decide) ?_
      refine g_aload_n d_LW_law_187 rfl ?_
      refine g_aload_n d_LW_law_188 rfl ?_
      refine g_iload_n d_LW_law_189 rfl ?_
      refine g_iconst (v := 1) d_LW_law_190 (by decide) ?_
      refine g_iadd d_LW_law_191 ?_
      obtain ⟨j_91, H⟩ := H
      obtain ⟨z_92, H⟩ := H
      refine g_cald (t := 9) d_LW_law_192 (by decide) z_92.1 z_92.2.1 z_92.2.2 ?_
      refine g_aload_n d_LW_law_193 rfl ?_
      refine g_iload_n d_LW_law_194 rfl ?_
      refine g_iconst (v := 2) d_LW_law_195 (by decide) ?_
      refine g_iadd d_LW_law_196 ?_
      obtain ⟨j_93, H⟩ := H
      obtain ⟨z_94, H⟩ := H
      refine g_cald (t := 9) d_LW_law_197 (by decide) z_94.1 z_94.2.1 z_94.2.2 ?_
      obtain ⟨H1, H2⟩ := H
      refine g_if_eq (tgt := 205) d_LW_law_198 (by decide) (fun c_95 => ?_) (fun c_95 => ?_)
      · have H := H1 c_95
        refine g_iconst (v := 0) d_LW_law_205 (by decide) ?_
        refine g_msk [true, true, true, true] ?_
        exact okJ_LW_law_206 hC18 H
      · have H := H2 c_95
        refine g_iconst (v := 1) d_LW_law_201 (by decide) ?_
        refine g_goto (tgt := 206) d_LW_law_202 (by decide) ?_
        refine g_msk [true, true, true, true] ?_
        exact okJ_LW_law_206 hC18 H
    obtain ⟨HA, H⟩ := H
    by_cases c2_x_60 : x_60 = 2
    · have H := HA c2_x_60
      refine g_tabIn (tgt := 236) d_LW_law_33 (by rw [c2_x_60]; decide) (by rw [c2_x_60]; decide) (by rw [c2_x_60]; rfl) (by decide) ?_
      refine g_aload_n d_LW_law_236 rfl ?_
      refine g_aload_n d_LW_law_237 rfl ?_
      refine g_iload_n d_LW_law_238 rfl ?_
      refine g_iconst (v := 1) d_LW_law_239 (by decide) ?_
      refine g_iadd d_LW_law_240 ?_
      obtain ⟨j_96, H⟩ := H
      obtain ⟨z_97, H⟩ := H
      refine g_cald (t := 9) d_LW_law_241 (by decide) z_97.1 z_97.2.1 z_97.2.2 ?_
      refine g_i2c d_LW_law_242 ?_
      refine g_aload_n d_LW_law_243 rfl ?_
      refine g_iload_n d_LW_law_244 rfl ?_
      refine g_iconst (v := 2) d_LW_law_245 (by decide) ?_
      refine g_iadd d_LW_law_246 ?_
      obtain ⟨j_98, H⟩ := H
      obtain ⟨z_99, H⟩ := H
      refine g_cald (t := 9) d_LW_law_247 (by decide) z_99.1 z_99.2.1 z_99.2.2 ?_
      obtain ⟨z_100, H⟩ := H
      obtain ⟨P_101, C_102, H⟩ := H
      obtain ⟨b_106, H⟩ := H
      refine qL_V (As := [.int (((kTab G 9 j_96).toUInt32 % 65536).toInt32), .int (kTab G 9 j_98)]) (st := []) (nl := 3) d_LW_law_248 v_LW_25 C_102 z_100 rfl (catS_le (Nat.le_of_ble_eq_true rfl)) rfl ⟨by omega, by omega, b_106.1, b_106.2⟩ (fun r_107 h_103 p_104 => ?_)
      obtain ⟨x_105, rfl, p_104⟩ := p_104
      replace H := H x_105 h_103 p_104
      show Go _ _ _ _ [.int x_105] _ _ _
      refine g_aload_n d_LW_law_251 rfl ?_
      refine g_aload_n d_LW_law_252 rfl ?_
      refine g_iload_n d_LW_law_253 rfl ?_
      refine g_iconst (v := 1) d_LW_law_254 (by decide) ?_
      refine g_iadd d_LW_law_255 ?_
      obtain ⟨j_108, H⟩ := H
      obtain ⟨z_109, H⟩ := H
      refine g_cald (t := 9) d_LW_law_256 (by decide) z_109.1 z_109.2.1 z_109.2.2 ?_
      refine g_i2c d_LW_law_257 ?_
      refine g_aload_n d_LW_law_258 rfl ?_
      refine g_iload_n d_LW_law_259 rfl ?_
      refine g_iconst (v := 2) d_LW_law_260 (by decide) ?_
      refine g_iadd d_LW_law_261 ?_
      obtain ⟨j_110, H⟩ := H
      obtain ⟨z_111, H⟩ := H
      refine g_cald (t := 9) d_LW_law_262 (by decide) z_111.1 z_111.2.1 z_111.2.2 ?_
      obtain ⟨z_112, H⟩ := H
      obtain ⟨P_113, C_114, H⟩ := H
      obtain ⟨b_118, H⟩ := H
      refine qL_V (As := [.int (((kTab G 9 j_108).toUInt32 % 65536).toInt32), .int (kTab G 9 j_110)]) (st := [.int x_105]) (nl := 4) d_LW_law_263 v_LW_29 C_114 z_112 rfl (catS_le (Nat.le_of_ble_eq_true rfl)) rfl ⟨by omega, by omega, b_118.1, b_118.2⟩ (fun r_119 h_115 p_116 => ?_)
      obtain ⟨x_117, rfl, p_116⟩ := p_116
      replace H := H x_117 h_115 p_116
      show Go _ _ _ _ [.int x_117, .int x_105] _ _ _
      obtain ⟨H1, H2⟩ := H
      refine g_icmp_eq (tgt := 714) d_LW_law_266 (by decide) (fun c_120 => ?_) (fun c_120 => ?_)
      · have H := H1 c_120
        refine g_msk [true, true, true, true] ?_
        exact okJ_LW_law_714 hC18 H
      · have H := H2 c_120
        refine g_iconst (v := 0) d_LW_law_269 (by decide) ?_
        obtain ⟨b_121, H⟩ := H
        exact g_lawret d_LW_law_270 b_121.1 b_121.2 H
    obtain ⟨HA, H⟩ := H
    by_cases c3_x_60 : x_60 = 3
    · have H := HA c3_x_60
      refine g_tabIn (tgt := 271) d_LW_law_33 (by rw [c3_x_60]; decide) (by rw [c3_x_60]; decide) (by rw [c3_x_60]; rfl) (by decide) ?_
      refine g_aload_n d_LW_law_271 rfl ?_
      obtain ⟨z_122, H⟩ := H
      obtain ⟨P_123, C_124, H⟩ := H
      obtain ⟨b_128, H⟩ := H
      refine qL_V (As := []) (st := []) (nl := 1) d_LW_law_272 v_LW_30 C_124 z_122 rfl (catS_le (Nat.le_of_ble_eq_true rfl)) rfl ⟨by omega, by omega, b_128.1, b_128.2⟩ (fun r_129 h_125 p_126 => ?_)
      obtain ⟨rfl, p_126⟩ := p_126
      replace H := H h_125 p_126
      show Go _ _ _ _ [] _ _ _
      refine g_aload_n d_LW_law_275 rfl ?_
      obtain ⟨z_130, H⟩ := H
      obtain ⟨P_131, C_132, H⟩ := H
      obtain ⟨b_136, H⟩ := H
      refine qL_V (As := []) (st := []) (nl := 1) d_LW_law_276 v_LW_33 C_132 z_130 rfl (catS_le (Nat.le_of_ble_eq_true rfl)) rfl ⟨by omega, by omega, b_136.1, b_136.2⟩ (fun r_137 h_133 p_134 => ?_)
      obtain ⟨rfl, p_134⟩ := p_134
      replace H := H h_133 p_134
      show Go _ _ _ _ [] _ _ _
      refine g_goto (tgt := 714) d_LW_law_279 (by decide) ?_
      refine g_msk [true, true, true, true] ?_
      exact okJ_LW_law_714 hC18 H
    obtain ⟨HA, H⟩ := H
    by_cases c4_x_60 : x_60 = 4
    · have H := HA c4_x_60
      refine g_tabIn (tgt := 282) d_LW_law_33 (by rw [c4_x_60]; decide) (by rw [c4_x_60]; decide) (by rw [c4_x_60]; rfl) (by decide) ?_
      refine g_aload_n d_LW_law_282 rfl ?_
      refine g_aload_n d_LW_law_283 rfl ?_
      refine g_iload_n d_LW_law_284 rfl ?_
      refine g_iconst (v := 1) d_LW_law_285 (by decide) ?_
      refine g_iadd d_LW_law_286 ?_
      obtain ⟨j_138, H⟩ := H
      obtain ⟨z_139, H⟩ := H
      refine g_cald (t := 9) d_LW_law_287 (by decide) z_139.1 z_139.2.1 z_139.2.2 ?_
      refine g_aload_n d_LW_law_288 rfl ?_
      refine g_iload_n d_LW_law_289 rfl ?_
      refine g_iconst (v := 2) d_LW_law_290 (by decide) ?_
      refine g_iadd d_LW_law_291 ?_
      obtain ⟨j_140, H⟩ := H
      obtain ⟨z_141, H⟩ := H
      refine g_cald (t := 9) d_LW_law_292 (by decide) z_141.1 z_141.2.1 z_141.2.2 ?_
      refine g_i2l d_LW_law_293 ?_
      refine g_bipush (v := 32) d_LW_law_294 (by decide) ?_
      refine g_lshl d_LW_law_296 rfl ?_
      refine g_aload_n d_LW_law_297 rfl ?_
      refine g_iload_n d_LW_law_298 rfl ?_
      refine g_iconst (v := 3) d_LW_law_299 (by decide) ?_
      refine g_iadd d_LW_law_300 ?_
      obtain ⟨j_142, H⟩ := H
      obtain ⟨z_143, H⟩ := H
      refine g_cald (t := 9) d_LW_law_301 (by decide) z_143.1 z_143.2.1 z_143.2.2 ?_
      refine g_i2l d_LW_law_302 ?_
      refine g_ldc2 d_LW_law_303 k_LW_13 ?_
      refine g_land d_LW_law_306 ?_
      refine g_lor d_LW_law_307 ?_
      refine g_aload_n d_LW_law_308 rfl ?_
      refine g_iload_n d_LW_law_309 rfl ?_
      refine g_iconst (v := 4) d_LW_law_310 (by decide) ?_
      refine g_iadd d_LW_law_311 ?_
      obtain ⟨j_144, H⟩ := H
      obtain ⟨z_145, H⟩ := H
      refine g_cald (t := 9) d_LW_law_312 (by decide) z_145.1 z_145.2.1 z_145.2.2 ?_
      refine g_aload_n d_LW_law_313 rfl ?_
      refine g_iload_n d_LW_law_314 rfl ?_
      refine g_iconst (v := 5) d_LW_law_315 (by decide) ?_
      refine g_iadd d_LW_law_316 ?_
      obtain ⟨j_146, H⟩ := H
      obtain ⟨z_147, H⟩ := H
      refine g_cald (t := 9) d_LW_law_317 (by decide) z_147.1 z_147.2.1 z_147.2.2 ?_
      obtain ⟨H1, H2⟩ := H
      refine g_if_eq (tgt := 325) d_LW_law_318 (by decide) (fun c_148 => ?_) (fun c_148 => ?_)
      · have H := H1 c_148
        refine g_iconst (v := 0) d_LW_law_325 (by decide) ?_
        refine g_msk [true, true, true, true] ?_
        exact okJ_LW_law_326 hC18 H
      · have H := H2 c_148
        refine g_iconst (v := 1) d_LW_law_321 (by decide) ?_
        refine g_goto (tgt := 326) d_LW_law_322 (by decide) ?_
        refine g_msk [true, true, true, true] ?_
        exact okJ_LW_law_326 hC18 H
    obtain ⟨HA, H⟩ := H
    by_cases c5_x_60 : x_60 = 5
    · have H := HA c5_x_60
      refine g_tabIn (tgt := 381) d_LW_law_33 (by rw [c5_x_60]; decide) (by rw [c5_x_60]; decide) (by rw [c5_x_60]; rfl) (by decide) ?_
      refine g_aload_n d_LW_law_381 rfl ?_
      refine g_aload_n d_LW_law_382 rfl ?_
      refine g_iload_n d_LW_law_383 rfl ?_
      refine g_iconst (v := 1) d_LW_law_384 (by decide) ?_
      refine g_iadd d_LW_law_385 ?_
      obtain ⟨j_149, H⟩ := H
      obtain ⟨z_150, H⟩ := H
      refine g_cald (t := 9) d_LW_law_386 (by decide) z_150.1 z_150.2.1 z_150.2.2 ?_
      refine g_aload_n d_LW_law_387 rfl ?_
      refine g_iload_n d_LW_law_388 rfl ?_
      refine g_iconst (v := 2) d_LW_law_389 (by decide) ?_
      refine g_iadd d_LW_law_390 ?_
      obtain ⟨j_151, H⟩ := H
      obtain ⟨z_152, H⟩ := H
      refine g_cald (t := 9) d_LW_law_391 (by decide) z_152.1 z_152.2.1 z_152.2.2 ?_
      obtain ⟨z_153, H⟩ := H
      obtain ⟨P_154, C_155, H⟩ := H
      obtain ⟨b_159, H⟩ := H
      refine qL_V (As := [.int (kTab G 9 j_149), .int (kTab G 9 j_151)]) (st := []) (nl := 4) d_LW_law_392 v_LW_39 C_155 z_153 rfl (catS_le (Nat.le_of_ble_eq_true rfl)) rfl ⟨by omega, by omega, b_159.1, b_159.2⟩ (fun r_160 h_156 p_157 => ?_)
      obtain ⟨x_158, rfl, p_157⟩ := p_157
      replace H := H x_158 h_156 p_157
      show Go _ _ _ _ [.int x_158] _ _ _
      refine g_aload_n d_LW_law_395 rfl ?_
      refine g_aload_n d_LW_law_396 rfl ?_
      refine g_iload_n d_LW_law_397 rfl ?_
      refine g_iconst (v := 1) d_LW_law_398 (by decide) ?_
      refine g_iadd d_LW_law_399 ?_
      obtain ⟨j_161, H⟩ := H
      obtain ⟨z_162, H⟩ := H
      refine g_cald (t := 9) d_LW_law_400 (by decide) z_162.1 z_162.2.1 z_162.2.2 ?_
      refine g_aload_n d_LW_law_401 rfl ?_
      refine g_iload_n d_LW_law_402 rfl ?_
      refine g_iconst (v := 2) d_LW_law_403 (by decide) ?_
      refine g_iadd d_LW_law_404 ?_
      obtain ⟨j_163, H⟩ := H
      obtain ⟨z_164, H⟩ := H
      refine g_cald (t := 9) d_LW_law_405 (by decide) z_164.1 z_164.2.1 z_164.2.2 ?_
      obtain ⟨z_165, H⟩ := H
      obtain ⟨P_166, C_167, H⟩ := H
      obtain ⟨b_171, H⟩ := H
      refine qL_V (As := [.int (kTab G 9 j_161), .int (kTab G 9 j_163)]) (st := [.int x_158]) (nl := 3) d_LW_law_406 v_LW_43 C_167 z_165 rfl (catS_le (Nat.le_of_ble_eq_true rfl)) rfl ⟨by omega, by omega, b_171.1, b_171.2⟩ (fun r_172 h_168 p_169 => ?_)
      obtain ⟨x_170, rfl, p_169⟩ := p_169
      replace H := H x_170 h_168 p_169
      show Go _ _ _ _ [.int x_170, .int x_158] _ _ _
      obtain ⟨H1, H2⟩ := H
      refine g_icmp_eq (tgt := 714) d_LW_law_409 (by decide) (fun c_173 => ?_) (fun c_173 => ?_)
      · have H := H1 c_173
        refine g_msk [true, true, true, true] ?_
        exact okJ_LW_law_714 hC18 H
      · have H := H2 c_173
        refine g_iconst (v := 0) d_LW_law_412 (by decide) ?_
        obtain ⟨b_174, H⟩ := H
        exact g_lawret d_LW_law_413 b_174.1 b_174.2 H
    obtain ⟨HA, H⟩ := H
    by_cases c6_x_60 : x_60 = 6
    · have H := HA c6_x_60
      refine g_tabIn (tgt := 414) d_LW_law_33 (by rw [c6_x_60]; decide) (by rw [c6_x_60]; decide) (by rw [c6_x_60]; rfl) (by decide) ?_
      refine g_aload_n d_LW_law_414 rfl ?_
      obtain ⟨z_175, H⟩ := H
      obtain ⟨mc_181, H⟩ := H
      obtain ⟨ms_182, H⟩ := H
      obtain ⟨P_176, C_177, H⟩ := H
      obtain ⟨b_183, H⟩ := H
      refine qL_V (As := []) (st := []) (nl := 4) d_LW_law_415 v_LW_44 C_177 z_175 rfl (catS_le (Nat.le_of_ble_eq_true rfl)) rfl ⟨by omega, by omega, b_183.1, b_183.2⟩ (fun r_184 h_178 p_179 => ?_)
      obtain ⟨x_180, rfl, p_179⟩ := p_179
      replace H := H x_180 h_178 p_179
      show Go _ _ _ _ [.int x_180] _ _ _
      refine g_aload_n d_LW_law_418 rfl ?_
      obtain ⟨z_185, H⟩ := H
      obtain ⟨P_186, C_187, H⟩ := H
      obtain ⟨b_191, H⟩ := H
      refine qL_V (As := []) (st := [.int x_180]) (nl := 4) d_LW_law_419 v_LW_48 C_187 z_185 rfl (catS_le (Nat.le_of_ble_eq_true rfl)) rfl ⟨by omega, by omega, b_191.1, b_191.2⟩ (fun r_192 h_188 p_189 => ?_)
      obtain ⟨x_190, rfl, p_189⟩ := p_189
      replace H := H x_190 h_188 p_189
      show Go _ _ _ _ [.int x_190, .int x_180] _ _ _
      obtain ⟨H1, H2⟩ := H
      refine g_icmp_eq (tgt := 714) d_LW_law_422 (by decide) (fun c_193 => ?_) (fun c_193 => ?_)
      · have H := H1 c_193
        refine g_msk [true, true, true, true] ?_
        exact okJ_LW_law_714 hC18 H
      · have H := H2 c_193
        refine g_iconst (v := 0) d_LW_law_425 (by decide) ?_
        obtain ⟨b_194, H⟩ := H
        exact g_lawret d_LW_law_426 b_194.1 b_194.2 H
    obtain ⟨HA, H⟩ := H
    by_cases c7_x_60 : x_60 = 7
    · have H := HA c7_x_60
      refine g_tabIn (tgt := 427) d_LW_law_33 (by rw [c7_x_60]; decide) (by rw [c7_x_60]; decide) (by rw [c7_x_60]; rfl) (by decide) ?_
      refine g_aload_n d_LW_law_427 rfl ?_
      refine g_aload_n d_LW_law_428 rfl ?_
      refine g_iload_n d_LW_law_429 rfl ?_
      refine g_iconst (v := 1) d_LW_law_430 (by decide) ?_
      refine g_iadd d_LW_law_431 ?_
      obtain ⟨j_195, H⟩ := H
      obtain ⟨z_196, H⟩ := H
      refine g_cald (t := 9) d_LW_law_432 (by decide) z_196.1 z_196.2.1 z_196.2.2 ?_
      obtain ⟨z_197, H⟩ := H
      obtain ⟨mc_203, H⟩ := H
      obtain ⟨ms_204, H⟩ := H
      obtain ⟨P_198, C_199, H⟩ := H
      obtain ⟨b_205, H⟩ := H
      refine qL_V (As := [.int (kTab G 9 j_195)]) (st := []) (nl := 8) d_LW_law_433 v_LW_49 C_199 z_197 rfl (catS_le (Nat.le_of_ble_eq_true rfl)) rfl ⟨by omega, by omega, b_205.1, b_205.2⟩ (fun r_206 h_200 p_201 => ?_)
      obtain ⟨x_202, rfl, p_201⟩ := p_201
      replace H := H x_202 h_200 p_201
      show Go _ _ _ _ [.int x_202] _ _ _
      refine g_aload_n d_LW_law_436 rfl ?_
      refine g_aload_n d_LW_law_437 rfl ?_
      refine g_iload_n d_LW_law_438 rfl ?_
      refine g_iconst (v := 1) d_LW_law_439 (by decide) ?_
      refine g_iadd d_LW_law_440 ?_
      obtain ⟨j_207, H⟩ := H
      obtain ⟨z_208, H⟩ := H
      refine g_cald (t := 9) d_LW_law_441 (by decide) z_208.1 z_208.2.1 z_208.2.2 ?_
      obtain ⟨z_209, H⟩ := H
      obtain ⟨P_210, C_211, H⟩ := H
      obtain ⟨b_215, H⟩ := H
      refine qL_V (As := [.int (kTab G 9 j_207)]) (st := [.int x_202]) (nl := 4) d_LW_law_442 v_LW_53 C_211 z_209 rfl (catS_le (Nat.le_of_ble_eq_true rfl)) rfl ⟨by omega, by omega, b_215.1, b_215.2⟩ (fun r_216 h_212 p_213 => ?_)
      obtain ⟨x_214, rfl, p_213⟩ := p_213
      replace H := H x_214 h_212 p_213
      show Go _ _ _ _ [.int x_214, .int x_202] _ _ _
      obtain ⟨H1, H2⟩ := H
      refine g_icmp_eq (tgt := 714) d_LW_law_445 (by decide) (fun c_217 => ?_) (fun c_217 => ?_)
      · have H := H1 c_217
        refine g_msk [true, true, true, true] ?_
        exact okJ_LW_law_714 hC18 H
      · have H := H2 c_217
        refine g_iconst (v := 0) d_LW_law_448 (by decide) ?_
        obtain ⟨b_218, H⟩ := H
        exact g_lawret d_LW_law_449 b_218.1 b_218.2 H
    obtain ⟨HA, H⟩ := H
    by_cases c8_x_60 : x_60 = 8
    · have H := HA c8_x_60
      refine g_tabIn (tgt := 450) d_LW_law_33 (by rw [c8_x_60]; decide) (by rw [c8_x_60]; decide) (by rw [c8_x_60]; rfl) (by decide) ?_
      refine g_aload_n d_LW_law_450 rfl ?_
      refine g_aload_n d_LW_law_451 rfl ?_
      refine g_iload_n d_LW_law_452 rfl ?_
      refine g_iconst (v := 1) d_LW_law_453 (by decide) ?_
      refine g_iadd d_LW_law_454 ?_
      obtain ⟨j_219, H⟩ := H
      obtain ⟨z_220, H⟩ := H
      refine g_cald (t := 9) d_LW_law_455 (by decide) z_220.1 z_220.2.1 z_220.2.2 ?_
      obtain ⟨z_221, H⟩ := H
      obtain ⟨mc_227, H⟩ := H
      obtain ⟨ms_228, H⟩ := H
      obtain ⟨P_222, C_223, H⟩ := H
      obtain ⟨b_229, H⟩ := H
      refine qL_V (As := [.int (kTab G 9 j_219)]) (st := []) (nl := 4) d_LW_law_456 v_LW_54 C_223 z_221 rfl (catS_le (Nat.le_of_ble_eq_true rfl)) rfl ⟨by omega, by omega, b_229.1, b_229.2⟩ (fun r_230 h_224 p_225 => ?_)
      obtain ⟨x_226, rfl, p_225⟩ := p_225
      replace H := H x_226 h_224 p_225
      show Go _ _ _ _ [.int x_226] _ _ _
      refine g_aload_n d_LW_law_459 rfl ?_
      refine g_aload_n d_LW_law_460 rfl ?_
      refine g_iload_n d_LW_law_461 rfl ?_
      refine g_iconst (v := 1) d_LW_law_462 (by decide) ?_
      refine g_iadd d_LW_law_463 ?_
      obtain ⟨j_231, H⟩ := H
      obtain ⟨z_232, H⟩ := H
      refine g_cald (t := 9) d_LW_law_464 (by decide) z_232.1 z_232.2.1 z_232.2.2 ?_
      obtain ⟨z_233, H⟩ := H
      obtain ⟨P_234, C_235, H⟩ := H
      obtain ⟨b_239, H⟩ := H
      refine qL_V (As := [.int (kTab G 9 j_231)]) (st := [.int x_226]) (nl := 11) d_LW_law_465 v_LW_57 C_235 z_233 rfl (catS_le (Nat.le_of_ble_eq_true rfl)) rfl ⟨by omega, by omega, b_239.1, b_239.2⟩ (fun r_240 h_236 p_237 => ?_)
      obtain ⟨x_238, rfl, p_237⟩ := p_237
      replace H := H x_238 h_236 p_237
      show Go _ _ _ _ [.int x_238, .int x_226] _ _ _
      obtain ⟨H1, H2⟩ := H
      refine g_icmp_eq (tgt := 714) d_LW_law_468 (by decide) (fun c_241 => ?_) (fun c_241 => ?_)
      · have H := H1 c_241
        refine g_msk [true, true, true, true] ?_
        exact okJ_LW_law_714 hC18 H
      · have H := H2 c_241
        refine g_iconst (v := 0) d_LW_law_471 (by decide) ?_
        obtain ⟨b_242, H⟩ := H
        exact g_lawret d_LW_law_472 b_242.1 b_242.2 H
    obtain ⟨HA, H⟩ := H
    by_cases c9_x_60 : x_60 = 9
    · have H := HA c9_x_60
      refine g_tabIn (tgt := 473) d_LW_law_33 (by rw [c9_x_60]; decide) (by rw [c9_x_60]; decide) (by rw [c9_x_60]; rfl) (by decide) ?_
      refine g_aload_n d_LW_law_473 rfl ?_
      refine g_aload_n d_LW_law_474 rfl ?_
      refine g_iload_n d_LW_law_475 rfl ?_
      refine g_iconst (v := 1) d_LW_law_476 (by decide) ?_
      refine g_iadd d_LW_law_477 ?_
      obtain ⟨j_243, H⟩ := H
      obtain ⟨z_244, H⟩ := H
      refine g_cald (t := 9) d_LW_law_478 (by decide) z_244.1 z_244.2.1 z_244.2.2 ?_
      obtain ⟨z_245, H⟩ := H
      obtain ⟨mc_251, H⟩ := H
      obtain ⟨ms_252, H⟩ := H
      obtain ⟨P_246, C_247, H⟩ := H
      obtain ⟨b_253, H⟩ := H
      refine qL_V (As := [.int (kTab G 9 j_243)]) (st := []) (nl := 4) d_LW_law_479 v_LW_58 C_247 z_245 rfl (catS_le (Nat.le_of_ble_eq_true rfl)) rfl ⟨by omega, by omega, b_253.1, b_253.2⟩ (fun r_254 h_248 p_249 => ?_)
      obtain ⟨x_250, rfl, p_249⟩ := p_249
      replace H := H x_250 h_248 p_249
      show Go _ _ _ _ [.int x_250] _ _ _
      refine g_aload_n d_LW_law_482 rfl ?_
      refine g_aload_n d_LW_law_483 rfl ?_
      refine g_iload_n d_LW_law_484 rfl ?_
      refine g_iconst (v := 1) d_LW_law_485 (by decide) ?_
      refine g_iadd d_LW_law_486 ?_
      obtain ⟨j_255, H⟩ := H
      obtain ⟨z_256, H⟩ := H
      refine g_cald (t := 9) d_LW_law_487 (by decide) z_256.1 z_256.2.1 z_256.2.2 ?_
      obtain ⟨z_257, H⟩ := H
      obtain ⟨P_258, C_259, H⟩ := H
      obtain ⟨b_263, H⟩ := H
      refine qL_V (As := [.int (kTab G 9 j_255)]) (st := [.int x_250]) (nl := 2) d_LW_law_488 v_LW_62 C_259 z_257 rfl (catS_le (Nat.le_of_ble_eq_true rfl)) rfl ⟨by omega, by omega, b_263.1, b_263.2⟩ (fun r_264 h_260 p_261 => ?_)
      obtain ⟨x_262, rfl, p_261⟩ := p_261
      replace H := H x_262 h_260 p_261
      show Go _ _ _ _ [.int x_262, .int x_250] _ _ _
      obtain ⟨H1, H2⟩ := H
      refine g_icmp_eq (tgt := 714) d_LW_law_491 (by decide) (fun c_265 => ?_) (fun c_265 => ?_)
      · have H := H1 c_265
        refine g_msk [true, true, true, true] ?_
        exact okJ_LW_law_714 hC18 H
      · have H := H2 c_265
        refine g_iconst (v := 0) d_LW_law_494 (by decide) ?_
        obtain ⟨b_266, H⟩ := H
        exact g_lawret d_LW_law_495 b_266.1 b_266.2 H
    obtain ⟨HA, H⟩ := H
    by_cases c10_x_60 : x_60 = 10
    · have H := HA c10_x_60
      refine g_tabIn (tgt := 496) d_LW_law_33 (by rw [c10_x_60]; decide) (by rw [c10_x_60]; decide) (by rw [c10_x_60]; rfl) (by decide) ?_
      refine g_aload_n d_LW_law_496 rfl ?_
      refine g_aload_n d_LW_law_497 rfl ?_
      refine g_iload_n d_LW_law_498 rfl ?_
      refine g_iconst (v := 1) d_LW_law_499 (by decide) ?_
      refine g_iadd d_LW_law_500 ?_
      obtain ⟨j_267, H⟩ := H
      obtain ⟨z_268, H⟩ := H
      refine g_cald (t := 9) d_LW_law_501 (by decide) z_268.1 z_268.2.1 z_268.2.2 ?_
      obtain ⟨z_269, H⟩ := H
      obtain ⟨P_270, C_271, H⟩ := H
      obtain ⟨b_275, H⟩ := H
      refine qL_V (As := [.int (kTab G 9 j_267)]) (st := []) (nl := 3) d_LW_law_502 v_LW_63 C_271 z_269 rfl (catS_le (Nat.le_of_ble_eq_true rfl)) rfl ⟨by omega, by omega, b_275.1, b_275.2⟩ (fun r_276 h_272 p_273 => ?_)
      obtain ⟨x_274, rfl, p_273⟩ := p_273
      replace H := H x_274 h_272 p_273
      show Go _ _ _ _ [.int x_274] _ _ _
      refine g_aload_n d_LW_law_505 rfl ?_
      refine g_aload_n d_LW_law_506 rfl ?_
      refine g_iload_n d_LW_law_507 rfl ?_
      refine g_iconst (v := 1) d_LW_law_508 (by decide) ?_
      refine g_iadd d_LW_law_509 ?_
      obtain ⟨j_277, H⟩ := H
      obtain ⟨z_278, H⟩ := H
      refine g_cald (t := 9) d_LW_law_510 (by decide) z_278.1 z_278.2.1 z_278.2.2 ?_
      obtain ⟨z_279, H⟩ := H
      obtain ⟨P_280, C_281, H⟩ := H
      obtain ⟨b_285, H⟩ := H
      refine qL_V (As := [.int (kTab G 9 j_277)]) (st := [.int x_274]) (nl := 4) d_LW_law_511 v_LW_66 C_281 z_279 rfl (catS_le (Nat.le_of_ble_eq_true rfl)) rfl ⟨by omega, by omega, b_285.1, b_285.2⟩ (fun r_286 h_282 p_283 => ?_)
      obtain ⟨x_284, rfl, p_283⟩ := p_283
      replace H := H x_284 h_282 p_283
      show Go _ _ _ _ [.int x_284, .int x_274] _ _ _
      obtain ⟨H1, H2⟩ := H
      refine g_icmp_eq (tgt := 714) d_LW_law_514 (by decide) (fun c_287 => ?_) (fun c_287 => ?_)
      · have H := H1 c_287
        refine g_msk [true, true, true, true] ?_
        exact okJ_LW_law_714 hC18 H
      · have H := H2 c_287
        refine g_iconst (v := 0) d_LW_law_517 (by decide) ?_
        obtain ⟨b_288, H⟩ := H
        exact g_lawret d_LW_law_518 b_288.1 b_288.2 H
    obtain ⟨HA, H⟩ := H
    by_cases c11_x_60 : x_60 = 11
    · have H := HA c11_x_60
      refine g_tabIn (tgt := 519) d_LW_law_33 (by rw [c11_x_60]; decide) (by rw [c11_x_60]; decide) (by rw [c11_x_60]; rfl) (by decide) ?_
      refine g_aload_n d_LW_law_519 rfl ?_
      refine g_aload_n d_LW_law_520 rfl ?_
      refine g_iload_n d_LW_law_521 rfl ?_
      refine g_iconst (v := 1) d_LW_law_522 (by decide) ?_
      refine g_iadd d_LW_law_523 ?_
      obtain ⟨j_289, H⟩ := H
      obtain ⟨z_290, H⟩ := H
      refine g_cald (t := 9) d_LW_law_524 (by decide) z_290.1 z_290.2.1 z_290.2.2 ?_
      obtain ⟨z_291, H⟩ := H
      obtain ⟨P_292, C_293, H⟩ := H
      obtain ⟨b_297, H⟩ := H
      refine qL_V (As := [.int (kTab G 9 j_289)]) (st := []) (nl := 4) d_LW_law_525 v_LW_67 C_293 z_291 rfl (catS_le (Nat.le_of_ble_eq_true rfl)) rfl ⟨by omega, by omega, b_297.1, b_297.2⟩ (fun r_298 h_294 p_295 => ?_)
      obtain ⟨x_296, rfl, p_295⟩ := p_295
      replace H := H x_296 h_294 p_295
      show Go _ _ _ _ [.int x_296] _ _ _
      refine g_aload_n d_LW_law_528 rfl ?_
      refine g_aload_n d_LW_law_529 rfl ?_
      refine g_iload_n d_LW_law_530 rfl ?_
      refine g_iconst (v := 1) d_LW_law_531 (by decide) ?_
      refine g_iadd d_LW_law_532 ?_
      obtain ⟨j_299, H⟩ := H
      obtain ⟨z_300, H⟩ := H
      refine g_cald (t := 9) d_LW_law_533 (by decide) z_300.1 z_300.2.1 z_300.2.2 ?_
      obtain ⟨z_301, H⟩ := H
      obtain ⟨P_302, C_303, H⟩ := H
      obtain ⟨b_307, H⟩ := H
      refine qL_V (As := [.int (kTab G 9 j_299)]) (st := [.int x_296]) (nl := 2) d_LW_law_534 v_LW_70 C_303 z_301 rfl (catS_le (Nat.le_of_ble_eq_true rfl)) rfl ⟨by omega, by omega, b_307.1, b_307.2⟩ (fun r_308 h_304 p_305 => ?_)
      obtain ⟨x_306, rfl, p_305⟩ := p_305
      replace H := H x_306 h_304 p_305
      show Go _ _ _ _ [.int x_306, .int x_296] _ _ _
      obtain ⟨H1, H2⟩ := H
      refine g_icmp_eq (tgt := 714) d_LW_law_537 (by decide) (fun c_309 => ?_) (fun c_309 => ?_)
      · have H := H1 c_309
        refine g_msk [true, true, true, true] ?_
        exact okJ_LW_law_714 hC18 H
      · have H := H2 c_309
        refine g_iconst (v := 0) d_LW_law_540 (by decide) ?_
        obtain ⟨b_310, H⟩ := H
        exact g_lawret d_LW_law_541 b_310.1 b_310.2 H
    obtain ⟨HA, H⟩ := H
    by_cases c12_x_60 : x_60 = 12
    · have H := HA c12_x_60
      refine g_tabIn (tgt := 542) d_LW_law_33 (by rw [c12_x_60]; decide) (by rw [c12_x_60]; decide) (by rw [c12_x_60]; rfl) (by decide) ?_
      refine g_aload_n d_LW_law_542 rfl ?_
      refine g_aload_n d_LW_law_543 rfl ?_
      refine g_iload_n d_LW_law_544 rfl ?_
      refine g_iconst (v := 1) d_LW_law_545 (by decide) ?_
      refine g_iadd d_LW_law_546 ?_
      obtain ⟨j_311, H⟩ := H
      obtain ⟨z_312, H⟩ := H
      refine g_cald (t := 9) d_LW_law_547 (by decide) z_312.1 z_312.2.1 z_312.2.2 ?_
      obtain ⟨z_313, H⟩ := H
      obtain ⟨P_314, C_315, H⟩ := H
      obtain ⟨b_319, H⟩ := H
      refine qL_V (As := [.int (kTab G 9 j_311)]) (st := []) (nl := 3) d_LW_law_548 v_LW_71 C_315 z_313 rfl (catS_le (Nat.le_of_ble_eq_true rfl)) rfl ⟨by omega, by omega, b_319.1, b_319.2⟩ (fun r_320 h_316 p_317 => ?_)
      obtain ⟨x_318, rfl, p_317⟩ := p_317
      replace H := H x_318 h_316 p_317
      show Go _ _ _ _ [.int x_318] _ _ _
      refine g_aload_n d_LW_law_551 rfl ?_
      refine g_aload_n d_LW_law_552 rfl ?_
      refine g_iload_n d_LW_law_553 rfl ?_
      refine g_iconst (v := 1) d_LW_law_554 (by decide) ?_
      refine g_iadd d_LW_law_555 ?_
      obtain ⟨j_321, H⟩ := H
      obtain ⟨z_322, H⟩ := H
      refine g_cald (t := 9) d_LW_law_556 (by decide) z_322.1 z_322.2.1 z_322.2.2 ?_
      obtain ⟨z_323, H⟩ := H
      obtain ⟨P_324, C_325, H⟩ := H
      obtain ⟨b_329, H⟩ := H
      refine qL_V (As := [.int (kTab G 9 j_321)]) (st := [.int x_318]) (nl := 2) d_LW_law_557 v_LW_74 C_325 z_323 rfl (catS_le (Nat.le_of_ble_eq_true rfl)) rfl ⟨by omega, by omega, b_329.1, b_329.2⟩ (fun r_330 h_326 p_327 => ?_)
      obtain ⟨x_328, rfl, p_327⟩ := p_327
      replace H := H x_328 h_326 p_327
      show Go _ _ _ _ [.int x_328, .int x_318] _ _ _
      obtain ⟨H1, H2⟩ := H
      refine g_icmp_eq (tgt := 714) d_LW_law_560 (by decide) (fun c_331 => ?_) (fun c_331 => ?_)
      · have H := H1 c_331
        refine g_msk [true, true, true, true] ?_
        exact okJ_LW_law_714 hC18 H
      · have H := H2 c_331
        refine g_iconst (v := 0) d_LW_law_563 (by decide) ?_
        obtain ⟨b_332, H⟩ := H
        exact g_lawret d_LW_law_564 b_332.1 b_332.2 H
    obtain ⟨HA, H⟩ := H
    by_cases c13_x_60 : x_60 = 13
    · have H := HA c13_x_60
      refine g_tabIn (tgt := 565) d_LW_law_33 (by rw [c13_x_60]; decide) (by rw [c13_x_60]; decide) (by rw [c13_x_60]; rfl) (by decide) ?_
      refine g_aload_n d_LW_law_565 rfl ?_
      refine g_aload_n d_LW_law_566 rfl ?_
      refine g_iload_n d_LW_law_567 rfl ?_
      refine g_iconst (v := 1) d_LW_law_568 (by decide) ?_
      refine g_iadd d_LW_law_569 ?_
      obtain ⟨j_333, H⟩ := H
      obtain ⟨z_334, H⟩ := H
      refine g_cald (t := 9) d_LW_law_570 (by decide) z_334.1 z_334.2.1 z_334.2.2 ?_
      refine g_aload_n d_LW_law_571 rfl ?_
      refine g_iload_n d_LW_law_572 rfl ?_
      refine g_iconst (v := 2) d_LW_law_573 (by decide) ?_
      refine g_iadd d_LW_law_574 ?_
      obtain ⟨j_335, H⟩ := H
      obtain ⟨z_336, H⟩ := H
      refine g_cald (t := 9) d_LW_law_575 (by decide) z_336.1 z_336.2.1 z_336.2.2 ?_
      obtain ⟨z_337, H⟩ := H
      obtain ⟨P_338, C_339, H⟩ := H
      obtain ⟨b_343, H⟩ := H
      refine qL_V (As := [.int (kTab G 9 j_333), .int (kTab G 9 j_335)]) (st := []) (nl := 5) d_LW_law_576 v_LW_75 C_339 z_337 rfl (catS_le (Nat.le_of_ble_eq_true rfl)) rfl ⟨by omega, by omega, b_343.1, b_343.2⟩ (fun r_344 h_340 p_341 => ?_)
      obtain ⟨x_342, rfl, p_341⟩ := p_341
      replace H := H x_342 h_340 p_341
      show Go _ _ _ _ [.int x_342] _ _ _
      refine g_aload_n d_LW_law_579 rfl ?_
      refine g_aload_n d_LW_law_580 rfl ?_
      refine g_iload_n d_LW_law_581 rfl ?_
      refine g_iconst (v := 1) d_LW_law_582 (by decide) ?_
      refine g_iadd d_LW_law_583 ?_
      obtain ⟨j_345, H⟩ := H
      obtain ⟨z_346, H⟩ := H
      refine g_cald (t := 9) d_LW_law_584 (by decide) z_346.1 z_346.2.1 z_346.2.2 ?_
      refine g_aload_n d_LW_law_585 rfl ?_
      refine g_iload_n d_LW_law_586 rfl ?_
      refine g_iconst (v := 2) d_LW_law_587 (by decide) ?_
      refine g_iadd d_LW_law_588 ?_
      obtain ⟨j_347, H⟩ := H
      obtain ⟨z_348, H⟩ := H
      refine g_cald (t := 9) d_LW_law_589 (by decide) z_348.1 z_348.2.1 z_348.2.2 ?_
      obtain ⟨z_349, H⟩ := H
      obtain ⟨P_350, C_351, H⟩ := H
      obtain ⟨b_355, H⟩ := H
      refine qL_V (As := [.int (kTab G 9 j_345), .int (kTab G 9 j_347)]) (st := [.int x_342]) (nl := 4) d_LW_law_590 v_LW_79 C_351 z_349 rfl (catS_le (Nat.le_of_ble_eq_true rfl)) rfl ⟨by omega, by omega, b_355.1, b_355.2⟩ (fun r_356 h_352 p_353 => ?_)
      obtain ⟨x_354, rfl, p_353⟩ := p_353
      replace H := H x_354 h_352 p_353
      show Go _ _ _ _ [.int x_354, .int x_342] _ _ _
      obtain ⟨H1, H2⟩ := H
      refine g_icmp_eq (tgt := 714) d_LW_law_593 (by decide) (fun c_357 => ?_) (fun c_357 => ?_)
      · have H := H1 c_357
        refine g_msk [true, true, true, true] ?_
        exact okJ_LW_law_714 hC18 H
      · have H := H2 c_357
        refine g_iconst (v := 0) d_LW_law_596 (by decide) ?_
        obtain ⟨b_358, H⟩ := H
        exact g_lawret d_LW_law_597 b_358.1 b_358.2 H
    obtain ⟨HA, H⟩ := H
    by_cases c14_x_60 : x_60 = 14
    · have H := HA c14_x_60
      refine g_tabIn (tgt := 598) d_LW_law_33 (by rw [c14_x_60]; decide) (by rw [c14_x_60]; decide) (by rw [c14_x_60]; rfl) (by decide) ?_
      refine g_aload_n d_LW_law_598 rfl ?_
      refine g_aload_n d_LW_law_599 rfl ?_
      refine g_iload_n d_LW_law_600 rfl ?_
      refine g_iconst (v := 1) d_LW_law_601 (by decide) ?_
      refine g_iadd d_LW_law_602 ?_
      obtain ⟨j_359, H⟩ := H
      obtain ⟨z_360, H⟩ := H
      refine g_cald (t := 9) d_LW_law_603 (by decide) z_360.1 z_360.2.1 z_360.2.2 ?_
      refine g_aload_n d_LW_law_604 rfl ?_
      refine g_iload_n d_LW_law_605 rfl ?_
      refine g_iconst (v := 2) d_LW_law_606 (by decide) ?_
      refine g_iadd d_LW_law_607 ?_
      obtain ⟨j_361, H⟩ := H
      obtain ⟨z_362, H⟩ := H
      refine g_cald (t := 9) d_LW_law_608 (by decide) z_362.1 z_362.2.1 z_362.2.2 ?_
      obtain ⟨z_363, H⟩ := H
      obtain ⟨P_364, C_365, H⟩ := H
      obtain ⟨b_369, H⟩ := H
      refine qL_V (As := [.int (kTab G 9 j_359), .int (kTab G 9 j_361)]) (st := []) (nl := 4) d_LW_law_609 v_LW_80 C_365 z_363 rfl (catS_le (Nat.le_of_ble_eq_true rfl)) rfl ⟨by omega, by omega, b_369.1, b_369.2⟩ (fun r_370 h_366 p_367 => ?_)
      obtain ⟨x_368, rfl, p_367⟩ := p_367
      replace H := H x_368 h_366 p_367
      show Go _ _ _ _ [.int x_368] _ _ _
      refine g_aload_n d_LW_law_612 rfl ?_
      refine g_aload_n d_LW_law_613 rfl ?_
      refine g_iload_n d_LW_law_614 rfl ?_
      refine g_iconst (v := 1) d_LW_law_615 (by decide) ?_
      refine g_iadd d_LW_law_616 ?_
      obtain ⟨j_371, H⟩ := H
      obtain ⟨z_372, H⟩ := H
      refine g_cald (t := 9) d_LW_law_617 (by decide) z_372.1 z_372.2.1 z_372.2.2 ?_
      refine g_aload_n d_LW_law_618 rfl ?_
      refine g_iload_n d_LW_law_619 rfl ?_
      refine g_iconst (v := 2) d_LW_law_620 (by decide) ?_
      refine g_iadd d_LW_law_621 ?_
      obtain ⟨j_373, H⟩ := H
      obtain ⟨z_374, H⟩ := H
      refine g_cald (t := 9) d_LW_law_622 (by decide) z_374.1 z_374.2.1 z_374.2.2 ?_
      obtain ⟨z_375, H⟩ := H
      obtain ⟨P_376, C_377, H⟩ := H
      obtain ⟨b_381, H⟩ := H
      refine qL_V (As := [.int (kTab G 9 j_371), .int (kTab G 9 j_373)]) (st := [.int x_368]) (nl := 3) d_LW_law_623 v_LW_83 C_377 z_375 rfl (catS_le (Nat.le_of_ble_eq_true rfl)) rfl ⟨by omega, by omega, b_381.1, b_381.2⟩ (fun r_382 h_378 p_379 => ?_)
      obtain ⟨x_380, rfl, p_379⟩ := p_379
      replace H := H x_380 h_378 p_379
      show Go _ _ _ _ [.int x_380, .int x_368] _ _ _
      obtain ⟨H1, H2⟩ := H
      refine g_icmp_eq (tgt := 714) d_LW_law_626 (by decide) (fun c_383 => ?_) (fun c_383 => ?_)
      · have H := H1 c_383
        refine g_msk [true, true, true, true] ?_
        exact okJ_LW_law_714 hC18 H
      · have H := H2 c_383
        refine g_iconst (v := 0) d_LW_law_629 (by decide) ?_
        obtain ⟨b_384, H⟩ := H
        exact g_lawret d_LW_law_630 b_384.1 b_384.2 H
    obtain ⟨HA, H⟩ := H
    by_cases c15_x_60 : x_60 = 15
    · have H := HA c15_x_60
      refine g_tabIn (tgt := 631) d_LW_law_33 (by rw [c15_x_60]; decide) (by rw [c15_x_60]; decide) (by rw [c15_x_60]; rfl) (by decide) ?_
      refine g_aload_n d_LW_law_631 rfl ?_
      refine g_aload_n d_LW_law_632 rfl ?_
      refine g_iload_n d_LW_law_633 rfl ?_
      refine g_iconst (v := 1) d_LW_law_634 (by decide) ?_
      refine g_iadd d_LW_law_635 ?_
      obtain ⟨j_385, H⟩ := H
      obtain ⟨z_386, H⟩ := H
      refine g_cald (t := 9) d_LW_law_636 (by decide) z_386.1 z_386.2.1 z_386.2.2 ?_
      obtain ⟨z_387, H⟩ := H
      obtain ⟨P_388, C_389, H⟩ := H
      obtain ⟨b_393, H⟩ := H
      refine qL_V (As := [.int (kTab G 9 j_385)]) (st := []) (nl := 3) d_LW_law_637 v_LW_84 C_389 z_387 rfl (catS_le (Nat.le_of_ble_eq_true rfl)) rfl ⟨by omega, by omega, b_393.1, b_393.2⟩ (fun r_394 h_390 p_391 => ?_)
      obtain ⟨y_392, rfl, p_391⟩ := p_391
      replace H := H y_392 h_390 p_391
      show Go _ _ _ _ [.long y_392] _ _ _
      refine g_aload_n d_LW_law_640 rfl ?_
      refine g_aload_n d_LW_law_641 rfl ?_
      refine g_iload_n d_LW_law_642 rfl ?_
      refine g_iconst (v := 1) d_LW_law_643 (by decide) ?_
      refine g_iadd d_LW_law_644 ?_
      obtain ⟨j_395, H⟩ := H
      obtain ⟨z_396, H⟩ := H
      refine g_cald (t := 9) d_LW_law_645 (by decide) z_396.1 z_396.2.1 z_396.2.2 ?_
      obtain ⟨z_397, H⟩ := H
      obtain ⟨P_398, C_399, H⟩ := H
      obtain ⟨b_403, H⟩ := H
      refine qL_V (As := [.int (kTab G 9 j_395)]) (st := [.long y_392]) (nl := 2) d_LW_law_646 v_LW_88 C_399 z_397 rfl (catS_le (Nat.le_of_ble_eq_true rfl)) rfl ⟨by omega, by omega, b_403.1, b_403.2⟩ (fun r_404 h_400 p_401 => ?_)
      obtain ⟨y_402, rfl, p_401⟩ := p_401
      replace H := H y_402 h_400 p_401
      show Go _ _ _ _ [.long y_402, .long y_392] _ _ _
      refine g_lcmp d_LW_law_649 ?_
      obtain ⟨H1, H2⟩ := H
      refine g_if_eq (tgt := 714) d_LW_law_650 (by decide) (fun c_405 => ?_) (fun c_405 => ?_)
      · have H := H1 c_405
        refine g_msk [true, true, true, true] ?_
        exact okJ_LW_law_714 hC18 H
      · have H := H2 c_405
        refine g_iconst (v := 0) d_LW_law_653 (by decide) ?_
        obtain ⟨b_406, H⟩ := H
        exact g_lawret d_LW_law_654 b_406.1 b_406.2 H
    obtain ⟨HA, H⟩ := H
    by_cases c16_x_60 : x_60 = 16
    · have H := HA c16_x_60
      refine g_tabIn (tgt := 655) d_LW_law_33 (by rw [c16_x_60]; decide) (by rw [c16_x_60]; decide) (by rw [c16_x_60]; rfl) (by decide) ?_
      refine g_aload_n d_LW_law_655 rfl ?_
      refine g_aload_n d_LW_law_656 rfl ?_
      refine g_iload_n d_LW_law_657 rfl ?_
      refine g_iconst (v := 1) d_LW_law_658 (by decide) ?_
      refine g_iadd d_LW_law_659 ?_
      obtain ⟨j_407, H⟩ := H
      obtain ⟨z_408, H⟩ := H
      refine g_cald (t := 9) d_LW_law_660 (by decide) z_408.1 z_408.2.1 z_408.2.2 ?_
      obtain ⟨z_409, H⟩ := H
      obtain ⟨P_410, C_411, H⟩ := H
      obtain ⟨b_415, H⟩ := H
      refine qL_V (As := [.int (kTab G 9 j_407)]) (st := []) (nl := 2) d_LW_law_661 v_LW_89 C_411 z_409 rfl (catS_le (Nat.le_of_ble_eq_true rfl)) rfl ⟨by omega, by omega, b_415.1, b_415.2⟩ (fun r_416 h_412 p_413 => ?_)
      obtain ⟨x_414, rfl, p_413⟩ := p_413
      replace H := H x_414 h_412 p_413
      show Go _ _ _ _ [.int x_414] _ _ _
      refine g_aload_n d_LW_law_664 rfl ?_
      refine g_aload_n d_LW_law_665 rfl ?_
      refine g_iload_n d_LW_law_666 rfl ?_
      refine g_iconst (v := 1) d_LW_law_667 (by decide) ?_
      refine g_iadd d_LW_law_668 ?_
      obtain ⟨j_417, H⟩ := H
      obtain ⟨z_418, H⟩ := H
      refine g_cald (t := 9) d_LW_law_669 (by decide) z_418.1 z_418.2.1 z_418.2.2 ?_
      obtain ⟨z_419, H⟩ := H
      obtain ⟨P_420, C_421, H⟩ := H
      obtain ⟨b_425, H⟩ := H
      refine qL_V (As := [.int (kTab G 9 j_417)]) (st := [.int x_414]) (nl := 2) d_LW_law_670 v_LW_92 C_421 z_419 rfl (catS_le (Nat.le_of_ble_eq_true rfl)) rfl ⟨by omega, by omega, b_425.1, b_425.2⟩ (fun r_426 h_422 p_423 => ?_)
      obtain ⟨x_424, rfl, p_423⟩ := p_423
      replace H := H x_424 h_422 p_423
      show Go _ _ _ _ [.int x_424, .int x_414] _ _ _
      obtain ⟨H1, H2⟩ := H
      refine g_icmp_eq (tgt := 714) d_LW_law_673 (by decide) (fun c_427 => ?_) (fun c_427 => ?_)
      · have H := H1 c_427
        refine g_msk [true, true, true, true] ?_
        exact okJ_LW_law_714 hC18 H
      · have H := H2 c_427
        refine g_iconst (v := 0) d_LW_law_676 (by decide) ?_
        obtain ⟨b_428, H⟩ := H
        exact g_lawret d_LW_law_677 b_428.1 b_428.2 H
    obtain ⟨HA, H⟩ := H
    by_cases c17_x_60 : x_60 = 17
    · have H := HA c17_x_60
      refine g_tabIn (tgt := 678) d_LW_law_33 (by rw [c17_x_60]; decide) (by rw [c17_x_60]; decide) (by rw [c17_x_60]; rfl) (by decide) ?_
      refine g_aload_n d_LW_law_678 rfl ?_
      refine g_aload_n d_LW_law_679 rfl ?_
      refine g_iload_n d_LW_law_680 rfl ?_
      refine g_iconst (v := 1) d_LW_law_681 (by decide) ?_
      refine g_iadd d_LW_law_682 ?_
      obtain ⟨j_429, H⟩ := H
      obtain ⟨z_430, H⟩ := H
      refine g_cald (t := 9) d_LW_law_683 (by decide) z_430.1 z_430.2.1 z_430.2.2 ?_
      obtain ⟨z_431, H⟩ := H
      obtain ⟨P_432, C_433, H⟩ := H
      obtain ⟨b_437, H⟩ := H
      refine qL_V (As := [.int (kTab G 9 j_429)]) (st := []) (nl := 2) d_LW_law_684 v_LW_93 C_433 z_431 rfl (catS_le (Nat.le_of_ble_eq_true rfl)) rfl ⟨by omega, by omega, b_437.1, b_437.2⟩ (fun r_438 h_434 p_435 => ?_)
      obtain ⟨x_436, rfl, p_435⟩ := p_435
      replace H := H x_436 h_434 p_435
      show Go _ _ _ _ [.int x_436] _ _ _
      refine g_aload_n d_LW_law_687 rfl ?_
      refine g_aload_n d_LW_law_688 rfl ?_
      refine g_iload_n d_LW_law_689 rfl ?_
      refine g_iconst (v := 1) d_LW_law_690 (by decide) ?_
      refine g_iadd d_LW_law_691 ?_
      obtain ⟨j_439, H⟩ := H
      obtain ⟨z_440, H⟩ := H
      refine g_cald (t := 9) d_LW_law_692 (by decide) z_440.1 z_440.2.1 z_440.2.2 ?_
      obtain ⟨z_441, H⟩ := H
      obtain ⟨P_442, C_443, H⟩ := H
      obtain ⟨b_447, H⟩ := H
      refine qL_V (As := [.int (kTab G 9 j_439)]) (st := [.int x_436]) (nl := 2) d_LW_law_693 v_LW_96 C_443 z_441 rfl (catS_le (Nat.le_of_ble_eq_true rfl)) rfl ⟨by omega, by omega, b_447.1, b_447.2⟩ (fun r_448 h_444 p_445 => ?_)
      obtain ⟨x_446, rfl, p_445⟩ := p_445
      replace H := H x_446 h_444 p_445
      show Go _ _ _ _ [.int x_446, .int x_436] _ _ _
      obtain ⟨H1, H2⟩ := H
      refine g_icmp_eq (tgt := 714) d_LW_law_696 (by decide) (fun c_449 => ?_) (fun c_449 => ?_)
      · have H := H1 c_449
        refine g_msk [true, true, true, true] ?_
        exact okJ_LW_law_714 hC18 H
      · have H := H2 c_449
        refine g_iconst (v := 0) d_LW_law_699 (by decide) ?_
        obtain ⟨b_450, H⟩ := H
        exact g_lawret d_LW_law_700 b_450.1 b_450.2 H
    obtain ⟨HA, H⟩ := H
    by_cases c18_x_60 : x_60 = 18
    · have H := HA c18_x_60
      refine g_tabIn (tgt := 701) d_LW_law_33 (by rw [c18_x_60]; decide) (by rw [c18_x_60]; decide) (by rw [c18_x_60]; rfl) (by decide) ?_
      refine g_aload_n d_LW_law_701 rfl ?_
      obtain ⟨z_451, H⟩ := H
      obtain ⟨P_452, C_453, H⟩ := H
      obtain ⟨b_457, H⟩ := H
      refine qL_V (As := []) (st := []) (nl := 1) d_LW_law_702 v_LW_97 C_453 z_451 rfl (catS_le (Nat.le_of_ble_eq_true rfl)) rfl ⟨by omega, by omega, b_457.1, b_457.2⟩ (fun r_458 h_454 p_455 => ?_)
      obtain ⟨x_456, rfl, p_455⟩ := p_455
      replace H := H x_456 h_454 p_455
      show Go _ _ _ _ [.int x_456] _ _ _
      refine g_aload_n d_LW_law_705 rfl ?_
      obtain ⟨z_459, H⟩ := H
      obtain ⟨P_460, C_461, H⟩ := H
      obtain ⟨b_465, H⟩ := H
      refine qL_V (As := []) (st := [.int x_456]) (nl := 1) d_LW_law_706 v_LW_100 C_461 z_459 rfl (catS_le (Nat.le_of_ble_eq_true rfl)) rfl ⟨by omega, by omega, b_465.1, b_465.2⟩ (fun r_466 h_462 p_463 => ?_)
      obtain ⟨x_464, rfl, p_463⟩ := p_463
      replace H := H x_464 h_462 p_463
      show Go _ _ _ _ [.int x_464, .int x_456] _ _ _
      obtain ⟨H1, H2⟩ := H
      refine g_icmp_eq (tgt := 714) d_LW_law_709 (by decide) (fun c_467 => ?_) (fun c_467 => ?_)
      · have H := H1 c_467
        refine g_msk [true, true, true, true] ?_
        exact okJ_LW_law_714 hC18 H
      · have H := H2 c_467
        refine g_iconst (v := 0) d_LW_law_712 (by decide) ?_
        obtain ⟨b_468, H⟩ := H
        exact g_lawret d_LW_law_713 b_468.1 b_468.2 H
    replace H := H c0_x_60 c1_x_60 c2_x_60 c3_x_60 c4_x_60 c5_x_60 c6_x_60 c7_x_60 c8_x_60 c9_x_60 c10_x_60 c11_x_60 c12_x_60 c13_x_60 c14_x_60 c15_x_60 c16_x_60 c17_x_60 c18_x_60
    refine g_tabOut (tgt := 714) d_LW_law_33 (by
      have u0 := lv_neT c0_x_60 (show (0 : Int32).toInt = 0 by decide)
      have u1 := lv_neT c1_x_60 (show (1 : Int32).toInt = 1 by decide)
      have u2 := lv_neT c2_x_60 (show (2 : Int32).toInt = 2 by decide)
      have u3 := lv_neT c3_x_60 (show (3 : Int32).toInt = 3 by decide)
      have u4 := lv_neT c4_x_60 (show (4 : Int32).toInt = 4 by decide)
      have u5 := lv_neT c5_x_60 (show (5 : Int32).toInt = 5 by decide)
      have u6 := lv_neT c6_x_60 (show (6 : Int32).toInt = 6 by decide)
      have u7 := lv_neT c7_x_60 (show (7 : Int32).toInt = 7 by decide)
      have u8 := lv_neT c8_x_60 (show (8 : Int32).toInt = 8 by decide)
      have u9 := lv_neT c9_x_60 (show (9 : Int32).toInt = 9 by decide)
      have u10 := lv_neT c10_x_60 (show (10 : Int32).toInt = 10 by decide)
      have u11 := lv_neT c11_x_60 (show (11 : Int32).toInt = 11 by decide)
      have u12 := lv_neT c12_x_60 (show (12 : Int32).toInt = 12 by decide)
      have u13 := lv_neT c13_x_60 (show (13 : Int32).toInt = 13 by decide)
      have u14 := lv_neT c14_x_60 (show (14 : Int32).toInt = 14 by decide)
      have u15 := lv_neT c15_x_60 (show (15 : Int32).toInt = 15 by decide)
      have u16 := lv_neT c16_x_60 (show (16 : Int32).toInt = 16 by decide)
      have u17 := lv_neT c17_x_60 (show (17 : Int32).toInt = 17 by decide)
      have u18 := lv_neT c18_x_60 (show (18 : Int32).toInt = 18 by decide)
      omega) (by decide) ?_
    refine g_msk [true, true, true, true] ?_
    exact okJ_LW_law_714 hC18 H
set_option maxRecDepth 100000 in
set_option maxHeartbeats 4000000 in
def wL_LW_law_18 (G : Gx) (l : Launch) (q1 : Nat) (q2 : Nat) (x3 : Int32) (h : Hp) (k n : Nat) : Prop := ∃ (I : Int32 → Hp → Nat → Nat → Prop) (μ : Int32 → Hp → Nat → Nat → Nat), I x3 h k n ∧ ∀ (x3' : Int32) (h' : Hp) (k' n' : Nat), I x3' h' k' n' → wB_LW_law_18 G l (fun x3_ h_ k_ n_ => I x3_ h_ k_ n_ ∧ μ x3_ h_ k_ n_ < μ x3' h' k' n') q1 q2 x3' h' k' n'
set_option maxRecDepth 100000 in
set_option maxHeartbeats 4000000 in
theorem okL_LW_law_18 {G : Gx} {l : Launch} {p : Program} {e : Env} {m : MethodId} {b : Nat} {below : List Frame} {meth : Method} {c : Code} {q1 : Nat} {q2 : Nat} {x3 : Int32} {h : Hp} {k n : Nat} (H : wL_LW_law_18 G l  q1 q2 x3 h k n) : Go M_LW_law (XL G p l e m b below meth c) 18 [some (.ref (gK G 9)), some (.ref q1), some (.ref q2), some (.int x3)] [] h k n := by
  obtain ⟨I, μ, h0, hs⟩ := H
  have key : ∀ (N : Nat) (x3 : Int32) (h : Hp) (k n : Nat), I x3 h k n → μ x3 h k n < N → Go M_LW_law (XL G p l e m b below meth c) 18 [some (.ref (gK G 9)), some (.ref q1), some (.ref q2), some (.int x3)] [] h k n := by
    intro N
    induction N with
    | zero => intro x3 h k n _ hN; exact absurd hN (Nat.not_lt_zero _)
    | succ N ih =>
      intro x3 h k n hI hN
      exact okB_LW_law_18 (fun x3_ h_ k_ n_ hh => ih x3_ h_ k_ n_ hh.1 (Nat.lt_of_lt_of_le hh.2 (Nat.le_of_lt_succ hN))) (hs x3 h k n hI)
  exact key _ _ _ _ _ h0 (Nat.lt_succ_self _)
set_option maxRecDepth 100000 in
set_option maxHeartbeats 4000000 in
def wp_LW_law (G : Gx) (l : Launch)  (h : Hp) : Prop := (0 + 1 ≤ 600000 ∧ 0 + 6 ≤ 7302250) ∧ (∀ q_469 : Nat, Fre h q_469 → ∃ mc_477 : Nat, ∃ ms_478 : Nat, ∃ P_472 : Hp → Prop, (Cv G l M_SC_init 6 121 [.ref q_469] (pN h q_469 (10, 0)) mc_477 ms_478 P_472) ∧ (((0 + 1) + mc_477 ≤ 600000 ∧ (0 + 6) + ms_478 ≤ 7302250) ∧ (∀ h_474 : Hp, P_472 h_474 → (((0 + 1) + mc_477) + 1 ≤ 600000 ∧ ((0 + 6) + ms_478) + 41 ≤ 7302250) ∧ (∀ q_481 : Nat, Fre h_474 q_481 → ∃ mc_489 : Nat, ∃ ms_490 : Nat, ∃ P_484 : Hp → Prop, (Cv G l M_MO_init 1 20 [.ref q_481] (pN h_474 q_481 (18, 0)) mc_489 ms_490 P_484) ∧ (((((0 + 1) + mc_477) + 1) + mc_489 ≤ 600000 ∧ (((0 + 6) + ms_478) + 41) + ms_490 ≤ 7302250) ∧ (∀ h_486 : Hp, P_484 h_486 → wL_LW_law_18 G l q_469 q_481 0 h_486 ((((0 + 1) + mc_477) + 1) + mc_489) ((((0 + 6) + ms_478) + 41) + ms_490)))))))
set_option maxRecDepth 100000 in
set_option maxHeartbeats 4000000 in
theorem ok_LW_law {G : Gx} {l : Launch} {p : Program} {e : Env} {m : MethodId} {b : Nat} {below : List Frame} {meth : Method} {c : Code} {h : Hp} (H : wp_LW_law G l h) : Go M_LW_law (XL G p l e m b below meth c) 0 [some (.ref (gK G 9)), none, none, none] [] h 0 0 := by
  unfold wp_LW_law at H
  obtain ⟨b_470, H⟩ := H
  refine g_new d_LW_law_0 (ci := 0) rfl k_LW_7 kI_0 kJ_0 b_470.1 b_470.2 (fun q_469 Fq_469 => ?_)
  replace H := H q_469 Fq_469
  have z_471 : hS (pN h q_469 (10, 0)) q_469 = some (10, 0) := Fre.new
  refine g_dup d_LW_law_3 rfl ?_
  obtain ⟨mc_477, H⟩ := H
  obtain ⟨ms_478, H⟩ := H
  obtain ⟨P_472, C_473, H⟩ := H
  obtain ⟨b_479, H⟩ := H
  refine qL_I (As := []) (st := [.ref q_469]) (nl := 2) d_LW_law_4 v_LW_9 C_473 rfl (catS_le (Nat.le_of_ble_eq_true rfl)) rfl ⟨by omega, by omega, b_479.1, b_479.2⟩ (fun r_480 h_474 p_475 => ?_)
  obtain ⟨rfl, p_475⟩ := p_475
  replace H := H h_474 p_475
  show Go _ _ _ _ [.ref q_469] _ _ _
  refine g_astore_n (lv' := [some (.ref (gK G 9)), some (.ref q_469), none, none]) d_LW_law_7 (by decide) rfl ?_
  obtain ⟨b_482, H⟩ := H
  refine g_new d_LW_law_8 (ci := 8) rfl k_LW_10 kI_8 kJ_8 b_482.1 b_482.2 (fun q_481 Fq_481 => ?_)
  replace H := H q_481 Fq_481
  have z_483 : hS (pN h_474 q_481 (18, 0)) q_481 = some (18, 0) := Fre.new
  refine g_dup d_LW_law_11 rfl ?_
  obtain ⟨mc_489, H⟩ := H
  obtain ⟨ms_490, H⟩ := H
  obtain ⟨P_484, C_485, H⟩ := H
  obtain ⟨b_491, H⟩ := H
  refine qL_I (As := []) (st := [.ref q_481]) (nl := 1) d_LW_law_12 v_LW_12 C_485 rfl (catS_le (Nat.le_of_ble_eq_true rfl)) rfl ⟨by omega, by omega, b_491.1, b_491.2⟩ (fun r_492 h_486 p_487 => ?_)
  obtain ⟨rfl, p_487⟩ := p_487
  replace H := H h_486 p_487
  show Go _ _ _ _ [.ref q_481] _ _ _
  refine g_astore_n (lv' := [some (.ref (gK G 9)), some (.ref q_469), some (.ref q_481), none]) d_LW_law_15 (by decide) rfl ?_
  refine g_iconst (v := 0) d_LW_law_16 (by decide) ?_
  refine g_istore_n (lv' := [some (.ref (gK G 9)), some (.ref q_469), some (.ref q_481), some (.int 0)]) d_LW_law_17 (by decide) rfl ?_
  refine g_msk [true, true, true, true] ?_
  exact okL_LW_law_18 H
