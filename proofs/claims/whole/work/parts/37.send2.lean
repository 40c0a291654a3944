/-! a row is sent up -/
theorem gs_lt {cs gs : List Nat} (hg : cs.map fm = gs.map some) (j : Nat) : gs.getD j 0 < 256 := by
  rcases Nat.lt_or_ge j gs.length with z | z
  · have h1 : (gs.map some)[j]? = some (some gs[j]) := by simp [z]
    rw [← hg] at h1
    rw [List.getElem?_map] at h1
    rw [List.getD_eq_getElem?_getD, List.getElem?_eq_getElem z]
    cases hc : cs[j]? with
    | none => rw [hc] at h1; cases h1
    | some c =>
      rw [hc] at h1
      exact fm_lt (Option.some.inj h1)
  · rw [List.getD_eq_getElem?_getD, List.getElem?_eq_none z]
    decide
theorem subB_len {kind mn to val len : Nat} {hd : List Nat} (hh : hd.length ≤ (7 * len + 7) / 8) : (subB kind mn to val len hd).length = 5 + (adr to).length + (1 + (7 * len + 7) / 8) := by
  unfold subB
  simp only [List.length_append, List.length_cons, List.length_nil, zs_len]
  omega
section SU
variable {G : Gx} {l : Launch} {d w : Nat} {own own' : Nat → Tg} {h h' : Hp} {D : Nat → Nat} {x : Nat} {S : SS}
theorem sendUp_row {mc ms c0 n0 k to val kind parts i0 j0 pi len : Nat} {gs : List Nat} {P : Hp → Prop} {C6 : Int32 → Int32 → Hp → Nat → Nat → Prop} {sx0 sx1 : Int32} (C : CS G own h D x S) (hmn : dMn (S.1 k) < 256) (hrf : dRef (S.1 k) < 256) (hk : k < 4) (t1 : 1 ≤ to) (t2 : to < 1000000000000) (hv : val < 256) (hkd : kind < 256) (hg : S.2.2.1.map fm = gs.map some) (hij : i0 ≤ j0) (hj : j0 ≤ gs.length) (hp1 : 1 ≤ parts) (hp3 : parts ≤ 3) (hpi : pi < 256) (hup : S.2.1.length < 8) (hlen : len = sumS ((gs.drop i0).take (j0 - i0)) + (if parts = 1 then 0 else 7)) (hl : len ≤ 160) (hmc : c0 + 3 ≤ mc) (hms : n0 + 557 ≤ ms) (hsx : sx1 + sx0 = nI len) (hC : ∀ own' h' c n, CS G own' h' D x (updD S.1 k (setMn (S.1 k) ((dMn (S.1 k) + 1) % 256)), S.2.1 ++ [(k, subR kind (dMn (S.1 k)) to val (hdS (dRef (S.1 k)) parts pi) (((gs.drop i0).take (j0 - i0)).flatMap fsep))], S.2.2) → FT own h h' T0 → Ey own own' h → c ≤ c0 + 3 → n ≤ n0 + 557 → ∀ y, y = nI pi + 1 → C6 (nI j0) y h' c n) : wJ_SC_sendUp_63 G l d w mc ms P C6 x (D k) (lN to) (nI val) (nI kind) (nI parts) (nI i0) (nI pi) (nI j0) sx0 sx1 h c0 n0 := by
  obtain ⟨u, ml, pl, C1, U, M, V⟩ := C.split
  have C1' := C1
  obtain ⟨⟨c1, c2, c3⟩, c4, c8, ⟨da, db, c10, c11, c12, c13⟩, c14, c15⟩ := C1
  rw [hg] at c11
  have Vk := V k hk
  have Vk0 := Vk
  obtain ⟨v1, v2, v3, v4, v5, v6, v7, v8, v9, v10, v11, tx, v15, v16, v17, v18⟩ := Vk
  have hal := adr_len to
  have hnd := (nd_ok t1 t2).2.1
  have hgl := gs_lt hg
  unfold wJ_SC_sendUp_63
  rw [hsx]
  rintro _ rfl
  refine ⟨by omega, fun q F => ⟨_, c_Ro_submitSize t1 t2 (by omega), by omega, ?_⟩⟩
  rintro _ _ ⟨rfl, rfl⟩
  refine ⟨1, 5 + (adr to).length + (1 + (7 * len + 7) / 8), _, c_Ro_init (o := some (D k)) Fre.new (by show hI h q 1 = 0; exact F.2.1 1) (by omega), by omega, ?_⟩
  rintro h1 ⟨b, Fb, e1, B⟩
  have nqb : q ≠ b := fun z => by have := Fb.1; rw [← z, Fre.new] at this; cases this
  have Sm1 : ∀ y kd, hS h y = some kd → Same h h1 y := fun y kd hy => by
    have nq := F.ne hy
    have nb := Fb.ne (F.old (kd := (15, 0)) hy)
    rw [e1]
    exact (((same_pN nq).trans (same_pN nb)).trans (same_pR nq)).trans (same_pR nq)
  have fb : hS h b = none := by
    have := Fb.1
    rw [show hS (pN h q (15, 0)) b = hS h b from (same_pN (fun z => nqb z.symm)).1] at this
    exact this
  have sD := Sm1 (D k) _ v1
  have v1' : hS h1 (D k) = some (14, 0) := by rw [sD.1]; exact v1
  have v6' : hI h1 (D k) 5 = nI (dMn (S.1 k)) := by rw [sD.2.1]; exact v6
  have nDq := F.ne v1
  have nDb := Fb.ne (F.old (kd := (15, 0)) v1)
  refine ⟨v1', _, ok_De_nextMessageNumber (P := fun r h' => r = nI (dMn (S.1 k)) ∧ h' = pI h1 (D k) 5 (nI ((dMn (S.1 k) + 1) % 256))) ⟨v1', fun y hy => ⟨by rw [hy]; exact v6', ?_⟩⟩, by omega, ?_⟩
  · rw [v6', nI_1, show (256 : Int32) = nI 256 from rfl, pk_rem (by omega) (by decide) (by decide)]
  rintro _ _ ⟨rfl, rfl⟩
  generalize hh2 : pI h1 (D k) 5 (nI ((dMn (S.1 k) + 1) % 256)) = h2
  have B2 : RB h2 q b (zs (5 + (adr to).length + (1 + (7 * len + 7) / 8))) 0 := by
    obtain ⟨b1, b2, b3⟩ := B
    refine ⟨b1.kept (by rw [← hh2]; rfl) (by rw [← hh2]; rfl) (by rw [← hh2]; rfl) ?_, ?_, b3⟩
    · rw [← hh2]
      exact up2_off _ _ _ (fun z => nDb z.symm)
    · rw [← hh2, hI_pI_ne (fun z => nDq z.1.symm)]
      exact b2
  -- the cells of before, in the heap of now
  have Sm2 : ∀ y kd, hS h y = some kd → y ≠ D k → Same h h2 y := fun y kd hy ny => by
    rw [← hh2]
    exact (Sm1 y kd hy).trans (same_pI ny)
  refine ⟨B2.1.1, _, c_RB_putSubmitHead (m := 1 + (7 * len + 7) / 8) hkd hmn t1 t2 hv (by
    have := B2.fst
    rw [show 5 + (adr to).length + (1 + (7 * len + 7) / 8) = 1 + (7 * len + 7) / 8 + (5 + (adr to).length) by omega] at this
    exact this), by omega, ?_⟩
  rintro h3 ⟨B3, W3⟩
  refine ⟨B3.1.1, _, c_RB_put2 (m := (7 * len + 7) / 8) (by omega) B3 (by omega), by omega, ?_⟩
  rintro h4 ⟨B4, W4⟩
  have W := W3.trans W4
  have last : ∀ (hd : List Nat) (h5 : Hp), Wr h2 h5 q b → hd = hdS (dRef (S.1 k)) parts pi → RB h5 q b ((([] ++ ([kind, dMn (S.1 k)] ++ adr to ++ [0, 0, val]) ++ [len]) ++ hd) ++ zs ((7 * len + 7) / 8 - hd.length)) ((([] ++ ([kind, dMn (S.1 k)] ++ adr to ++ [0, 0, val]) ++ [len]) ++ hd)).length → wJ_SC_sendUp_122 G l d w mc ms P C6 x (D k) (lN to) (nI val) (nI kind) (nI parts) (nI i0) (nI pi) (nI j0) (nI len) q h5 (c0 + 1 + 1) (n0 + 3 + (5 + (adr to).length + (1 + (7 * len + 7) / 8))) := by
    intro hd h5 W5 hhd B5
    have Bs : RB h5 q b (subB kind (dMn (S.1 k)) to val len hd) ((([] ++ ([kind, dMn (S.1 k)] ++ adr to ++ [0, 0, val]) ++ [len]) ++ hd)).length := B5
    have hsl : (subB kind (dMn (S.1 k)) to val len hd).length = 5 + (adr to).length + (1 + (7 * len + 7) / 8) := by
      refine subB_len ?_
      rw [hhd]
      unfold hdS
      split
      · simp
      · rename_i c
        rw [if_neg c] at hlen
        simp only [List.length_cons, List.length_nil]
        omega
    have Sm5 : ∀ y kd, hS h y = some kd → y ≠ D k → Same h h5 y := fun y kd hy ny => by
      have nq := F.ne hy
      have nb := Fb.ne (F.old (kd := (15, 0)) hy)
      exact (Sm2 y kd hy ny).trans ⟨by rw [W5.1], W5.2.2.2 y nq nb, by rw [W5.2.1], by rw [W5.2.2.1]⟩
    have nx : x ≠ D k := fun z => by rw [z, v1] at c1; cases c1
    have sx := Sm5 x _ c1 nx
    have na : da ≠ D k := fun z => by have := c11.1; rw [z, v1] at this; cases this
    have nb' : db ≠ D k := fun z => by have := c11.2.2.1; rw [z, v1] at this; cases this
    have sda' := Sm5 da _ c11.1 na
    have sdb := Sm5 db _ c11.2.2.1 nb'
    have D5 : DrA h5 da db (gs.map some) := by
      obtain ⟨a1, a2, a3, a4, a5, a6⟩ := c11
      exact ⟨by rw [sda'.1]; exact a1, by rw [sda'.2.2.2]; exact a2, by rw [sdb.1]; exact a3, by rw [sda'.2.1]; exact a4, a5, fun j hj => by rw [sdb.2.1]; exact a6 j hj⟩
    unfold wJ_SC_sendUp_122
    refine ⟨by rw [sx.1]; exact c1, da, by rw [sx.2.2.2]; exact c10, D5.1, _, c_Dr_pack D5 hgl Bs (F.ne c11.1) (Fb.ne (F.old (kd := (15, 0)) c11.1)) (F.ne c11.2.2.1) (Fb.ne (F.old (kd := (15, 0)) c11.2.2.1)) (by omega) hij hj, by omega, ?_⟩
    rintro h6 ⟨B6, W6⟩
    have W6' := W5.trans W6
    have hrow : mrgL (subB kind (dMn (S.1 k)) to val len hd) (8 + (bt (subB kind (dMn (S.1 k)) to val len hd) 2 + 1) / 2) (fbit (subB kind (dMn (S.1 k)) to val len hd)) (((gs.drop i0).take (j0 - i0)).flatMap fsep) = subR kind (dMn (S.1 k)) to val (hdS (dRef (S.1 k)) parts pi) (((gs.drop i0).take (j0 - i0)).flatMap fsep) := by
      unfold subR
      rw [flat_len, ← hhd]
      have : sumS ((gs.drop i0).take (j0 - i0)) + (if hd.length = 0 then 0 else 7) = len := by
        rw [hlen, hhd]
        unfold hdS
        split <;> simp
      rw [this]
    rw [hrow] at B6
    have Sm6 : ∀ y kd, hS h y = some kd → y ≠ D k → Same h h6 y := fun y kd hy ny => by
      have nq := F.ne hy
      have nb := Fb.ne (F.old (kd := (15, 0)) hy)
      exact (Sm2 y kd hy ny).trans ⟨by rw [W6'.1], W6'.2.2.2 y nq nb, by rw [W6'.2.1], by rw [W6'.2.2.1]⟩
    have hS6 : hS h6 (D k) = hS h (D k) := by rw [W6'.1, ← hh2]; exact sD.1
    have hL6 : hL h6 (D k) = hL h (D k) := by rw [W6'.2.1, ← hh2]; exact sD.2.2.1
    have hR6 : hR h6 (D k) = hR h (D k) := by rw [W6'.2.2.1, ← hh2]; exact sD.2.2.2
    have hI6 : ∀ j, j ≠ 5 → hI h6 (D k) j = hI h (D k) j := fun j hj => by
      rw [W6'.2.2.2 _ nDq nDb, ← hh2, hI_pI_ne (fun z => hj z.2), sD.2.1]
    have hI65 : hI h6 (D k) 5 = nI ((dMn (S.1 k) + 1) % 256) := by rw [W6'.2.2.2 _ nDq nDb, ← hh2, hI_pI_eq]
    have F6 : FT own h h6 (fun t => t = (8, k)) := by
      refine ⟨fun y hy => ?_, fun y hy ny => ?_⟩
      · obtain ⟨kd, hkd⟩ := Option.ne_none_iff_exists'.mp hy
        by_cases z : y = D k
        · rw [z]; exact hS6
        · exact (Sm6 y kd hkd z).1
      · obtain ⟨kd, hkd⟩ := Option.ne_none_iff_exists'.mp hy
        exact Sm6 y kd hkd (fun z => ny (by show own y = (8, k); rw [z]; exact v2))
    have E6 : Ey own (ow (ow own q (10, 0)) b (12, q)) h := fun y hy => by
      rw [ow_ne (fun z => hy (by rw [z]; exact fb)), ow_ne (fun z => hy (by rw [z]; exact F.1))]
    generalize hown : ow (ow own q (10, 0)) b (12, q) = own6 at *
    have o6b : own6 b = (12, q) := by rw [← hown, ow_eq]
    have o6q : own6 q = (10, 0) := by rw [← hown, ow_ne nqb, ow_eq]
    have nb8 : NB own (fun t => t = (8, k)) := ⟨by simp, fun a _ => by simp⟩
    have V6 : DV G own6 h6 D k (setMn (S.1 k) ((dMn (S.1 k) + 1) % 256)) := by
      obtain ⟨i, w1, w2⟩ := v9
      obtain ⟨r, w3, w4⟩ := v10
      obtain ⟨p, w5, w6⟩ := v11
      have st := Sm6 tx _ v16 (fun z => by rw [z, v1] at v16; cases v16)
      exact ⟨by rw [hS6]; exact v1, E6.at v1 v2, by rw [hL6]; exact v3, by rw [hI6 1 (by decide)]; exact v4, by rw [hI6 4 (by decide)]; exact v5, hI65, by rw [hI6 8 (by decide)]; exact v7, by rw [hL6]; exact v8, ⟨i, by rw [hR6]; exact w1, w2.kept F6 E6.ex nb8 (by simp) (by simp) (by simp)⟩, ⟨r, by rw [hR6]; exact w3, w4.kept F6 E6.ex nb8 (by simp) (by simp) (by simp)⟩, ⟨p, by rw [hR6]; exact w5, w6.kept F6 E6.ex nb8 (by simp) (by simp) (by simp) (by simp <;> omega)⟩, tx, by rw [hR6]; exact v15, by rw [st.1]; exact v16, E6.at v16 v17, fun j hj => by rw [st.2.1]; exact v18 j hj⟩
    have C7 := C1'.kept F6 E6.ex (by simp) (by simp) (by simp) (by simp)
    have M7 := M.kept F6 E6.ex nb8 ⟨by simp, by simp⟩ ⟨by simp, by simp⟩ (by simp)
    have V7 : ∀ j, j < 4 → DV G own6 h6 D j (updD S.1 k (setMn (S.1 k) ((dMn (S.1 k) + 1) % 256)) j) := fun j hj => by
      by_cases z : j = k
      · subst z
        rw [updD_eq]
        exact V6
      · rw [updD_ne z]
        exact (V j hj).kept F6 E6.ex nb8 (by simp [z]) (by simp) ⟨by simp, by simp⟩ ⟨by simp, by simp, by simp⟩ ⟨by simp, by simp, by simp⟩ (by simp) (by simp <;> omega)
    obtain ⟨ps, A0, e7, nd7, r0⟩ := U
    have A7 := A0.kept F6 E6.ex (by simp) (by simp) (by simp)
    have r7 : ∀ p ∈ ps, Rw h6 p.1 p.2.1 p.2.2.2 ∧ own6 p.1 = (10, 0) ∧ own6 p.2.1 = (12, p.1) ∧ p.2.2.1 < 4 ∧ hR h6 p.1 2 = some (D p.2.2.1) := fun p hp => by
      obtain ⟨t1, t2, t3, t4, t5⟩ := r0 p hp
      have sq := F6.kp t1.1 t2 (by simp)
      exact ⟨t1.same sq (F6.kp t1.2.2.1 t3 (by simp)), E6.at t1.1 t2, E6.at t1.2.2.1 t3, t4, by rw [sq.2.2.2]; exact t5⟩
    have hpl : ps.length = S.2.1.length := by
      have := congrArg List.length e7
      simpa using this.symm
    refine ⟨C7.1.1, u, C7.2.2.1, A7.1, 1, 400, _, c_LA_append A7 (by rw [List.length_map]; omega) B6.1.1, by omega, ?_⟩
    rintro h7 ⟨⟨own7, A8, F7, E7⟩, kf7⟩
    have nb7 : NB own6 (t45 0) := ⟨by simp [t45], fun a _ => by simp [t45]⟩
    have hq2 : hR h6 q 2 = some (D k) := by
      rw [W6'.2.2.1, ← hh2]
      show hR h1 q 2 = _
      rw [e1]
      exact hR_pR_eq
    have U8 : UP G own7 h7 D u (S.2.1 ++ [(k, subR kind (dMn (S.1 k)) to val (hdS (dRef (S.1 k)) parts pi) (((gs.drop i0).take (j0 - i0)).flatMap fsep))]) := by
      refine ⟨ps ++ [(q, b, k, subR kind (dMn (S.1 k)) to val (hdS (dRef (S.1 k)) parts pi) (((gs.drop i0).take (j0 - i0)).flatMap fsep))], by simpa using A8, by rw [List.map_append]; congr 1, ?_, fun p hp => ?_⟩
      · rw [List.map_append, List.nodup_append]
        refine ⟨nd7, by simp, ?_⟩
        intro y hy z hz yz
        simp only [List.map_cons, List.map_nil, List.mem_singleton] at hz
        obtain ⟨p, hp, rfl⟩ := List.mem_map.mp hy
        have := (r0 p hp).1.1
        rw [yz, hz, F.1] at this
        cases this
      · rcases List.mem_append.mp hp with z | z
        · obtain ⟨t1, t2, t3, t4, t5⟩ := r7 p z
          have sq := F7.kp t1.1 t2 (by simp [t45])
          exact ⟨t1.same sq (F7.kp t1.2.2.1 t3 (by simp [t45])), E7.at t1.1 t2, E7.at t1.2.2.1 t3, t4, by rw [sq.2.2.2]; exact t5⟩
        · rw [List.mem_singleton] at z
          rw [z]
          have sq := F7.kp B6.1.1 o6q (by simp [t45])
          exact ⟨B6.1.same sq (F7.kp B6.1.2.2.1 o6b (by simp [t45])), E7.at B6.1.1 o6q, E7.at B6.1.2.2.1 o6b, hk, by rw [sq.2.2.2]; exact hq2⟩
    have C8 := C7.kept F7 E7.ex (by simp [t45]) (by simp [t45]) (by simp [t45]) (by simp [t45])
    have M8 := M7.kept F7 E7.ex nb7 ⟨by simp [t45], by simp [t45]⟩ ⟨by simp [t45], by simp [t45]⟩ (by simp [t45])
    have V8 : ∀ j, j < 4 → DV G own7 h7 D j (updD S.1 k (setMn (S.1 k) ((dMn (S.1 k) + 1) % 256)) j) := fun j hj => (V7 j hj).kept F7 E7.ex nb7 (by simp [t45]) (by simp [t45]) ⟨by simp [t45], by simp [t45]⟩ ⟨by simp [t45] <;> omega, by simp [t45] <;> omega, by simp [t45] <;> omega⟩ ⟨by simp [t45] <;> omega, by simp [t45] <;> omega, by simp [t45] <;> omega⟩ (by simp [t45]) (by simp [t45] <;> omega)
    have F67 : FT own h h7 T0 := (F6.mono (fun t z => by rw [z]; simp [T0])).trans (F7.mono (t45_mono (by simp [T0]) (by simp [T0]))) E6
    exact hC own7 h7 _ _ (CS.join C8 U8 M8 V8) F67 (E6.trans E7 F6.1) (by omega) (by omega)
  rw [leL (by omega) (by decide)]
  refine ⟨fun c => ?_, fun c => ⟨by rw [W.1, ← hh2]; exact v1', B4.1.1, ?_⟩⟩
  · refine last [] h4 W (by unfold hdS; rw [if_pos (by omega)]) ?_
    rw [List.append_nil, List.length_nil, Nat.sub_zero]
    exact B4
  · have hp1' : ¬ parts = 1 := by omega
    rw [if_neg hp1'] at hlen
    have e4 : hI h4 (D k) 4 = nI (dRef (S.1 k)) := by
      rw [W.2.2.2 _ nDq nDb, ← hh2, hI_pI_ne (by omega), sD.2.1]
      exact v5
    rw [e4]
    refine ⟨_, c_RB_putHeader (m := (7 * len + 7) / 8 - 6) hrf (by omega) hpi (by
      rw [show (7 * len + 7) / 8 = (7 * len + 7) / 8 - 6 + 6 by omega] at B4
      exact B4), by omega, ?_⟩
    rintro h5 ⟨B5, W5⟩
    exact last [5, 0, 3, dRef (S.1 k), parts, pi] h5 (W.trans W5) (by unfold hdS; rw [if_neg hp1']) B5
end SU
