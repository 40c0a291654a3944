/-! the reference's side -/
section MM
variable {G : Gx} {l : Launch} {d w : Nat} {A : Nat → Nat} {h h' : Hp} {F : List Nat} {S : SS}
/-- what is only used on the way -/
theorem MR.scr (R : MR A h S) (F0 : Mf A [2, 3, 11, 12] h h') : MQr A h S h' := by
  obtain ⟨M, r1, r2, r3, r4, r5, r6, r7, r8, r9⟩ := R
  exact ⟨⟨F0.ma M, r1.kept F0 M.j (by decide) (by decide), r2.kept F0 M.j (fun _ _ => ⟨rfl, rfl⟩) (by decide) (by decide), r3.kept F0 M.j (fun _ _ => ⟨rfl, rfl⟩) (by decide) (by decide), r4.kept F0 M.j (fun _ _ => ⟨rfl, rfl⟩) (by decide) (by decide) (by decide), r5.kept F0 M.j (by decide) (by decide) (by decide), r6.kept F0 M.j (by decide), r7.kept F0 M.j (by simp; omega), r8.kept F0 M.j (by decide) (by decide) (by decide) (by decide), r9.kept F0 M.j (fun _ _ => rfl) (by simp; omega)⟩, F0.mono (by decide)⟩
theorem sndR_snoc {rep : Bool} {mn refs to val parts : Nat} {s : List Nat} : ∀ (ss : List (List Nat)) (i : Nat), sndR rep mn refs to val parts i (ss ++ [s]) = sndR rep mn refs to val parts i ss ++ [rowS rep mn refs to val parts (i + ss.length) s]
  | [], i => rfl
  | t :: ss, i => by
    rw [List.cons_append, sndR_cons, sndR_cons, sndR_snoc ss (i + 1), List.cons_append, List.length_cons, show i + 1 + ss.length = i + (ss.length + 1) by omega]
theorem flat_mid (gs : List Nat) (p e : Nat) : ((gs.flatMap fsep).drop (sumS (gs.take p))).take (sumS ((gs.drop p).take e)) = ((gs.drop p).take e).flatMap fsep := by
  have e1 : gs.flatMap fsep = (gs.take p).flatMap fsep ++ (((gs.drop p).take e).flatMap fsep ++ ((gs.drop p).drop e).flatMap fsep) := by
    conv => lhs; rw [← List.take_append_drop p gs, List.flatMap_append]
    congr 1
    conv => lhs; rw [← List.take_append_drop e (gs.drop p), List.flatMap_append]
  rw [e1, ← flat_len (gs.take p), ← flat_len ((gs.drop p).take e), List.drop_left, List.take_left]
theorem kd_kn (rep : Bool) (refs parts i : Nat) : kdS rep (hdS refs parts i) = kndS rep parts := by
  unfold kdS kndS hdS
  by_cases c : parts = 1
  · rw [if_pos c, if_pos c]; rfl
  · rw [if_neg c, if_neg c]; rfl
/-- the parts go up, one by one -/
theorem send_loop {k to val : Nat} {rep : Bool} {gs : List Nat} {x5 : Int32} {h1 : Hp} (R : MR A h S) (W : WX S) (F1 : Mf A [2, 3] h h1) (Q : SQ A h1 (gs.flatMap fsep)) (hk : k < 4) (t1 : 1 ≤ to) (t2 : to < 1000000000000) (hv : val ≤ 143) (hx5 : x5 = 0 ↔ rep = false) (hg27 : ∀ g ∈ gs, g ≠ 27) (hg : ∀ g ∈ gs, g < 256) (hP : pcN gs ≤ 3) (hfit : S.2.1.length + pcN gs ≤ 8) : wL_MO_send_122 G l d w (fun r h' => r = nI (pcN gs) ∧ MQr A h (sndS S k to val rep gs) h') (A 41) (nI k) (lN to) (nI val) x5 (nI (pcN gs)) 0 1 h1 := by
  have R0 := R
  obtain ⟨M, r1, r2, r3, r4, r5, r6, r7, r8, r9⟩ := R
  obtain ⟨w1, w2, w3, w4, w5, w6, w7, w8, w9, w10, w11⟩ := W.1.1 k hk
  have hp1 := pcN_pos gs
  have hQl := Q.2.1
  rw [flat_len] at hQl
  have hmap : (S.2.1.map (fun p => p.2)).length = S.2.1.length := List.length_map _
  unfold wL_MO_send_122
  refine ⟨fun x7 x8 h' => ∃ i dn pos, i ≤ pcN gs ∧ x8 = nI (i + 1) ∧ pos ≤ gs.length ∧ x7 = nI (sumS (gs.take pos)) ∧ dn.length = i ∧ (pcN gs = 1 → i = 0 → pos = 0) ∧ segP (pcN gs) (pcN gs) gs = dn ++ segP (pcN gs) (pcN gs - i) (gs.drop pos) ∧ LR A h' (updL (linS S) 0 (S.2.1.map (fun p => p.2) ++ sndR rep (dMn (S.1 k)) (dRef (S.1 k)) to val (pcN gs) 1 dn)) ∧ MFr A h' (S.2.1 ++ (sndR rep (dMn (S.1 k)) (dRef (S.1 k)) to val (pcN gs) 1 dn).map (fun r => (k, r))) ∧ hI h' (A 6) = va_up (hI h (A 6)) k (nI ((dMn (S.1 k) + i) % 256)) ∧ SQ A h' (gs.flatMap fsep) ∧ Mf A [2, 3, 6, 11, 12, 13, 14, 15, 16] h h', fun x7 x8 h' => 5 - x8.toNatClampNeg, ⟨0, [], 0, Nat.zero_le _, rfl, Nat.zero_le _, rfl, rfl, fun _ _ => rfl, rfl, ?_, ?_, ?_, Q, F1.mono (by simp)⟩, ?_⟩
  · have e : updL (linS S) 0 (S.2.1.map (fun p => p.2) ++ sndR rep (dMn (S.1 k)) (dRef (S.1 k)) to val (pcN gs) 1 []) = linS S := by
      funext n
      unfold updL
      by_cases c : n = 0
      · rw [if_pos c, c]
        show _ ++ [] = _
        rw [List.append_nil, linS_0]
      · rw [if_neg c]
    rw [e]
    exact r5.kept F1 M.j (by decide) (by decide) (by decide)
  · show MFr A h1 (S.2.1 ++ [])
    rw [List.append_nil]
    exact r6.kept F1 M.j (by decide)
  · rw [F1.i M.j 6 (by decide) (by decide) (by decide)]
    funext j
    unfold va_up
    by_cases c : j = k
    · rw [if_pos c, c, (r3 k hk).1, Nat.add_zero, Nat.mod_eq_of_lt w7]
    · rw [if_neg c]
  rintro _ _ h2 ⟨i, dn, pos, hi, rfl, hpos, rfl, hdn, hp0, hseg, L2, Fr2, c6, Q2, F2⟩
  have M2 := F2.ma M
  unfold wB_MO_send_122
  rw [nI_ltI (by omega) (by omega)]
  refine ⟨fun c => ?_, fun c => ?_⟩
  · have ei : i = pcN gs := by omega
    subst ei
    rw [Nat.sub_self] at hseg
    have hseg' : segP (pcN gs) (pcN gs) gs = dn := by
      rw [hseg]
      show dn ++ [] = dn
      exact List.append_nil _
    have g7 := F2.i M.j 7 (by decide) (by decide) (by decide)
    -- the end
    have fin : ∀ v, v < 256 → (v = if pcN gs = 1 then dRef (S.1 k) else (dRef (S.1 k) + 1) % 256) → MQr A h (sndS S k to val rep gs) (pI h2 (A 7) k (nI v)) := by
      intro v hv256 ev
      have F3 : Mf A [7] h2 (pI h2 (A 7) k (nI v)) := mf_pI M.j (by decide) (by decide) (by decide)
      have F03 : Mf A [2, 3, 6, 7, 11, 12, 13, 14, 15, 16] h (pI h2 (A 7) k (nI v)) := (F2.mono (by simp +contextual)).trans (F3.mono (by simp))
      have eup : (allR S k to val rep gs) = sndR rep (dMn (S.1 k)) (dRef (S.1 k)) to val (pcN gs) 1 dn := by
        unfold allR
        rw [hseg']
      unfold sndS
      rw [← ev, eup]
      refine ⟨⟨F03.ma M, r1.kept F03 M.j (by decide) (by decide), r2.kept F03 M.j (updD_all4 (P := fun a b => dNum a = dNum b ∧ dOn a = dOn b) (fun _ => ⟨rfl, rfl⟩) ⟨rfl, rfl⟩) (by decide) (by decide), fun j hj => ?_, r4.kept F03 M.j (updD_all4 (P := fun a b => dTxt a = dTxt b ∧ dSnd a = dSnd b) (fun _ => ⟨rfl, rfl⟩) ⟨rfl, rfl⟩) (by decide) (by decide) (by decide), ?_, Fr2.kept F3 M.j (by decide), r7.kept F03 M.j (by simp; omega), r8.kept F03 M.j (by decide) (by decide) (by decide) (by decide), r9.kept F03 M.j (updD_all4 (P := fun a b => dPil a = dPil b) (fun _ => rfl) rfl) (by simp; omega)⟩, F03.mono (by decide)⟩
      · show hI _ (A 6) j = nI (dMn (updD S.1 k _ j)) ∧ hI _ (A 7) j = nI (dRef (updD S.1 k _ j))
        rw [rE, F3.i M.j 6 (by decide) (by decide) (by decide), c6, g7]
        by_cases cj : j = k
        · rw [cj, va_up_self, va_up_self, updD_eq]
          exact ⟨rfl, rfl⟩
        · rw [va_up_ne _ _ cj, va_up_ne _ _ cj, updD_ne cj]
          exact r3 j hj
      · have el : linS (updD S.1 k (setRef (setMn (S.1 k) ((dMn (S.1 k) + pcN gs) % 256)) v), S.2.1 ++ (sndR rep (dMn (S.1 k)) (dRef (S.1 k)) to val (pcN gs) 1 dn).map (fun r => (k, r)), S.2.2) = updL (linS S) 0 (S.2.1.map (fun p => p.2) ++ sndR rep (dMn (S.1 k)) (dRef (S.1 k)) to val (pcN gs) 1 dn) := by
          rw [linS_up (S := (updD S.1 k (setRef (setMn (S.1 k) ((dMn (S.1 k) + pcN gs) % 256)) v), S.2)), linS_dev (v := setRef (setMn (S.1 k) ((dMn (S.1 k) + pcN gs) % 256)) v) rfl rfl, List.map_append, List.map_map]
          congr 2
          exact List.map_id _
        rw [el]
        exact L2.kept F3 M.j (by decide) (by decide) (by decide)
    unfold wJ_MO_send_258
    have hr7 : hI h2 (A 7) k = nI (dRef (S.1 k)) := by rw [g7]; exact (r3 k hk).2
    refine ⟨M2.s41, fun c1 => ⟨A 7, M2.r7, 4, k, ⟨M2.s7, rfl, hk, by omega⟩, 4, k, ⟨M2.s7, rfl, hk, by omega⟩, rfl, ?_⟩, fun c1 => ⟨A 7, M2.r7, 4, k, ⟨M2.s7, rfl, hk, by omega⟩, 4, k, ⟨M2.s7, rfl, hk, by omega⟩, rfl, ?_⟩⟩
    · have c1' : pcN gs ≠ 1 := fun z => c1 (by rw [z]; rfl)
      rw [hr7, nI_1, show (256 : Int32) = nI 256 from rfl, pk_rem (by omega) (by decide) (by decide)]
      exact fin _ (Nat.mod_lt _ (by decide)) (by rw [if_neg c1'])
    · have c1' : pcN gs = 1 := (nI_eq (by omega) (by decide)).mp c1
      rw [hr7]
      exact fin _ w6 (by rw [if_pos c1'])
  · have hi' : i < pcN gs := by omega
    -- the part from pos on
    have part : ∀ en, pos + en ≤ gs.length → en = endP (pcN gs) (gs.drop pos) → wJ_MO_send_148 G l d w (fun r h' => r = nI (pcN gs) ∧ MQr A h (sndS S k to val rep gs) h') (fun x7_ x8_ h_ => (∃ i dn pos, i ≤ pcN gs ∧ x8_ = nI (i + 1) ∧ pos ≤ gs.length ∧ x7_ = nI (sumS (gs.take pos)) ∧ dn.length = i ∧ (pcN gs = 1 → i = 0 → pos = 0) ∧ segP (pcN gs) (pcN gs) gs = dn ++ segP (pcN gs) (pcN gs - i) (gs.drop pos) ∧ LR A h_ (updL (linS S) 0 (S.2.1.map (fun p => p.2) ++ sndR rep (dMn (S.1 k)) (dRef (S.1 k)) to val (pcN gs) 1 dn)) ∧ MFr A h_ (S.2.1 ++ (sndR rep (dMn (S.1 k)) (dRef (S.1 k)) to val (pcN gs) 1 dn).map (fun r => (k, r))) ∧ hI h_ (A 6) = va_up (hI h (A 6)) k (nI ((dMn (S.1 k) + i) % 256)) ∧ SQ A h_ (gs.flatMap fsep) ∧ Mf A [2, 3, 6, 11, 12, 13, 14, 15, 16] h h_) ∧ 5 - x8_.toNatClampNeg < 5 - (nI (i + 1)).toNatClampNeg) (A 41) (nI k) (lN to) (nI val) x5 (nI (pcN gs)) (nI (sumS (gs.take pos))) (nI (i + 1)) (nI (sumS (gs.take (pos + en)))) h2 := by
      intro en hen een
      have hadd := sumS_take_add gs pos en
      have htl := sumS_take gs (pos + en)
      have hs160 : sumS ((gs.drop pos).take en) ≤ 160 ∧ (pcN gs ≠ 1 → sumS ((gs.drop pos).take en) ≤ 153) := by
        by_cases c1 : pcN gs = 1
        · have := pcN_one c1
          exact ⟨by omega, fun z => absurd c1 z⟩
        · have := peL_sum 0 (gs.drop pos) (by decide)
          unfold endP at een
          rw [if_neg c1] at een
          rw [← een] at this
          exact ⟨by omega, fun _ => by omega⟩
      have sub : ∀ x8', ((hdS (dRef (S.1 k)) (pcN gs) (i + 1) = [] ∧ x8' < 0) ∨ ∃ r p q, hdS (dRef (S.1 k)) (pcN gs) (i + 1) = [5, 0, 3, r, p, q] ∧ x8' = nI r ∧ nI (pcN gs) = nI p ∧ nI (i + 1) = nI q ∧ r < 2147483648) → wJ_MO_send_185 G l d w (fun r h' => r = nI (pcN gs) ∧ MQr A h (sndS S k to val rep gs) h') (fun x7_ x8_ h_ => (∃ i dn pos, i ≤ pcN gs ∧ x8_ = nI (i + 1) ∧ pos ≤ gs.length ∧ x7_ = nI (sumS (gs.take pos)) ∧ dn.length = i ∧ (pcN gs = 1 → i = 0 → pos = 0) ∧ segP (pcN gs) (pcN gs) gs = dn ++ segP (pcN gs) (pcN gs - i) (gs.drop pos) ∧ LR A h_ (updL (linS S) 0 (S.2.1.map (fun p => p.2) ++ sndR rep (dMn (S.1 k)) (dRef (S.1 k)) to val (pcN gs) 1 dn)) ∧ MFr A h_ (S.2.1 ++ (sndR rep (dMn (S.1 k)) (dRef (S.1 k)) to val (pcN gs) 1 dn).map (fun r => (k, r))) ∧ hI h_ (A 6) = va_up (hI h (A 6)) k (nI ((dMn (S.1 k) + i) % 256)) ∧ SQ A h_ (gs.flatMap fsep) ∧ Mf A [2, 3, 6, 11, 12, 13, 14, 15, 16] h h_) ∧ 5 - x8_.toNatClampNeg < 5 - (nI (i + 1)).toNatClampNeg) (A 41) (nI k) (lN to) (nI val) x5 (nI (pcN gs)) (nI (sumS (gs.take pos))) (nI (i + 1)) (nI (sumS (gs.take (pos + en)))) x8' (nI (sumS (gs.take (pos + en))) - nI (sumS (gs.take pos))) (nI (sumS (gs.take pos))) (nI val) (lN to) (nI ((dMn (S.1 k) + i) % 256)) x5 (A 41) h2 := by
        intro x8' hx
        unfold wJ_MO_send_185
        rw [pk_sub (by omega), show sumS (gs.take (pos + en)) - sumS (gs.take pos) = sumS ((gs.drop pos).take en) by omega]
        refine ⟨M2.s41, _, c_MO_putSubmit M2 Q2 hx5 t1 t2 (by rw [flat_len]; omega) hx hs160.1, ?_⟩
        rintro h3 ⟨B3, F3⟩
        have M3 := F3.ma M2
        rw [flat_mid, kd_kn] at B3
        have hrow : subR (kndS rep (pcN gs)) ((dMn (S.1 k) + i) % 256) to val (hdS (dRef (S.1 k)) (pcN gs) (i + 1)) (((gs.drop pos).take en).flatMap fsep) = rowS rep (dMn (S.1 k)) (dRef (S.1 k)) to val (pcN gs) (1 + dn.length) ((gs.drop pos).take en) := by
          unfold rowS
          rw [hdn, show 1 + i = i + 1 by omega, Nat.add_sub_cancel]
        rw [hrow] at B3
        have hok : (rowS rep (dMn (S.1 k)) (dRef (S.1 k)) to val (pcN gs) (1 + dn.length) ((gs.drop pos).take en)).length ≤ 160 := by
          have := sndR_ok (rep := rep) (mn := dMn (S.1 k)) w6 hP t1 t2 (show val < 256 by omega) [(gs.drop pos).take en] (1 + dn.length) (by simp; omega) (fun s hs => by
            rw [List.mem_singleton.mp hs]
            exact ⟨fun _ => hs160.1, hs160.2, fun g hg' => hg g (List.mem_of_mem_drop (List.mem_of_mem_take hg'))⟩) _ (List.mem_cons_self ..)
          omega
        have L3 := L2.kept F3 M.j (by decide) (by decide) (by decide)
        have hl0 : (updL (linS S) 0 (S.2.1.map (fun p => p.2) ++ sndR rep (dMn (S.1 k)) (dRef (S.1 k)) to val (pcN gs) 1 dn) 0).length = S.2.1.length + i := by
          rw [updL_eq, List.length_append, hmap, sndR_len, hdn]
        have hcap : cap 0 = 8 := rfl
        refine ⟨M3.s41, _, c_MO_append (n := 0) M3 L3 (by decide) (by rw [hl0, hcap]; omega) B3 hok, ?_⟩
        rw [hl0]
        rintro h4 ⟨L4, a15, -, F4⟩
        have M4 := F4.ma M3
        have g6 : hI h4 (A 6) = va_up (hI h (A 6)) k (nI ((dMn (S.1 k) + i) % 256)) := by
          rw [F4.i M.j 6 (by decide) (by decide) (by decide), F3.i M.j 6 (by decide) (by decide) (by decide), c6]
        refine ⟨M4.s41, A 6, M4.r6, 4, k, ⟨M4.s6, rfl, hk, by omega⟩, ?_⟩
        rintro _ rfl
        rw [g6, va_up_self, nI_1, nI_1, show (256 : Int32) = nI 256 from rfl, pk_rem (by omega) (by decide) (by decide), show ((dMn (S.1 k) + i) % 256 + 1) % 256 = (dMn (S.1 k) + (i + 1)) % 256 by omega]
        have F5 : Mf A [6] h4 (pI h4 (A 6) k (nI ((dMn (S.1 k) + (i + 1)) % 256))) := mf_pI M.j (by decide) (by decide) (by decide)
        refine ⟨⟨i + 1, dn ++ [(gs.drop pos).take en], pos + en, hi', rfl, hen, rfl, by rw [List.length_append, hdn]; rfl, fun _ z => absurd z (by omega), ?_, ?_, ?_, ?_, ?_, ?_⟩, ?_⟩
        · rw [hseg, show pcN gs - i = (pcN gs - (i + 1)) + 1 by omega, segP_succ, ← een, List.drop_drop, List.append_assoc]
          rfl
        · rw [updL_eq] at L4
          have L5 := L4.kept F5 M.j (by decide) (by decide) (by decide)
          rw [sndR_snoc, ← List.append_assoc]
          intro n hn
          have t := L5 n hn
          by_cases cn : n = 0
          · subst cn
            rw [updL_eq] at t ⊢
            exact t
          · rw [updL_ne cn, updL_ne cn] at t
            rw [updL_ne cn]
            exact t
        · rw [sndR_snoc, List.map_append, ← List.append_assoc]
          intro j hj
          have hlq : (S.2.1 ++ (sndR rep (dMn (S.1 k)) (dRef (S.1 k)) to val (pcN gs) 1 dn).map (fun r => (k, r))).length = S.2.1.length + i := by
            rw [List.length_append, List.length_map, sndR_len, hdn]
          rw [List.length_append, hlq] at hj
          simp only [List.length_map, List.length_cons, List.length_nil] at hj
          rw [F5.i M.j 15 (by decide) (by decide) (by decide), a15]
          have b00 : bL 0 = 0 := rfl
          rw [b00, Nat.zero_add]
          by_cases cj : j = S.2.1.length + i
          · rw [cj, va_up_self, ← hlq, List.map_cons, List.map_nil, getD_snocr]
          · rw [va_up_ne _ _ cj, F3.i M.j 15 (by decide) (by decide) (by decide), List.map_cons, List.map_nil, getD_snocl (by omega)]
            exact Fr2 j (by omega)
        · rw [rE, g6]
          funext j
          unfold va_up
          by_cases cj : j = k
          · rw [if_pos cj, if_pos cj]
          · rw [if_neg cj, if_neg cj]
            exact (if_neg cj).symm
        · exact ((Q2.kept F3 M.j (by decide) (by decide)).kept F4 M.j (by decide) (by decide)).kept F5 M.j (by decide) (by decide)
        · exact F2.trans ((F3.mono (by simp)).trans ((F4.mono (by simp +contextual)).trans (F5.mono (by simp))))
        · rw [nI_clamp (by omega), nI_clamp (by omega)]
          omega
      unfold wJ_MO_send_148
      refine ⟨M2.s41, A 6, M2.r6, 4, k, ⟨M2.s6, rfl, hk, by omega⟩, ?_⟩
      rw [c6, va_up_self]
      refine ⟨fun c1 => ⟨A 7, M2.r7, 4, k, ⟨M2.s7, rfl, hk, by omega⟩, ?_⟩, fun c1 => sub (-1) (Or.inl ⟨?_, by decide⟩)⟩
      · have c1' : pcN gs ≠ 1 := fun z => c1 (by rw [z]; rfl)
        rw [F2.i M.j 7 (by decide) (by decide) (by decide), (r3 k hk).2]
        refine sub _ (Or.inr ⟨dRef (S.1 k), pcN gs, i + 1, ?_, rfl, rfl, rfl, by omega⟩)
        unfold hdS
        rw [if_neg c1']
      · have c1' : pcN gs = 1 := (nI_eq (by omega) (by decide)).mp c1
        unfold hdS
        rw [if_pos c1']
    refine ⟨fun c1 => ⟨M2.s41, _, c_MO_cut M2 Q2 hg27 hpos, ?_⟩, fun c1 => ⟨M2.s41, ?_⟩⟩
    · have c1' : pcN gs ≠ 1 := fun z => c1 (by rw [z]; rfl)
      rintro _ _ ⟨rfl, rfl⟩
      have := peL_le 0 (gs.drop pos)
      rw [List.length_drop] at this
      refine part _ (by omega) ?_
      unfold endP
      rw [if_neg c1']
    · have c1' : pcN gs = 1 := (nI_eq (by omega) (by decide)).mp c1
      have p0 := hp0 c1' (by omega)
      rw [Q2.1, flat_len]
      have := part gs.length (by omega) (by unfold endP; rw [if_pos c1', p0, List.drop_zero])
      rw [p0, Nat.zero_add, List.take_of_length_le (Nat.le_refl gs.length)] at this
      rw [p0]
      exact this
theorem c_MO_send {y v : Int32} {to : Int64} {rep : Bool} (R : MR A h S) (W : WX S) : Ci G l M_MO_send (d + 4) (w + 102) [.ref (A 41), .int y, .long to, .int v, .int (if rep then 1 else 0)] h 0 0 (fun r h' => r = (sSend S y to v rep).2 ∧ MQr A h (sSend S y to v rep).1 h') := by
  refine ok_MO_send ?_
  have R0 := R
  obtain ⟨M, r1, r2, r3, r4, r5, r6, r7, r8, r9⟩ := R
  obtain ⟨hw1, hw2, hw3, hw4, hw5, hw6, hw7, hw8, hw9⟩ := W.1
  unfold wp_MO_send wJ_MO_send_38
  refine ⟨_, c_MO_isDevice, ?_⟩
  rintro _ _ ⟨rfl, ⟨k, hk, rfl, hd, rfl⟩ | ⟨hd, rfl⟩⟩
  · unfold sSend
    rw [hd]
    dsimp only
    have bad : ∀ (c : ¬ (1 ≤ to ∧ to ≤ 999999999999) ∨ v < 0 ∨ 143 < v ∨ dNum (S.1 k) = 0) {q : SS × Int32}, (-1 : Int32) = (if ¬ (1 ≤ to ∧ to ≤ 999999999999) ∨ v < 0 ∨ 143 < v ∨ dNum (S.1 k) = 0 then (S, (-1 : Int32)) else q).2 ∧ MQr A h (if ¬ (1 ≤ to ∧ to ≤ 999999999999) ∨ v < 0 ∨ 143 < v ∨ dNum (S.1 k) = 0 then (S, (-1 : Int32)) else q).1 h := fun c q => by
      rw [if_pos c]
      exact ⟨rfl, MQr.same R0⟩
    refine ⟨fun c => absurd c (by decide), fun _ => ⟨_, c_MO_isNumber, ?_⟩⟩
    rintro _ _ ⟨rfl, ⟨rfl, hn⟩ | ⟨rfl, hn⟩⟩
    · refine ⟨fun c => absurd c (by decide), fun _ => ⟨fun c => bad (Or.inr (Or.inl c)), fun c1 => ⟨fun c => bad (Or.inr (Or.inr (Or.inl c))), fun c2 => ⟨M.s41, A 4, M.r4, 4, k, ⟨M.s4, rfl, hk, by omega⟩, ?_⟩⟩⟩⟩
      have hnum := (hw1 k hk).1
      rw [cmp_eq, (r2 k hk).1]
      refine ⟨fun c3 => ?_, fun c3 => bad (Or.inr (Or.inr (Or.inr ((pk_lEQ (by omega) (by decide)).mp c3))))⟩
      have c3' : ¬ dNum (S.1 k) = 0 := fun z => c3 (by rw [z]; rfl)
      rw [if_neg (show ¬ (¬ (1 ≤ to ∧ to ≤ 999999999999) ∨ v < 0 ∨ 143 < v ∨ dNum (S.1 k) = 0) from fun z => by
        rcases z with z | z | z | z
        · exact z hn
        · exact c1 z
        · exact c2 z
        · exact c3' z)]
      obtain ⟨t, rfl, t1, t2⟩ := num_of hn
      obtain ⟨val, hval, rfl⟩ := i_nat c1
      rw [Llt hval (by decide)] at c2
      have c2' : val ≤ 143 := by have : ¬ 143 < val := c2; omega
      rw [lNat_lN (by omega), nI_clamp hval]
      unfold wL_MO_send_48
      refine ⟨fun x h' => ∃ j gs, j ≤ S.2.2.1.length ∧ x = nI j ∧ (S.2.2.1.take j).map fm = gs.map some ∧ SQ A h' (gs.flatMap fsep) ∧ Mf A [2, 3] h h', fun x h' => S.2.2.1.length - x.toNatClampNeg, ⟨0, [], Nat.zero_le _, rfl, rfl, ⟨hI_pI_eq, by decide, (fun x hx => by cases hx), fun j hj => absurd hj (Nat.not_lt_zero _)⟩, mf_pS (by decide)⟩, ?_⟩
      rintro _ h1 ⟨j, gs, hj, rfl, hgs, Q1, F1⟩
      have M1 := F1.ma M
      have hgl : gs.length = j := by
        have := congrArg List.length hgs
        rw [List.length_map, List.length_map, List.length_take] at this
        omega
      unfold wB_MO_send_48
      rw [F1.2.2 0 (by decide), r1.1, nI_leI (by omega) (by omega)]
      refine ⟨M1.s41, fun c => ?_, fun c => ?_⟩
      · rw [List.take_of_length_le (by omega)] at hgs
        have hno : ¬ none ∈ S.2.2.1.map fm := by
          rw [hgs]
          intro z
          obtain ⟨g, -, e⟩ := List.mem_map.mp z
          cases e
        have hfl : S.2.2.1.filterMap fm = gs := by
          have := fm_gs hno
          rw [hgs] at this
          exact (List.map_inj_right (fun x y e => Option.some.inj e)).mp this.symm
        rw [if_neg hno, hfl]
        have hmem : ∀ g ∈ gs, ∃ c, c < 65536 ∧ fm c = some g := fun g hg' => by
          rw [← hfl] at hg'
          obtain ⟨c, e1, e2⟩ := List.mem_filterMap.mp hg'
          exact ⟨c, hw5 c e1, e2⟩
        have hg27 : ∀ g ∈ gs, g ≠ 27 := fun g hg' => by
          obtain ⟨c, e1, e2⟩ := hmem g hg'
          exact fm_ne27 e1 e2
        have hg256 : ∀ g ∈ gs, g < 256 := fun g hg' => by
          obtain ⟨c, e1, e2⟩ := hmem g hg'
          exact fm_lt e2
        have hpl : pcN gs ≤ 481 := by
          unfold pcN
          split
          · omega
          · have := pcL_le 1 0 gs
            omega
        refine ⟨_, c_MO_partsOf M1 Q1 hg27 (by omega), ?_⟩
        rintro _ _ ⟨rfl, rfl⟩
        rw [leL (by omega) (by decide)]
        refine ⟨fun c4 => ⟨M1.s41, A 16, M1.r16, 9, 0, ⟨M1.s16, rfl, by decide, by decide⟩, ?_⟩, fun c4 => ?_⟩
        · have c4' : pcN gs ≤ 3 := c4
          rw [if_neg (by omega), F1.i M.j 16 (by decide) (by decide) (by decide), (r5 0 (by decide)).1, linS_0, List.length_map, nI_add, leL (by omega) (by decide)]
          refine ⟨fun c5 => ?_, fun c5 => ?_⟩
          · have c5' : S.2.1.length + pcN gs ≤ 8 := c5
            rw [if_neg (by omega)]
            exact send_loop R0 W F1 Q1 hk t1 t2 c2' (by cases rep <;> decide) hg27 hg256 c4' c5'
          · have c5' : ¬ S.2.1.length + pcN gs ≤ 8 := c5
            rw [if_pos (by omega)]
            exact ⟨rfl, R0.scr (F1.mono (by simp))⟩
        · have c4' : ¬ pcN gs ≤ 3 := c4
          rw [if_pos (by omega)]
          exact ⟨rfl, R0.scr (F1.mono (by simp))⟩
      · have hjl : j < S.2.2.1.length := by omega
        have hc : bt S.2.2.1 j < 65536 := hw5 _ (getD_mem hjl)
        have hsl := sumS_le gs
        refine ⟨A 1, M1.r1, 480, j, ⟨M1.s1, rfl, by omega, by omega⟩, ?_⟩
        rw [F1.i M.j 1 (by decide) (by decide) (by decide), r1.2 j hjl]
        refine ⟨_, c_MO_encode M1 Q1 (by rw [flat_len]; omega) hc, ?_⟩
        rintro x h2 (⟨rfl, f, hf, Q2, F2⟩ | ⟨rfl, hf, rfl⟩)
        · refine ⟨fun _ => ?_, fun z => absurd z (by decide)⟩
          rintro _ rfl
          rw [nI_1]
          refine ⟨⟨j + 1, gs ++ [f], by omega, rfl, ?_, ?_, F1.trans F2⟩, mu_lt hjl (by omega)⟩
          · rw [take_snoc hjl, List.map_append, List.map_append, hgs, List.map_cons, List.map_nil, hf]
            rfl
          · rw [List.flatMap_append]
            have : [f].flatMap fsep = fsep f := by simp
            rw [this]
            exact Q2
        · refine ⟨fun z => absurd rfl z, fun _ => ?_⟩
          rw [if_pos (List.mem_map.mpr ⟨bt S.2.2.1 j, getD_mem hjl, hf⟩)]
          exact ⟨rfl, R0.scr (F1.mono (by simp))⟩
    · exact ⟨fun _ => bad (Or.inl hn), fun c => absurd rfl c⟩
  · unfold sSend
    rw [hd]
    exact ⟨fun _ => ⟨rfl, MQr.same R0⟩, fun c => absurd rfl c⟩
end MM
