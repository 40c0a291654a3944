/-! the reference's side -/
section MQ2
variable {G : Gx} {l : Launch} {d w : Nat} {A : Nat → Nat} {h h' : Hp} {F : List Nat} {S : SS}
theorem take_all {l : List Nat} {n : Nat} (h : l.length ≤ n) : l.take n = l := List.take_of_length_le h
theorem c_MO_deliver {k e now : Nat} (R : MR A h S) (W2 : S.2.1.length ≤ 8) (hl100 : S.2.2.2.1.length ≤ 100) (hk : k ∈ pend S.2.2.2.1) (hM : MV now (mat S.2.2.2.1 k)) (hnow : now ≤ 60000000) (he : e < 4) (hi6 : (dInb (S.1 e)).length < 6) : Cv G l M_MO_deliver (d + 3) (w + 72) [.ref (A 41), .int (nI k), .int (nI e)] h 0 0 (fun h' => MQr A h (setDev S (updD S.1 e (setInb (S.1 e) (dInb (S.1 e) ++ [dlvR (mSub (mat S.2.2.2.1 k)) (mFrm (mat S.2.2.2.1 k)) (mAcc (mat S.2.2.2.1 k))])))) h') := by
  refine ok_MO_deliver ?_
  have R0 := R
  obtain ⟨M, r1, r2, r3, r4, r5, r6, r7, r8, r9⟩ := R
  have hl := pend_lt hk
  have hk100 : k < 100 := by omega
  obtain ⟨pl, p1, p2, p3⟩ := r8
  obtain ⟨s1, s2, s3, s4, s5⟩ := p1 k hk
  obtain ⟨c1, c2, c3, c4, c5, c6, c7, c8, c9, c10, c11⟩ := r7.2.1 k hl
  obtain ⟨v1, v2, v3, v4, v5, v6⟩ := hM
  have hK := dlv_DK (acc := mAcc (mat S.2.2.2.1 k)) v1 v2 v4 v5
  generalize hm : mat S.2.2.2.1 k = m at *
  generalize hsub : mSub m = sub at *
  have hu := v1.2.2.2
  have h144 : sub.length - sda sub ≤ 144 := by have := hu.2.1; have := hu.2.2.1; omega
  have hdl := dlv_len (sub := sub) (frm := mFrm m) (acc := mAcc m)
  have hnd := nd_ok v4 v5
  unfold wp_MO_deliver
  have F0 : Mf A [11, 12] h (pI h (A 41) 11 0) := mf_pS (by decide)
  have B0 : BF A (pI h (A 41) 11 0) [] := ⟨hI_pI_eq, by decide, fun j hj => absurd hj (Nat.not_lt_zero _)⟩
  refine ⟨M.s41, A 25, M.r25, 100, k, ⟨M.s25, rfl, hk100, by omega⟩, ?_⟩
  have x25 : hI (pI h (A 41) 11 0) (A 25) k = (if hdr sub then 1 else 0) := by rw [rN M.j (by decide) (by decide) (by decide)]; exact c6
  rw [x25]
  have M0 := F0.ma M
  generalize pI h (A 41) 11 0 = h0 at F0 B0 M0 ⊢
  have go : ∀ b, (b = 4 + (if hdr sub then 64 else 0)) → wJ_MO_deliver_21 G l d w (fun h' => MQr A h (setDev S (updD S.1 e (setInb (S.1 e) (dInb (S.1 e) ++ [dlvR sub (mFrm m) (mAcc m)])))) h') (A 41) (nI k) (nI e) (nI b) (A 41) h0 := by
    intro b hb
    unfold wJ_MO_deliver_21
    refine ⟨M0.s41, _, c_MO_put M0 B0 (by decide), ?_⟩
    rintro h1 ⟨B1, F1⟩
    have M1 := F1.ma M0
    have F01 := F0.trans F1
    refine ⟨M1.s41, A 22, M1.r22, 100, k, ⟨M1.s22, rfl, hk100, by omega⟩, ?_⟩
    rw [F01.l M.j 22 (by decide) (by decide) (by decide), c3]
    refine ⟨_, c_MO_putAddress M1 B1 v4 v5 (by simp), ?_⟩
    rintro h2 ⟨B2, F2⟩
    have M2 := F2.ma M1
    have F02 := F01.trans F2
    have l2 : ([] ++ [b] ++ adr (mFrm m)).length = 3 + (nd (mFrm m) + 1) / 2 := by
      simp only [List.length_append, List.length_cons, List.length_nil, adr_len]
      omega
    refine ⟨M2.s41, _, c_MO_put (v := 0) M2 B2 (by omega), ?_⟩
    rintro h3 ⟨B3, F3⟩
    have M3 := F3.ma M2
    refine ⟨M3.s41, _, c_MO_put (v := 0) M3 B3 (by rw [List.length_append, l2]; simp only [List.length_cons, List.length_nil]; omega), ?_⟩
    rintro h4 ⟨B4, F4⟩
    have M4 := F4.ma M3
    have F04 := F02.trans (F3.trans F4)
    refine ⟨M4.s41, A 26, M4.r26, 100, k, ⟨M4.s26, rfl, hk100, by omega⟩, ?_⟩
    rw [F04.i M.j 26 (by decide) (by decide) (by decide), c7, nI_l (by omega)]
    have l4 : ([] ++ [b] ++ adr (mFrm m) ++ [0] ++ [0]).length = 5 + (nd (mFrm m) + 1) / 2 := by
      rw [List.length_append, List.length_append, l2]
      simp only [List.length_cons, List.length_nil]
      omega
    refine ⟨_, c_MO_putDigits (n := 14) M4 B4 (by decide) (by decide) (by omega) (by omega), ?_⟩
    rintro h5 ⟨B5, F5⟩
    have M5 := F5.ma M4
    have F05 := F04.trans F5
    have hH : [] ++ [b] ++ adr (mFrm m) ++ [0] ++ [0] ++ dgs (mAcc m) 14 = dlvH sub (mFrm m) (mAcc m) := by
      unfold dlvH
      rw [hb]
      rfl
    rw [hH] at B5
    have hHl := dlvH_len sub (mFrm m) (mAcc m)
    have hdr_l : (sub.drop (sda sub)).length = sub.length - sda sub := List.length_drop
    unfold wL_MO_deliver_59
    refine ⟨fun x h' => ∃ i, i ≤ sub.length - sda sub ∧ x = nI i ∧ BF A h' (dlvH sub (mFrm m) (mAcc m) ++ (sub.drop (sda sub)).take i) ∧ Mf A [11, 12] h h', fun x h' => sub.length - sda sub - x.toNatClampNeg, ⟨0, Nat.zero_le _, rfl, by rw [List.take_zero, List.append_nil]; exact B5, F05⟩, ?_⟩
    rintro _ h6 ⟨i, hi, rfl, B6, F6⟩
    have M6 := F6.ma M
    unfold wB_MO_deliver_59
    have x31 : hI h6 (A 31) k = nI (pl k) := by rw [F6.i M.j 31 (by decide) (by decide) (by decide)]; exact s2
    have x33 : hI h6 (A 33) (pl k) = nI (sub.length - sda sub) := by rw [F6.i M.j 33 (by decide) (by decide) (by decide)]; exact s4
    refine ⟨M6.s41, A 31, M6.r31, 100, k, ⟨M6.s31, rfl, hk100, by omega⟩, A 33, M6.r33, 12, pl k, ⟨M6.s33, x31, s1, by omega⟩, ?_⟩
    rw [x33, nI_leI (by omega) (by omega)]
    refine ⟨fun c => ?_, fun c => ?_⟩
    · have ei : i = sub.length - sda sub := by omega
      rw [take_all (by omega), ← dlv_eq] at B6
      have hL := linS_i (S := S) he
      have hcap : cap (1 + e) = 6 := by have := bL_or (1 + e); omega
      rw [show (1 : Int32) + nI e = nI (1 + e) from nI_add 1 e]
      refine ⟨_, c_MO_append M6 (r5.kept F6 M.j (by decide) (by decide) (by decide)) (by omega) (by rw [hL, hcap]; exact hi6) B6 hK.1, ?_⟩
      rintro h7 ⟨L7, f15, -, F7⟩
      have F07 : Mf A [11, 12, 13, 14, 15, 16] h h7 := (F6.mono (by simp)).trans (F7.mono (by simp))
      refine R0.grow (n := 1 + e) (v := setInb (S.1 e) (dInb (S.1 e) ++ [dlvR sub (mFrm m) (mAcc m)])) F07 (Or.inl ⟨rfl, _, rfl⟩) ?_ (fun j hj => ?_) W2
      · rw [linS_inb (v := setInb (S.1 e) (dInb (S.1 e) ++ [dlvR sub (mFrm m) (mAcc m)])) (x := dInb (S.1 e) ++ [dlvR sub (mFrm m) (mAcc m)]) he rfl rfl S.2 rfl]
        rw [hL] at L7
        exact L7
      · have := bL_or (1 + e)
        rw [f15, va_up_ne _ _ (by omega), F6.i M.j 15 (by decide) (by decide) (by decide)]
    · refine ⟨A 31, M6.r31, 100, k, ⟨M6.s31, rfl, hk100, by omega⟩, A 34, M6.r34, 1728, 144 * pl k + i, ⟨M6.s34, by rw [x31, show (144 : Int32) = nI 144 from rfl, pk_mul, nI_add], by omega, by omega⟩, ?_⟩
      have x34 : hI h6 (A 34) (144 * pl k + i) = nI (bt (sub.drop (sda sub)) i) := by
        rw [F6.i M.j 34 (by decide) (by decide) (by decide), bt_drop]
        exact s5 i (by omega)
      rw [x34]
      refine ⟨_, c_MO_put M6 B6 (by rw [List.length_append, List.length_take, hHl]; omega), ?_⟩
      rintro h7 ⟨B7, F7⟩ _ rfl
      rw [nI_1]
      refine ⟨⟨i + 1, by omega, rfl, ?_, F6.trans F7⟩, mu_lt (by omega) (by omega)⟩
      rw [take_snoc (by omega), ← List.append_assoc]
      exact B7
  cases hh : hdr sub with
  | false => exact ⟨fun _ => go 4 (by rw [hh]; rfl), fun z => absurd rfl z⟩
  | true => exact ⟨fun z => absurd z (by decide), fun _ => go 68 (by rw [hh]; rfl)⟩
theorem mv_off {now : Nat} {m : SMs} {o : Nat} (M : MV now m) : MV now (setOff m o) := M
theorem set_twice {ms : List SMs} {k : Nat} {a b : SMs} : (ms.set k a).set k b = ms.set k b := List.set_set ..
theorem c_MO_deal {k : Nat} (R : MR A h S) (W : WX S) (hk : k ∈ pend S.2.2.2.1) : Ci G l M_MO_deal (d + 4) (w + 96) [.ref (A 41), .int (nI k)] h 0 0 (fun r h' => r = nI (deal S k).2 ∧ MQr A h (deal S k).1 h') := by
  refine ok_MO_deal ?_
  have R0 := R
  obtain ⟨M, r1, r2, r3, r4, r5, r6, r7, r8, r9⟩ := R
  obtain ⟨hw1, hw2, hw3, hw4, hw5, hw6, hw7, hw8, hw9⟩ := W.1
  have hl := pend_lt hk
  have hk100 : k < 100 := by omega
  obtain ⟨c1, c2, c3, c4, c5, c6, c7, c8, c9, c10, c11⟩ := r7.2.1 k hl
  have MWk := hw8 _ (List.mem_of_getElem? (mat_at hl))
  have MVk := MWk.mv
  have bnd := MWk.bnd hw9
  have hat : mom (mat S.2.2.2.1 k) ≤ 60000736 := Nat.le_trans (Nat.min_le_left _ _) bnd.2.2.1
  have eT : ∀ m, mat (S.2.2.2.1.set k m) k = m := fun m => mat_set hl
  unfold wp_MO_deal
  refine ⟨M.s41, _, c_MO_moment R0 W.1 hl, ?_⟩
  rintro _ _ ⟨rfl, rfl⟩
  refine ⟨M.s41, A 27, M.r27, 100, k, ⟨M.s27, rfl, hk100, by omega⟩, ?_⟩
  rw [c8, nI_eq (by omega) (by omega)]
  refine ⟨fun c => ?_, fun c => ?_⟩
  · -- it is offered
    refine ⟨A 29, M.r29, 100, k, ⟨M.s29, rfl, hk100, by omega⟩, A 23, M.r23, 100, k, ⟨M.s23, rfl, hk100, by omega⟩, ?_⟩
    rw [c10, nI_1, c4]
    have F1 : Mf A [28, 29] h (pI h (A 29) k (nI (mOff (mat S.2.2.2.1 k) + 1))) := mf_pI M.j (by decide) (by decide) (by decide)
    have R1 := R0.msg (m := setOff (mat S.2.2.2.1 k) (mOff (mat S.2.2.2.1 k) + 1)) F1 hk (Or.inr rfl) (fun j hj => by rw [rN M.j (by decide) (by decide) (by decide)]) (fun j hj => by rw [rE, va_up_ne _ _ hj]) (by rw [rN M.j (by decide) (by decide) (by decide)]; exact c9) (by rw [rE, va_up_self]; rfl)
    have k29 : hI (pI h (A 29) k (nI (mOff (mat S.2.2.2.1 k) + 1))) (A 29) k = nI (mOff (mat S.2.2.2.1 k) + 1) := by rw [rE, va_up_self]
    generalize pI h (A 29) k (nI (mOff (mat S.2.2.2.1 k) + 1)) = h1 at F1 R1 k29 ⊢
    have M1 := F1.ma M
    have to := Lg_to MVk.1
    -- the state once offered
    have hp1 : pend (setMs S (S.2.2.2.1.set k (setOff (mat S.2.2.2.1 k) (mOff (mat S.2.2.2.1 k) + 1)))).2.2.2.1 = pend S.2.2.2.1 := by
      refine pend_set0 hk ?_
      obtain ⟨m1, h1, h2⟩ := pend_mem.mp hk
      rw [mat_at hl] at h1
      show mFate (mat S.2.2.2.1 k) = 0
      rw [Option.some.inj h1]
      exact h2
    have hfate0 : mFate (mat S.2.2.2.1 k) = 0 := by
      obtain ⟨m1, h1, h2⟩ := pend_mem.mp hk
      rw [mat_at hl] at h1
      rw [Option.some.inj h1]
      exact h2
    have m1e : mat (setMs S (S.2.2.2.1.set k (setOff (mat S.2.2.2.1 k) (mOff (mat S.2.2.2.1 k) + 1)))).2.2.2.1 k = setOff (mat S.2.2.2.1 k) (mOff (mat S.2.2.2.1 k) + 1) := eT _
    have len1 : (setMs S (S.2.2.2.1.set k (setOff (mat S.2.2.2.1 k) (mOff (mat S.2.2.2.1 k) + 1)))).2.2.2.1.length ≤ 100 := by
      show (S.2.2.2.1.set k _).length ≤ 100
      rw [List.length_set]
      exact hw6
    refine ⟨_, c_MO_owner R1.1 (fun d hd => (hw1 d hd).1) to.2, ?_⟩
    rintro x _ ⟨rfl, ⟨hh, rfl⟩ | ⟨e, he, hh, rfl⟩⟩
    · -- nobody has the number
      have hh' : hold S.1 (sTo (mSub (mat S.2.2.2.1 k))) = none := hh
      have ed : deal1 S k = setMs S (S.2.2.2.1.set k (setFate (setOff (mat S.2.2.2.1 k) (mOff (mat S.2.2.2.1 k) + 1)) 3)) := by
        unfold deal1
        rw [if_neg c, hh']
      have edl : deal S k = (rep1 (deal1 S k) k (mom (mat S.2.2.2.1 k)), 1) := by
        unfold deal
        rw [if_neg]
        rw [ed]
        show ¬ mFate (mat (S.2.2.2.1.set k _) k) = 0
        rw [eT]
        exact (by decide : ¬ (3 : Nat) = 0)
      refine ⟨fun z => absurd rfl z, fun _ => ⟨M1.s41, _, c_MO_settle (f := 3) (now := S.2.2.2.2) R1.1 hw2 len1 (by rw [hp1]; exact hk) (by rw [m1e]; exact MVk) hw9 (by omega) (Or.inr (Or.inr rfl)) (by rw [hp1]; exact hw7), ?_⟩⟩
      rintro h2 R2
      rw [edl]
      refine ⟨rfl, ?_⟩
      rw [ed]
      rw [m1e] at R2
      have es : setMs (setMs S (S.2.2.2.1.set k (setOff (mat S.2.2.2.1 k) (mOff (mat S.2.2.2.1 k) + 1)))) ((setMs S (S.2.2.2.1.set k (setOff (mat S.2.2.2.1 k) (mOff (mat S.2.2.2.1 k) + 1)))).2.2.2.1.set k (setFate (setOff (mat S.2.2.2.1 k) (mOff (mat S.2.2.2.1 k) + 1)) 3)) = setMs S (S.2.2.2.1.set k (setFate (setOff (mat S.2.2.2.1 k) (mOff (mat S.2.2.2.1 k) + 1)) 3)) := by
        unfold setMs
        simp only [set_twice]
      rw [es] at R2
      exact ⟨R2.1, R1.2.trans R2.2⟩
    · -- device e has it
      have hh' : hold S.1 (sTo (mSub (mat S.2.2.2.1 k))) = some e := hh
      refine ⟨fun _ => ?_, fun z => absurd ((nI_eq (by omega) (by decide)).mp z) (by show ¬ e = 4; omega)⟩
      -- it is put off
      have off : ¬ (dOn (S.1 e) = true ∧ (dInb (S.1 e)).length < 6) → wJ_MO_deal_97 G l d w (fun r h' => r = nI (deal S k).2 ∧ MQr A h (deal S k).1 h') (A 41) (nI k) (nI (mom (mat S.2.2.2.1 k))) (nI e) h1 := by
        intro cn
        have ed : deal1 S k = setMs S (S.2.2.2.1.set k (setNxt (setOff (mat S.2.2.2.1 k) (mOff (mat S.2.2.2.1 k) + 1)) (offN (mOff (mat S.2.2.2.1 k) + 1) (mom (mat S.2.2.2.1 k))))) := by
          unfold deal1
          rw [if_neg c, hh']
          dsimp only
          rw [if_neg cn]
        have edl : deal S k = (deal1 S k, 0) := by
          unfold deal
          rw [if_pos]
          rw [ed]
          show mFate (mat (S.2.2.2.1.set k _) k) = 0
          rw [eT]
          exact hfate0
        have fin : ∀ q, nI (mom (mat S.2.2.2.1 k)) + q = nI (offN (mOff (mat S.2.2.2.1 k) + 1) (mom (mat S.2.2.2.1 k))) → wJ_MO_deal_133 G l d w (fun r h' => r = nI (deal S k).2 ∧ MQr A h (deal S k).1 h') (A 41) (nI k) (nI (mom (mat S.2.2.2.1 k))) (nI e) q (nI (mom (mat S.2.2.2.1 k))) (nI k) (hR h1 (A 41) 28) h1 := by
          intro q hq
          unfold wJ_MO_deal_133
          refine ⟨A 28, M1.r28, 100, k, ⟨M1.s28, rfl, hk100, by omega⟩, ?_⟩
          rw [hq, edl]
          refine ⟨rfl, ?_⟩
          rw [ed]
          have F2 : Mf A [28, 29] h1 (pI h1 (A 28) k (nI (offN (mOff (mat S.2.2.2.1 k) + 1) (mom (mat S.2.2.2.1 k))))) := mf_pI M.j (by decide) (by decide) (by decide)
          have R2 := R1.1.msg (m := setNxt (setOff (mat S.2.2.2.1 k) (mOff (mat S.2.2.2.1 k) + 1)) (offN (mOff (mat S.2.2.2.1 k) + 1) (mom (mat S.2.2.2.1 k)))) F2 (by rw [hp1]; exact hk) (Or.inl (by rw [m1e]; rfl)) (fun j hj => by rw [rE, va_up_ne _ _ hj]) (fun j hj => by rw [rN M.j (by decide) (by decide) (by decide)]) (by rw [rE, va_up_self]; rfl) (by rw [rN M.j (by decide) (by decide) (by decide)]; exact k29)
          have es : setMs (setMs S (S.2.2.2.1.set k (setOff (mat S.2.2.2.1 k) (mOff (mat S.2.2.2.1 k) + 1)))) ((setMs S (S.2.2.2.1.set k (setOff (mat S.2.2.2.1 k) (mOff (mat S.2.2.2.1 k) + 1)))).2.2.2.1.set k (setNxt (setOff (mat S.2.2.2.1 k) (mOff (mat S.2.2.2.1 k) + 1)) (offN (mOff (mat S.2.2.2.1 k) + 1) (mom (mat S.2.2.2.1 k))))) = setMs S (S.2.2.2.1.set k (setNxt (setOff (mat S.2.2.2.1 k) (mOff (mat S.2.2.2.1 k) + 1)) (offN (mOff (mat S.2.2.2.1 k) + 1) (mom (mat S.2.2.2.1 k))))) := by
            unfold setMs
            simp only [set_twice]
          rw [es] at R2
          exact ⟨R2.1, R1.2.trans R2.2⟩
        unfold wJ_MO_deal_97
        refine ⟨M1.s41, A 29, M1.r29, 100, k, ⟨M1.s29, rfl, hk100, by omega⟩, ?_⟩
        rw [k29, eqL (by omega) (by decide)]
        refine ⟨fun o1 => ⟨A 29, M1.r29, 100, k, ⟨M1.s29, rfl, hk100, by omega⟩, ?_⟩, fun o1 => fin 1 ?_⟩
        · rw [k29, eqL (by omega) (by decide)]
          have o1' : ¬ mOff (mat S.2.2.2.1 k) + 1 = 1 := o1
          refine ⟨fun o2 => fin 16 ?_, fun o2 => fin 4 ?_⟩
          · have o2' : ¬ mOff (mat S.2.2.2.1 k) + 1 = 2 := o2
            unfold offN
            rw [if_neg o1', if_neg o2', show (16 : Int32) = nI 16 from rfl, nI_add]
          · have o2' : mOff (mat S.2.2.2.1 k) + 1 = 2 := o2
            unfold offN
            rw [if_neg o1', if_pos o2', show (4 : Int32) = nI 4 from rfl, nI_add]
        · have o1' : mOff (mat S.2.2.2.1 k) + 1 = 1 := o1
          unfold offN
          rw [if_pos o1', nI_1]
      refine ⟨M1.s41, A 5, M1.r5, 4, e, ⟨M1.s5, rfl, he, by omega⟩, ?_⟩
      have x5 : hI h1 (A 5) e = (if dOn (S.1 e) then 1 else 0) := by rw [F1.i M.j 5 (by decide) (by decide) (by decide)]; exact (r2 e he).2
      rw [x5]
      refine ⟨fun co => off (fun z => ?_), fun co => ?_⟩
      · rw [z.1] at co
        exact absurd co (by decide)
      · have hon : dOn (S.1 e) = true := by
          cases hq : dOn (S.1 e) with
          | true => rfl
          | false => rw [hq] at co; exact absurd rfl co
        have q16 := r5 (1 + e) (by omega)
        have hcap : cap (1 + e) = 6 := by have := bL_or (1 + e); omega
        rw [linS_i he, hcap] at q16
        have hq6 := q16.2.1
        rw [show (1 : Int32) + nI e = nI (1 + e) from nI_add 1 e]
        refine ⟨A 16, M1.r16, 9, 1 + e, ⟨M1.s16, rfl, by omega, by omega⟩, ?_⟩
        rw [F1.i M.j 16 (by decide) (by decide) (by decide), q16.1, Lle (by omega) (by decide)]
        refine ⟨fun c6 => off (fun z => ?_), fun c6 => ?_⟩
        · have c6' : 6 ≤ (dInb (S.1 e)).length := c6
          omega
        · have c6' : ¬ 6 ≤ (dInb (S.1 e)).length := c6
          have ed : deal1 S k = setDev (setMs S (S.2.2.2.1.set k (setFate (setOff (mat S.2.2.2.1 k) (mOff (mat S.2.2.2.1 k) + 1)) 1))) (updD S.1 e (setInb (S.1 e) (dInb (S.1 e) ++ [dlvR (mSub (mat S.2.2.2.1 k)) (mFrm (mat S.2.2.2.1 k)) (mAcc (mat S.2.2.2.1 k))]))) := by
            unfold deal1
            rw [if_neg c, hh']
            dsimp only
            rw [if_pos ⟨hon, by omega⟩]
          have edl : deal S k = (rep1 (deal1 S k) k (mom (mat S.2.2.2.1 k)), 1) := by
            unfold deal
            rw [if_neg]
            rw [ed]
            show ¬ mFate (mat (S.2.2.2.1.set k _) k) = 0
            rw [eT]
            exact (by decide : ¬ (1 : Nat) = 0)
          refine ⟨_, c_MO_deliver (now := S.2.2.2.2) R1.1 hw2 len1 (by rw [hp1]; exact hk) (by rw [m1e]; exact MVk) hw9 he (by show (dInb (S.1 e)).length < 6; omega), ?_⟩
          rintro h2 R2
          rw [m1e] at R2
          have M2 := R2.1.1
          refine ⟨M2.s41, _, c_MO_settle (f := 1) (now := S.2.2.2.2) R2.1 hw2 len1 (by show k ∈ pend (setMs S _).2.2.2.1; rw [hp1]; exact hk) (by show MV _ (mat (setMs S _).2.2.2.1 k); rw [m1e]; exact MVk) hw9 (by omega) (Or.inl rfl) (by show (pend (setMs S _).2.2.2.1).length ≤ 12; rw [hp1]; exact hw7), ?_⟩
          rintro h3 R3
          rw [edl]
          refine ⟨rfl, ?_⟩
          rw [ed]
          have es : setMs (setDev (setMs S (S.2.2.2.1.set k (setOff (mat S.2.2.2.1 k) (mOff (mat S.2.2.2.1 k) + 1)))) (updD S.1 e (setInb (S.1 e) (dInb (S.1 e) ++ [dlvR (mSub (mat S.2.2.2.1 k)) (mFrm (mat S.2.2.2.1 k)) (mAcc (mat S.2.2.2.1 k))])))) (List.set (S.2.2.2.1.set k (setOff (mat S.2.2.2.1 k) (mOff (mat S.2.2.2.1 k) + 1))) k (setFate (mat (S.2.2.2.1.set k (setOff (mat S.2.2.2.1 k) (mOff (mat S.2.2.2.1 k) + 1))) k) 1)) = setDev (setMs S (S.2.2.2.1.set k (setFate (setOff (mat S.2.2.2.1 k) (mOff (mat S.2.2.2.1 k) + 1)) 1))) (updD S.1 e (setInb (S.1 e) (dInb (S.1 e) ++ [dlvR (mSub (mat S.2.2.2.1 k)) (mFrm (mat S.2.2.2.1 k)) (mAcc (mat S.2.2.2.1 k))]))) := by
            rw [eT]
            unfold setMs setDev
            simp only [set_twice]
          have R3' : MQr A h2 (rep1 (setMs (setDev (setMs S (S.2.2.2.1.set k (setOff (mat S.2.2.2.1 k) (mOff (mat S.2.2.2.1 k) + 1)))) (updD S.1 e (setInb (S.1 e) (dInb (S.1 e) ++ [dlvR (mSub (mat S.2.2.2.1 k)) (mFrm (mat S.2.2.2.1 k)) (mAcc (mat S.2.2.2.1 k))])))) (List.set (S.2.2.2.1.set k (setOff (mat S.2.2.2.1 k) (mOff (mat S.2.2.2.1 k) + 1))) k (setFate (mat (S.2.2.2.1.set k (setOff (mat S.2.2.2.1 k) (mOff (mat S.2.2.2.1 k) + 1))) k) 1))) k (mom (mat S.2.2.2.1 k))) h3 := R3
          rw [es] at R3'
          exact ⟨R3'.1, R1.2.trans (R2.2.trans R3'.2)⟩
  · -- it is too old
    have ed : deal1 S k = setMs S (S.2.2.2.1.set k (setFate (mat S.2.2.2.1 k) 2)) := by
      unfold deal1
      rw [if_pos c]
    have edl : deal S k = (rep1 (deal1 S k) k (mom (mat S.2.2.2.1 k)), 1) := by
      unfold deal
      rw [if_neg]
      rw [ed]
      show ¬ mFate (mat (S.2.2.2.1.set k _) k) = 0
      rw [eT]
      exact (by decide : ¬ (2 : Nat) = 0)
    refine ⟨_, c_MO_settle (f := 2) (now := S.2.2.2.2) R0 hw2 hw6 hk MVk hw9 (by omega) (Or.inr (Or.inl rfl)) hw7, ?_⟩
    rintro h2 R2
    rw [edl]
    refine ⟨rfl, ?_⟩
    rw [ed]
    exact R2
end MQ2
