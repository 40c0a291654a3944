/-! the reference's side -/
theorem pigeon : ∀ (n : Nat) (l : List Nat), (∀ s, s < n → s ∈ l) → n ≤ l.length
  | 0, _, _ => Nat.zero_le _
  | n + 1, l, h => by
    have hn := h n (by omega)
    have := pigeon n (l.erase n) (fun s hs => (List.mem_erase_of_ne (by omega)).mpr (h s (by omega)))
    rw [List.length_erase_of_mem hn] at this
    have := List.length_pos_of_mem hn
    omega
section MN
variable {G : Gx} {l : Launch} {d w : Nat} {A : Nat → Nat} {h h' : Hp} {F : List Nat} {S : SS}
theorem MPc.free {ms : List SMs} (c : MPc A h ms) (hl : (pend ms).length < 12) : ∃ s, s < 12 ∧ hI h (A 32) s = 0 := by
  obtain ⟨pl, c1, c2, c3⟩ := c
  apply Classical.byContradiction
  intro no
  have := pigeon 12 ((pend ms).map pl) (fun s hs => by
    rcases c3 s hs with z | ⟨k, hk, e⟩
    · exact absurd ⟨s, hs, z⟩ no
    · exact List.mem_map.mpr ⟨k, hk, e⟩)
  rw [List.length_map] at this
  omega
theorem c_MO_keepData {bs : List Nat} {m p : Nat} (M : MA A h) (B : BF A h bs) (hm : m < 100) (hp : p ≤ bs.length) (hl : bs.length ≤ p + 144) (fr : ∃ s, s < 12 ∧ hI h (A 32) s = 0) : Cv G l M_MO_keepData (d + 0) (w + 0) [.ref (A 41), .int (nI m), .int (nI p)] h 0 0 (fun h' => ∃ s, s < 12 ∧ hI h (A 32) s = 0 ∧ hI h' (A 31) = va_up (hI h (A 31)) m (nI s) ∧ hI h' (A 32) = va_up (hI h (A 32)) s 1 ∧ hI h' (A 33) = va_up (hI h (A 33)) s (nI (bs.length - p)) ∧ hI h' (A 34) = cpF (hI h (A 34)) (hI h (A 12)) (144 * s) p (bs.length - p) ∧ Mf A [31, 32, 33, 34] h h') := by
  refine ok_MO_keepData ?_
  obtain ⟨f, hf, hf0⟩ := fr
  have hbl := B.2.1
  unfold wp_MO_keepData wL_MO_keepData_2
  refine ⟨fun x h' => h = h' ∧ ∃ s, s ≤ f ∧ x = nI s, fun x h' => f - x.toNatClampNeg, ⟨rfl, 0, Nat.zero_le _, rfl⟩, ?_⟩
  rintro _ _ ⟨rfl, s, hs, rfl⟩
  unfold wB_MO_keepData_2
  refine ⟨M.s41, A 32, M.r32, 12, s, ⟨M.s32, rfl, by omega, by omega⟩, fun c => ?_, fun c => ?_⟩
  · refine ⟨A 32, M.r32, 12, s, ⟨M.s32, rfl, by omega, by omega⟩, A 31, M.r31, 100, m, ⟨M.s31, rfl, hm, by omega⟩, A 33, M.r33, 12, s, ⟨M.s33, rfl, by omega, by omega⟩, ?_⟩
    rw [rN M.j (by decide) (by decide) (by decide), rN M.j (by decide) (by decide) (by decide), B.1, pk_sub hp]
    have F0 : Mf A [31, 32, 33, 34] h (pI (pI (pI h (A 32) s 1) (A 31) m (nI s)) (A 33) s (nI (bs.length - p))) := (mf_pI M.j (by decide) (by decide) (by decide)).trans ((mf_pI M.j (by decide) (by decide) (by decide)).trans (mf_pI M.j (by decide) (by decide) (by decide)))
    have e31 : hI (pI (pI (pI h (A 32) s 1) (A 31) m (nI s)) (A 33) s (nI (bs.length - p))) (A 31) = va_up (hI h (A 31)) m (nI s) := by
      rw [rN M.j (by decide) (by decide) (by decide), rE, rN M.j (by decide) (by decide) (by decide)]
    have e32 : hI (pI (pI (pI h (A 32) s 1) (A 31) m (nI s)) (A 33) s (nI (bs.length - p))) (A 32) = va_up (hI h (A 32)) s 1 := by
      rw [rN M.j (by decide) (by decide) (by decide), rN M.j (by decide) (by decide) (by decide), rE]
    have e33 : hI (pI (pI (pI h (A 32) s 1) (A 31) m (nI s)) (A 33) s (nI (bs.length - p))) (A 33) = va_up (hI h (A 33)) s (nI (bs.length - p)) := by
      rw [rE, rN M.j (by decide) (by decide) (by decide), rN M.j (by decide) (by decide) (by decide)]
    have e34 : hI (pI (pI (pI h (A 32) s 1) (A 31) m (nI s)) (A 33) s (nI (bs.length - p))) (A 34) = hI h (A 34) := by
      rw [rN M.j (by decide) (by decide) (by decide), rN M.j (by decide) (by decide) (by decide), rN M.j (by decide) (by decide) (by decide)]
    generalize pI (pI (pI h (A 32) s 1) (A 31) m (nI s)) (A 33) s (nI (bs.length - p)) = h0 at F0 e31 e32 e33 e34 ⊢
    unfold wL_MO_keepData_46
    refine ⟨fun x h' => ∃ i, p ≤ i ∧ i ≤ bs.length ∧ x = nI i ∧ hI h' (A 34) = cpF (hI h (A 34)) (hI h (A 12)) (144 * s) p (i - p) ∧ Mf A [34] h0 h', fun x h' => bs.length - x.toNatClampNeg, ⟨p, Nat.le_refl _, hp, rfl, by rw [Nat.sub_self, cpF_0]; exact e34, Mf.rfl⟩, ?_⟩
    rintro _ h1 ⟨i, hi1, hi2, rfl, g34, F1⟩
    have F01 := F0.trans (F1.mono (by simp))
    have M1 := F01.ma M
    have B1 := B.kept F01 M.j (by decide) (by decide)
    unfold wB_MO_keepData_46
    rw [B1.1, nI_leI (by omega) (by omega)]
    refine ⟨M1.s41, fun c1 => ⟨s, by omega, c, ?_, ?_, ?_, ?_, F01⟩, fun c1 => ?_⟩
    · rw [F1.i M.j 31 (by decide) (by decide) (by decide)]; exact e31
    · rw [F1.i M.j 32 (by decide) (by decide) (by decide)]; exact e32
    · rw [F1.i M.j 33 (by decide) (by decide) (by decide)]; exact e33
    · rw [g34, show i = bs.length by omega]
    · rw [show (144 : Int32) = nI 144 from rfl, pk_mul, nI_add, pk_sub (by omega)]
      refine ⟨A 12, M1.r12, 176, i, ⟨M1.s12, rfl, by omega, by omega⟩, A 34, M1.r34, 1728, _, ⟨M1.s34, rfl, by omega, by omega⟩, ?_⟩
      rintro _ rfl
      rw [nI_1]
      refine ⟨⟨i + 1, by omega, by omega, rfl, ?_, F1.trans (mf_pI M.j (by decide) (by decide) (by decide))⟩, mu_lt (by omega) (by omega)⟩
      have g12 := F01.i M.j 12 (by decide) (by decide) (by decide)
      have hs := cpF_succ (hI h (A 34)) (hI h (A 12)) (144 * s) p (i - p)
      rw [show p + (i - p) = i by omega, show 144 * s + (i - p) = 144 * s + i - p by omega, show i - p + 1 = i + 1 - p by omega] at hs
      rw [rE, g34, g12, hs]
  · rintro _ rfl
    rw [nI_1]
    have : s ≠ f := fun z => c (by rw [z]; exact hf0)
    exact ⟨⟨rfl, s + 1, by omega, rfl⟩, mu_lt (by omega) (by omega)⟩
theorem mat_snoc_l {ms : List SMs} {m : SMs} {k : Nat} (hk : k < ms.length) : mat (ms ++ [m]) k = mat ms k := getD_snocl hk
theorem mat_snoc_r {ms : List SMs} {m : SMs} : mat (ms ++ [m]) ms.length = m := getD_snocr
theorem mem_pend_lt {ms : List SMs} {k : Nat} (hk : k ∈ pend ms) : k < ms.length := pend_lt hk
set_option maxHeartbeats 1000000 in
theorem c_MO_receive (R : MR A h S) (W : WX S) : Ci G l M_MO_receive (d + 5) (w + 131) [.ref (A 41)] h 0 0 (fun r h' => r = (sRcv S).2 ∧ MQr A h (sRcv S).1 h') := by
  refine ok_MO_receive ?_
  have R0 := R
  obtain ⟨M, r1, r2, r3, r4, r5, r6, r7, r8, r9⟩ := R
  obtain ⟨hw1, hw2, hw3, hw4, hw5, hw6, hw7, hw8, hw9⟩ := W.1
  unfold wp_MO_receive wJ_MO_receive_30 sRcv
  refine ⟨M.s41, A 16, M.r16, 9, 0, ⟨M.s16, rfl, by decide, by decide⟩, ?_⟩
  have q1 := (r5 0 (by decide)).1
  rw [linS_0, List.length_map] at q1
  rw [q1, eqL (by omega) (by decide), r7.1.2.1, r7.1.1, eqL (by omega) (by decide), eqL (by omega) (by decide)]
  cases hu : S.2.1 with
  | nil => exact ⟨fun z => absurd rfl z, fun _ => ⟨rfl, MQr.same R0⟩⟩
  | cons p up =>
    dsimp only
    refine ⟨fun _ => ⟨fun c => ?_, fun c1 => ⟨fun c2 => ?_, fun c2 => ?_⟩⟩, fun z => absurd z (by simp)⟩
    · have c' : (pend S.2.2.2.1).length = 12 := c
      rw [if_pos (Or.inl (by omega))]
      exact ⟨rfl, MQr.same R0⟩
    · have c1' : ¬ (pend S.2.2.2.1).length = 12 := c1
      have c2' : ¬ S.2.2.2.1.length = 100 := c2
      rw [if_neg (by omega)]
      have U := hw3 p (by rw [hu]; exact List.mem_cons_self ..)
      have hra : RA A h 0 p.2 := by
        have := (r5 0 (by decide)).2.2.2 0 (by rw [linS_0, hu]; simp)
        rw [linS_0, hu] at this
        exact this
      have hdev : hI h (A 15) 0 = nI p.1 := by
        have := r6 0 (by rw [hu]; simp)
        rw [hu] at this
        exact this
      refine ⟨_, c_MO_load (r := 0) M hra (by decide) (by have := U.2.2.1; omega), ?_⟩
      rintro h1 ⟨B1, F1⟩
      have M1 := F1.ma M
      have ra1 : RA A h1 0 p.2 := ⟨by rw [F1.i M.j 14 (by decide) (by decide) (by decide)]; exact hra.1, fun i hi => by rw [F1.i M.j 13 (by decide) (by decide) (by decide)]; exact hra.2 i hi⟩
      refine ⟨M1.s41, _, c_MO_legal M1 B1 ra1 U.2.2.2.1 U.2.1 (by have := U.2.2.1; omega), ?_⟩
      rintro x h2 ⟨hx, F2⟩
      have M2 := F2.ma M1
      have F02 : Mf A [2, 3, 11, 12] h h2 := (F1.mono (by simp)).trans F2
      have ra2 : RA A h2 0 p.2 := ⟨by rw [F02.i M.j 14 (by decide) (by decide) (by decide)]; exact hra.1, fun i hi => by rw [F02.i M.j 13 (by decide) (by decide) (by decide)]; exact hra.2 i hi⟩
      refine ⟨M2.s41, A 15, M2.r15, 56, 0, ⟨M2.s15, rfl, by decide, by decide⟩, ?_⟩
      rintro _ rfl
      rw [F02.i M.j 15 (by decide) (by decide) (by decide), hdev]
      refine ⟨_, c_MO_load (r := 0) M2 ra2 (by decide) (by have := U.2.2.1; omega), ?_⟩
      rintro h3 ⟨B3, F3⟩
      have M3 := F3.ma M2
      have F03 : Mf A [2, 3, 11, 12] h h3 := F02.trans (F3.mono (by simp))
      refine ⟨M3.s41, _, c_MO_removeFirst (n := 0) (r := p.2) (rs := up.map (fun p => p.2)) M3 (r5.kept F03 M.j (by decide) (by decide) (by decide)) (by decide) (by rw [linS_0, hu]; rfl), ?_⟩
      rintro h4 ⟨L4, f15, -, F4⟩
      have M4 := F4.ma M3
      have F04 : Mf A [2, 3, 11, 12, 13, 14, 15, 16] h h4 := (F03.mono (by simp +contextual)).trans (F4.mono (by simp +contextual))
      have B4 := B3.kept F4 M.j (by decide) (by decide)
      have Fr4 : MFr A h4 up := fun j hj => by
        have t := f15 j (by rw [List.length_map]; exact hj)
        rw [show bL 0 + j = j from Nat.zero_add j, F03.i M.j 15 (by decide) (by decide) (by decide)] at t
        rw [t]
        have := r6 (j + 1) (by rw [hu]; simp; omega)
        rw [hu] at this
        exact this
      rcases hx with ⟨lg, rfl⟩ | ⟨lg, rfl⟩
      · -- it is legal
        rw [if_pos (lgB_iff.mpr lg)]
        refine ⟨fun _ => ?_, fun z => absurd (nI_pos' (by have := lg.2.1.2.2.1; unfold sda; omega)) z⟩
        have hs2 : sda p.2 = 7 + (bt p.2 2 + 1) / 2 := rfl
        have h12 := lg.2.1.2.2.1
        obtain ⟨u1, u2, u3, u4, u5, u6⟩ := lg.2.2.2
        have hlen := U.2.2.1
        have hbt := U.2.2.2.1
        have ms17 : hI h4 (A 41) 17 = nI S.2.2.2.1.length := by rw [F04.2.2 17 (by decide)]; exact r7.1.1
        have ms18 : hI h4 (A 41) 18 = nI (pend S.2.2.2.1).length := by rw [F04.2.2 18 (by decide)]; exact r7.1.2.1
        have ms19 : hI h4 (A 41) 19 = nI S.2.2.2.2 := by rw [F04.2.2 19 (by decide)]; exact r7.1.2.2
        refine ⟨M4.s41, ?_⟩
        rintro _ rfl
        rw [ms17]
        generalize hm : S.2.2.2.1.length = m at *
        have hm100 : m < 100 := by omega
        refine ⟨A 20, M4.r20, 100, m, ⟨M4.s20, rfl, hm100, by omega⟩, A 12, M4.r12, 176, 1, ⟨M4.s12, rfl, by decide, by decide⟩, A 21, M4.r21, 100, m, ⟨M4.s21, rfl, hm100, by omega⟩, A 4, M4.r4, 4, p.1, ⟨M4.s4, rfl, U.1, by have := U.1; omega⟩, A 22, M4.r22, 100, m, ⟨M4.s22, rfl, hm100, by omega⟩, ?_⟩
        have hbf : ∀ {a b c : Int32}, hI (pI (pI (pI h4 (A 41) 17 a) (A 41) 18 b) (A 20) m c) (A 12) = hI h4 (A 12) := fun {a b c} => by
          rw [rN M.j (by decide) (by decide) (by decide), rN M.j (by decide) (by decide) (by decide), rN M.j (by decide) (by decide) (by decide)]
        have hnum : hL h4 (A 4) p.1 = lN (dNum (S.1 p.1)) := by rw [F04.l M.j 4 (by decide) (by decide) (by decide)]; exact (r2 p.1 U.1).1
        rw [hI_pI_ne (by omega), ms18, nI_1, nI_1, hbf, B4.2.2 1 (by omega), hnum]
        have F6 : Mf A [17, 18, 20, 21, 22] h4 (pL (pI (pI (pI (pI h4 (A 41) 17 (nI (m + 1))) (A 41) 18 (nI ((pend S.2.2.2.1).length + 1))) (A 20) m (nI p.1)) (A 21) m (nI (bt p.2 1))) (A 22) m (lN (dNum (S.1 p.1)))) := (mf_pS (by decide)).trans ((mf_pS (by decide)).trans ((mf_pI M.j (by decide) (by decide) (by decide)).trans ((mf_pI M.j (by decide) (by decide) (by decide)).trans (mf_pL (by decide) (by decide)))))
        have e17 : hI (pL (pI (pI (pI (pI h4 (A 41) 17 (nI (m + 1))) (A 41) 18 (nI ((pend S.2.2.2.1).length + 1))) (A 20) m (nI p.1)) (A 21) m (nI (bt p.2 1))) (A 22) m (lN (dNum (S.1 p.1)))) (A 41) 17 = nI (m + 1) := by
          rw [rIL, rN M.j (by decide) (by decide) (by decide), rN M.j (by decide) (by decide) (by decide), hI_pI_ne (by omega), hI_pI_eq]
        have e18 : hI (pL (pI (pI (pI (pI h4 (A 41) 17 (nI (m + 1))) (A 41) 18 (nI ((pend S.2.2.2.1).length + 1))) (A 20) m (nI p.1)) (A 21) m (nI (bt p.2 1))) (A 22) m (lN (dNum (S.1 p.1)))) (A 41) 18 = nI ((pend S.2.2.2.1).length + 1) := by
          rw [rIL, rN M.j (by decide) (by decide) (by decide), rN M.j (by decide) (by decide) (by decide), hI_pI_eq]
        have e20 : hI (pL (pI (pI (pI (pI h4 (A 41) 17 (nI (m + 1))) (A 41) 18 (nI ((pend S.2.2.2.1).length + 1))) (A 20) m (nI p.1)) (A 21) m (nI (bt p.2 1))) (A 22) m (lN (dNum (S.1 p.1)))) (A 20) = va_up (hI h4 (A 20)) m (nI p.1) := by
          rw [rIL, rN M.j (by decide) (by decide) (by decide), rE, rN M.j (by decide) (by decide) (by decide), rN M.j (by decide) (by decide) (by decide)]
        have e21 : hI (pL (pI (pI (pI (pI h4 (A 41) 17 (nI (m + 1))) (A 41) 18 (nI ((pend S.2.2.2.1).length + 1))) (A 20) m (nI p.1)) (A 21) m (nI (bt p.2 1))) (A 22) m (lN (dNum (S.1 p.1)))) (A 21) = va_up (hI h4 (A 21)) m (nI (bt p.2 1)) := by
          rw [rIL, rE, rN M.j (by decide) (by decide) (by decide), rN M.j (by decide) (by decide) (by decide), rN M.j (by decide) (by decide) (by decide)]
        have e22 : hL (pL (pI (pI (pI (pI h4 (A 41) 17 (nI (m + 1))) (A 41) 18 (nI ((pend S.2.2.2.1).length + 1))) (A 20) m (nI p.1)) (A 21) m (nI (bt p.2 1))) (A 22) m (lN (dNum (S.1 p.1)))) (A 22) = va_up (hL h4 (A 22)) m (lN (dNum (S.1 p.1))) := by
          rw [rEL]
          rfl
        generalize pL (pI (pI (pI (pI h4 (A 41) 17 (nI (m + 1))) (A 41) 18 (nI ((pend S.2.2.2.1).length + 1))) (A 20) m (nI p.1)) (A 21) m (nI (bt p.2 1))) (A 22) m (lN (dNum (S.1 p.1))) = h6 at F6 e17 e18 e20 e21 e22 ⊢
        have M6 := F6.ma M4
        have B6 := B4.kept F6 M.j (by decide) (by decide)
        refine ⟨_, c_MO_readNumber (p := 2) M6 B6 hbt (by decide), ?_⟩
        rintro y _ ⟨rfl, hy⟩
        have hrn : RN p.2 2 := ⟨lg.2.1.1, lg.2.1.2.1, h12, by omega, fun k hk => (lg.2.1.2.2.2.2.1 k hk).2.1⟩
        have ey : y = lN (sTo p.2) := by
          rcases hy with ⟨-, e⟩ | ⟨e, -⟩
          · exact e
          · exact absurd hrn e
        subst ey
        refine ⟨A 23, M4.r23, 100, m, ⟨M6.s23, rfl, hm100, by omega⟩, M6.s41, A 12, M6.r12, 176, 0, ⟨M6.s12, rfl, by decide, by decide⟩, ?_⟩
        rw [B6.2.2 0 (by omega), wnt_and (hbt 0)]
        -- the rest, the two flags being known
        have tail : ∀ a b : Int32, (a = if wnt p.2 then 1 else 0) → (b = if hdr p.2 then 1 else 0) → wJ_MO_receive_179 G l d w (fun r h' => r = nI m ∧ MQr A h (S.1, up, S.2.2.1, S.2.2.2.1 ++ [rMsg S p], S.2.2.2.2) h') (A 41) (nI (sda p.2)) (nI p.1) (nI m) b (nI m) (hR h6 (A 41) 25) (pI (pL h6 (A 23) m (lN (sTo p.2))) (A 24) m a) := by
          intro a b ea eb
          unfold wJ_MO_receive_179
          refine ⟨A 25, M6.r25, 100, m, ⟨M6.s25, rfl, hm100, by omega⟩, by rw [eb]; cases hdr p.2 <;> simp, M6.s41, A 26, M6.r26, 100, m, ⟨M6.s26, rfl, hm100, by omega⟩, A 12, M6.r12, 176, sda p.2 - 1, ⟨M6.s12, pk_sub (show 1 ≤ sda p.2 by omega), by omega, by omega⟩, A 27, M6.r27, 100, m, ⟨M6.s27, rfl, hm100, by omega⟩, A 28, M6.r28, 100, m, ⟨M6.s28, rfl, hm100, by omega⟩, ?_⟩
          have t19 : hI h6 (A 41) 19 = nI S.2.2.2.2 := by rw [F6.2.2 19 (by decide)]; exact ms19
          have x19 : hI (pI (pI (pL h6 (A 23) m (lN (sTo p.2))) (A 24) m a) (A 25) m b) (A 41) = hI h6 (A 41) := by
            rw [rN M.j (by decide) (by decide) (by decide), rN M.j (by decide) (by decide) (by decide), rIL]
          have x26 : ∀ v, hI (pI (pI (pI (pL h6 (A 23) m (lN (sTo p.2))) (A 24) m a) (A 25) m b) (A 26) m v) (A 41) = hI h6 (A 41) := fun v => by
            rw [rN M.j (by decide) (by decide) (by decide), x19]
          have x12 : ∀ v, hI (pI (pI (pI (pL h6 (A 23) m (lN (sTo p.2))) (A 24) m a) (A 25) m b) (A 26) m v) (A 12) = hI h6 (A 12) := fun v => by
            rw [rN M.j (by decide) (by decide) (by decide), rN M.j (by decide) (by decide) (by decide), rN M.j (by decide) (by decide) (by decide), rIL]
          have x27 : ∀ v u, hI (pI (pI (pI (pI (pL h6 (A 23) m (lN (sTo p.2))) (A 24) m a) (A 25) m b) (A 26) m v) (A 27) m u) (A 41) = hI h6 (A 41) := fun v u => by
            rw [rN M.j (by decide) (by decide) (by decide), x26]
          have hbv := hbt (sda p.2 - 1)
          have hold' : nI S.2.2.2.2 + 5 * (nI (bt p.2 (sda p.2 - 1)) + 1) = nI (sOld p.2 S.2.2.2.2) := by
            rw [nI_1, show (5 : Int32) = nI 5 from rfl, pk_mul, nI_add]
            rfl
          rw [x27, x26, x12, x19, t19, B6.2.2 _ (by omega), hold']
          have F9 : Mf A [23, 24, 25, 26, 27, 28] h6 (pI (pI (pI (pI (pI (pL h6 (A 23) m (lN (sTo p.2))) (A 24) m a) (A 25) m b) (A 26) m (nI S.2.2.2.2)) (A 27) m (nI (sOld p.2 S.2.2.2.2))) (A 28) m (nI S.2.2.2.2)) := (mf_pL (by decide) (by decide)).trans ((mf_pI M.j (by decide) (by decide) (by decide)).trans ((mf_pI M.j (by decide) (by decide) (by decide)).trans ((mf_pI M.j (by decide) (by decide) (by decide)).trans ((mf_pI M.j (by decide) (by decide) (by decide)).trans (mf_pI M.j (by decide) (by decide) (by decide))))))
          have k23 : hL (pI (pI (pI (pI (pI (pL h6 (A 23) m (lN (sTo p.2))) (A 24) m a) (A 25) m b) (A 26) m (nI S.2.2.2.2)) (A 27) m (nI (sOld p.2 S.2.2.2.2))) (A 28) m (nI S.2.2.2.2)) (A 23) = va_up (hL h6 (A 23)) m (lN (sTo p.2)) := by
            rw [rLI, rLI, rLI, rLI, rLI, rEL]
          have k24 : hI (pI (pI (pI (pI (pI (pL h6 (A 23) m (lN (sTo p.2))) (A 24) m a) (A 25) m b) (A 26) m (nI S.2.2.2.2)) (A 27) m (nI (sOld p.2 S.2.2.2.2))) (A 28) m (nI S.2.2.2.2)) (A 24) = va_up (hI h6 (A 24)) m a := by
            rw [rN M.j (by decide) (by decide) (by decide), rN M.j (by decide) (by decide) (by decide), rN M.j (by decide) (by decide) (by decide), rN M.j (by decide) (by decide) (by decide), rE, rIL]
          have k25 : hI (pI (pI (pI (pI (pI (pL h6 (A 23) m (lN (sTo p.2))) (A 24) m a) (A 25) m b) (A 26) m (nI S.2.2.2.2)) (A 27) m (nI (sOld p.2 S.2.2.2.2))) (A 28) m (nI S.2.2.2.2)) (A 25) = va_up (hI h6 (A 25)) m b := by
            rw [rN M.j (by decide) (by decide) (by decide), rN M.j (by decide) (by decide) (by decide), rN M.j (by decide) (by decide) (by decide), rE, rN M.j (by decide) (by decide) (by decide), rIL]
          have k26 : hI (pI (pI (pI (pI (pI (pL h6 (A 23) m (lN (sTo p.2))) (A 24) m a) (A 25) m b) (A 26) m (nI S.2.2.2.2)) (A 27) m (nI (sOld p.2 S.2.2.2.2))) (A 28) m (nI S.2.2.2.2)) (A 26) = va_up (hI h6 (A 26)) m (nI S.2.2.2.2) := by
            rw [rN M.j (by decide) (by decide) (by decide), rN M.j (by decide) (by decide) (by decide), rE, rN M.j (by decide) (by decide) (by decide), rN M.j (by decide) (by decide) (by decide), rIL]
          have k27 : hI (pI (pI (pI (pI (pI (pL h6 (A 23) m (lN (sTo p.2))) (A 24) m a) (A 25) m b) (A 26) m (nI S.2.2.2.2)) (A 27) m (nI (sOld p.2 S.2.2.2.2))) (A 28) m (nI S.2.2.2.2)) (A 27) = va_up (hI h6 (A 27)) m (nI (sOld p.2 S.2.2.2.2)) := by
            rw [rN M.j (by decide) (by decide) (by decide), rE, rN M.j (by decide) (by decide) (by decide), rN M.j (by decide) (by decide) (by decide), rN M.j (by decide) (by decide) (by decide), rIL]
          have k28 : hI (pI (pI (pI (pI (pI (pL h6 (A 23) m (lN (sTo p.2))) (A 24) m a) (A 25) m b) (A 26) m (nI S.2.2.2.2)) (A 27) m (nI (sOld p.2 S.2.2.2.2))) (A 28) m (nI S.2.2.2.2)) (A 28) = va_up (hI h6 (A 28)) m (nI S.2.2.2.2) := by
            rw [rE, rN M.j (by decide) (by decide) (by decide), rN M.j (by decide) (by decide) (by decide), rN M.j (by decide) (by decide) (by decide), rN M.j (by decide) (by decide) (by decide), rIL]
          generalize pI (pI (pI (pI (pI (pL h6 (A 23) m (lN (sTo p.2))) (A 24) m a) (A 25) m b) (A 26) m (nI S.2.2.2.2)) (A 27) m (nI (sOld p.2 S.2.2.2.2))) (A 28) m (nI S.2.2.2.2) = h9 at F9 k23 k24 k25 k26 k27 k28 ⊢
          have M9 := F9.ma M6
          have B9 := B6.kept F9 M.j (by decide) (by decide)
          have F49 : Mf A [17, 18, 20, 21, 22, 23, 24, 25, 26, 27, 28] h4 h9 := (F6.mono (by simp +contextual)).trans (F9.mono (by simp +contextual))
          have F09 : Mf A [2, 3, 11, 12, 13, 14, 15, 16, 17, 18, 20, 21, 22, 23, 24, 25, 26, 27, 28] h h9 := (F04.mono (by simp +contextual)).trans (F49.mono (by simp +contextual))
          have c9 := r8.kept F09 M.j (by decide) (by decide) (by decide) (by decide)
          refine ⟨_, c_MO_keepData M9 B9 hm100 (by omega) (by omega) (c9.free (by omega)), ?_⟩
          rintro h10 ⟨s, hs12, hs0, w31, w32, w33, w34, F10⟩
          have F010 : Mf A [2, 3, 11, 12, 13, 14, 15, 16, 17, 18, 20, 21, 22, 23, 24, 25, 26, 27, 28, 31, 32, 33, 34] h h10 := (F09.mono (by simp +contextual)).trans (F10.mono (by simp +contextual))
          have F410 : Mf A [17, 18, 20, 21, 22, 23, 24, 25, 26, 27, 28, 31, 32, 33, 34] h4 h10 := (F49.mono (by simp +contextual)).trans (F10.mono (by simp +contextual))
          refine ⟨rfl, ⟨F010.ma M, r1.kept F010 M.j (by decide) (by decide), r2.kept F010 M.j (fun _ _ => ⟨rfl, rfl⟩) (by decide) (by decide), r3.kept F010 M.j (fun _ _ => ⟨rfl, rfl⟩) (by decide) (by decide), r4.kept F010 M.j (fun _ _ => ⟨rfl, rfl⟩) (by decide) (by decide) (by decide), ?_, Fr4.kept F410 M.j (by decide), ⟨⟨?_, ?_, ?_⟩, fun k hk => ?_, fun k hk => ?_⟩, ?_, r9.kept F010 M.j (fun _ _ => rfl) (by simp; omega)⟩, F010.mono (by decide)⟩
          · show LR A h10 (linS (S.1, up, S.2.2.1, S.2.2.2.1 ++ [rMsg S p], S.2.2.2.2))
            rw [linS_up]
            exact L4.kept F410 M.j (by decide) (by decide) (by decide)
          · rw [F10.2.2 17 (by decide), F9.2.2 17 (by decide), e17, List.length_append, hm]
            rfl
          · rw [F10.2.2 18 (by decide), F9.2.2 18 (by decide), e18, pend_snoc, if_pos (show mFate (rMsg S p) = 0 from rfl), List.length_append]
            rfl
          · rw [F10.2.2 19 (by decide), F9.2.2 19 (by decide)]
            exact t19
          · -- the messages
            rw [List.length_append, hm] at hk
            simp only [List.length_cons, List.length_nil] at hk
            have z20 : hI h10 (A 20) = va_up (hI h (A 20)) m (nI p.1) := by rw [F10.i M.j 20 (by decide) (by decide) (by decide), F9.i M.j 20 (by decide) (by decide) (by decide), e20, F04.i M.j 20 (by decide) (by decide) (by decide)]
            have z21 : hI h10 (A 21) = va_up (hI h (A 21)) m (nI (bt p.2 1)) := by rw [F10.i M.j 21 (by decide) (by decide) (by decide), F9.i M.j 21 (by decide) (by decide) (by decide), e21, F04.i M.j 21 (by decide) (by decide) (by decide)]
            have z22 : hL h10 (A 22) = va_up (hL h (A 22)) m (lN (dNum (S.1 p.1))) := by rw [F10.l M.j 22 (by decide) (by decide) (by decide), F9.l M.j 22 (by decide) (by decide) (by decide), e22, F04.l M.j 22 (by decide) (by decide) (by decide)]
            have z23 : hL h10 (A 23) = va_up (hL h (A 23)) m (lN (sTo p.2)) := by rw [F10.l M.j 23 (by decide) (by decide) (by decide), k23, F6.l M.j 23 (by decide) (by decide) (by decide), F04.l M.j 23 (by decide) (by decide) (by decide)]
            have z24 : hI h10 (A 24) = va_up (hI h (A 24)) m a := by rw [F10.i M.j 24 (by decide) (by decide) (by decide), k24, F6.i M.j 24 (by decide) (by decide) (by decide), F04.i M.j 24 (by decide) (by decide) (by decide)]
            have z25 : hI h10 (A 25) = va_up (hI h (A 25)) m b := by rw [F10.i M.j 25 (by decide) (by decide) (by decide), k25, F6.i M.j 25 (by decide) (by decide) (by decide), F04.i M.j 25 (by decide) (by decide) (by decide)]
            have z26 : hI h10 (A 26) = va_up (hI h (A 26)) m (nI S.2.2.2.2) := by rw [F10.i M.j 26 (by decide) (by decide) (by decide), k26, F6.i M.j 26 (by decide) (by decide) (by decide), F04.i M.j 26 (by decide) (by decide) (by decide)]
            have z27 : hI h10 (A 27) = va_up (hI h (A 27)) m (nI (sOld p.2 S.2.2.2.2)) := by rw [F10.i M.j 27 (by decide) (by decide) (by decide), k27, F6.i M.j 27 (by decide) (by decide) (by decide), F04.i M.j 27 (by decide) (by decide) (by decide)]
            have z28 : hI h10 (A 28) = va_up (hI h (A 28)) m (nI S.2.2.2.2) := by rw [F10.i M.j 28 (by decide) (by decide) (by decide), k28, F6.i M.j 28 (by decide) (by decide) (by decide), F04.i M.j 28 (by decide) (by decide) (by decide)]
            have z29 := F010.i M.j 29 (by decide) (by decide) (by decide)
            have z30 := F010.i M.j 30 (by decide) (by decide) (by decide)
            unfold MM1
            rw [z20, z21, z22, z23, z24, z25, z26, z27, z28, z29, z30]
            by_cases ck : k = m
            · rw [ck]
              have em : mat (S.2.2.2.1 ++ [rMsg S p]) m = rMsg S p := by rw [← hm]; exact mat_snoc_r
              rw [em, va_up_self, va_up_self, va_up_self, va_up_self, va_up_self, va_up_self, va_up_self, va_up_self, va_up_self]
              have z0 := r7.2.2 m (by omega)
              exact ⟨rfl, rfl, rfl, rfl, ea, eb, rfl, rfl, rfl, z0.1, z0.2⟩
            · have em : mat (S.2.2.2.1 ++ [rMsg S p]) k = mat S.2.2.2.1 k := mat_snoc_l (by omega)
              rw [em, va_up_ne _ _ ck, va_up_ne _ _ ck, va_up_ne _ _ ck, va_up_ne _ _ ck, va_up_ne _ _ ck, va_up_ne _ _ ck, va_up_ne _ _ ck, va_up_ne _ _ ck, va_up_ne _ _ ck]
              exact r7.2.1 k (by omega)
          · rw [List.length_append, hm] at hk
            simp only [List.length_cons, List.length_nil] at hk
            rw [F010.i M.j 29 (by decide) (by decide) (by decide), F010.i M.j 30 (by decide) (by decide) (by decide)]
            exact r7.2.2 k (by omega)
          · -- the places
            obtain ⟨pl, p1, p2, p3⟩ := c9
            have fresh : ∀ k, k ∈ pend S.2.2.2.1 → pl k ≠ s := fun k hk z => by
              have := (p1 k hk).2.2.1
              rw [z, hs0] at this
              exact absurd this (by decide)
            refine ⟨fun k => if k = m then s else pl k, fun k hk => ?_, fun k j hk hj e => ?_, fun t ht => ?_⟩
            · rw [pend_snoc, if_pos (show mFate (rMsg S p) = 0 from rfl), hm] at hk
              rcases List.mem_append.mp hk with z | z
              · have hkm : k ≠ m := fun q => by have := mem_pend_lt z; omega
                have em : mat (S.2.2.2.1 ++ [rMsg S p]) k = mat S.2.2.2.1 k := mat_snoc_l (by have := mem_pend_lt z; omega)
                have o := p1 k z
                have hf := fresh k z
                show MPd A h10 k (if k = m then s else pl k) _
                rw [if_neg hkm, em]
                refine ⟨o.1, by rw [w31, va_up_ne _ _ hkm]; exact o.2.1, by rw [w32, va_up_ne _ _ hf]; exact o.2.2.1, by rw [w33, va_up_ne _ _ hf]; exact o.2.2.2.1, fun i hi => ?_⟩
                have Wk := hw8 _ (List.mem_of_getElem? (mat_at (pend_lt z)))
                have hu := Wk.1.2.2.2
                have h144 : (mSub (mat S.2.2.2.1 k)).length - sda (mSub (mat S.2.2.2.1 k)) ≤ 144 := by have := hu.2.1; have := hu.2.2.1; omega
                rw [w34, cpF_out (by omega)]
                exact o.2.2.2.2 i hi
              · have ek := List.mem_singleton.mp z
                have em : mat (S.2.2.2.1 ++ [rMsg S p]) k = rMsg S p := by rw [ek, ← hm]; exact mat_snoc_r
                show MPd A h10 k (if k = m then s else pl k) _
                rw [if_pos ek, em, ek]
                refine ⟨hs12, by rw [w31, va_up_self], by rw [w32, va_up_self], by rw [w33, va_up_self]; rfl, fun i hi => ?_⟩
                have hi' : i < p.2.length - sda p.2 := hi
                rw [w34, cpF_in (by omega) (by omega), show sda p.2 + (144 * s + i - 144 * s) = sda p.2 + i by omega]
                exact B9.2.2 _ (by omega)
            · have e' : (if k = m then s else pl k) = (if j = m then s else pl j) := e
              rw [pend_snoc, if_pos (show mFate (rMsg S p) = 0 from rfl), hm] at hk hj
              rcases List.mem_append.mp hk with z | z <;> rcases List.mem_append.mp hj with y | y
              · rw [if_neg (fun q => by have := mem_pend_lt z; omega), if_neg (fun q => by have := mem_pend_lt y; omega)] at e'
                exact p2 k j z y e'
              · rw [if_neg (fun q => by have := mem_pend_lt z; omega), if_pos (List.mem_singleton.mp y)] at e'
                exact absurd e' (fresh k z)
              · rw [if_pos (List.mem_singleton.mp z), if_neg (fun q => by have := mem_pend_lt y; omega)] at e'
                exact absurd e'.symm (fresh j y)
              · rw [List.mem_singleton.mp z, List.mem_singleton.mp y]
            · by_cases ct : t = s
              · right
                exact ⟨m, by rw [pend_snoc, if_pos (show mFate (rMsg S p) = 0 from rfl), hm]; exact List.mem_append_right _ (List.mem_cons_self ..), by show (if m = m then s else pl m) = t; rw [if_pos rfl, ct]⟩
              · rw [w32, va_up_ne _ _ ct]
                rcases p3 t ht with z | ⟨k, hk, e⟩
                · exact Or.inl z
                · refine Or.inr ⟨k, by rw [pend_snoc]; exact List.mem_append_left _ hk, ?_⟩
                  show (if k = m then s else pl k) = t
                  rw [if_neg (fun q => by have := mem_pend_lt hk; omega), e]
        have head : ∀ a : Int32, (a = if wnt p.2 then 1 else 0) → wJ_MO_receive_156 G l d w (fun r h' => r = nI m ∧ MQr A h (S.1, up, S.2.2.1, S.2.2.2.1 ++ [rMsg S p], S.2.2.2.2) h') (A 41) (nI (sda p.2)) (nI p.1) (nI m) a (nI m) (hR h6 (A 41) 24) (pL h6 (A 23) m (lN (sTo p.2))) := by
          intro a ea
          unfold wJ_MO_receive_156
          refine ⟨A 24, M6.r24, 100, m, ⟨M6.s24, rfl, hm100, by omega⟩, by rw [ea]; cases wnt p.2 <;> simp, M6.s41, A 12, M6.r12, 176, 0, ⟨M6.s12, rfl, by decide, by decide⟩, ?_⟩
          rw [rN M.j (by decide) (by decide) (by decide), rIL, B6.2.2 0 (by omega), hdr_and (hbt 0)]
          refine ⟨fun c => tail a 0 ea ?_, fun c => tail a 1 ea ?_⟩
          · unfold hdr
            rw [decide_eq_false (by omega)]
            rfl
          · unfold hdr
            rw [decide_eq_true (by omega)]
            rfl
        refine ⟨fun c => head 0 ?_, fun c => head 1 ?_⟩
        · unfold wnt
          rw [decide_eq_false (by omega)]
          rfl
        · unfold wnt
          rw [decide_eq_true (by omega)]
          rfl
      · -- it is not
        rw [if_neg (fun z => lg (lgB_iff.mp z))]
        refine ⟨fun z => absurd z (by decide), fun _ => ⟨rfl, ?_⟩⟩
        refine ⟨⟨M4, r1.kept F04 M.j (by decide) (by decide), r2.kept F04 M.j (fun _ _ => ⟨rfl, rfl⟩) (by decide) (by decide), r3.kept F04 M.j (fun _ _ => ⟨rfl, rfl⟩) (by decide) (by decide), r4.kept F04 M.j (fun _ _ => ⟨rfl, rfl⟩) (by decide) (by decide) (by decide), ?_, Fr4, r7.kept F04 M.j (by simp; omega), r8.kept F04 M.j (by decide) (by decide) (by decide) (by decide), r9.kept F04 M.j (fun _ _ => rfl) (by simp; omega)⟩, F04.mono (by decide)⟩
        show LR A h4 (linS (S.1, up, S.2.2))
        rw [linS_up]
        exact L4
    · have c2' : S.2.2.2.1.length = 100 := c2
      rw [if_pos (Or.inr (by omega))]
      exact ⟨rfl, MQr.same R0⟩
end MN
