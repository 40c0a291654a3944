/-! the reference's side -/
section MK
variable {G : Gx} {l : Launch} {d w : Nat} {A : Nat → Nat} {h h' : Hp} {F : List Nat} {S : SS}
theorem linOf_yes {y : Int32} (h1 : ¬ y < -1) (h2 : y ≤ 7) : ∃ n, n < 9 ∧ y + 1 = nI n ∧ linOf S y = some (linS S n) := by
  have a1 := Int32.le_iff_toInt_le.mp (Int32.not_lt.mp h1)
  have a2 := Int32.le_iff_toInt_le.mp h2
  have e1 : (-1 : Int32).toInt = -1 := rfl
  have e7 : (7 : Int32).toInt = 7 := rfl
  rw [e1] at a1
  rw [e7] at a2
  by_cases c : y.toInt = -1
  · have : y = -1 := Int32.toInt_inj.mp (by rw [c]; rfl)
    subst this
    exact ⟨0, by decide, by decide, rfl⟩
  · obtain ⟨k, hk, rfl⟩ : ∃ k : Nat, k < 8 ∧ y = nI k := ⟨y.toInt.toNat, by omega, Int32.toInt_inj.mp (by rw [nI_toInt (by omega)]; omega)⟩
    refine ⟨k + 1, by omega, nI_1 k, ?_⟩
    have hm : ¬ nI k = -1 := fun z => by
      have := congrArg Int32.toInt z
      rw [nI_toInt (by omega)] at this
      have e : (-1 : Int32).toInt = -1 := rfl
      omega
    unfold linOf linS
    rw [if_neg hm, if_neg (by omega)]
    by_cases c4 : k < 4
    · rw [devOf_nI c4, if_pos (by omega)]
      rfl
    · have e4 : nI k - 4 = nI (k - 4) := pk_sub (show 4 ≤ k by omega)
      rw [devOf_no (fun z => c4 ((ltL (by omega) (by decide)).mp z.2)), e4, devOf_nI (by omega), if_neg (by omega)]
      dsimp only
      rw [if_neg (fun z => c4 ((ltL (by omega) (by decide)).mp z))]
      rw [show k + 1 - 5 = k - 4 by omega]
theorem linOf_no {y : Int32} (hy : y < -1 ∨ 7 < y) : linOf S y = none := by
  have e1 : (-1 : Int32).toInt = -1 := rfl
  have e7 : (7 : Int32).toInt = 7 := rfl
  have hy' : y.toInt < -1 ∨ 7 < y.toInt := by
    rcases hy with z | z
    · left; have := Int32.lt_iff_toInt_lt.mp z; omega
    · right; have := Int32.lt_iff_toInt_lt.mp z; omega
  have n1 : ∀ k, k < 8 → y ≠ nI k := fun k hk z => by
    rw [z, nI_toInt (by omega)] at hy'
    omega
  unfold linOf
  rw [if_neg (fun z => by rw [z] at hy'; omega)]
  rcases int_dev y with ⟨k, hk, e⟩ | e
  · exact absurd e (n1 k (by omega))
  · rw [devOf_no e]
    rcases int_dev (y - 4) with ⟨k, hk, e4⟩ | e4
    · refine absurd ?_ (n1 (k + 4) (by omega))
      rw [← nI_add, ← e4, show nI 4 = 4 from rfl, Int32.sub_add_cancel]
    · rw [devOf_no e4]
theorem c_MO_waiting {y : Int32} (R : MR A h S) : Ci G l M_MO_waiting (d + 0) (w + 0) [.ref (A 41), .int y] h 0 0 (Xi (sWai S y) h) := by
  refine ok_MO_waiting ?_
  obtain ⟨M, r1, r2, r3, r4, r5, r6, r7, r8, r9⟩ := R
  unfold wp_MO_waiting wJ_MO_waiting_11 wJ_MO_waiting_23 sWai
  refine ⟨fun c => ⟨by rw [linOf_no (Or.inl c)], rfl⟩, fun c => ⟨fun c2 => ?_, fun c2 => ⟨by rw [linOf_no (Or.inr (Int32.not_le.mp c2))], rfl⟩⟩⟩
  obtain ⟨n, hn, e1, e2⟩ := linOf_yes (S := S) c c2
  refine ⟨M.s41, A 16, M.r16, 9, n, ⟨M.s16, e1, hn, by omega⟩, ?_, rfl⟩
  rw [e2]
  exact (r5 n hn).1
theorem c_MO_byteAt {y i : Int32} (R : MR A h S) : Ci G l M_MO_byteAt (d + 1) (w + 20) [.ref (A 41), .int y, .int i] h 0 0 (Xi (sByt S y i) h) := by
  refine ok_MO_byteAt ?_
  obtain ⟨M, r1, r2, r3, r4, r5, r6, r7, r8, r9⟩ := R
  unfold wp_MO_byteAt wJ_MO_byteAt_22 wJ_MO_byteAt_46 wJ_MO_byteAt_63 sByt
  refine ⟨fun c => ⟨by rw [linOf_no (Or.inl c)], rfl⟩, fun c => ⟨fun c2 => ⟨by rw [linOf_no (Or.inr c2)], rfl⟩, fun c2 => ?_⟩⟩
  obtain ⟨n, hn, e1, e2⟩ := linOf_yes (S := S) c (Int32.not_lt.mp c2)
  obtain ⟨q1, q2, q3, q4⟩ := r5 n hn
  have hcn := cap_le n
  rw [e1, e2]
  refine ⟨M.s41, A 16, M.r16, 9, n, ⟨M.s16, rfl, hn, by omega⟩, ?_⟩
  rw [q1, eqL (by omega) (by decide)]
  cases hL : linS S n with
  | nil => exact ⟨fun z => absurd rfl z, fun _ => ⟨rfl, rfl⟩⟩
  | cons r rs =>
    refine ⟨fun _ => ⟨_, c_MO_baseOf hn, ?_⟩, fun z => absurd z (by simp)⟩
    rintro _ _ ⟨rfl, rfl⟩
    have hr := q4 0 (by rw [hL]; simp)
    rw [hL, Nat.add_zero] at hr
    have hr' : RA A h (bL n) r := hr
    have hl := q3 r (by rw [hL]; exact List.mem_cons_self ..)
    have h56 := row_lt hn (k := 0) (by have := bL_or n; omega)
    dsimp only
    refine ⟨fun c0 => ⟨by rw [if_pos (Or.inl c0)], rfl⟩, fun c0 => ⟨M.s41, A 14, M.r14, 56, bL n, ⟨M.s14, rfl, by omega, by omega⟩, ?_⟩⟩
    obtain ⟨j, hj, rfl⟩ := i_nat c0
    rw [hr'.1, nI_ltI (by omega) (by omega)]
    refine ⟨fun c3 => ⟨A 13, M.r13, 8960, 160 * bL n + j, ⟨M.s13, by rw [show (160 : Int32) = nI 160 from rfl, pk_mul, nI_add], by omega, by omega⟩, ?_, rfl⟩, fun c3 => ⟨by rw [if_pos (Or.inr (nI_le (by omega) (by omega)))], rfl⟩⟩
    rw [if_neg, hr'.2 j c3, nI_clamp (by omega)]
    rintro (z | z)
    · exact c0 z
    · have := (nI_leI (by omega) (by omega)).mp z
      omega
theorem linS_up (up : List (Nat × List Nat)) (r : List Nat × List SMs × Nat) : linS (S.1, up, r) = updL (linS S) 0 (up.map (fun p => p.2)) := by
  funext n
  unfold linS updL
  dsimp only
  by_cases c : n = 0
  · rw [if_pos c, if_pos c]
  · rw [if_neg c, if_neg c, if_neg c]
theorem linS_inb {k : Nat} {v : SDv} {x : List (List Nat)} (hk : k < 4) (hi : dInb v = x) (hr : dRep v = dRep (S.1 k)) (t : List (Nat × List Nat) × List Nat × List SMs × Nat) (ht : t.1 = S.2.1) : linS (updD S.1 k v, t) = updL (linS S) (1 + k) x := by
  funext n
  unfold linS updL
  dsimp only
  by_cases c : n = 0
  · rw [if_pos c, if_neg (by omega), if_pos c]
    rw [ht]
  · rw [if_neg c, if_neg c]
    by_cases c5 : n < 5
    · rw [if_pos c5]
      by_cases ck : n = 1 + k
      · rw [if_pos ck, ck, show 1 + k - 1 = k by omega]
        show dInb (updD S.1 k v k) = x
        rw [updD_eq, hi]
      · rw [if_neg ck, if_pos c5]
        show dInb (updD S.1 k v (n - 1)) = _
        rw [updD_ne (by omega)]
    · rw [if_neg c5, if_neg (by omega), if_neg c5]
      show dRep (updD S.1 k v (n - 5)) = _
      by_cases ck : n - 5 = k
      · rw [ck, updD_eq, hr]
      · rw [updD_ne ck]
theorem linS_rep {k : Nat} {v : SDv} {x : List (List Nat)} (hk : k < 4) (hi : dRep v = x) (hr : dInb v = dInb (S.1 k)) (t : List (Nat × List Nat) × List Nat × List SMs × Nat) (ht : t.1 = S.2.1) : linS (updD S.1 k v, t) = updL (linS S) (5 + k) x := by
  funext n
  unfold linS updL
  dsimp only
  by_cases c : n = 0
  · rw [if_pos c, if_neg (by omega), if_pos c]
    rw [ht]
  · rw [if_neg c, if_neg c]
    by_cases c5 : n < 5
    · rw [if_pos c5, if_neg (by omega), if_pos c5]
      show dInb (updD S.1 k v (n - 1)) = _
      by_cases ck : n - 1 = k
      · rw [ck, updD_eq, hr]
      · rw [updD_ne ck]
    · rw [if_neg c5]
      by_cases ck : n = 5 + k
      · rw [if_pos ck, ck, show 5 + k - 5 = k by omega]
        show dRep (updD S.1 k v k) = x
        rw [updD_eq, hi]
      · rw [if_neg ck, if_neg c5]
        show dRep (updD S.1 k v (n - 5)) = _
        rw [updD_ne (by omega)]
theorem linS_i {k : Nat} (hk : k < 4) : linS S (1 + k) = dInb (S.1 k) := by
  unfold linS
  rw [if_neg (by omega), if_pos (by omega), show 1 + k - 1 = k by omega]
theorem linS_r {k : Nat} (_hk : k < 4) : linS S (5 + k) = dRep (S.1 k) := by
  unfold linS
  rw [if_neg (by omega), if_neg (by omega), show 5 + k - 5 = k by omega]
theorem linS_0 : linS S 0 = S.2.1.map (fun p => p.2) := rfl
theorem c_MO_alter {i y : Int32} (R : MR A h S) (W : WX S) : Ci G l M_MO_alter (d + 0) (w + 0) [.ref (A 41), .int i, .int y] h 0 0 (fun r h' => r = (sAlt S i y).2 ∧ MQr A h (sAlt S i y).1 h') := by
  refine ok_MO_alter ?_
  have R0 := R
  obtain ⟨M, r1, r2, r3, r4, r5, r6, r7, r8, r9⟩ := R
  obtain ⟨q1, q2, q3, q4⟩ := r5 0 (by decide)
  rw [linS_0] at q1 q2 q3 q4
  rw [List.length_map] at q1 q2 q4
  have hcap : cap 0 = 8 := rfl
  unfold wp_MO_alter wJ_MO_alter_35 sAlt
  refine ⟨M.s41, A 16, M.r16, 9, 0, ⟨M.s16, rfl, by decide, by decide⟩, ?_⟩
  rw [q1, eqL (by omega) (by decide)]
  have W3 := W.1.2.2.1
  cases hu : S.2.1 with
  | nil => exact ⟨fun _ => ⟨rfl, MQr.same R0⟩, fun z => absurd rfl z⟩
  | cons p up =>
    have U := W3 p (by rw [hu]; exact List.mem_cons_self ..)
    have hr := q4 0 (by rw [hu]; simp)
    rw [hu] at hr
    have hr' : RA A h 0 p.2 := hr
    have same : ¬ (0 ≤ i ∧ i < nI p.2.length ∧ 1 ≤ y ∧ y ≤ 255) → ((0 : Int32) = (if 0 ≤ i ∧ i < nI p.2.length ∧ 1 ≤ y ∧ y ≤ 255 then ((S.1, (p.1, p.2.set i.toNatClampNeg (bt p.2 i.toNatClampNeg ^^^ y.toNatClampNeg)) :: up, S.2.2), (1 : Int32)) else (S, 0)).2 ∧ MQr A h (if 0 ≤ i ∧ i < nI p.2.length ∧ 1 ≤ y ∧ y ≤ 255 then ((S.1, (p.1, p.2.set i.toNatClampNeg (bt p.2 i.toNatClampNeg ^^^ y.toNatClampNeg)) :: up, S.2.2), (1 : Int32)) else (S, 0)).1 h) := fun c => by
      rw [if_neg c]
      exact ⟨rfl, MQr.same R0⟩
    dsimp only
    refine ⟨fun z => absurd z (by simp), fun _ => ⟨fun c => same (fun z => absurd c (Int32.not_lt.mpr z.1)), fun c => ⟨A 14, M.r14, 56, 0, ⟨M.s14, rfl, by decide, by decide⟩, ?_⟩⟩⟩
    rw [hr'.1]
    refine ⟨fun c2 => same (fun z => absurd c2 (Int32.not_le.mpr z.2.1)), fun c2 => ⟨fun c3 => same (fun z => absurd c3 (Int32.not_lt.mpr z.2.2.1)), fun c3 => ⟨fun c4 => ?_, fun c4 => same (fun z => c4 z.2.2.2)⟩⟩⟩
    rw [if_pos ⟨Int32.not_lt.mp c, Int32.not_le.mp c2, Int32.not_lt.mp c3, c4⟩]
    obtain ⟨j, hj, rfl⟩ := i_nat c
    have hl := U.2.2.1
    rw [nI_leI (by omega) (by omega)] at c2
    obtain ⟨x, hx, rfl⟩ := i_nat (y := y) (fun z => by
      have g1 := Int32.le_iff_toInt_le.mp (Int32.not_lt.mp c3)
      have g2 := Int32.lt_iff_toInt_lt.mp z
      have e0 : (0 : Int32).toInt = 0 := rfl
      have e1 : (1 : Int32).toInt = 1 := rfl
      omega)
    rw [nI_clamp hj, nI_clamp hx]
    have hrj := hr'.2 j (by omega)
    rw [Nat.mul_zero, Nat.zero_add] at hrj
    refine ⟨A 13, M.r13, 8960, j, ⟨M.s13, rfl, by omega, by omega⟩, rfl, ?_⟩
    rw [hrj, nI_xor]
    have F0 : Mf A [13] h (pI h (A 13) j (nI (bt p.2 j ^^^ x))) := mf_pI M.j (by decide) (by decide) (by decide)
    have g14 := F0.i M.j 14 (by decide) (by decide) (by decide)
    have g16 := F0.i M.j 16 (by decide) (by decide) (by decide)
    refine ⟨⟨F0.ma M, r1.kept F0 M.j (by decide) (by decide), r2.kept F0 M.j (fun _ _ => ⟨rfl, rfl⟩) (by decide) (by decide), r3.kept F0 M.j (fun _ _ => ⟨rfl, rfl⟩) (by decide) (by decide), r4.kept F0 M.j (fun _ _ => ⟨rfl, rfl⟩) (by decide) (by decide) (by decide), ?_, ?_, r7.kept F0 M.j (by simp; omega), r8.kept F0 M.j (by decide) (by decide) (by decide) (by decide), r9.kept F0 M.j (fun _ _ => rfl) (by simp; omega)⟩, F0.mono (by decide)⟩
    · show LR A _ (linS (S.1, (p.1, p.2.set j (bt p.2 j ^^^ x)) :: up, S.2.2))
      rw [linS_up]
      intro n hn
      obtain ⟨s1, s2, s3, s4⟩ := r5 n hn
      by_cases cn : n = 0
      · subst cn
        rw [updL_eq, g16, List.map_cons]
        rw [linS_0, hu, List.map_cons] at s1 s2 s3 s4
        refine ⟨s1, s2, fun r hr2 => ?_, fun k hk => ?_⟩
        · rcases List.mem_cons.mp hr2 with e | e
          · rw [e, List.length_set]; omega
          · exact s3 r (List.mem_cons_of_mem _ e)
        · have t := s4 k hk
          unfold RA
          rw [g14, rE]
          cases k with
          | zero =>
            refine ⟨?_, fun i hi => ?_⟩
            · show hI h (A 14) 0 = nI (p.2.set j _).length
              rw [List.length_set]
              exact hr'.1
            · have hi' : i < (p.2.set j (bt p.2 j ^^^ x)).length := hi
              rw [List.length_set] at hi'
              show va_up (hI h (A 13)) j _ (160 * 0 + i) = nI (bt (p.2.set j _) i)
              rw [Nat.mul_zero, Nat.zero_add, bt_set]
              by_cases ci : i = j
              · rw [ci, va_up_self, if_pos ⟨rfl, by omega⟩]
              · rw [va_up_ne _ _ ci, if_neg (fun z => ci z.1.symm)]
                have := hr'.2 i hi'
                rw [Nat.mul_zero, Nat.zero_add] at this
                exact this
          | succ k =>
            refine ⟨t.1, fun i hi => ?_⟩
            rw [va_up_ne _ _ (by have : bL 0 = 0 := rfl; omega)]
            exact t.2 i hi
      · rw [updL_ne cn, g16]
        refine ⟨s1, s2, s3, fun k hk => ⟨by rw [g14]; exact (s4 k hk).1, fun i hi => ?_⟩⟩
        rw [rE, va_up_ne _ _ (by have := bL_or n; omega)]
        exact (s4 k hk).2 i hi
    · have r6' := r6.kept F0 M.j (by decide)
      rw [hu] at r6'
      intro k hk
      have := r6' k (by simpa using hk)
      cases k with
      | zero => exact this
      | succ k => exact this
/-- a device's lines alone have changed -/
theorem MR.line {k : Nat} {v : SDv} (R : MR A h S) (F0 : Mf A [11, 12, 13, 14, 15, 16] h h') (e1 : dNum v = dNum (S.1 k) ∧ dOn v = dOn (S.1 k)) (e2 : dMn v = dMn (S.1 k) ∧ dRef v = dRef (S.1 k)) (e3 : dTxt v = dTxt (S.1 k) ∧ dSnd v = dSnd (S.1 k)) (e4 : dPil v = dPil (S.1 k)) (L : LR A h' (linS (updD S.1 k v, S.2))) (Fr' : MFr A h' S.2.1) : MQr A h (updD S.1 k v, S.2) h' := by
  obtain ⟨M, r1, r2, r3, r4, r5, r6, r7, r8, r9⟩ := R
  exact ⟨⟨F0.ma M, r1.kept F0 M.j (by decide) (by decide), r2.kept F0 M.j (updD_all4 (P := fun a b => dNum a = dNum b ∧ dOn a = dOn b) (fun _ => ⟨rfl, rfl⟩) e1) (by decide) (by decide), r3.kept F0 M.j (updD_all4 (P := fun a b => dMn a = dMn b ∧ dRef a = dRef b) (fun _ => ⟨rfl, rfl⟩) e2) (by decide) (by decide), r4.kept F0 M.j (updD_all4 (P := fun a b => dTxt a = dTxt b ∧ dSnd a = dSnd b) (fun _ => ⟨rfl, rfl⟩) e3) (by decide) (by decide) (by decide), L, Fr', r7.kept F0 M.j (by simp; omega), r8.kept F0 M.j (by decide) (by decide) (by decide) (by decide), r9.kept F0 M.j (updD_all4 (P := fun a b => dPil a = dPil b) (fun _ => rfl) e4) (by simp; omega)⟩, F0.mono (by decide)⟩
theorem c_MO_report {y : Int32} (R : MR A h S) (W : WX S) : Ci G l M_MO_report (d + 2) (w + 46) [.ref (A 41), .int y] h 0 0 (fun r h' => r = (sRpt S y).2 ∧ MQr A h (sRpt S y).1 h') := by
  refine ok_MO_report ?_
  have R0 := R
  obtain ⟨M, r1, r2, r3, r4, r5, r6, r7, r8, r9⟩ := R
  unfold wp_MO_report
  refine ⟨_, c_MO_isDevice, ?_⟩
  rintro _ _ ⟨rfl, ⟨k, hk, rfl, hd, rfl⟩ | ⟨hd, rfl⟩⟩
  · unfold sRpt
    rw [hd, show (5 : Int32) + nI k = nI (5 + k) from nI_add 5 k]
    dsimp only
    obtain ⟨q1, q2, q3, q4⟩ := r5 (5 + k) (by omega)
    have hcn := cap_le (5 + k)
    have hL := linS_r (S := S) hk
    rw [hL] at q1 q2 q3 q4
    refine ⟨fun _ => ⟨M.s41, A 16, M.r16, 9, 5 + k, ⟨M.s16, rfl, by omega, by omega⟩, ?_⟩, fun c => absurd c (by decide)⟩
    rw [q1, eqL (by omega) (by decide)]
    have D := (W.1.1 k hk).2.2.2.1
    cases hr : dRep (S.1 k) with
    | nil => exact ⟨fun z => absurd rfl z, fun _ => ⟨rfl, MQr.same R0⟩⟩
    | cons r rs =>
      obtain ⟨b1, b2, b3⟩ := D r (by rw [hr]; exact List.mem_cons_self ..)
      have h56 := row_lt (n := 5 + k) (by omega) (k := 0) (by have := bL_or (5 + k); omega)
      have hra := q4 0 (by rw [hr]; simp)
      rw [hr, Nat.add_zero] at hra
      refine ⟨fun _ => ⟨_, c_MO_baseOf (by omega), ?_⟩, fun z => absurd z (by simp)⟩
      rintro _ _ ⟨rfl, rfl⟩
      refine ⟨M.s41, _, c_MO_load (bs := r) M hra (by omega) b2, ?_⟩
      rintro h1 ⟨B1, F1⟩
      have M1 := F1.ma M
      refine ⟨M1.s41, _, c_MO_removeFirst M1 (r5.kept F1 M.j (by decide) (by decide) (by decide)) (by omega) (by rw [hL, hr]), ?_⟩
      rintro h2 ⟨L2, f1, f2, F2⟩
      have M2 := F2.ma M1
      have B2 := B1.kept F2 M.j (by decide) (by decide)
      have F12 : Mf A [11, 12, 13, 14, 15, 16] h h2 := (F1.mono (by simp)).trans (F2.mono (by simp))
      have bl := b3 (r.length - 1)
      refine ⟨M2.s41, A 12, M2.r12, 176, r.length - 1, ⟨M2.s12, by rw [B2.1]; exact pk_sub (show 1 ≤ r.length by omega), by omega, by omega⟩, A 12, M2.r12, 176, 1, ⟨M2.s12, rfl, by decide, by decide⟩, ?_⟩
      rw [B2.2.2 _ (by omega), B2.2.2 1 (by omega)]
      refine ⟨rfl, R0.line (v := setRep (S.1 k) rs) F12 ⟨rfl, rfl⟩ ⟨rfl, rfl⟩ ⟨rfl, rfl⟩ rfl ?_ (fun j hj => ?_)⟩
      · rw [linS_rep (v := setRep (S.1 k) rs) hk rfl rfl S.2 rfl]
        exact L2
      · have := W.1.2.1
        rw [f2 j (by have := bL_or (5 + k); omega), F1.i M.j 15 (by decide) (by decide) (by decide)]
        exact r6 j hj
  · unfold sRpt
    rw [hd]
    exact ⟨fun c => absurd rfl c, fun _ => ⟨rfl, MQr.same R0⟩⟩
theorem c_MO_copy {y : Int32} (R : MR A h S) (W : WX S) : Ci G l M_MO_copy (d + 2) (w + 44) [.ref (A 41), .int y] h 0 0 (fun r h' => r = (sCop S y).2 ∧ MQr A h (sCop S y).1 h') := by
  refine ok_MO_copy ?_
  have R0 := R
  obtain ⟨M, r1, r2, r3, r4, r5, r6, r7, r8, r9⟩ := R
  unfold wp_MO_copy wJ_MO_copy_31
  refine ⟨_, c_MO_isDevice, ?_⟩
  rintro _ _ ⟨rfl, ⟨k, hk, rfl, hd, rfl⟩ | ⟨hd, rfl⟩⟩
  · unfold sCop
    rw [hd, show (1 : Int32) + nI k = nI (1 + k) from nI_add 1 k]
    dsimp only
    obtain ⟨q1, q2, q3, q4⟩ := r5 (1 + k) (by omega)
    have hcn : cap (1 + k) = 6 := by have := bL_or (1 + k); omega
    have hL := linS_i (S := S) hk
    rw [hL] at q1 q2 q3 q4
    refine ⟨fun c => absurd c (by decide), fun _ => ⟨M.s41, A 16, M.r16, 9, 1 + k, ⟨M.s16, rfl, by omega, by omega⟩, ?_⟩⟩
    rw [q1, eqL (by omega) (by decide)]
    cases hr : dInb (S.1 k) with
    | nil => exact ⟨fun _ => ⟨rfl, MQr.same R0⟩, fun z => absurd rfl z⟩
    | cons r rs =>
      have b2 := q3 r (by rw [hr]; exact List.mem_cons_self ..)
      have h56 := row_lt (n := 1 + k) (by omega) (k := 0) (by omega)
      have hra := q4 0 (by rw [hr]; simp)
      rw [hr, Nat.add_zero] at hra
      rw [hr, List.length_cons] at q2
      refine ⟨fun z => absurd z (by simp), fun _ => ⟨A 16, M.r16, 9, 1 + k, ⟨M.s16, rfl, by omega, by omega⟩, ?_⟩⟩
      rw [q1, hr, eqL (by rw [List.length_cons]; omega) (by decide), List.length_cons]
      dsimp only
      refine ⟨fun c6 => ⟨_, c_MO_baseOf (by omega), ?_⟩, fun c6 => ?_⟩
      · rw [if_neg (fun z => c6 (by show rs.length + 1 = 6; omega))]
        have c6' : rs.length + 1 ≠ 6 := c6
        rintro _ _ ⟨rfl, rfl⟩
        refine ⟨M.s41, _, c_MO_load (bs := r) M hra (by omega) b2, ?_⟩
        rintro h1 ⟨B1, F1⟩
        have M1 := F1.ma M
        refine ⟨M1.s41, _, c_MO_append M1 (r5.kept F1 M.j (by decide) (by decide) (by decide)) (by omega) (by rw [hL, hr, List.length_cons]; omega) B1 b2, ?_⟩
        rintro h2 ⟨L2, f1, -, F2⟩
        have F12 : Mf A [11, 12, 13, 14, 15, 16] h h2 := (F1.mono (by simp)).trans (F2.mono (by simp))
        refine ⟨rfl, R0.line (v := setInb (S.1 k) (r :: rs ++ [r])) F12 ⟨rfl, rfl⟩ ⟨rfl, rfl⟩ ⟨rfl, rfl⟩ rfl ?_ (fun j hj => ?_)⟩
        · rw [linS_inb (v := setInb (S.1 k) (r :: rs ++ [r])) hk rfl rfl S.2 rfl]
          rw [hL, hr] at L2
          exact L2
        · have := W.1.2.1
          rw [f1, va_up_ne _ _ (by have := bL_or (1 + k); omega), F1.i M.j 15 (by decide) (by decide) (by decide)]
          exact r6 j hj
      · have c6' : rs.length + 1 = 6 := c6
        rw [if_pos (by omega)]
        exact ⟨rfl, MQr.same R0⟩
  · unfold sCop
    rw [hd]
    exact ⟨fun _ => ⟨rfl, MQr.same R0⟩, fun c => absurd rfl c⟩
end MK
