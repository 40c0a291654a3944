/-! the reference's side -/
section MP2
variable {G : Gx} {l : Launch} {d w : Nat} {A : Nat → Nat} {h h' : Hp} {F : List Nat} {S : SS}
/-- what is used of a message that is settled -/
def MV (now : Nat) (m : SMs) : Prop := Lg (mSub m) ∧ (∀ j, bt (mSub m) j < 256) ∧ mOrg m < 4 ∧ 1 ≤ mFrm m ∧ mFrm m < 1000000000000 ∧ mAcc m ≤ now
theorem MW.mv {now : Nat} {m : SMs} (M : MW now m) : MV now m := ⟨M.1, M.2.2.1, M.2.2.2.1, M.2.2.2.2.1, M.2.2.2.2.2.1, M.2.2.2.2.2.2.1⟩
/-- only a line has grown -/
theorem MR.grow {n k : Nat} {v : SDv} (R : MR A h S) (F0 : Mf A [11, 12, 13, 14, 15, 16] h h') (hv : (n = 1 + k ∧ ∃ x, v = setInb (S.1 k) x) ∨ (n = 5 + k ∧ ∃ x, v = setRep (S.1 k) x)) (L : LR A h' (linS (updD S.1 k v, S.2))) (f15 : ∀ j, j < 8 → hI h' (A 15) j = hI h (A 15) j) (hu : S.2.1.length ≤ 8) : MQr A h (updD S.1 k v, S.2) h' := by
  have R0 := R
  obtain ⟨M, r1, r2, r3, r4, r5, r6, r7, r8, r9⟩ := R
  have fr : MFr A h' S.2.1 := fun j hj => by rw [f15 j (by omega)]; exact r6 j hj
  rcases hv with ⟨-, x, rfl⟩ | ⟨-, x, rfl⟩
  · exact R0.line F0 ⟨rfl, rfl⟩ ⟨rfl, rfl⟩ ⟨rfl, rfl⟩ rfl L fr
  · exact R0.line F0 ⟨rfl, rfl⟩ ⟨rfl, rfl⟩ ⟨rfl, rfl⟩ rfl L fr
/-- the report of a settled message -/
theorem settle_rep {k at_ f : Nat} {x4 : Int32} {now : Nat} (h0 : Hp) (R : MR A h S) (F0 : Mf A FA h0 h) (W2 : S.2.1.length ≤ 8) (hk : k < S.2.2.2.1.length) (hk100 : k < 100) (hM : MV now (mat S.2.2.2.1 k)) (hnow : now ≤ 60000000) (hat : at_ < 2147483648) (hf : mFate (mat S.2.2.2.1 k) = f) (hf3 : f = 1 ∨ f = 2 ∨ f = 3) (hr : ¬ (dRep (S.1 (mOrg (mat S.2.2.2.1 k)))).length = 6) (hw : wnt (mSub (mat S.2.2.2.1 k)) = true) (c : Nat) (hc : c = fCode f) {bs : List Nat} (B : BF A h bs) (hbs : bs = [] ++ [2] ++ [bt (mSub (mat S.2.2.2.1 k)) 1] ++ adr (sTo (mSub (mat S.2.2.2.1 k))) ++ dgs (mAcc (mat S.2.2.2.1 k)) 14 ++ dgs at_ 14) (hx4 : x4 = nI (5 + mOrg (mat S.2.2.2.1 k))) : wJ_MO_settle_134 G l d w (fun h' => MQr A h0 (rep1 S k at_) h') (A 41) (nI k) (nI f) (nI at_) x4 (nI c) (A 41) h := by
  have M := R.1
  have r5 := R.2.2.2.2.2.1
  have hO := hM.2.2.1
  generalize hm : mat S.2.2.2.1 k = m at *
  have hok := rpt_ok (acc := mAcc m) (t := at_) (c := c) hM.1 hM.2.1 (by rw [hc]; rcases hf3 with e | e | e <;> rw [e] <;> decide)
  unfold wJ_MO_settle_134
  have hbl : bs ++ [c] = rptR (mSub m) (mAcc m) at_ c := by
    rw [hbs]
    unfold rptR
    simp
  have hlen : (bs ++ [c]).length ≤ 160 := by rw [hbl]; exact hok.2.1
  rw [List.length_append] at hlen
  simp only [List.length_cons, List.length_nil] at hlen
  refine ⟨M.s41, _, c_MO_put M B (by omega), ?_⟩
  rintro h1 ⟨B1, F1⟩
  have M1 := F1.ma M
  have q := r5 (5 + mOrg m) (by omega)
  have hL := linS_r (S := S) hO
  have hcap : cap (5 + mOrg m) = 6 := by have := bL_or (5 + mOrg m); omega
  rw [hL, hcap] at q
  rw [hx4]
  refine ⟨M1.s41, _, c_MO_append M1 (r5.kept F1 M.j (by decide) (by decide) (by decide)) (by omega) (by rw [hL, hcap]; have := q.2.1; omega) B1 (by rw [hbl]; exact hok.2.1), ?_⟩
  rintro h2 ⟨L2, f15, -, F2⟩
  have F12 : Mf A [11, 12, 13, 14, 15, 16] h h2 := (F1.mono (by simp)).trans (F2.mono (by simp))
  have hrep : repN m at_ (dRep (S.1 (mOrg m))) = dRep (S.1 (mOrg m)) ++ [rptR (mSub m) (mAcc m) at_ c] := by
    unfold repN
    rw [if_pos ⟨hw, by have := q.2.1; omega⟩, hf, hc]
  unfold rep1
  rw [hm, hrep]
  have G2 := R.grow (n := 5 + mOrg m) (k := mOrg m) (v := setRep (S.1 (mOrg m)) (dRep (S.1 (mOrg m)) ++ [rptR (mSub m) (mAcc m) at_ c])) F12 (Or.inr ⟨rfl, _, rfl⟩) (by
    rw [linS_rep (v := setRep (S.1 (mOrg m)) (dRep (S.1 (mOrg m)) ++ [rptR (mSub m) (mAcc m) at_ c])) (x := dRep (S.1 (mOrg m)) ++ [rptR (mSub m) (mAcc m) at_ c]) hO rfl rfl S.2 rfl]
    rw [hL, hbl] at L2
    exact L2) (fun j hj => by
    have := bL_or (5 + mOrg m)
    rw [f15, va_up_ne _ _ (by omega), F1.i M.j 15 (by decide) (by decide) (by decide)]) W2
  exact ⟨G2.1, F0.trans G2.2⟩
theorem c_MO_settle {k at_ f now : Nat} (R : MR A h S) (W2 : S.2.1.length ≤ 8) (hl100 : S.2.2.2.1.length ≤ 100) (hk : k ∈ pend S.2.2.2.1) (hM : MV now (mat S.2.2.2.1 k)) (hnow : now ≤ 60000000) (hat : at_ < 2147483648) (hf3 : f = 1 ∨ f = 2 ∨ f = 3) (hpl : (pend S.2.2.2.1).length ≤ 12) : Cv G l M_MO_settle (d + 3) (w + 72) [.ref (A 41), .int (nI k), .int (nI f), .int (nI at_)] h 0 0 (fun h' => MQr A h (rep1 (setMs S (S.2.2.2.1.set k (setFate (mat S.2.2.2.1 k) f))) k at_) h') := by
  refine ok_MO_settle ?_
  have R0 := R
  obtain ⟨M, r1, r2, r3, r4, r5, r6, r7, r8, r9⟩ := R
  have hl := pend_lt hk
  have hk100 : k < 100 := by omega
  have hpos : 1 ≤ (pend S.2.2.2.1).length := List.length_pos_of_mem hk
  obtain ⟨pl, p1, p2, p3⟩ := r8
  have hpk := p1 k hk
  obtain ⟨s1, s2, s3, s4, s5⟩ := hpk
  obtain ⟨c1, c2, c3, c4, c5, c6, c7, c8, c9, c10, c11⟩ := r7.2.1 k hl
  have hO := hM.2.2.1
  have hb := hM.2.1
  unfold wp_MO_settle wJ_MO_settle_60
  have v18 : hI (pI h (A 30) k (nI f)) (A 41) 18 - 1 = nI ((pend S.2.2.2.1).length - 1) := by
    rw [rN M.j (by decide) (by decide) (by decide), r7.1.2.1]
    exact pk_sub hpos
  refine ⟨M.s41, A 30, M.r30, 100, k, ⟨M.s30, rfl, hk100, by omega⟩, A 31, M.r31, 100, k, ⟨M.s31, rfl, hk100, by omega⟩, A 32, M.r32, 12, pl k, ⟨M.s32, by rw [rN M.j (by decide) (by decide) (by decide), rN M.j (by decide) (by decide) (by decide)]; exact s2, s1, by omega⟩, A 20, M.r20, 100, k, ⟨M.s20, rfl, hk100, by omega⟩, ?_⟩
  rintro _ rfl
  rw [v18]
  have a3 : Mf A [18, 30, 32] h (pI (pI (pI h (A 30) k (nI f)) (A 41) 18 (nI ((pend S.2.2.2.1).length - 1))) (A 32) (pl k) 0) := (mf_pI M.j (by decide) (by decide) (by decide)).trans ((mf_pS (by decide)).trans (mf_pI M.j (by decide) (by decide) (by decide)))
  have k18 : hI (pI (pI (pI h (A 30) k (nI f)) (A 41) 18 (nI ((pend S.2.2.2.1).length - 1))) (A 32) (pl k) 0) (A 41) 18 = nI ((pend S.2.2.2.1).length - 1) := by
    rw [rN M.j (by decide) (by decide) (by decide), hI_pI_eq]
  have k30 : hI (pI (pI (pI h (A 30) k (nI f)) (A 41) 18 (nI ((pend S.2.2.2.1).length - 1))) (A 32) (pl k) 0) (A 30) = va_up (hI h (A 30)) k (nI f) := by
    rw [rN M.j (by decide) (by decide) (by decide), rN M.j (by decide) (by decide) (by decide), rE]
  have k32 : hI (pI (pI (pI h (A 30) k (nI f)) (A 41) 18 (nI ((pend S.2.2.2.1).length - 1))) (A 32) (pl k) 0) (A 32) = va_up (hI h (A 32)) (pl k) 0 := by
    rw [rE, rN M.j (by decide) (by decide) (by decide), rN M.j (by decide) (by decide) (by decide)]
  generalize pI (pI (pI h (A 30) k (nI f)) (A 41) 18 (nI ((pend S.2.2.2.1).length - 1))) (A 32) (pl k) 0 = h3 at a3 k18 k30 k32 ⊢
  have R3 := R0.fate hk (by omega) a3 k18 k30 s2 s1 k32
  have M3 := a3.ma M
  have z20 : hI h3 (A 20) k = nI (mOrg (mat S.2.2.2.1 k)) := by rw [a3.i M.j 20 (by decide) (by decide) (by decide)]; exact c1
  have z24 : hI h3 (A 24) k = (if wnt (mSub (mat S.2.2.2.1 k)) then 1 else 0) := by rw [a3.i M.j 24 (by decide) (by decide) (by decide)]; exact c5
  have z16 := a3.i M.j 16 (by decide) (by decide) (by decide)
  have e5 : (5 : Int32) + nI (mOrg (mat S.2.2.2.1 k)) = nI (5 + mOrg (mat S.2.2.2.1 k)) := nI_add 5 _
  rw [z20, e5]
  have eT : mat (S.2.2.2.1.set k (setFate (mat S.2.2.2.1 k) f)) k = setFate (mat S.2.2.2.1 k) f := mat_set hl
  refine ⟨A 24, M.r24, 100, k, ⟨M.s24, rfl, hk100, by omega⟩, ?_⟩
  rw [z24]
  -- no report
  have none' : ¬ (wnt (mSub (mat S.2.2.2.1 k)) = true ∧ (dRep (S.1 (mOrg (mat S.2.2.2.1 k)))).length < 6) → MQr A h (rep1 (setMs S (S.2.2.2.1.set k (setFate (mat S.2.2.2.1 k) f))) k at_) h3 := fun c => by
    have e : rep1 (setMs S (S.2.2.2.1.set k (setFate (mat S.2.2.2.1 k) f))) k at_ = setMs S (S.2.2.2.1.set k (setFate (mat S.2.2.2.1 k) f)) := by
      unfold rep1
      show setDev _ (updD S.1 (mOrg (mat (S.2.2.2.1.set k (setFate (mat S.2.2.2.1 k) f)) k)) (setRep (S.1 (mOrg (mat (S.2.2.2.1.set k (setFate (mat S.2.2.2.1 k) f)) k))) (repN (mat (S.2.2.2.1.set k (setFate (mat S.2.2.2.1 k) f)) k) at_ (dRep (S.1 (mOrg (mat (S.2.2.2.1.set k (setFate (mat S.2.2.2.1 k) f)) k))))))) = _
      rw [eT]
      have er : repN (setFate (mat S.2.2.2.1 k) f) at_ (dRep (S.1 (mOrg (setFate (mat S.2.2.2.1 k) f)))) = dRep (S.1 (mOrg (setFate (mat S.2.2.2.1 k) f))) := by
        unfold repN
        exact if_neg c
      rw [er]
      have ev : setRep (S.1 (mOrg (setFate (mat S.2.2.2.1 k) f))) (dRep (S.1 (mOrg (setFate (mat S.2.2.2.1 k) f)))) = S.1 (mOrg (setFate (mat S.2.2.2.1 k) f)) := rfl
      rw [ev, updD_self]
      rfl
    rw [e]
    exact R3
  have q16 := r5 (5 + mOrg (mat S.2.2.2.1 k)) (by omega)
  have hLr := linS_r (S := S) hO
  have hcap : cap (5 + mOrg (mat S.2.2.2.1 k)) = 6 := by have := bL_or (5 + mOrg (mat S.2.2.2.1 k)); omega
  rw [hLr, hcap] at q16
  refine ⟨fun c => none' (fun z => ?_), fun c => ⟨A 16, M.r16, 9, 5 + mOrg (mat S.2.2.2.1 k), ⟨M.s16, rfl, by omega, by omega⟩, ?_⟩⟩
  · rw [z.1] at c
    exact absurd c (by decide)
  · have hw : wnt (mSub (mat S.2.2.2.1 k)) = true := by
      cases hq : wnt (mSub (mat S.2.2.2.1 k)) with
      | true => rfl
      | false => rw [hq] at c; exact absurd rfl c
    have hq6 := q16.2.1
    rw [z16, q16.1, eqL (by omega) (by decide)]
    refine ⟨fun c6 => ?_, fun c6 => none' (fun z => ?_)⟩
    · have F4 : Mf A [11, 12] h3 (pI h3 (A 41) 11 0) := mf_pS (by decide)
      have B4 : BF A (pI h3 (A 41) 11 0) [] := ⟨hI_pI_eq, by decide, fun j hj => absurd hj (Nat.not_lt_zero _)⟩
      have M4 := F4.ma M3
      generalize pI h3 (A 41) 11 0 = h4 at F4 B4 M4 ⊢
      refine ⟨_, c_MO_put (v := 2) M4 B4 (by decide), ?_⟩
      rintro h5 ⟨B5, F5⟩
      have M5 := F5.ma M4
      have F35 : Mf A [11, 12] h3 h5 := F4.trans F5
      have t := Lg_to hM.1
      have hacc := hM.2.2.2.2.2
      have y21 : hI h5 (A 21) k = nI (bt (mSub (mat S.2.2.2.1 k)) 1) := by rw [F35.i M.j 21 (by decide) (by decide) (by decide), a3.i M.j 21 (by decide) (by decide) (by decide)]; exact c2
      refine ⟨M5.s41, A 21, M5.r21, 100, k, ⟨M5.s21, rfl, hk100, by omega⟩, ?_⟩
      rw [y21]
      refine ⟨_, c_MO_put M5 B5 (by simp), ?_⟩
      rintro h6 ⟨B6, F6⟩
      have M6 := F6.ma M5
      have F36 := F35.trans F6
      have y23 : hL h6 (A 23) k = lN (sTo (mSub (mat S.2.2.2.1 k))) := by rw [F36.l M.j 23 (by decide) (by decide) (by decide), a3.l M.j 23 (by decide) (by decide) (by decide)]; exact c4
      refine ⟨M6.s41, A 23, M6.r23, 100, k, ⟨M6.s23, rfl, hk100, by omega⟩, ?_⟩
      rw [y23]
      refine ⟨_, c_MO_putAddress M6 B6 t.1 t.2 (by simp), ?_⟩
      rintro h7 ⟨B7, F7⟩
      have M7 := F7.ma M6
      have F37 := F36.trans F7
      have y26 : hI h7 (A 26) k = nI (mAcc (mat S.2.2.2.1 k)) := by rw [F37.i M.j 26 (by decide) (by decide) (by decide), a3.i M.j 26 (by decide) (by decide) (by decide)]; exact c7
      have hn := nd_ok t.1 t.2
      have l7 : ([] ++ [2] ++ [bt (mSub (mat S.2.2.2.1 k)) 1] ++ adr (sTo (mSub (mat S.2.2.2.1 k)))).length ≤ 10 := by
        simp only [List.length_append, List.length_cons, List.length_nil, adr_len]
        omega
      refine ⟨M7.s41, A 26, M7.r26, 100, k, ⟨M7.s26, rfl, hk100, by omega⟩, ?_⟩
      rw [y26, nI_l (by omega)]
      refine ⟨_, c_MO_putDigits (n := 14) M7 B7 (by decide) (by decide) (by omega) (by omega), ?_⟩
      rintro h8 ⟨B8, F8⟩
      have M8 := F8.ma M7
      have F38 := F37.trans F8
      rw [nI_l hat]
      refine ⟨M8.s41, _, c_MO_putDigits (n := 14) M8 B8 (by decide) (by decide) (by omega) (by rw [List.length_append, dgs_len]; omega), ?_⟩
      rintro h9 ⟨B9, F9⟩
      have M9 := F9.ma M8
      have F39 := F38.trans F9
      have R9 := R3.1.scr (F39.mono (by simp))
      have fin : ∀ c, c = fCode f → wJ_MO_settle_134 G l d w (fun h' => MQr A h (rep1 (setMs S (S.2.2.2.1.set k (setFate (mat S.2.2.2.1 k) f))) k at_) h') (A 41) (nI k) (nI f) (nI at_) (nI (5 + mOrg (mat S.2.2.2.1 k))) (nI c) (A 41) h9 := by
        intro c hc
        have hMm : MV now (mat (setMs S (S.2.2.2.1.set k (setFate (mat S.2.2.2.1 k) f))).2.2.2.1 k) := by
          show MV now (mat (S.2.2.2.1.set k (setFate (mat S.2.2.2.1 k) f)) k)
          rw [eT]
          exact hM
        have eT' : mat (setMs S (S.2.2.2.1.set k (setFate (mat S.2.2.2.1 k) f))).2.2.2.1 k = setFate (mat S.2.2.2.1 k) f := eT
        refine settle_rep (now := now) h R9.1 (R3.2.trans R9.2) W2 (by show k < (S.2.2.2.1.set k _).length; rw [List.length_set]; exact hl) hk100 hMm hnow hat (by rw [eT']; rfl) hf3 ?_ ?_ c hc B9 ?_ ?_
        · rw [eT']; exact c6
        · rw [eT']; exact hw
        · rw [eT']; rfl
        · rw [eT']; rfl
      rcases hf3 with e | e | e
      · subst e
        exact ⟨fun z => absurd rfl z, fun _ => fin 0 rfl⟩
      · subst e
        exact ⟨fun _ => ⟨fun z => absurd rfl z, fun _ => fin 70 rfl⟩, fun z => absurd z (by decide)⟩
      · subst e
        exact ⟨fun _ => ⟨fun _ => fin 73 rfl, fun z => absurd z (by decide)⟩, fun z => absurd z (by decide)⟩
    · have c6' : (dRep (S.1 (mOrg (mat S.2.2.2.1 k)))).length = 6 := c6
      omega
end MP2
