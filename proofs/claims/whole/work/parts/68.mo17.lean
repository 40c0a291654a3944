/-! the reference's side -/
section MT2
variable {G : Gx} {l : Launch} {d w : Nat} {A : Nat → Nat} {h h' : Hp} {F : List Nat} {S : SS}
theorem c_MO_pileFor {e frm ref n : Nat} {pd : Nat → List SPl} (M : MA A h) (P : MPp A h pd) (he : e < 4) (h3 : ∀ d, d < 4 → (pd d).length ≤ 3) (hK : ∀ d, d < 4 → ∀ pl ∈ pd d, PK pl) (hf : frm < 1000000000000) (hr : ref < 256) (hn : n ≤ 3) : Ci G l M_MO_pileFor (d + 2) (w + 46) [.ref (A 41), .int (nI e), .long (lN frm), .int (nI ref), .int (nI n)] h 0 0 (fun r h' => r = nI (plc (pd e) frm ref n).2 ∧ MPp A h' (updP pd e (plc (pd e) frm ref n).1) ∧ Mf A [35, 36, 37, 38, 39, 40] h h') := by
  refine ok_MO_pileFor ?_
  have h3e := h3 e he
  have p38 := (P e he).1
  have hid : MPp A h (updP pd e (pd e)) := fun f hf => by
    by_cases c : f = e
    · subst c; rw [updP_eq]; exact P f hf
    · rw [updP_ne c]; exact P f hf
  unfold wp_MO_pileFor wL_MO_pileFor_3
  refine ⟨fun x h' => h = h' ∧ ∃ k, k ≤ (pd e).length ∧ x = nI k ∧ ∀ i, i < k → mtch frm ref n ((pd e).getD i (0, 0, [])) = false, fun x h' => (pd e).length - x.toNatClampNeg, ⟨rfl, 0, Nat.zero_le _, rfl, fun i hi => absurd hi (Nat.not_lt_zero _)⟩, ?_⟩
  rintro _ _ ⟨rfl, k, hk, rfl, hno⟩
  unfold wB_MO_pileFor_3 wJ_MO_pileFor_65
  refine ⟨M.s41, A 38, M.r38, 4, e, ⟨M.s38, rfl, he, by omega⟩, ?_⟩
  rw [p38, nI_leI (by omega) (by omega)]
  refine ⟨fun c => ?_, fun c => ?_⟩
  · have ek : k = (pd e).length := by omega
    have hnone : (pd e).findIdx? (mtch frm ref n) = none := by
      rw [List.findIdx?_eq_none_iff]
      intro x hx
      obtain ⟨i, hi, e1⟩ := List.mem_iff_getElem.mp hx
      have := hno i (by omega)
      rw [List.getD_eq_getElem?_getD, List.getElem?_eq_getElem hi] at this
      rw [← e1]
      exact this
    rw [plc_none hnone]
    -- a new pile behind B
    have new : ∀ h2 pd2, MPp A h2 pd2 → pd2 e = plB (pd e) → (∀ f, f ≠ e → pd2 f = pd f) → Mf A [35, 36, 37, 38, 39, 40] h h2 → wJ_MO_pileFor_87 G l d w (fun r h' => r = nI (plB (pd e)).length ∧ MPp A h' (updP pd e (plB (pd e) ++ [(frm, ref, List.replicate n none)])) ∧ Mf A [35, 36, 37, 38, 39, 40] h h') (A 41) (nI e) (lN frm) (nI ref) (nI n) (nI k) h2 := by
      intro h2 pd2 P2 eB eO F2
      have M2 := F2.ma M
      have hB2 : (plB (pd e)).length ≤ 2 := by
        unfold plB
        split
        · omega
        · rw [List.length_tail]; omega
      have p2 := (P2 e he).1
      rw [eB] at p2
      generalize hBB : plB (pd e) = B at *
      unfold wJ_MO_pileFor_87
      refine ⟨M2.s41, A 38, M2.r38, 4, e, ⟨M2.s38, rfl, he, by omega⟩, ?_⟩
      rintro _ rfl
      rw [p2, show (3 : Int32) * nI e = nI (3 * e) from pk_mul 3 e, nI_add]
      refine ⟨A 35, M2.r35, 12, 3 * e + B.length, ⟨M2.s35, rfl, by omega, by omega⟩, A 36, M2.r36, 12, 3 * e + B.length, ⟨M2.s36, rfl, by omega, by omega⟩, A 37, M2.r37, 12, 3 * e + B.length, ⟨M2.s37, rfl, by omega, by omega⟩, ?_⟩
      generalize hqq : 3 * e + B.length = q at *
      have F3 : Mf A [35, 36, 37, 38, 39, 40] h2 (pI (pI (pL h2 (A 35) q (lN frm)) (A 36) q (nI ref)) (A 37) q (nI n)) := (mf_pL (by decide) (by decide)).trans ((mf_pI M.j (by decide) (by decide) (by decide)).trans (mf_pI M.j (by decide) (by decide) (by decide)))
      have e35 : hL (pI (pI (pL h2 (A 35) q (lN frm)) (A 36) q (nI ref)) (A 37) q (nI n)) (A 35) = va_up (hL h2 (A 35)) q (lN frm) := by rw [rLI, rLI, rEL]
      have e36 : hI (pI (pI (pL h2 (A 35) q (lN frm)) (A 36) q (nI ref)) (A 37) q (nI n)) (A 36) = va_up (hI h2 (A 36)) q (nI ref) := by rw [rN M.j (by decide) (by decide) (by decide), rE, rIL]
      have e37 : hI (pI (pI (pL h2 (A 35) q (lN frm)) (A 36) q (nI ref)) (A 37) q (nI n)) (A 37) = va_up (hI h2 (A 37)) q (nI n) := by rw [rE, rN M.j (by decide) (by decide) (by decide), rIL]
      have e38 : hI (pI (pI (pL h2 (A 35) q (lN frm)) (A 36) q (nI ref)) (A 37) q (nI n)) (A 38) = hI h2 (A 38) := by rw [rN M.j (by decide) (by decide) (by decide), rN M.j (by decide) (by decide) (by decide), rIL]
      have e39 : hI (pI (pI (pL h2 (A 35) q (lN frm)) (A 36) q (nI ref)) (A 37) q (nI n)) (A 39) = hI h2 (A 39) := by rw [rN M.j (by decide) (by decide) (by decide), rN M.j (by decide) (by decide) (by decide), rIL]
      have e40 : hI (pI (pI (pL h2 (A 35) q (lN frm)) (A 36) q (nI ref)) (A 37) q (nI n)) (A 40) = hI h2 (A 40) := by rw [rN M.j (by decide) (by decide) (by decide), rN M.j (by decide) (by decide) (by decide), rIL]
      generalize pI (pI (pL h2 (A 35) q (lN frm)) (A 36) q (nI ref)) (A 37) q (nI n) = hz at F3 e35 e36 e37 e38 e39 e40 ⊢
      have Mz := F3.ma M2
      unfold wL_MO_pileFor_128
      refine ⟨fun x h' => ∃ t, t ≤ 3 ∧ x = nI t ∧ (∀ i, i < t → hI h' (A 39) (3 * q + i) = -1) ∧ (∀ i, (i < 3 * q ∨ 3 * q + 3 ≤ i) → hI h' (A 39) i = hI h2 (A 39) i) ∧ Mf A [39] hz h', fun x h' => 3 - x.toNatClampNeg, ⟨0, Nat.zero_le _, rfl, fun i hi => absurd hi (Nat.not_lt_zero _), fun i _ => by rw [e39], Mf.rfl⟩, ?_⟩
      rintro _ h4 ⟨t, ht, rfl, g1, g2, F4⟩
      have M4 := F4.ma Mz
      unfold wB_MO_pileFor_128
      rw [Lle (by omega) (by decide)]
      refine ⟨fun c3 => ?_, fun c3 => ?_⟩
      · have c3' : 3 ≤ t := c3
        have g38 : hI h4 (A 38) = hI h2 (A 38) := by rw [F4.i M.j 38 (by decide) (by decide) (by decide), e38]
        refine ⟨M4.s41, A 38, M4.r38, 4, e, ⟨M4.s38, rfl, he, by omega⟩, A 38, M4.r38, 4, e, ⟨M4.s38, rfl, he, by omega⟩, ?_⟩
        rw [g38, p2, nI_1, hI_pI_eq, show (1 : Int32) = nI 1 from rfl, pk_sub (by omega), Nat.add_sub_cancel]
        have F5 : Mf A [38] h4 (pI h4 (A 38) e (nI (B.length + 1))) := mf_pI M.j (by decide) (by decide) (by decide)
        refine ⟨rfl, fun f hf' => ?_, F2.trans (F3.trans ((F4.mono (by simp)).trans (F5.mono (by simp))))⟩
        have f35 : hL (pI h4 (A 38) e (nI (B.length + 1))) (A 35) = va_up (hL h2 (A 35)) q (lN frm) := by rw [F5.l M.j 35 (by decide) (by decide) (by decide), F4.l M.j 35 (by decide) (by decide) (by decide), e35]
        have f36 : hI (pI h4 (A 38) e (nI (B.length + 1))) (A 36) = va_up (hI h2 (A 36)) q (nI ref) := by rw [F5.i M.j 36 (by decide) (by decide) (by decide), F4.i M.j 36 (by decide) (by decide) (by decide), e36]
        have f37 : hI (pI h4 (A 38) e (nI (B.length + 1))) (A 37) = va_up (hI h2 (A 37)) q (nI n) := by rw [F5.i M.j 37 (by decide) (by decide) (by decide), F4.i M.j 37 (by decide) (by decide) (by decide), e37]
        have f39 := F5.i M.j 39 (by decide) (by decide) (by decide)
        have f40 : hI (pI h4 (A 38) e (nI (B.length + 1))) (A 40) = hI h2 (A 40) := by rw [F5.i M.j 40 (by decide) (by decide) (by decide), F4.i M.j 40 (by decide) (by decide) (by decide), e40]
        have f38 : hI (pI h4 (A 38) e (nI (B.length + 1))) (A 38) = va_up (hI h2 (A 38)) e (nI (B.length + 1)) := by rw [rE, g38]
        have old : ∀ q' pl, q' ≠ q → PK pl → PA A h2 q' pl → PA A (pI h4 (A 38) e (nI (B.length + 1))) q' pl := fun q' pl hq K o => o.mv K (by rw [f35, va_up_ne _ _ hq]) (by rw [f36, va_up_ne _ _ hq]) (by rw [f37, va_up_ne _ _ hq]) (fun i hi => by rw [f39, g2 _ (by omega)]) (fun i hi => by rw [f40])
        by_cases cf : f = e
        · subst cf
          rw [updP_eq, f38, va_up_self]
          refine ⟨by rw [List.length_append]; rfl, fun i hi => ?_⟩
          rw [List.length_append] at hi
          simp only [List.length_cons, List.length_nil] at hi
          by_cases ci : i = B.length
          · rw [ci, getD_snocr, hqq]
            refine ⟨by rw [f35, va_up_self], by rw [f36, va_up_self], by rw [f37, va_up_self, List.length_replicate], fun i2 o ho => ?_⟩
            have hi2 : i2 < n := by
              rcases Nat.lt_or_ge i2 n with z | z
              · exact z
              · have ho' : (List.replicate n (none : Option (List Nat)))[i2]? = some o := ho
                rw [List.getElem?_eq_none (by rw [List.length_replicate]; exact z)] at ho'
                cases ho'
            have ho' : (List.replicate n (none : Option (List Nat)))[i2]? = some o := ho
            rw [List.getElem?_replicate, if_pos hi2] at ho'
            refine ⟨fun _ => by rw [f39]; exact g1 i2 (by omega), fun bs hb => ?_⟩
            rw [← Option.some.inj ho'] at hb
            cases hb
          · have hi' : i < B.length := by omega
            rw [getD_snocl hi']
            have o := (P2 f hf').2 i (by rw [eB]; exact hi')
            rw [eB] at o
            refine old _ _ (by omega) (hK f hf' _ ?_) o
            exact plB_mem (by rw [hBB]; exact getD_mem hi')
        · rw [updP_ne cf, f38, va_up_ne _ _ cf]
          have o := P2 f hf'
          rw [eO f cf] at o
          have hl3 := h3 f hf'
          exact ⟨o.1, fun i hi => old _ _ (by omega) (hK f hf' _ (getD_mem hi)) (o.2 i hi)⟩
      · have c3' : ¬ 3 ≤ t := c3
        rw [show (3 : Int32) * nI q = nI (3 * q) from pk_mul 3 q, nI_add]
        refine ⟨M4.s41, A 39, M4.r39, 36, _, ⟨M4.s39, rfl, by omega, by omega⟩, ?_⟩
        rintro _ rfl
        rw [nI_1]
        refine ⟨⟨t + 1, by omega, rfl, fun i hi => ?_, fun i hi => ?_, F4.trans (mf_pI M.j (by decide) (by decide) (by decide))⟩, mu_lt (by omega) (by omega)⟩
        · rw [rE]
          by_cases ci : i = t
          · rw [ci, va_up_self]
          · rw [va_up_ne _ _ (by omega)]
            exact g1 i (by omega)
        · rw [rE, va_up_ne _ _ (by omega)]
          exact g2 i hi
    refine ⟨A 38, M.r38, 4, e, ⟨M.s38, rfl, he, by omega⟩, ?_⟩
    rw [p38, eqL (by omega) (by decide)]
    refine ⟨fun c3 => new h pd P ?_ (fun _ _ => rfl) Mf.rfl, fun c3 => ⟨_, c_MO_dropPile (k := 0) M P he ?_ h3 hK, ?_⟩⟩
    · have c3' : ¬ (pd e).length = 3 := c3
      unfold plB
      rw [if_pos (by omega)]
    · have c3' : (pd e).length = 3 := c3
      omega
    · have c3' : (pd e).length = 3 := c3
      rintro h2 ⟨P2, F2⟩
      refine new h2 _ P2 ?_ (fun f cf => updP_ne cf) F2
      rw [updP_eq]
      unfold plB
      rw [if_neg (by omega), List.eraseIdx_zero]
  · have hkl : k < (pd e).length := by omega
    have o := (P e he).2 k hkl
    have K := hK e he _ (getD_mem (z := (0, 0, [])) hkl)
    generalize hpl : (pd e).getD k (0, 0, []) = pl at o K
    have K1 := K.1
    have K2 := K.2.1
    have K3 := K.2.2.1
    rw [show (3 : Int32) * nI e = nI (3 * e) from pk_mul 3 e, nI_add]
    have next : mtch frm ref n pl = false → ∀ x_42, x_42 = nI k + 1 → (h = h ∧ ∃ k, k ≤ (pd e).length ∧ x_42 = nI k ∧ ∀ i, i < k → mtch frm ref n ((pd e).getD i (0, 0, [])) = false) ∧ (pd e).length - x_42.toNatClampNeg < (pd e).length - (nI k).toNatClampNeg := by
      rintro hm _ rfl
      rw [nI_1]
      refine ⟨⟨rfl, k + 1, by omega, rfl, fun i hi => ?_⟩, mu_lt hkl (by omega)⟩
      by_cases ci : i = k
      · rw [ci, hpl]; exact hm
      · exact hno i (by omega)
    refine ⟨A 35, M.r35, 12, 3 * e + k, ⟨M.s35, rfl, by omega, by omega⟩, ?_⟩
    rw [cmp_eq, o.1, pk_lEQ (by omega) (by omega)]
    refine ⟨fun n1 => next (decide_eq_false (fun z => n1 z.1)), fun q1 => ⟨A 36, M.r36, 12, 3 * e + k, ⟨M.s36, rfl, by omega, by omega⟩, ?_⟩⟩
    rw [o.2.1, nI_eq (by omega) (by omega)]
    refine ⟨fun n2 => next (decide_eq_false (fun z => n2 z.2.1)), fun q2 => ⟨A 37, M.r37, 12, 3 * e + k, ⟨M.s37, rfl, by omega, by omega⟩, ?_⟩⟩
    rw [o.2.2.1, nI_eq (by omega) (by omega)]
    refine ⟨fun n3 => next (decide_eq_false (fun z => n3 z.2.2)), fun q3 => ?_⟩
    have hf' : (pd e).findIdx? (mtch frm ref n) = some k := by
      rw [List.findIdx?_eq_some_iff_getElem]
      refine ⟨hkl, ?_, fun i hi => ?_⟩
      · have : (pd e)[k] = pl := by
          rw [List.getD_eq_getElem?_getD, List.getElem?_eq_getElem hkl] at hpl
          exact hpl
        rw [this]
        exact decide_eq_true ⟨q1, q2, q3⟩
      · have := hno i hi
        rw [List.getD_eq_getElem?_getD, List.getElem?_eq_getElem (by omega)] at this
        intro z
        rw [show mtch frm ref n (pd e)[i] = false from this] at z
        cases z
    rw [plc_some hf']
    exact ⟨rfl, hid, Mf.rfl⟩
theorem ptxt_one (bs : List Nat) : ptxt [some bs] = dtxt bs := by simp [ptxt]
theorem lack_0 {ps : List (Option (List Nat))} (h0 : lack ps = 0) {i : Nat} {o : Option (List Nat)} (ho : ps[i]? = some o) : ∃ bs, o = some bs := by
  cases o with
  | some bs => exact ⟨bs, rfl⟩
  | none =>
    have : 0 < lack ps := by
      unfold lack
      exact List.countP_pos_iff.mpr ⟨none, List.mem_of_getElem? ho, rfl⟩
    omega
theorem c_MO_together {e q : Nat} {pl : SPl} (M : MA A h) (P : PA A h q pl) (he : e < 4) (hq : q < 12) (K : PK pl) (h0 : lack pl.2.2 = 0) : Cv G l M_MO_together (d + 0) (w + 0) [.ref (A 41), .int (nI e), .int (nI q)] h 0 0 (fun h' => hI h' (A 9) = putT (hI h (A 9)) (480 * e) (ptxt pl.2.2) ∧ hI h' (A 8) = va_up (hI h (A 8)) e (nI (ptxt pl.2.2).length) ∧ Mf A [8, 9] h h') := by
  refine ok_MO_together ?_
  obtain ⟨p1, p2, p3, p4⟩ := P
  generalize hps : pl.2.2 = ps at *
  have hK3 := K.2.2.1
  rw [hps] at hK3
  have hKb := K.2.2.2
  rw [hps] at hKb
  have hlen : ∀ k, (ptxt (ps.take k)).length ≤ 153 * k := fun k => by
    refine Nat.le_trans (ptxt_len _ (fun b hb => ?_)) ?_
    · have := hKb b (List.mem_of_mem_take hb)
      exact dtxt_hdr this.1 this.2
    · rw [List.length_take]
      exact Nat.mul_le_mul_left _ (Nat.min_le_left _ _)
  unfold wp_MO_together wL_MO_together_5
  refine ⟨fun x3 x4 h' => ∃ k, k ≤ ps.length ∧ x4 = nI k ∧ x3 = nI (ptxt (ps.take k)).length ∧ hI h' (A 9) = putT (hI h (A 9)) (480 * e) (ptxt (ps.take k)) ∧ Mf A [9] h h', fun x3 x4 h' => ps.length - x4.toNatClampNeg, ⟨0, Nat.zero_le _, rfl, rfl, by rw [List.take_zero]; exact (putT_nil _ _).symm, Mf.rfl⟩, ?_⟩
  rintro _ _ h1 ⟨k, hk, rfl, rfl, e9, F1⟩
  have M1 := F1.ma M
  have g37 : hI h1 (A 37) q = nI ps.length := by rw [F1.i M.j 37 (by decide) (by decide) (by decide)]; exact p3
  unfold wB_MO_together_5
  refine ⟨M1.s41, A 37, M1.r37, 12, q, ⟨M1.s37, rfl, hq, by omega⟩, ?_⟩
  rw [g37, nI_leI (by omega) (by omega)]
  refine ⟨fun c => ⟨A 8, M1.r8, 4, e, ⟨M1.s8, rfl, he, by omega⟩, ?_⟩, fun c => ?_⟩
  · rw [List.take_of_length_le (by omega)] at e9 ⊢
    exact ⟨by rw [rN M.j (by decide) (by decide) (by decide), e9], by rw [rE, F1.i M.j 8 (by decide) (by decide) (by decide)], (F1.mono (by simp)).trans (mf_pI M.j (by decide) (by decide) (by decide))⟩
  · have hkl : k < ps.length := by omega
    obtain ⟨bs, hbs⟩ := lack_0 h0 (List.getElem?_eq_getElem hkl)
    have hk? : ps[k]? = some (some bs) := by rw [List.getElem?_eq_getElem hkl, hbs]
    obtain ⟨o1, o2⟩ := (p4 k (some bs) hk?).2 bs rfl
    have hKk := hKb bs (List.mem_of_getElem? hk?)
    have h153 := dtxt_hdr hKk.1 hKk.2
    have hlk := hlen k
    have etk : ps.take (k + 1) = ps.take k ++ [some bs] := by
      rw [List.take_succ, hk?]
      rfl
    unfold wL_MO_together_19
    refine ⟨fun x3 x5 h' => ∃ i, i ≤ (dtxt bs).length ∧ x5 = nI i ∧ x3 = nI ((ptxt (ps.take k)).length + i) ∧ hI h' (A 9) = putT (hI h (A 9)) (480 * e) (ptxt (ps.take k) ++ (dtxt bs).take i) ∧ Mf A [9] h h', fun x3 x5 h' => (dtxt bs).length - x5.toNatClampNeg, ⟨0, Nat.zero_le _, rfl, rfl, by rw [List.take_zero, List.append_nil]; exact e9, F1⟩, ?_⟩
    rintro _ _ h2 ⟨i, hi, rfl, rfl, g9, F2⟩
    have M2 := F2.ma M
    unfold wB_MO_together_19
    have g39 : hI h2 (A 39) (3 * q + k) = nI (dtxt bs).length := by rw [F2.i M.j 39 (by decide) (by decide) (by decide)]; exact o1
    rw [show (3 : Int32) * nI q = nI (3 * q) from pk_mul 3 q, nI_add]
    refine ⟨M2.s41, A 39, M2.r39, 36, 3 * q + k, ⟨M2.s39, rfl, by omega, by omega⟩, ?_⟩
    rw [g39, nI_leI (by omega) (by omega)]
    refine ⟨fun ci => ?_, fun ci => ?_⟩
    · rintro _ rfl
      have ei : i = (dtxt bs).length := by omega
      subst ei
      rw [List.take_of_length_le (Nat.le_refl _)] at g9
      rw [nI_1]
      refine ⟨⟨k + 1, hkl, rfl, ?_, ?_, F2⟩, mu_lt hkl (by omega)⟩
      · rw [etk, ptxt_snoc, ptxt_one, List.length_append]
      · rw [etk, ptxt_snoc, ptxt_one]
        exact g9
    · have hil : i < (dtxt bs).length := by omega
      rw [show (153 : Int32) * nI (3 * q + k) = nI (153 * (3 * q + k)) from pk_mul 153 _, nI_add, show (480 : Int32) * nI e = nI (480 * e) from pk_mul 480 e, nI_add]
      refine ⟨A 40, M2.r40, 5508, _, ⟨M2.s40, rfl, by omega, by omega⟩, A 9, M2.r9, 1920, _, ⟨M2.s9, rfl, by omega, by omega⟩, ?_⟩
      rintro _ rfl _ rfl
      rw [nI_1, nI_1, F2.i M.j 40 (by decide) (by decide) (by decide), o2 i hil]
      refine ⟨⟨i + 1, hil, rfl, rfl, ?_, F2.trans (mf_pI M.j (by decide) (by decide) (by decide))⟩, mu_lt hil (by omega)⟩
      have etx : (dtxt bs).take (i + 1) = (dtxt bs).take i ++ [(dtxt bs).getD i 0] := by
        rw [List.take_succ, List.getElem?_eq_getElem hil, List.getD_eq_getElem?_getD, List.getElem?_eq_getElem hil]
        rfl
      have hla : (ptxt (ps.take k) ++ (dtxt bs).take i).length = (ptxt (ps.take k)).length + i := by
        rw [List.length_append, List.length_take]
        omega
      rw [rE, g9, etx, ← List.append_assoc, ← putT_app, hla]
/-- a device's text has changed -/
theorem MR.tx {e s : Nat} {t : List Int32} {v : SDv} (R : MR A h S) (a : Mf A [8, 9, 10] h h') (he : e < 4) (ht : t.length ≤ 480) (h3 : ∀ d, d < 4 → (dTxt (S.1 d)).length ≤ 480) (e8 : hI h' (A 8) = va_up (hI h (A 8)) e (nI t.length)) (e9 : hI h' (A 9) = putT (hI h (A 9)) (480 * e) t) (e10 : hL h' (A 10) = va_up (hL h (A 10)) e (lN s)) (hv : v = setTxt (S.1 e) t s) : MQr A h (updD S.1 e v, S.2) h' := by
  obtain ⟨M, r1, r2, r3, r4, r5, r6, r7, r8, r9⟩ := R
  subst hv
  refine ⟨⟨a.ma M, r1.kept a M.j (by decide) (by decide), r2.kept a M.j (updD_all4 (P := fun a b => dNum a = dNum b ∧ dOn a = dOn b) (fun _ => ⟨rfl, rfl⟩) ⟨rfl, rfl⟩) (by decide) (by decide), r3.kept a M.j (updD_all4 (P := fun a b => dMn a = dMn b ∧ dRef a = dRef b) (fun _ => ⟨rfl, rfl⟩) ⟨rfl, rfl⟩) (by decide) (by decide), fun f hf => ?_, ?_, r6.kept a M.j (by decide), r7.kept a M.j (by simp; omega), r8.kept a M.j (by decide) (by decide) (by decide) (by decide), r9.kept a M.j (updD_all4 (P := fun a b => dPil a = dPil b) (fun _ => rfl) rfl) (by simp; omega)⟩, a.mono (by decide)⟩
  · show hI h' (A 8) f = nI (dTxt (updD S.1 e _ f)).length ∧ hL h' (A 10) f = lN (dSnd (updD S.1 e _ f)) ∧ ∀ j, j < (dTxt (updD S.1 e _ f)).length → hI h' (A 9) (480 * f + j) = (dTxt (updD S.1 e _ f)).getD j 0
    rw [e8, e9, e10]
    by_cases cf : f = e
    · subst cf
      rw [va_up_self, va_up_self, updD_eq]
      refine ⟨rfl, rfl, fun j hj => ?_⟩
      have hj' : j < t.length := hj
      rw [putT_in (by omega) (by omega), Nat.add_sub_cancel_left]
      rfl
    · rw [va_up_ne _ _ cf, va_up_ne _ _ cf, updD_ne cf]
      obtain ⟨q1, q2, q3⟩ := r4 f hf
      refine ⟨q1, q2, fun j hj => ?_⟩
      have := h3 f hf
      rw [putT_out (by omega)]
      exact q3 j hj
  · show LR A h' (linS (updD S.1 e (setTxt (S.1 e) t s), S.2))
    rw [linS_dev (v := setTxt (S.1 e) t s) rfl rfl]
    exact r5.kept a M.j (by decide) (by decide) (by decide)
/-- a device's piles have changed -/
theorem MR.pl {e : Nat} {x : List SPl} (R : MR A h S) (a : Mf A [35, 36, 37, 38, 39, 40] h h') (P : MPp A h' (updP (fun d => dPil (S.1 d)) e x)) : MQr A h (updD S.1 e (setPil (S.1 e) x), S.2) h' := by
  obtain ⟨M, r1, r2, r3, r4, r5, r6, r7, r8, r9⟩ := R
  refine ⟨⟨a.ma M, r1.kept a M.j (by decide) (by decide), r2.kept a M.j (updD_all4 (P := fun a b => dNum a = dNum b ∧ dOn a = dOn b) (fun _ => ⟨rfl, rfl⟩) ⟨rfl, rfl⟩) (by decide) (by decide), r3.kept a M.j (updD_all4 (P := fun a b => dMn a = dMn b ∧ dRef a = dRef b) (fun _ => ⟨rfl, rfl⟩) ⟨rfl, rfl⟩) (by decide) (by decide), r4.kept a M.j (updD_all4 (P := fun a b => dTxt a = dTxt b ∧ dSnd a = dSnd b) (fun _ => ⟨rfl, rfl⟩) ⟨rfl, rfl⟩) (by decide) (by decide) (by decide), ?_, r6.kept a M.j (by decide), r7.kept a M.j (by simp; omega), r8.kept a M.j (by decide) (by decide) (by decide) (by decide), fun f hf => ?_⟩, a.mono (by decide)⟩
  · show LR A h' (linS (updD S.1 e (setPil (S.1 e) x), S.2))
    rw [linS_dev (v := setPil (S.1 e) x) rfl rfl]
    exact r5.kept a M.j (by decide) (by decide) (by decide)
  · have := P f hf
    show hI h' (A 38) f = nI (dPil (updD S.1 e _ f)).length ∧ ∀ k, k < (dPil (updD S.1 e _ f)).length → PA A h' (3 * f + k) ((dPil (updD S.1 e _ f)).getD k (0, 0, []))
    by_cases cf : f = e
    · subst cf
      rw [updD_eq]
      rw [updP_eq] at this
      exact this
    · rw [updD_ne cf]
      rw [updP_ne cf] at this
      exact this
end MT2
