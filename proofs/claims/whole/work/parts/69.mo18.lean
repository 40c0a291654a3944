/-! the reference's side -/
section MU2
variable {G : Gx} {l : Launch} {d w : Nat} {A : Nat → Nat} {h h' : Hp} {F : List Nat} {S : SS}
theorem lack_take {ps : List (Option (List Nat))} {i : Nat} {o : Option (List Nat)} (ho : ps[i]? = some o) : lack (ps.take (i + 1)) = lack (ps.take i) + (if o.isNone then 1 else 0) := by
  unfold lack
  rw [List.take_succ, ho]
  simp [List.countP_append, List.countP_cons]
theorem lack_all (ps : List (Option (List Nat))) : lack (ps.take ps.length) = lack ps := by rw [List.take_of_length_le (Nat.le_refl _)]
/-- from the pile on: how many lack, the text, the pile's end -/
theorem take_rest {e k' s : Nat} {v : SDv} {pils : List SPl} {pl : SPl} {x2 x5 x8 : Int32} (h0 : Hp) (R : MR A h (updD S.1 e (setPil v pils), S.2)) (F0 : Mf A FA h0 h) (he : e < 4) (hk : pils[k']? = some pl) (hl3 : pils.length ≤ 3) (hK : ∀ p ∈ pils, PK p) (h3 : ∀ d, d < 4 → (dPil (S.1 d)).length ≤ 3) (hKo : ∀ d, d < 4 → ∀ p ∈ dPil (S.1 d), PK p) (htx : ∀ d, d < 4 → (dTxt (S.1 d)).length ≤ 480) (htv : (dTxt v).length ≤ 480) : wJ_MO_take_200 G l d w (fun r h' => r = (if lack pl.2.2 = 0 then nI (ptxt pl.2.2).length else -1 - nI (lack pl.2.2)) ∧ MQr A h0 (updD S.1 e (if lack pl.2.2 = 0 then setTxt (setPil v (pils.eraseIdx k')) (ptxt pl.2.2) s else setPil v pils), S.2) h') (A 41) (nI e) x2 (lN s) x5 (nI k') (nI (3 * e + k')) x8 h := by
  have R0 := R
  obtain ⟨M, r1, r2, r3, r4, r5, r6, r7, r8, r9⟩ := R
  have hkl : k' < pils.length := by
    rcases Nat.lt_or_ge k' pils.length with z | z
    · exact z
    · rw [List.getElem?_eq_none z] at hk
      cases hk
  have hKp := hK pl (List.mem_of_getElem? hk)
  have hps3 := hKp.2.2.1
  have P := r9 e he
  have eP : dPil ((updD S.1 e (setPil v pils), S.2).1 e) = pils := by
    show dPil (updD S.1 e (setPil v pils) e) = pils
    rw [updD_eq]
    rfl
  rw [eP] at P
  have hgd : pils.getD k' (0, 0, []) = pl := by rw [List.getD_eq_getElem?_getD, hk]; rfl
  have PP := P.2 k' hkl
  rw [hgd] at PP
  obtain ⟨p1, p2, p3, p4⟩ := PP
  unfold wJ_MO_take_200 wL_MO_take_206
  refine ⟨fun x9 x h' => h = h' ∧ ∃ i, i ≤ pl.2.2.length ∧ x = nI i ∧ x9 = nI (lack (pl.2.2.take i)), fun x9 x h' => pl.2.2.length - x.toNatClampNeg, ⟨rfl, 0, Nat.zero_le _, rfl, rfl⟩, ?_⟩
  rintro _ _ _ ⟨rfl, i, hi, rfl, rfl⟩
  have hlk := lack_le (pl.2.2.take i)
  rw [List.length_take] at hlk
  unfold wB_MO_take_206 wJ_MO_take_242
  refine ⟨M.s41, A 37, M.r37, 12, 3 * e + k', ⟨M.s37, rfl, by omega, by omega⟩, ?_⟩
  rw [p3, nI_leI (by omega) (by omega)]
  refine ⟨fun c => ?_, fun c => ?_⟩
  · have ei : i = pl.2.2.length := by omega
    subst ei
    rw [lack_all] at hlk ⊢
    rw [leL (by omega) (by decide)]
    refine ⟨fun c0 => ?_, fun c0 => ?_⟩
    · have z0 : lack pl.2.2 = 0 := by have : lack pl.2.2 ≤ 0 := c0; omega
      rw [if_pos z0, if_pos z0]
      refine ⟨_, c_MO_together (q := 3 * e + k') M ⟨p1, p2, p3, p4⟩ he (by omega) hKp z0, ?_⟩
      rintro h1 ⟨e9, e8, F1⟩
      have M1 := F1.ma M
      have hpt : (ptxt pl.2.2).length ≤ 459 := by
        have h1 := ptxt_len pl.2.2 (fun b hb => dtxt_hdr (hKp.2.2.2 b hb).1 (hKp.2.2.2 b hb).2)
        have h2 : 153 * pl.2.2.length ≤ 153 * 3 := Nat.mul_le_mul_left _ hps3
        omega
      refine ⟨M1.s41, A 10, M1.r10, 4, e, ⟨M1.s10, rfl, he, by omega⟩, ?_⟩
      have F2 : Mf A [8, 9, 10] h (pL h1 (A 10) e (lN s)) := (F1.mono (by simp)).trans (mf_pL (by decide) (by decide))
      have g10 : hL (pL h1 (A 10) e (lN s)) (A 10) = va_up (hL h (A 10)) e (lN s) := by rw [rEL, F1.l M.j 10 (by decide) (by decide) (by decide)]
      have R2 := R0.tx (h' := pL h1 (A 10) e (lN s)) (t := ptxt pl.2.2) (s := s) (v := setTxt (setPil v pils) (ptxt pl.2.2) s) F2 he (by omega) (fun f hf => by
        show (dTxt (updD S.1 e (setPil v pils) f)).length ≤ 480
        by_cases cf : f = e
        · rw [cf, updD_eq]; exact htv
        · rw [updD_ne cf]; exact htx f hf) (by rw [rIL]; exact e8) (by rw [rIL]; exact e9) g10 (by
        show _ = setTxt (updD S.1 e (setPil v pils) e) _ _
        rw [updD_eq])
      have g8 : hI (pL h1 (A 10) e (lN s)) (A 8) e = nI (ptxt pl.2.2).length := by rw [rIL, e8, va_up_self]
      generalize pL h1 (A 10) e (lN s) = h2 at F2 g10 R2 g8 ⊢
      have e2 : (updD (updD S.1 e (setPil v pils), S.2).1 e (setTxt (setPil v pils) (ptxt pl.2.2) s), (updD S.1 e (setPil v pils), S.2).2) = (updD S.1 e (setTxt (setPil v pils) (ptxt pl.2.2) s), S.2) := by
        show (updD (updD S.1 e _) e _, S.2) = _
        rw [updD_twice]
      rw [e2] at R2
      have M2 := R2.1.1
      have P2 : MPp A h2 (fun d => dPil (updD S.1 e (setTxt (setPil v pils) (ptxt pl.2.2) s) d)) := R2.1.2.2.2.2.2.2.2.2.2
      have pe : dPil (updD S.1 e (setTxt (setPil v pils) (ptxt pl.2.2) s) e) = pils := by rw [updD_eq]; rfl
      have po : ∀ f, f ≠ e → dPil (updD S.1 e (setTxt (setPil v pils) (ptxt pl.2.2) s) f) = dPil (S.1 f) := fun f hf => by rw [updD_ne hf]
      refine ⟨_, c_MO_dropPile (k := k') M2 P2 he (by rw [pe]; exact hkl) (fun f hf => by
        by_cases cf : f = e
        · rw [cf, pe]; exact hl3
        · rw [po f cf]; exact h3 f hf) (fun f hf p hp => by
        by_cases cf : f = e
        · rw [cf, pe] at hp; exact hK p hp
        · rw [po f cf] at hp; exact hKo f hf p hp), ?_⟩
      rintro h4 ⟨P4, F4⟩
      have M4 := F4.ma M2
      rw [pe] at P4
      have R4 := R2.1.pl F4 P4
      refine ⟨M4.s41, A 8, M4.r8, 4, e, ⟨M4.s8, rfl, he, by omega⟩, ?_, ?_⟩
      · rw [F4.i M.j 8 (by decide) (by decide) (by decide), g8]
      · have e4 : (updD (updD S.1 e (setTxt (setPil v pils) (ptxt pl.2.2) s), S.2).1 e (setPil ((updD S.1 e (setTxt (setPil v pils) (ptxt pl.2.2) s), S.2).1 e) (pils.eraseIdx k')), (updD S.1 e (setTxt (setPil v pils) (ptxt pl.2.2) s), S.2).2) = (updD S.1 e (setTxt (setPil v (pils.eraseIdx k')) (ptxt pl.2.2) s), S.2) := by
          show (updD (updD S.1 e _) e (setPil (updD S.1 e _ e) _), S.2) = _
          rw [updD_twice, updD_eq]
          rfl
        rw [e4] at R4
        exact ⟨R4.1, F0.trans (R2.2.trans R4.2)⟩
    · have z0 : ¬ lack pl.2.2 = 0 := fun z => c0 (by show lack pl.2.2 ≤ 0; omega)
      rw [if_neg z0, if_neg z0]
      exact ⟨rfl, R0, F0⟩
  · have hil : i < pl.2.2.length := by omega
    have hi? := List.getElem?_eq_getElem hil
    rw [show (3 : Int32) * nI (3 * e + k') = nI (3 * (3 * e + k')) from pk_mul 3 _, nI_add]
    refine ⟨A 39, M.r39, 36, 3 * (3 * e + k') + i, ⟨M.s39, rfl, by omega, by omega⟩, ?_⟩
    have hlt := lack_take hi?
    obtain ⟨o1, o2⟩ := p4 i _ hi?
    cases ho : pl.2.2[i] with
    | none =>
      rw [ho] at o1 hlt
      rw [o1 rfl]
      refine ⟨fun z => absurd z (by decide), fun _ => ?_⟩
      rintro _ rfl
      rw [nI_1, nI_1]
      exact ⟨⟨rfl, i + 1, hil, rfl, by rw [hlt]; rfl⟩, mu_lt hil (by omega)⟩
    | some bs =>
      rw [ho] at o2 hlt
      have hb := (o2 bs rfl).1
      have h153 := dtxt_hdr (hKp.2.2.2 bs (by rw [← ho]; exact List.getElem_mem hil)).1 (hKp.2.2.2 bs (by rw [← ho]; exact List.getElem_mem hil)).2
      rw [hb]
      refine ⟨fun _ => ?_, fun z => absurd (nI_pos' (by omega)) z⟩
      rintro _ rfl
      rw [nI_1]
      exact ⟨⟨rfl, i + 1, hil, rfl, by rw [hlt]; rfl⟩, mu_lt hil (by omega)⟩
/-- a part is put into its pile -/
theorem MPp.part {pd : Nat → List SPl} {e k' i : Nat} {pl : SPl} {bs : List Nat} (P : MPp A h pd) (he : e < 4) (hk : (pd e)[k']? = some pl) (h3 : ∀ d, d < 4 → (pd d).length ≤ 3) (hK : ∀ d, d < 4 → ∀ p ∈ pd d, PK p) (hi : i < pl.2.2.length) (K : DK bs ∧ hdr bs = true) (a : Mf A [39, 40] h h') (J : MJ A) (e39 : hI h' (A 39) = va_up (hI h (A 39)) (3 * (3 * e + k') + i) (nI (dtxt bs).length)) (e40 : hI h' (A 40) = putT (hI h (A 40)) (153 * (3 * (3 * e + k') + i)) (dtxt bs)) : MPp A h' (updP pd e ((pd e).set k' (pl.1, pl.2.1, pl.2.2.set i (some bs)))) := by
  have hkl : k' < (pd e).length := by
    rcases Nat.lt_or_ge k' (pd e).length with z | z
    · exact z
    · rw [List.getElem?_eq_none z] at hk
      cases hk
  have h3e := h3 e he
  have h153 := dtxt_hdr K.1 K.2
  have hKp := hK e he pl (List.mem_of_getElem? hk)
  have hps3 := hKp.2.2.1
  have z35 := a.l J 35 (by decide) (by decide) (by decide)
  have z36 := a.i J 36 (by decide) (by decide) (by decide)
  have z37 := a.i J 37 (by decide) (by decide) (by decide)
  have z38 := a.i J 38 (by decide) (by decide) (by decide)
  have other : ∀ q p, q ≠ 3 * e + k' → PK p → PA A h q p → PA A h' q p := fun q p hq Kp o => o.mv Kp (by rw [z35]) (by rw [z36]) (by rw [z37]) (fun t ht => by rw [e39, va_up_ne _ _ (by omega)]) (fun t ht => by rw [e40, putT_out (by omega)])
  intro f hf
  have h3f := h3 f hf
  have Pf := P f hf
  by_cases cf : f = e
  · subst cf
    rw [updP_eq, z38, List.length_set]
    refine ⟨Pf.1, fun j hj => ?_⟩
    by_cases cj : j = k'
    · subst cj
      have hg : ((pd f).set j (pl.1, pl.2.1, pl.2.2.set i (some bs))).getD j (0, 0, []) = (pl.1, pl.2.1, pl.2.2.set i (some bs)) := by
        rw [List.getD_eq_getElem?_getD, List.getElem?_set_self hkl]
        rfl
      have hg0 : (pd f).getD j (0, 0, []) = pl := by rw [List.getD_eq_getElem?_getD, hk]; rfl
      have o := Pf.2 j hj
      rw [hg0] at o
      rw [hg]
      obtain ⟨o1, o2, o3, o4⟩ := o
      refine ⟨by rw [z35]; exact o1, by rw [z36]; exact o2, by rw [z37, List.length_set]; exact o3, fun t ot hot => ?_⟩
      have hot' : (pl.2.2.set i (some bs))[t]? = some ot := hot
      by_cases ct : t = i
      · subst ct
        rw [List.getElem?_set_self hi] at hot'
        have eo := Option.some.inj hot'
        refine ⟨fun z => (by rw [← eo] at z; cases z), fun bs' hb => ?_⟩
        rw [← eo] at hb
        cases hb
        refine ⟨by rw [e39, va_up_self], fun u hu => ?_⟩
        rw [e40, putT_in (by omega) (by omega), Nat.add_sub_cancel_left]
      · rw [List.getElem?_set_ne (fun z => ct z.symm)] at hot'
        obtain ⟨q1, q2⟩ := o4 t ot hot'
        have ht : t < pl.2.2.length := by
          rcases Nat.lt_or_ge t pl.2.2.length with z | z
          · exact z
          · rw [List.getElem?_eq_none z] at hot'
            cases hot'
        refine ⟨fun z => by rw [e39, va_up_ne _ _ (by omega)]; exact q1 z, fun bs' hb => ⟨by rw [e39, va_up_ne _ _ (by omega)]; exact (q2 bs' hb).1, fun u hu => ?_⟩⟩
        have hKb := hKp.2.2.2 bs' (by rw [← hb]; exact List.mem_of_getElem? hot')
        have h153' := dtxt_hdr hKb.1 hKb.2
        rw [e40, putT_out (by omega)]
        exact (q2 bs' hb).2 u hu
    · have hg : ((pd f).set k' (pl.1, pl.2.1, pl.2.2.set i (some bs))).getD j (0, 0, []) = (pd f).getD j (0, 0, []) := by
        rw [List.getD_eq_getElem?_getD, List.getD_eq_getElem?_getD, List.getElem?_set_ne (fun z => cj z.symm)]
      rw [hg]
      exact other _ _ (by omega) (hK f hf _ (getD_mem hj)) (Pf.2 j hj)
  · rw [updP_ne cf, z38]
    exact ⟨Pf.1, fun j hj => other _ _ (by omega) (hK f hf _ (getD_mem hj)) (Pf.2 j hj)⟩
theorem set_same {α : Type} {l : List α} {k : Nat} {x : α} (h : l[k]? = some x) : l.set k x = l := by
  apply List.ext_getElem?
  intro i
  by_cases c : i = k
  · subst c
    have hk : i < l.length := by
      rcases Nat.lt_or_ge i l.length with z | z
      · exact z
      · rw [List.getElem?_eq_none z] at h
        cases h
    rw [List.getElem?_set_self hk, h]
  · rw [List.getElem?_set_ne (fun z => c z.symm)]
theorem set_erase {α : Type} : ∀ (l : List α) (k : Nat) (x : α), (l.set k x).eraseIdx k = l.eraseIdx k
  | [], _, _ => rfl
  | _ :: _, 0, _ => rfl
  | a :: l, k + 1, x => by
    show a :: (l.set k x).eraseIdx k = a :: l.eraseIdx k
    rw [set_erase l k x]
set_option maxHeartbeats 1000000 in
theorem c_MO_take {y : Int32} (R : MR A h S) (W : WX S) : Ci G l M_MO_take (d + 3) (w + 73) [.ref (A 41), .int y] h 0 0 (fun r h' => r = (sTak S y).2 ∧ MQr A h (sTak S y).1 h') := by
  refine ok_MO_take ?_
  have R0 := R
  obtain ⟨M, r1, r2, r3, r4, r5, r6, r7, r8, r9⟩ := R
  unfold wp_MO_take
  refine ⟨_, c_MO_isDevice, ?_⟩
  rintro _ _ ⟨rfl, ⟨e, he, rfl, hd, rfl⟩ | ⟨hd, rfl⟩⟩
  · unfold sTak
    rw [hd, show (1 : Int32) + nI e = nI (1 + e) from nI_add 1 e]
    dsimp only
    obtain ⟨q1, q2, q3, q4⟩ := r5 (1 + e) (by omega)
    have hcn : cap (1 + e) = 6 := by have := bL_or (1 + e); omega
    have hL := linS_i (S := S) he
    rw [hL] at q1 q2 q3 q4
    refine ⟨fun _ => ⟨M.s41, A 16, M.r16, 9, 1 + e, ⟨M.s16, rfl, by omega, by omega⟩, ?_⟩, fun c => absurd c (by decide)⟩
    rw [q1, eqL (by omega) (by decide)]
    cases hr : dInb (S.1 e) with
    | nil => exact ⟨fun z => absurd rfl z, fun _ => ⟨rfl, MQr.same R0⟩⟩
    | cons r rs =>
      have D := W.1.1 e he
      have hDK := D.2.1 r (by rw [hr]; exact List.mem_cons_self ..)
      have hDX := W.2 e he r (by rw [hr]; exact List.mem_cons_self ..)
      obtain ⟨x1, x2, x3, x4, x5, x6, x7, x8, x9, x10, x11⟩ := hDX.all
      have h56 := row_lt (n := 1 + e) (by omega) (k := 0) (by omega)
      have hra := q4 0 (by rw [hr]; simp)
      rw [hr, Nat.add_zero] at hra
      refine ⟨fun _ => ⟨_, c_MO_baseOf (by omega), ?_⟩, fun z => absurd z (by simp)⟩
      rintro _ _ ⟨rfl, rfl⟩
      refine ⟨M.s41, _, c_MO_load (bs := r) M hra (by omega) x2, ?_⟩
      rintro h1 ⟨B1, F1⟩
      have M1 := F1.ma M
      refine ⟨M1.s41, _, c_MO_removeFirst M1 (r5.kept F1 M.j (by decide) (by decide) (by decide)) (by omega) (by rw [hL, hr]), ?_⟩
      rintro h2 ⟨L2, f1, f2, F2⟩
      have M2 := F2.ma M1
      have B2 := B1.kept F2 M.j (by decide) (by decide)
      have F12 : Mf A [11, 12, 13, 14, 15, 16] h h2 := (F1.mono (by simp)).trans (F2.mono (by simp))
      have R2 : MQr A h (updD S.1 e (setInb (S.1 e) rs), S.2) h2 := by
        refine R0.line (v := setInb (S.1 e) rs) F12 ⟨rfl, rfl⟩ ⟨rfl, rfl⟩ ⟨rfl, rfl⟩ rfl ?_ (fun j hj => ?_)
        · rw [linS_inb (v := setInb (S.1 e) rs) (x := rs) he rfl rfl S.2 rfl]
          exact L2
        · have := W.1.2.1
          rw [f2 j (by have := bL_or (1 + e); omega), F1.i M.j 15 (by decide) (by decide) (by decide)]
          exact r6 j hj
      refine ⟨M2.s41, A 12, M2.r12, 176, 0, ⟨M2.s12, rfl, by decide, by decide⟩, ?_⟩
      have b0' := x1 0
      rw [B2.2.2 0 (by omega), eqL (by omega) (by decide)]
      have hfr : RN r 1 := ⟨by omega, x4, x5, by omega, x6⟩
      -- from the header's flag on
      have go : ∀ sx : Int32, ((sx = 0 ∧ hdr r = false) ∨ (sx = 1 ∧ hdr r = true)) → wJ_MO_take_56 G l d w (fun r' h' => r' = (rdD (setInb (S.1 e) rs) r).2 ∧ MQr A h (updD S.1 e (rdD (setInb (S.1 e) rs) r).1, S.2) h') (A 41) (nI e) sx h2 := by
        intro sx hsx
        unfold wJ_MO_take_56
        refine ⟨M2.s41, _, c_MO_readNumber (p := 1) M2 B2 x1 (by decide), ?_⟩
        rintro yv _ ⟨rfl, hy⟩
        have ey : yv = lN (dFrm r) := by
          rcases hy with ⟨-, z⟩ | ⟨z, -⟩
          · exact z
          · exact absurd hfr z
        subst ey
        refine ⟨M2.s41, A 12, M2.r12, 176, 1, ⟨M2.s12, rfl, by decide, by decide⟩, ?_⟩
        rintro _ rfl
        have ep : (12 : Int32) + (hI h2 (A 12) 1 + 1) / 2 = nI (12 + (bt r 1 + 1) / 2) := by
          rw [B2.2.2 1 (by omega), nI_1, show (2 : Int32) = nI 2 from rfl, pk_div (by omega) (by decide) (by decide), show (12 : Int32) = nI 12 from rfl, nI_add]
        rw [ep]
        have hH : dHd r = 12 + (bt r 1 + 1) / 2 + 1 := by unfold dHd; omega
        have h13 : 13 + (bt r 1 + 1) / 2 = 12 + (bt r 1 + 1) / 2 + 1 := by omega
        have hdtx : dtxt r = txt false (seps r (12 + (bt r 1 + 1) / 2 + 1) (fbit r) (tcount r (bt r (12 + (bt r 1 + 1) / 2)))) := by unfold dtxt; rw [h13]
        rw [h13] at x8 x11
        generalize hp : 12 + (bt r 1 + 1) / 2 = p at *
        refine ⟨_, c_MO_readSeptets (b := fbit r) (cnt := tcount r (bt r p)) M2 B2 x1 x7 ?_ x9 (by omega), ?_⟩
        · rcases hsx with ⟨e1, e2⟩ | ⟨e1, e2⟩
          · left
            unfold fbit tcount
            rw [e2]
            exact ⟨e1, rfl, rfl⟩
          · right
            unfold fbit tcount
            rw [e1, e2]
            exact ⟨by decide, rfl, x10 e2, rfl⟩
        · rintro h3 ⟨Q3, F3⟩
          have M3 := F3.ma M2
          have B3 := B2.kept F3 M.j (by decide) (by decide)
          have R3 := R2.1.scr (F3.mono (by simp))
          have F03 := R2.2.trans R3.2
          have hdl := dtxt_le hDK
          have htxt : ∀ f, f < 4 → (dTxt (updD S.1 e (setInb (S.1 e) rs) f)).length ≤ 480 := fun f hf => by
            by_cases cf : f = e
            · rw [cf, updD_eq]; exact D.2.2.2.2.2.2.2.2.2.1
            · rw [updD_ne cf]; exact (W.1.1 f hf).2.2.2.2.2.2.2.2.2.1
          refine ⟨fun c1 => ?_, fun c0 => ?_⟩
          · -- a part
            have hh : hdr r = true := by
              rcases hsx with ⟨e1, e2⟩ | ⟨e1, e2⟩
              · exact absurd e1 c1
              · exact e2
            obtain ⟨k1, k2, k3, k4, k5, k6⟩ := hDK
            have k6' := k6 hh
            rw [hH] at k6'
            have u7 := x10 hh
            rw [show nI p + 4 = nI (p + 4) from nI_add p 4, show nI p + 5 = nI (p + 5) from nI_add p 5, show nI p + 6 = nI (p + 6) from nI_add p 6]
            refine ⟨M3.s41, A 12, M3.r12, 176, p + 4, ⟨M3.s12, rfl, by omega, by omega⟩, A 12, M3.r12, 176, p + 5, ⟨M3.s12, rfl, by omega, by omega⟩, ?_⟩
            rw [B3.2.2 (p + 4) (by omega), B3.2.2 (p + 5) (by omega)]
            have P3 : MPp A h3 (fun d => dPil (updD S.1 e (setInb (S.1 e) rs) d)) := R3.1.2.2.2.2.2.2.2.2.2
            have hpe : dPil (updD S.1 e (setInb (S.1 e) rs) e) = dPil (S.1 e) := by rw [updD_eq]; rfl
            have hpd : ∀ f, dPil (updD S.1 e (setInb (S.1 e) rs) f) = dPil (S.1 f) := fun f => by
              by_cases cf : f = e
              · rw [cf, hpe]
              · rw [updD_ne cf]
            have h3' : ∀ f, f < 4 → (dPil (updD S.1 e (setInb (S.1 e) rs) f)).length ≤ 3 := fun f hf => by rw [hpd]; exact (W.1.1 f hf).2.2.2.2.2.2.2.1
            have hK' : ∀ f, f < 4 → ∀ pl ∈ dPil (updD S.1 e (setInb (S.1 e) rs) f), PK pl := fun f hf pl hpl => by rw [hpd] at hpl; exact (W.1.1 f hf).2.2.2.2.2.2.2.2.1 pl hpl
            have hpn : bt r (p + 5) ≤ 3 := k6'.2.2.1
            have hpr := x1 (p + 4)
            refine ⟨_, c_MO_pileFor M3 P3 he h3' hK' k4 hpr hpn, ?_⟩
            rintro _ h4 ⟨rfl, P4, F4⟩
            have M4 := F4.ma M3
            have B4 := B3.kept F4 M.j (by decide) (by decide)
            have Q4 := Q3.kept F4 M.j (by decide) (by decide)
            have hgc : plc (dPil (updD S.1 e (setInb (S.1 e) rs) e)) (dFrm r) (bt r (p + 4)) (bt r (p + 5)) = gPc (setInb (S.1 e) rs) r := by
              unfold gPc
              rw [hH, hpe]
              rfl
            have P4' : MPp A h4 (updP (fun d => dPil (updD S.1 e (setInb (S.1 e) rs) d)) e (gPc (setInb (S.1 e) rs) r).1) := by
              have := P4
              rw [hgc] at this
              exact this
            have hgc2 : (plc ((fun d => dPil (updD S.1 e (setInb (S.1 e) rs) d)) e) (dFrm r) (bt r (p + 4)) (bt r (p + 5))).2 = (gPc (setInb (S.1 e) rs) r).2 := by
              show (plc (dPil (updD S.1 e (setInb (S.1 e) rs) e)) (dFrm r) (bt r (p + 4)) (bt r (p + 5))).2 = _
              rw [hgc]
            rw [hgc2]
            have hDKr : DK r := ⟨k1, k2, k3, k4, k5, k6⟩
            have hpv : ∀ pl ∈ dPil (setInb (S.1 e) rs), PK pl := D.2.2.2.2.2.2.2.2.1
            obtain ⟨g1, g2, g3, g4⟩ := gPl_at (v := setInb (S.1 e) rs) (bs := r)
            have gok : ∀ pl ∈ (gPc (setInb (S.1 e) rs) r).1, PK pl := fun pl hpl => gPl_ok hDKr hh hpv hpl
            have gso := gPs_ok hDKr hh hpv
            have glen : (gPc (setInb (S.1 e) rs) r).1.length ≤ 3 := by
              have w8 : (dPil (setInb (S.1 e) rs)).length ≤ 3 := D.2.2.2.2.2.2.2.1
              unfold gPc
              cases hf : (dPil (setInb (S.1 e) rs)).findIdx? (mtch (dFrm r) (bt r (dHd r + 3)) (bt r (dHd r + 4))) with
              | some j => rw [plc_some hf]; exact w8
              | none =>
                rw [plc_none hf]
                show (plB (dPil (setInb (S.1 e) rs)) ++ [_]).length ≤ 3
                rw [List.length_append]
                unfold plB
                split
                · simp only [List.length_cons, List.length_nil]; omega
                · rw [List.length_tail]; simp only [List.length_cons, List.length_nil]; omega
            rw [hH] at g4
            have g4' : (gPl (setInb (S.1 e) rs) r).2.2.length = bt r (p + 5) := g4
            have hgps : gPs (setInb (S.1 e) rs) r = keepP (gPl (setInb (S.1 e) rs) r).2.2 (bt r (p + 6) - 1) r := by
              unfold gPs
              rw [hH]
            have hrd : rdD (setInb (S.1 e) rs) r = gth (setInb (S.1 e) rs) r := by unfold rdD; rw [if_pos hh]
            rw [hrd]
            have hgth : gth (setInb (S.1 e) rs) r = (if lack (gPs (setInb (S.1 e) rs) r) = 0 then setTxt (setPil (setInb (S.1 e) rs) ((gPc (setInb (S.1 e) rs) r).1.eraseIdx (gPc (setInb (S.1 e) rs) r).2)) (ptxt (gPs (setInb (S.1 e) rs) r)) (dFrm r) else setPil (setInb (S.1 e) rs) ((gPc (setInb (S.1 e) rs) r).1.set (gPc (setInb (S.1 e) rs) r).2 ((gPl (setInb (S.1 e) rs) r).1, (gPl (setInb (S.1 e) rs) r).2.1, gPs (setInb (S.1 e) rs) r)), if lack (gPs (setInb (S.1 e) rs) r) = 0 then nI (ptxt (gPs (setInb (S.1 e) rs) r)).length else -1 - nI (lack (gPs (setInb (S.1 e) rs) r))) := by
              unfold gth
              by_cases cl : lack (gPs (setInb (S.1 e) rs) r) = 0
              · rw [if_pos cl, if_pos cl, if_pos cl]
              · rw [if_neg cl, if_neg cl, if_neg cl]
            rw [hgth]
            have hrest := @take_rest G l d w A
            generalize hpils : (gPc (setInb (S.1 e) rs) r).1 = pils at *
            generalize hk' : (gPc (setInb (S.1 e) rs) r).2 = k' at *
            generalize hgpl : gPl (setInb (S.1 e) rs) r = gp at *
            generalize hgs : gPs (setInb (S.1 e) rs) r = gs at *
            have hkl : k' < pils.length := by
              rcases Nat.lt_or_ge k' pils.length with z | z
              · exact z
              · rw [List.getElem?_eq_none z] at g1
                cases g1
            -- behind the part's place
            have rest : ∀ h5, MPp A h5 (updP (fun d => dPil (updD S.1 e (setInb (S.1 e) rs) d)) e (pils.set k' (gp.1, gp.2.1, gs))) → Mf A [35, 36, 37, 38, 39, 40] h3 h5 → ∀ x8', wJ_MO_take_200 G l d w (fun r' h' => r' = (if lack gs = 0 then nI (ptxt gs).length else -1 - nI (lack gs)) ∧ MQr A h (updD S.1 e (if lack gs = 0 then setTxt (setPil (setInb (S.1 e) rs) (pils.eraseIdx k')) (ptxt gs) (dFrm r) else setPil (setInb (S.1 e) rs) (pils.set k' (gp.1, gp.2.1, gs))), S.2) h') (A 41) (nI e) sx (lN (dFrm r)) (nI p) (nI k') (nI (3 * e + k')) x8' h5 := by
              intro h5 P5 F5 x8'
              have R5 := R3.1.pl F5 P5
              have e5 : (updD (updD S.1 e (setInb (S.1 e) rs), S.2).1 e (setPil ((updD S.1 e (setInb (S.1 e) rs), S.2).1 e) (pils.set k' (gp.1, gp.2.1, gs))), (updD S.1 e (setInb (S.1 e) rs), S.2).2) = (updD S.1 e (setPil (setInb (S.1 e) rs) (pils.set k' (gp.1, gp.2.1, gs))), S.2) := by
                show (updD (updD S.1 e _) e (setPil (updD S.1 e _ e) _), S.2) = _
                rw [updD_twice, updD_eq]
              rw [e5] at R5
              have := take_rest (G := G) (l := l) (d := d) (w := w) (s := dFrm r) (x2 := sx) (x5 := nI p) (x8 := x8') (pl := (gp.1, gp.2.1, gs)) h R5.1 (F03.trans R5.2) he (List.getElem?_set_self hkl) (by rw [List.length_set]; exact glen) (fun q hq => by
                rcases List.mem_or_eq_of_mem_set hq with z | z
                · exact gok q z
                · rw [z]; exact gso) (fun f hf => (W.1.1 f hf).2.2.2.2.2.2.2.1) (fun f hf => (W.1.1 f hf).2.2.2.2.2.2.2.2.1) (fun f hf => (W.1.1 f hf).2.2.2.2.2.2.2.2.2.1) D.2.2.2.2.2.2.2.2.2.1
              rw [set_erase] at this
              exact this
            have hw6 : bt r (p + 6) ≤ 3 := by have := k6'.2.2.2.2.1; have e6 : bt r (p + 1 + 5) = bt r (p + 6) := rfl; have e5 : bt r (p + 1 + 4) = bt r (p + 5) := rfl; omega
            have hw1 : 1 ≤ bt r (p + 6) := k6'.2.2.2.1
            have hw2 : bt r (p + 6) ≤ bt r (p + 5) := k6'.2.2.2.2.1
            rw [show (3 : Int32) * nI e = nI (3 * e) from pk_mul 3 e, nI_add]
            rintro _ rfl
            refine ⟨M4.s41, A 12, M4.r12, 176, p + 6, ⟨M4.s12, rfl, by omega, by omega⟩, ?_⟩
            rintro _ rfl
            have ew : (3 : Int32) * nI (3 * e + k') + hI h4 (A 12) (p + 6) - 1 = nI (3 * (3 * e + k') + (bt r (p + 6) - 1)) := by
              rw [B4.2.2 (p + 6) (by omega), show (3 : Int32) = nI 3 from rfl, pk_mul, nI_add, show (1 : Int32) = nI 1 from rfl, pk_sub (by omega)]
              congr 1
              omega
            rw [ew]
            have Pe := P4' e he
            rw [updP_eq] at Pe
            have hgd : pils.getD k' (0, 0, []) = gp := by rw [List.getD_eq_getElem?_getD, g1]; rfl
            have PP := Pe.2 k' hkl
            rw [hgd] at PP
            have hil : bt r (p + 6) - 1 < gp.2.2.length := by omega
            have hi? := List.getElem?_eq_getElem hil
            obtain ⟨o1, o2⟩ := PP.2.2.2 _ _ hi?
            refine ⟨A 39, M4.r39, 36, 3 * (3 * e + k') + (bt r (p + 6) - 1), ⟨M4.s39, rfl, by omega, by omega⟩, ?_⟩
            cases hop : gp.2.2[bt r (p + 6) - 1] with
            | some bs' =>
              have hb := (o2 bs' hop).1
              have hKb := (gok gp (List.mem_of_getElem? g1)).2.2.2 bs' (by rw [← hop]; exact List.getElem_mem hil)
              have h153 := dtxt_hdr hKb.1 hKb.2
              rw [hb]
              refine ⟨fun _ => ?_, fun z => absurd (nI_pos' (by omega)) z⟩
              refine rest h4 ?_ F4 _
              have egs : gs = gp.2.2 := by
                rw [hgps]
                unfold keepP
                rw [if_neg (by rw [hi?, hop]; exact fun z => by cases z)]
              rw [egs]
              have es : pils.set k' (gp.1, gp.2.1, gp.2.2) = pils := set_same g1
              rw [es]
              exact P4'
            | none =>
              rw [o1 hop]
              refine ⟨fun z => absurd z (by decide), fun _ => ?_⟩
              have egs : gs = gp.2.2.set (bt r (p + 6) - 1) (some r) := by
                rw [hgps]
                unfold keepP
                rw [if_pos (by rw [hi?, hop])]
              have h153 := dtxt_hdr hDKr hh
              rw [show (153 : Int32) * nI (3 * (3 * e + k') + (bt r (p + 6) - 1)) = nI (153 * (3 * (3 * e + k') + (bt r (p + 6) - 1))) from pk_mul 153 _]
              refine ⟨_, c_MO_decode (f := 40) (N := 5508) (x2 := 0) M4 Q4 x11 (Or.inl ⟨rfl, rfl, rfl⟩) (by rw [← hdtx]; omega), ?_⟩
              rintro _ h5 ⟨rfl, d40, F5⟩
              have M5 := F5.ma M4
              refine ⟨A 39, M4.r39, 36, 3 * (3 * e + k') + (bt r (p + 6) - 1), ⟨M5.s39, rfl, by omega, by omega⟩, ?_⟩
              rw [← hdtx] at d40 ⊢
              have F6 : Mf A [39, 40] h4 (pI h5 (A 39) (3 * (3 * e + k') + (bt r (p + 6) - 1)) (nI (dtxt r).length)) := (F5.mono (by simp)).trans (mf_pI M.j (by decide) (by decide) (by decide))
              refine rest _ ?_ (F4.trans (F6.mono (by simp))) _
              rw [egs]
              have pe4 : updP (fun d => dPil (updD S.1 e (setInb (S.1 e) rs) d)) e pils e = pils := updP_eq
              have := P4'.part (bs := r) he (by rw [pe4]; exact g1) (fun f hf => by
                by_cases cf : f = e
                · rw [cf, pe4]; exact glen
                · rw [updP_ne cf]; exact h3' f hf) (fun f hf q hq => by
                by_cases cf : f = e
                · rw [cf, pe4] at hq; exact gok q hq
                · rw [updP_ne cf] at hq; exact hK' f hf q hq) hil ⟨hDKr, hh⟩ F6 M.j (by rw [rE, F5.i M.j 39 (by decide) (by decide) (by decide)]) (by rw [rN M.j (by decide) (by decide) (by decide), d40])
              rw [pe4] at this
              intro f hf
              have t := this f hf
              by_cases cf : f = e
              · subst cf
                rw [updP_eq] at t ⊢
                exact t
              · rw [updP_ne cf, updP_ne cf] at t
                rw [updP_ne cf]
                exact t
          · -- a whole text
            have hh : hdr r = false := by
              rcases hsx with ⟨e1, e2⟩ | ⟨e1, e2⟩
              · exact e2
              · rw [e1] at c0; exact absurd c0 (by decide)
            rw [show (480 : Int32) * nI e = nI (480 * e) from pk_mul 480 e]
            refine ⟨M3.s41, _, c_MO_decode (f := 9) (N := 1920) (x2 := 1) M3 Q3 x11 (Or.inr ⟨rfl, rfl, rfl⟩) (by rw [← hdtx]; omega), ?_⟩
            rintro _ h4 ⟨rfl, e9, F4⟩
            have M4 := F4.ma M3
            rw [← hdtx] at e9 ⊢
            refine ⟨A 8, M3.r8, 4, e, ⟨M4.s8, rfl, he, by omega⟩, M4.s41, A 10, M4.r10, 4, e, ⟨M4.s10, rfl, he, by omega⟩, A 8, M4.r8, 4, e, ⟨M4.s8, rfl, he, by omega⟩, ?_⟩
            have hrd : rdD (setInb (S.1 e) rs) r = (setTxt (setInb (S.1 e) rs) (dtxt r) (dFrm r), nI (dtxt r).length) := by
              unfold rdD
              rw [if_neg (by rw [hh]; decide)]
            rw [hrd, hI_pI_eq]
            refine ⟨rfl, ?_⟩
            have F5 : Mf A [8, 9, 10] h3 (pL (pI h4 (A 8) e (nI (dtxt r).length)) (A 10) e (lN (dFrm r))) := (F4.mono (by simp)).trans ((mf_pI M.j (by decide) (by decide) (by decide)).trans (mf_pL (by decide) (by decide)))
            have R5 := R3.1.tx (t := dtxt r) (s := dFrm r) (v := setTxt (setInb (S.1 e) rs) (dtxt r) (dFrm r)) F5 he (by omega) htxt (by rw [rIL, rE, F4.i M.j 8 (by decide) (by decide) (by decide)]) (by rw [rIL, rN M.j (by decide) (by decide) (by decide), e9]) (by rw [rEL, rLI, F4.l M.j 10 (by decide) (by decide) (by decide)]) (by
              show _ = setTxt (updD S.1 e (setInb (S.1 e) rs) e) _ _
              rw [updD_eq])
            have e5 : (updD (updD S.1 e (setInb (S.1 e) rs), S.2).1 e (setTxt (setInb (S.1 e) rs) (dtxt r) (dFrm r)), (updD S.1 e (setInb (S.1 e) rs), S.2).2) = (updD S.1 e (setTxt (setInb (S.1 e) rs) (dtxt r) (dFrm r)), S.2) := by
              show (updD (updD S.1 e _) e _, S.2) = _
              rw [updD_twice]
            rw [e5] at R5
            exact ⟨R5.1, F03.trans R5.2⟩
      refine ⟨fun c => go 0 (Or.inl ⟨rfl, ?_⟩), fun c => go 1 (Or.inr ⟨rfl, x3.mp c⟩)⟩
      cases hq : hdr r with
      | false => rfl
      | true => exact absurd (x3.mpr hq) c
  · unfold sTak
    rw [hd]
    exact ⟨fun c => absurd rfl c, fun _ => ⟨rfl, MQr.same R0⟩⟩
end MU2
