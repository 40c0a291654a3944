/-! a device reads -/
def setPil (v : SDv) (pil : List SPl) : SDv := (v.1, v.2.1, v.2.2.1, v.2.2.2.1, v.2.2.2.2.1, v.2.2.2.2.2.1, pil, v.2.2.2.2.2.2.2)
def setTxt (v : SDv) (t : List Int32) (s : Nat) : SDv := (v.1, v.2.1, v.2.2.1, v.2.2.2.1, v.2.2.2.2.1, v.2.2.2.2.2.1, v.2.2.2.2.2.2.1, t, s)
/-- a DELIVER's header, sender -/
def dHd (bs : List Nat) : Nat := 13 + (bt bs 1 + 1) / 2
def dFrm (bs : List Nat) : Nat := numN bs 3 (bt bs 1)
def gPc (v : SDv) (bs : List Nat) : List SPl × Nat := plc (dPil v) (dFrm bs) (bt bs (dHd bs + 3)) (bt bs (dHd bs + 4))
def gPl (v : SDv) (bs : List Nat) : SPl := (gPc v bs).1.getD (gPc v bs).2 (0, 0, [])
def gPs (v : SDv) (bs : List Nat) : List (Option (List Nat)) := keepP (gPl v bs).2.2 (bt bs (dHd bs + 5) - 1) bs
def gth (v : SDv) (bs : List Nat) : SDv × Int32 := if lack (gPs v bs) = 0 then (setTxt (setPil v ((gPc v bs).1.eraseIdx (gPc v bs).2)) (ptxt (gPs v bs)) (dFrm bs), nI (ptxt (gPs v bs)).length) else (setPil v ((gPc v bs).1.set (gPc v bs).2 ((gPl v bs).1, (gPl v bs).2.1, gPs v bs)), -1 - nI (lack (gPs v bs)))
def rdD (v : SDv) (bs : List Nat) : SDv × Int32 := if hdr bs = true then gth v bs else (setTxt v (dtxt bs) (dFrm bs), nI (dtxt bs).length)
/-- what is known of a DELIVER -/
def DK (bs : List Nat) : Prop := bs.length ≤ 160 ∧ bt bs 1 ≤ 12 ∧ 12 + (bt bs 1 + 1) / 2 < bs.length ∧ dFrm bs < 1000000000000 ∧ bt bs (12 + (bt bs 1 + 1) / 2) ≤ 160 ∧ (hdr bs = true → dHd bs + 6 < bs.length ∧ 1 ≤ bt bs (dHd bs + 4) ∧ bt bs (dHd bs + 4) ≤ 3 ∧ 1 ≤ bt bs (dHd bs + 5) ∧ bt bs (dHd bs + 5) ≤ bt bs (dHd bs + 4) ∧ bt bs (dHd bs + 3) < 256)
/-- what is known of a pile -/
def PK (pl : SPl) : Prop := pl.1 < 1000000000000 ∧ pl.2.1 < 256 ∧ pl.2.2.length ≤ 3 ∧ ∀ bs, some bs ∈ pl.2.2 → DK bs ∧ hdr bs = true
theorem dtxt_hdr {bs : List Nat} (K : DK bs) (hh : hdr bs = true) : (dtxt bs).length ≤ 153 := by
  unfold dtxt
  refine Nat.le_trans (txt_le _ _) ?_
  rw [seps_len]
  unfold tcount
  rw [if_pos hh]
  have := K.2.2.2.2.1
  omega
theorem dtxt_le {bs : List Nat} (K : DK bs) : (dtxt bs).length ≤ 160 := by
  unfold dtxt
  refine Nat.le_trans (txt_le _ _) ?_
  rw [seps_len]
  exact Nat.le_trans (tcount_le _ _) K.2.2.2.2.1
theorem ptxt_len (ps : List (Option (List Nat))) (h : ∀ bs, some bs ∈ ps → (dtxt bs).length ≤ 153) : (ptxt ps).length ≤ 153 * ps.length := by
  induction ps with
  | nil => simp [ptxt]
  | cons o ps ih =>
    have h1 := ih (fun bs hb => h bs (List.mem_cons_of_mem _ hb))
    cases o with
    | none =>
      have : ptxt (none :: ps) = ptxt ps := by simp [ptxt]
      rw [this]
      simp only [List.length_cons]
      omega
    | some bs =>
      have : ptxt (some bs :: ps) = dtxt bs ++ ptxt ps := by simp [ptxt]
      rw [this, List.length_append, List.length_cons]
      have := h bs List.mem_cons_self
      omega
def TP (dd : Nat) : Tg → Prop := fun t => t45 (11 + dd) t ∨ t = (14, dd) ∨ (100 ≤ t.1 ∧ t.2 = dd) ∨ t = (8, dd) ∨ t = (9, dd)
theorem TP.nb {own : Nat → Tg} {dd : Nat} : NB own (TP dd) := ⟨by simp [TP, t45], fun a _ => by simp [TP, t45]⟩
theorem er_map {α β : Type} (f : α → β) : ∀ (l : List α) (k : Nat), (l.map f).eraseIdx k = (l.eraseIdx k).map f
  | [], k => by simp
  | a :: l, 0 => by simp
  | a :: l, k + 1 => by simp [er_map f l k]
theorem nodup_inj {xs : List Nat} (h : xs.Nodup) {i j : Nat} (hi : i < xs.length) (hj : j < xs.length) (e : xs[i] = xs[j]) : i = j := by
  have p := List.pairwise_iff_getElem.mp h
  rcases Nat.lt_trichotomy i j with z | z | z
  · exact absurd e (p i j hi hj z)
  · exact z
  · exact absurd e.symm (p j i hj hi z)
section DE
variable {G : Gx} {l : Launch} {d w : Nat} {own own' : Nat → Tg} {h h' : Hp} {D : Nat → Nat}
theorem gPl_at {v : SDv} {bs : List Nat} : (gPc v bs).1[(gPc v bs).2]? = some (gPl v bs) ∧ (gPl v bs).1 = dFrm bs ∧ (gPl v bs).2.1 = bt bs (dHd bs + 3) ∧ (gPl v bs).2.2.length = bt bs (dHd bs + 4) := by
  obtain ⟨pl, h1, h2⟩ := plc_at (dPil v) (dFrm bs) (bt bs (dHd bs + 3)) (bt bs (dHd bs + 4))
  have : gPl v bs = pl := by
    unfold gPl gPc
    rw [List.getD_eq_getElem?_getD, h1]
    rfl
  rw [this]
  exact ⟨h1, h2⟩
theorem gPl_ok {v : SDv} {bs : List Nat} (K : DK bs) (hh : hdr bs = true) (hv : ∀ pl ∈ dPil v, PK pl) {pl : SPl} (hp : pl ∈ (gPc v bs).1) : PK pl := by
  rcases plc_mem hp with z | z
  · exact hv pl z
  · have := K.2.2.2.2.2 hh
    rw [z]
    refine ⟨K.2.2.2.1, this.2.2.2.2.2, by simpa using this.2.2.1, fun b hb => ?_⟩
    have := (List.mem_replicate.mp hb).2
    cases this
theorem gPs_ok {v : SDv} {bs : List Nat} (K : DK bs) (hh : hdr bs = true) (hv : ∀ pl ∈ dPil v, PK pl) : PK ((gPl v bs).1, (gPl v bs).2.1, gPs v bs) := by
  have k := gPl_ok K hh hv (List.mem_of_getElem? gPl_at.1)
  refine ⟨k.1, k.2.1, by unfold gPs; rw [keepP_len]; exact k.2.2.1, fun b hb => ?_⟩
  dsimp only at hb
  unfold gPs keepP at hb
  split at hb
  · rcases List.mem_or_eq_of_mem_set hb with z | z
    · exact k.2.2.2 b z
    · cases z
      exact ⟨K, hh⟩
  · exact k.2.2.2 b hb
theorem DV.pil {dd p : Nat} {v : SDv} {pil : List SPl} (V : DV G own h D dd v) (F : FT own h h' (fun t => t45 (11 + dd) t ∨ t = (14, dd) ∨ (100 ≤ t.1 ∧ t.2 = dd))) (E : Eo own own' h) (hr : hR h (D dd) 6 = some p) (P : PS G own' h' dd p pil) : DV G own' h' D dd (setPil v pil) := by
  obtain ⟨v1, v2, v3, v4, v5, v6, v7, v8, ⟨i, v9, v10⟩, ⟨r', v11, v12⟩, ⟨p', v13, v14⟩, t, v15, v16, v17, v18⟩ := V
  have s1 := F.kp v1 v2 (by simp [t45] <;> omega)
  have s2 := F.kp v16 v17 (by simp [t45] <;> omega)
  have nb : NB own (fun t => t45 (11 + dd) t ∨ t = (14, dd) ∨ (100 ≤ t.1 ∧ t.2 = dd)) := ⟨by simp [t45], fun a _ => by simp [t45]⟩
  exact ⟨by rw [s1.1]; exact v1, E.at v1 v2 (by simp), by rw [s1.2.2.1]; exact v3, by rw [s1.2.1]; exact v4, by rw [s1.2.1]; exact v5, by rw [s1.2.1]; exact v6, by rw [s1.2.1]; exact v7, by rw [s1.2.2.1]; exact v8, ⟨i, by rw [s1.2.2.2]; exact v9, v10.kept F E nb (by simp [t45] <;> omega) (by simp [t45] <;> omega) (by simp [t45] <;> omega)⟩, ⟨r', by rw [s1.2.2.2]; exact v11, v12.kept F E nb (by simp [t45] <;> omega) (by simp [t45] <;> omega) (by simp [t45] <;> omega)⟩, ⟨p, by rw [s1.2.2.2]; exact hr, P⟩, t, by rw [s1.2.2.2]; exact v15, by rw [s2.1]; exact v16, E.at v16 v17 (by simp), fun j hj => by rw [s2.2.1]; exact v18 j hj⟩
/-- the text is put together: what it leaves -/
theorem DV.txt {dd tx frm : Nat} {v : SDv} {t : List Int32} {h1 : Hp} (V : DV G own h D dd v) (htx : hR h (D dd) 7 = some tx) (W : Wr h h1 tx tx) (hT : hI h1 tx = putT (hI h tx) 0 t) : DV G own (pL (pI h1 (D dd) 8 (nI t.length)) (D dd) 9 (lN frm)) D dd (setTxt v t frm) ∧ FT own h (pL (pI h1 (D dd) 8 (nI t.length)) (D dd) 9 (lN frm)) (fun t => t = (8, dd) ∨ t = (9, dd)) := by
  obtain ⟨v1, v2, v3, v4, v5, v6, v7, v8, ⟨i, v9, v10⟩, ⟨r', v11, v12⟩, ⟨p', v13, v14⟩, t', v15, v16, v17, v18⟩ := V
  have ett : t' = tx := by rw [htx] at v15; cases v15; rfl
  subst ett
  have F : FT own h (pL (pI h1 (D dd) 8 (nI t.length)) (D dd) 9 (lN frm)) (fun t => t = (8, dd) ∨ t = (9, dd)) := ((t_Wr W (Or.inr v17) (Or.inr v17)).trans (t_pI v2 (Or.inl rfl)) Ey.rfl).trans (t_pL v2 (Or.inl rfl)) Ey.rfl
  have nt : t' ≠ D dd := fun z => by rw [z, v1] at v16; cases v16
  have nb : NB own (fun t => t = (8, dd) ∨ t = (9, dd)) := ⟨by simp, fun a _ => by simp⟩
  have hIx : ∀ j, j ≠ 8 → hI (pL (pI h1 (D dd) 8 (nI t.length)) (D dd) 9 (lN frm)) (D dd) j = hI h (D dd) j := fun j hj => by
    show hI (pI h1 (D dd) 8 (nI t.length)) (D dd) j = _
    rw [hI_pI_ne (fun z => hj z.2), W.2.2.2 _ (fun z => nt z.symm) (fun z => nt z.symm)]
  have hRx : hR (pL (pI h1 (D dd) 8 (nI t.length)) (D dd) 9 (lN frm)) (D dd) = hR h (D dd) := by
    show hR h1 (D dd) = _
    rw [W.2.2.1]
  refine ⟨⟨?_, v2, ?_, ?_, ?_, ?_, ?_, ?_, ⟨i, ?_, v10.kept F Ey.rfl.ex nb (by simp) (by simp) (by simp)⟩, ⟨r', ?_, v12.kept F Ey.rfl.ex nb (by simp) (by simp) (by simp)⟩, ⟨p', ?_, v14.kept F Ey.rfl.ex nb (by simp) (by simp) (by simp) (by simp <;> omega)⟩, t', ?_, ?_, v17, fun j hj => ?_⟩, F⟩
  · show hS h1 (D dd) = _
    rw [W.1]; exact v1
  · rw [hL_pL_ne (fun z => by omega)]
    show hL h1 _ _ = _
    rw [W.2.1]; exact v3
  · rw [hIx _ (by decide)]; exact v4
  · rw [hIx _ (by decide)]; exact v5
  · rw [hIx _ (by decide)]; exact v6
  · exact hI_pI_eq
  · exact hL_pL_eq
  · rw [hRx]; exact v9
  · rw [hRx]; exact v11
  · rw [hRx]; exact v13
  · rw [hRx]; exact v15
  · show hS h1 _ = _
    rw [W.1]; exact v16
  · show hI (pI h1 (D dd) 8 (nI t.length)) t' j = _
    have hj' : j < t.length := hj
    rw [hI_pI_ne (fun z => nt z.1), hT]
    unfold putT
    rw [if_pos ⟨Nat.zero_le _, by omega⟩, Nat.sub_zero]
    rfl
theorem c_De_gather {dd ra rb : Nat} {v : SDv} {bs : List Nat} (V : DV G own h D dd v) (R : Rz own h (ra, rb, bs)) (K : DK bs) (hh : hdr bs = true) (hl3 : (dPil v).length ≤ 3) (hv : ∀ pl ∈ dPil v, PK pl) : Ci G l M_De_gather (d + 8) (w + 187) [.ref (D dd), .ref ra, .long (lN (dFrm bs))] h 3 407 (fun x h' => (x = (gth v bs).2 ∧ ∃ own', DV G own' h' D dd (gth v bs).1 ∧ FT own h h' (TP dd) ∧ Ey own own' h) ∧ KF G h') := by
  refine Ci.kf (fun kf => ?_)
  have V0 := V
  have R0 := R
  obtain ⟨v1, v2, v3, v4, v5, v6, v7, v8, v9, v11, ⟨pa, v13, P⟩, tx, v15, v16, v17, v18⟩ := V
  obtain ⟨Rr, Ra, Rb⟩ := R
  dsimp only at Rr Ra Rb
  obtain ⟨k1, k2, k3, k4, k5, k6⟩ := K
  have K0 : DK bs := ⟨k1, k2, k3, k4, k5, k6⟩
  obtain ⟨q1, q2, q3, q4, q5, q6⟩ := k6 hh
  refine ok_De_gather ?_
  unfold wp_De_gather
  refine ⟨Rr.1, _, c_Ro_deliverDataAt Rr (by omega), by omega, ?_⟩
  rintro _ _ ⟨rfl, rfl⟩
  rw [nI_1]
  rintro _ rfl
  have ehd : 12 + (bt bs 1 + 1) / 2 + 1 = dHd bs := by unfold dHd; omega
  rw [ehd, show (3 : Int32) = nI 3 from rfl, show (4 : Int32) = nI 4 from rfl, show (5 : Int32) = nI 5 from rfl, nI_add, nI_add, nI_add]
  refine ⟨Rr.1, _, c_Ro_at' Rr (by omega), by omega, ?_⟩
  rintro _ _ ⟨rfl, rfl⟩
  refine ⟨Rr.1, _, c_Ro_at' Rr (by omega), by omega, ?_⟩
  rintro _ _ ⟨rfl, rfl⟩
  refine ⟨v1, 3, 407, _, c_De_pilePlace v1 v2 v13 P hl3 (fun pl hp => ?_) (by omega) (by omega) q3, by omega, ?_⟩
  · have := hv pl hp
    exact ⟨by have := this.1; omega, by have := this.2.1; omega, by have := this.2.2.1; omega⟩
  rintro _ h1 ⟨⟨rfl, own1, P1, F1, E1⟩, kf1⟩
  have V1 : DV G own1 h1 D dd (setPil v (gPc v bs).1) := V0.pil (F1.mono (fun t z => Or.inl z)) E1.ex v13 P1
  have R1 : Rz own1 h1 (ra, rb, bs) := R0.kept F1 E1.ex ⟨by simp [t45], fun a _ => by simp [t45]⟩
  have hat := gPl_at (v := v) (bs := bs)
  have hPs := gPs_ok K0 hh hv
  have hgok : ∀ pl ∈ (gPc v bs).1, PK pl := fun pl hp => gPl_ok K0 hh hv hp
  have hgle : (gPc v bs).1.length ≤ 3 := by
    have : (gPc v bs) = plc (dPil v) (dFrm bs) (bt bs (dHd bs + 3)) (bt bs (dHd bs + 4)) := rfl
    rw [this]
    cases c : (dPil v).findIdx? (mtch (dFrm bs) (bt bs (dHd bs + 3)) (bt bs (dHd bs + 4))) with
    | some k => rw [plc_some c]; exact hl3
    | none =>
      rw [plc_none c]
      simp only [List.length_append, List.length_singleton]
      unfold plB
      split
      · omega
      · rw [List.length_tail]; omega
  change DV G own1 h1 D dd (setPil v (gPc v bs).1) at V1
  change PS G own1 h1 dd pa (gPc v bs).1 at P1
  have sa1 := F1.kp v1 v2 (by simp [t45] <;> omega)
  have v1' : hS h1 (D dd) = some (14, 0) := by rw [sa1.1]; exact v1
  have v13' : hR h1 (D dd) 6 = some pa := by rw [sa1.2.2.2]; exact v13
  show _ ∧ _
  change (hS h1 (D dd) = some (14, 0)) ∧ _
  refine ⟨v1', pa, v13', ?_⟩
  generalize hgk : gPc v bs = gk at *
  obtain ⟨pls, k⟩ := gk
  have ekk : (plc (dPil v) (dFrm bs) (bt bs (dHd bs + 3)) (bt bs (dHd bs + 4))).2 = k := by
    have : gPc v bs = plc (dPil v) (dFrm bs) (bt bs (dHd bs + 3)) (bt bs (dHd bs + 4)) := rfl
    rw [← this, hgk]
  rw [ekk]
  dsimp only at hat hgok hgle V1 P1
  obtain ⟨ps, A1, e1, nd1, r1⟩ := P1
  obtain ⟨a1, a2, a3, a4⟩ := hat
  have hkl : k < pls.length := by
    rcases Nat.lt_or_ge k pls.length with z | z
    · exact z
    · rw [List.getElem?_eq_none z] at a1; cases a1
  have hpl : ps.length = pls.length := by rw [e1]; simp
  have hkp : k < ps.length := by omega
  refine ⟨A1.hs, _, c_LJ_get A1 (by rw [List.length_map]; exact hkp), by omega, ?_⟩
  rintro _ _ ⟨rfl, rfl⟩
  have hgd : (ps.map (fun p => p.1)).getD k 0 = ps[k].1 := by simp [List.getD_eq_getElem?_getD, hkp]
  have hp2 : ps[k].2 = gPl v bs := by
    have : pls[k]? = some ps[k].2 := by rw [e1]; simp [hkp]
    rw [a1] at this
    exact (Option.some.inj this).symm
  have Z := r1 ps[k] (List.getElem_mem hkp)
  rw [hgd]
  generalize hpa : ps[k].1 = pz at *
  rw [hp2] at Z
  have Rr1 : Rw h1 ra rb bs := R1.1
  refine ⟨_, rfl, Z.1, Rr1.1, _, c_Ro_at' Rr1 (by omega), by omega, ?_⟩
  rintro _ _ ⟨rfl, rfl⟩
  refine ⟨Z.1, _, c_Pi_keep Z q4 (by omega) (by omega) R1, by omega, ?_⟩
  rintro h2 ⟨Z2, F2⟩
  change PZ own1 h2 dd pz ((gPl v bs).1, (gPl v bs).2.1, gPs v bs) at Z2
  have F2t : FT own1 h1 h2 (fun t => t45 (11 + dd) t ∨ t = (14, dd) ∨ (100 ≤ t.1 ∧ t.2 = dd)) := F2.mono (fun x z => by
    rcases z with z | z
    · rw [z, Z.2.1]; exact Or.inr (Or.inl rfl)
    · rw [z]; exact Or.inr (Or.inr ⟨Nat.le_add_right _ _, rfl⟩))
  have nb : NB own1 (fun t => t45 (11 + dd) t ∨ t = (14, dd) ∨ (100 ≤ t.1 ∧ t.2 = dd)) := ⟨by simp [t45], fun a _ => by simp [t45]⟩
  have A2 : LJ G own1 h2 (11 + dd) pa (ps.map (fun p => p.1)) := by
    refine A1.kept (T := fun t => t = (14, dd) ∨ (100 ≤ t.1 ∧ t.2 = dd)) (F2.mono (fun x z => ?_)) Ey.rfl.ex (by simp) (by simp)
    rcases z with z | z
    · rw [z, Z.2.1]; exact Or.inl rfl
    · rw [z]; exact Or.inr ⟨Nat.le_add_right _ _, rfl⟩
  have r2 : ∀ j, ∀ hj : j < ps.length, j ≠ k → PZ own1 h2 dd ps[j].1 ps[j].2 := by
    intro j hj hjk
    have Zj := r1 ps[j] (List.getElem_mem hj)
    have hne : ps[j].1 ≠ pz := by
      intro z
      have h1' : (ps.map (fun p => p.1))[j]'(by rw [List.length_map]; exact hj) = (ps.map (fun p => p.1))[k]'(by rw [List.length_map]; exact hkp) := by
        rw [List.getElem_map, List.getElem_map, z, hpa]
      exact hjk (nodup_inj nd1 _ _ h1')
    refine Zj.kept2 (F2.2 _ (ne_none Zj.1) (fun z => ?_)) (fun q hq hqs => F2.2 q hqs (fun z => ?_)) (fun p rp => rp.kept F2t Ey.rfl.ex nb)
    · rcases z with z | z
      · exact hne z
      · rw [Zj.2.1] at z; have := (Prod.mk.inj z).1; omega
    · rcases z with z | z
      · rw [z, Z.2.1] at hq; have := (Prod.mk.inj hq).1; omega
      · rw [hq] at z
        have := (Prod.mk.inj z).1
        exact hne (by omega)
  refine ⟨Z2.1, _, c_Pi_lacking Z2, by omega, ?_⟩
  rintro _ _ ⟨rfl, rfl⟩
  have hlk := lack_le (gPs v bs)
  have hlen3 := hPs.2.2.1
  dsimp only at hlen3 ⊢
  have sa2 := F2t.kp v1' (E1.at v1 v2) (by simp [t45] <;> omega)
  have v1'' : hS h2 (D dd) = some (14, 0) := by rw [sa2.1]; exact v1'
  have v13'' : hR h2 (D dd) 6 = some pa := by rw [sa2.2.2.2]; exact v13'
  have F02 : FT own h h2 (TP dd) := (F1.mono (fun t z => Or.inl z)).trans (F2t.mono (fun t z => by
    rcases z with z | z | z
    · exact Or.inl z
    · exact Or.inr (Or.inl z)
    · exact Or.inr (Or.inr (Or.inl z)))) E1
  rw [leL (by omega) (by decide)]
  refine ⟨fun c => ?_, fun c => ?_⟩
  · have hz : lack (gPs v bs) = 0 := by omega
    refine ⟨v1'', pa, v13'', A2.hs, _, c_LJ_remove (j := k) A2 (by rw [List.length_map]; exact hkp) (fun x hx => ?_), by omega, ?_⟩
    · obtain ⟨p, hp', rfl⟩ := List.mem_map.mp hx
      refine obj_pile ?_
      have := (r1 p hp').1
      rw [F2t.1 _ (ne_none this)]
      exact this
    rintro _ h3 ⟨⟨rfl, A3, F3⟩, kf3⟩
    have sa3 := F3.kp v1'' (E1.at v1 v2) (by simp [t45] <;> omega)
    have v1s : hS h3 (D dd) = some (14, 0) := by rw [sa3.1]; exact v1''
    have nb3 : NB own1 (t45 (11 + dd)) := ⟨by simp [t45], fun a _ => by simp [t45]⟩
    have Z3 : PZ own1 h3 dd pz ((gPl v bs).1, (gPl v bs).2.1, gPs v bs) := Z2.kept F3 Ey.rfl.ex nb3 (by simp [t45] <;> omega) (by simp [t45] <;> omega)
    have v15' : hR h3 (D dd) 7 = some tx := by rw [sa3.2.2.2, sa2.2.2.2, sa1.2.2.2]; exact v15
    have o16 : own1 tx = (9, dd) := E1.at v16 v17
    have h16 : hS h3 tx = some (0, 480) := by
      have e1' : hS h1 tx = some (0, 480) := by rw [F1.1 _ (ne_none v16)]; exact v16
      have e2' : hS h2 tx = some (0, 480) := by rw [F2t.1 _ (ne_none e1')]; exact e1'
      rw [F3.1 _ (ne_none e2')]; exact e2'
    have hpl3 := ptxt_len (gPs v bs) (fun b hb => dtxt_hdr (hPs.2.2.2 b hb).1 (hPs.2.2.2 b hb).2)
    refine ⟨v1s, tx, v15', Z3.1, _, c_Pi_readText Z3 h16 o16 (fun o ho b hb => ?_) (by dsimp only; omega) (by dsimp only; omega), by omega, ?_⟩
    · rw [hb] at ho
      exact (hPs.2.2.2 b ho).1.2.2.1
    rintro _ h4 ⟨rfl, W4, T4⟩
    dsimp only at T4 ⊢
    have P3 : PS G own1 h3 dd pa (pls.eraseIdx k) := by
      refine ⟨ps.eraseIdx k, by rw [← er_map]; exact A3, by rw [e1, er_map], by rw [← er_map]; exact List.Nodup.sublist (List.eraseIdx_sublist _ _) nd1, fun p hp' => ?_⟩
      obtain ⟨j, hj, hjk, rfl⟩ : ∃ j, ∃ hj : j < ps.length, j ≠ k ∧ ps[j] = p := by
        obtain ⟨j, hj1, hj2⟩ := List.mem_eraseIdx_iff_getElem.mp hp'
        exact ⟨j, hj1, hj2.1, hj2.2⟩
      exact (r2 j hj hjk).kept F3 Ey.rfl.ex nb3 (by simp [t45] <;> omega) (by simp [t45] <;> omega)
    have V3 : DV G own1 h3 D dd (setPil v (pls.eraseIdx k)) := V1.pil (pil := pls.eraseIdx k) (F2t.trans (F3.mono (fun t z => Or.inl z)) Ey.rfl) Ey.rfl.ex v13' P3
    have V4 := V3.txt (frm := dFrm bs) v15' W4 T4
    refine ⟨by rw [W4.1]; exact v1s, by omega, ?_⟩
    rw [hI_pI_eq]
    unfold gth
    rw [if_pos hz, hgk]
    refine ⟨rfl, own1, V4.1, ?_, E1⟩
    refine (F02.trans (F3.mono (fun t z => Or.inl z)) E1).trans (V4.2.mono (fun t z => ?_)) E1
    rcases z with z | z
    · exact Or.inr (Or.inr (Or.inr (Or.inl z)))
    · exact Or.inr (Or.inr (Or.inr (Or.inr z)))
  · refine ⟨Z2.1, _, c_Pi_lacking Z2, by omega, ?_⟩
    rintro _ _ ⟨rfl, rfl⟩
    refine ⟨by omega, ?_⟩
    unfold gth
    rw [if_neg (by omega), hgk]
    refine ⟨rfl, own1, ?_, F02, E1⟩
    refine V1.pil (pil := pls.set k ((gPl v bs).1, (gPl v bs).2.1, gPs v bs)) F2t Ey.rfl.ex v13' ?_
    refine ⟨ps.set k (pz, ((gPl v bs).1, (gPl v bs).2.1, gPs v bs)), ?_, by rw [e1, List.map_set], ?_, fun p hp' => ?_⟩
    · rw [List.map_set, ← hpa]
      have : (ps.map (fun p => p.1)).set k ps[k].1 = ps.map (fun p => p.1) := by
        have h1' : (ps.map (fun p => p.1))[k]'(by rw [List.length_map]; exact hkp) = ps[k].1 := List.getElem_map _
        rw [← h1']
        exact List.set_getElem_self _
      rw [this]
      exact A2
    · rw [List.map_set, ← hpa]
      have : (ps.map (fun p => p.1)).set k ps[k].1 = ps.map (fun p => p.1) := by
        have h1' : (ps.map (fun p => p.1))[k]'(by rw [List.length_map]; exact hkp) = ps[k].1 := List.getElem_map _
        rw [← h1']
        exact List.set_getElem_self _
      rw [this]
      exact nd1
    · obtain ⟨j, hj, rfl⟩ := List.mem_iff_getElem.mp hp'
      rw [List.length_set] at hj
      by_cases z : j = k
      · subst z
        rw [List.getElem_set_self]
        exact Z2
      · rw [List.getElem_set_ne (fun y => z y.symm)]
        exact r2 j hj z
end DE
