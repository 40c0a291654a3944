/-! send, whole -/
theorem pcL_ge (p u : Nat) (fs : List Nat) : p ≤ pcL p u fs := by
  induction fs generalizing p u with
  | nil => exact Nat.le_refl _
  | cons f fs ih =>
    rw [pcL_cons]
    split
    · exact ih _ _
    · exact Nat.le_trans (Nat.le_succ _) (ih _ _)
theorem pcL_one (p u : Nat) (fs : List Nat) (hu : u ≤ 153) (h : pcL p u fs = p) : u + sumS fs ≤ 153 := by
  induction fs generalizing u with
  | nil => simp [sumS]; exact hu
  | cons f fs ih =>
    rw [pcL_cons] at h
    rw [sumS_cons]
    split at h
    · rename_i c
      have := ih (u + sl f) c h
      omega
    · have := pcL_ge (p + 1) (sl f) fs
      omega
theorem pcN_pos (gs : List Nat) : 1 ≤ pcN gs := by
  unfold pcN
  split
  · exact Nat.le_refl _
  · exact pcL_ge _ _ _
theorem pcN_one {gs : List Nat} (h : pcN gs = 1) : sumS gs ≤ 160 := by
  unfold pcN at h
  split at h
  · assumption
  · have := pcL_one 1 0 gs (by omega) h
    omega
theorem sumS_drop (gs : List Nat) (k : Nat) : sumS (gs.drop k) ≤ sumS gs := by
  have : sumS gs = sumS (gs.take k) + sumS (gs.drop k) := by rw [← sumS_app, List.take_append_drop]
  omega
theorem sumS_take (gs : List Nat) (k : Nat) : sumS (gs.take k) ≤ sumS gs := by
  have : sumS gs = sumS (gs.take k) + sumS (gs.drop k) := by rw [← sumS_app, List.take_append_drop]
  omega
def sSend (S : SS) (y : Int32) (to : Int64) (v : Int32) (rep : Bool) : SS × Int32 := match devOf y with
  | none => (S, -1)
  | some k => if ¬ (1 ≤ to ∧ to ≤ 999999999999) ∨ v < 0 ∨ 143 < v ∨ dNum (S.1 k) = 0 then (S, -1) else if none ∈ S.2.2.1.map fm then (S, -4) else if 3 < pcN (S.2.2.1.filterMap fm) then (S, -5) else if 8 < S.2.1.length + pcN (S.2.2.1.filterMap fm) then (S, -3) else (sndS S k (lNat to) v.toNatClampNeg rep (S.2.2.1.filterMap fm), nI (pcN (S.2.2.1.filterMap fm)))
theorem fm_gs {cs : List Nat} (h : ¬ none ∈ cs.map fm) : cs.map fm = (cs.filterMap fm).map some := by
  induction cs with
  | nil => rfl
  | cons c cs ih =>
    rw [List.map_cons, List.mem_cons] at h
    cases hc : fm c with
    | none => exact absurd (Or.inl hc.symm) h
    | some f =>
      rw [List.map_cons, List.filterMap_cons, hc, ih (fun z => h (Or.inr z))]
      rfl
section SV
variable {G : Gx} {l : Launch} {d w : Nat} {own own' : Nat → Tg} {h h' : Hp} {D : Nat → Nat} {x : Nat} {S : SS}
theorem DV.refs {k r : Nat} {v : SDv} (V : DV G own h D k v) : DV G own (pI h (D k) 4 (nI r)) D k (setRef v r) ∧ FT own h (pI h (D k) 4 (nI r)) (fun t => t = (8, k)) := by
  have F : FT own h (pI h (D k) 4 (nI r)) (fun t => t = (8, k)) := t_pI V.2.1 rfl
  obtain ⟨v1, v2, v3, v4, v5, v6, v7, v8, ⟨i, v9, v10⟩, ⟨r', v11, v12⟩, ⟨p, v13, v14⟩, t, v15, v16, v17, v18⟩ := V
  have nb : NB own (fun t => t = (8, k)) := ⟨by simp, fun a _ => by simp⟩
  have nt : t ≠ D k := fun z => by rw [z, v1] at v16; cases v16
  exact ⟨⟨v1, v2, v3, by rw [hI_pI_ne (by omega)]; exact v4, hI_pI_eq, by rw [hI_pI_ne (by omega)]; exact v6, by rw [hI_pI_ne (by omega)]; exact v7, v8, ⟨i, v9, v10.kept F Ey.rfl.ex nb (by simp) (by simp) (by simp)⟩, ⟨r', v11, v12.kept F Ey.rfl.ex nb (by simp) (by simp) (by simp)⟩, ⟨p, v13, v14.kept F Ey.rfl.ex nb (by simp) (by simp) (by simp) (by simp <;> omega)⟩, t, v15, v16, v17, fun j hj => by rw [hI_pI_ne (fun z => nt z.1)]; exact v18 j hj⟩, F⟩
theorem c_SC_sendUp {k to val : Nat} {rep : Bool} {gs : List Nat} (C : CS G own h D x S) (hmn : dMn (S.1 k) < 256) (hrf : dRef (S.1 k) < 256) (hk : k < 4) (t1 : 1 ≤ to) (t2 : to < 1000000000000) (hv : val < 256) (hg : S.2.2.1.map fm = gs.map some) (hP : pcN gs ≤ 3) (hfit : S.2.1.length + pcN gs ≤ 8) : Cv G l M_SC_sendUp (d + 8) (w + 183) [.ref x, .ref (D k), .long (lN to), .int (nI val), .int (nI (kndS rep (pcN gs))), .int (nI (pcN gs))] h 9 1671 (fun h' => CQ G D x own h (sndS S k to val rep gs) h') := by
  have hN1 := pcN_pos gs
  have hsum : pcN gs = 1 → sumS gs ≤ 160 := pcN_one
  have hall : allR S k to val rep gs = sndR rep (dMn (S.1 k)) (dRef (S.1 k)) to val (pcN gs) 1 (segP (pcN gs) (pcN gs) gs) := rfl
  have hsnd : sndS S k to val rep gs = (updD S.1 k (setRef (setMn (S.1 k) ((dMn (S.1 k) + pcN gs) % 256)) (if pcN gs = 1 then dRef (S.1 k) else (dRef (S.1 k) + 1) % 256)), S.2.1 ++ (allR S k to val rep gs).map (fun r => (k, r)), S.2.2) := rfl
  generalize allR S k to val rep gs = rows at hall hsnd
  rw [hsnd]
  clear hsnd
  generalize pcN gs = N at *
  have hkd : kndS rep N < 256 := by
    unfold kndS
    split <;> split <;> omega
  refine ok_SC_sendUp ?_
  unfold wp_SC_sendUp wL_SC_sendUp_6
  have hlg : gs.length ≤ 480 := by
    obtain ⟨u, ml, pl, C1, -⟩ := C.split
    obtain ⟨-, -, -, ⟨a, b, -, c11, -⟩, -⟩ := C1
    have := c11.2.2.2.2.1
    rw [hg] at this
    simpa using this
  refine ⟨fun x7 x8 h' c n => ∃ i f own' done, 1 ≤ i ∧ i ≤ N + 1 ∧ x8 = nI i ∧ x7 = nI f ∧ f ≤ gs.length ∧ done ++ sndR rep (dMn (S.1 k)) (dRef (S.1 k)) to val N i (segP N (N + 1 - i) (gs.drop f)) = rows ∧ done.length = i - 1 ∧ CS G own' h' D x (updD S.1 k (setMn (S.1 k) ((dMn (S.1 k) + (i - 1)) % 256)), S.2.1 ++ done.map (fun r => (k, r)), S.2.2) ∧ FT own h h' T0 ∧ Ey own own' h ∧ c ≤ 3 * (i - 1) ∧ n ≤ 557 * (i - 1), fun _ x8 _ _ _ => 10 - x8.toNatClampNeg, ⟨1, 0, own, [], Nat.le_refl _, by omega, rfl, rfl, Nat.zero_le _, ?_, rfl, ?_, FT.rfl, Ey.rfl, Nat.le_refl _, Nat.le_refl _⟩, ?_⟩
  · rw [hall, show N + 1 - 1 = N from rfl]
    rfl
  · rw [show (1 : Nat) - 1 = 0 from rfl, Nat.add_zero, Nat.mod_eq_of_lt hmn, List.map_nil, List.append_nil]
    have : setMn (S.1 k) (dMn (S.1 k)) = S.1 k := rfl
    rw [this, updD_self]
    exact C
  rintro _ _ h1 c n ⟨i, f, own1, done, hi1, hi2, rfl, rfl, hf, hrows, hdl, C1, F1, E1, hc, hn⟩
  have V1 : DV G own1 h1 D k (setMn (S.1 k) ((dMn (S.1 k) + (i - 1)) % 256)) := by
    have := C1.dvv hk
    dsimp only at this
    rw [updD_eq] at this
    exact this
  unfold wB_SC_sendUp_6 wJ_SC_sendUp_164
  rw [nI_ltI (by omega) (by omega), leL (by omega) (by decide), eqL (by omega) (by decide)]
  refine ⟨fun ci => ?_, fun ci => ?_⟩
  · have hiN : i = N + 1 := by omega
    subst hiN
    rw [Nat.sub_self] at hrows
    have hd : done = rows := by rw [← hrows]; simp [segP, sndR]
    rw [hd, Nat.add_sub_cancel] at C1
    rw [Nat.add_sub_cancel] at V1
    refine ⟨fun c1 => ⟨by omega, own1, ?_, F1, E1.ex⟩, fun c1 => ⟨V1.1, _, ok_De_countReference (P := fun h' => h' = pI h1 (D k) 4 (nI ((dRef (S.1 k) + 1) % 256))) ⟨V1.1, ?_⟩, by omega, ?_⟩⟩
    · have hN : N = 1 := by omega
      rw [if_pos hN]
      exact C1
    · have := V1.2.2.2.2.1
      rw [this]
      show pI h1 (D k) 4 ((nI (dRef (S.1 k)) + 1) - (nI (dRef (S.1 k)) + 1) / 256 * 256) = _
      rw [nI_1, show (256 : Int32) = nI 256 from rfl, pk_rem (by omega) (by decide) (by decide)]
    · rintro _ rfl
      refine ⟨by omega, ?_⟩
      rw [if_neg (by omega)]
      have V2 := V1.refs (r := (dRef (S.1 k) + 1) % 256)
      have := CR.dv C1 (V2.2.mono (fun t z => Or.inl z)) Ey.rfl hk V2.1
      rw [updD_twice] at this
      exact ⟨own1, this, F1.trans (V2.2.mono (fun t z => by rw [z]; simp [T0])) E1, E1.ex⟩
  · have hend := endP_le N (gs.drop f)
    rw [List.length_drop] at hend
    have hseg : N + 1 - i = (N - i) + 1 := by omega
    rw [hseg, segP_succ, sndR_cons] at hrows
    have hsl : sumS ((gs.drop f).take (endP N (gs.drop f))) + (if N = 1 then 0 else 7) ≤ 160 := by
      by_cases z : N = 1
      · rw [if_pos z]
        have a1 := sumS_take (gs.drop f) (endP N (gs.drop f))
        have a2 := sumS_drop gs f
        have a3 := hsum z
        omega
      · rw [if_neg z]
        have := peL_sum 0 (gs.drop f) (by omega)
        unfold endP
        rw [if_neg z]
        omega
    obtain ⟨u, ml, pl, Cc, -⟩ := id C1.split
    obtain ⟨⟨c1, -, -⟩, -, -, ⟨da, db, c10, c11, -, -⟩, -, -⟩ := Cc
    dsimp only at c11
    rw [hg] at c11
    have hgl := gs_lt hg
    have mid : wJ_SC_sendUp_38 G l d w 9 1671 (fun h' => CQ G D x own h (updD S.1 k (setRef (setMn (S.1 k) ((dMn (S.1 k) + N) % 256)) (if N = 1 then dRef (S.1 k) else (dRef (S.1 k) + 1) % 256)), S.2.1 ++ rows.map (fun r => (k, r)), S.2.2) h') (fun x7_ x8_ h_ k_ n_ => (∃ i f own' done, 1 ≤ i ∧ i ≤ N + 1 ∧ x8_ = nI i ∧ x7_ = nI f ∧ f ≤ gs.length ∧ done ++ sndR rep (dMn (S.1 k)) (dRef (S.1 k)) to val N i (segP N (N + 1 - i) (gs.drop f)) = rows ∧ done.length = i - 1 ∧ CS G own' h_ D x (updD S.1 k (setMn (S.1 k) ((dMn (S.1 k) + (i - 1)) % 256)), S.2.1 ++ done.map (fun r => (k, r)), S.2.2) ∧ FT own h h_ T0 ∧ Ey own own' h ∧ k_ ≤ 3 * (i - 1) ∧ n_ ≤ 557 * (i - 1)) ∧ 10 - x8_.toNatClampNeg < 10 - (nI i).toNatClampNeg) x (D k) (lN to) (nI val) (nI (kndS rep N)) (nI N) (nI f) (nI i) (nI (f + endP N (gs.drop f))) h1 c n := by
      unfold wJ_SC_sendUp_38
      refine ⟨c1, da, c10, c11.1, _, c_Dr_septets c11 hgl (i := f) (j := f + endP N (gs.drop f)) (by omega) (by omega), by omega, ?_⟩
      rintro _ _ ⟨rfl, rfl⟩
      have esub : f + endP N (gs.drop f) - f = endP N (gs.drop f) := by omega
      have hrow : ∀ sx0 sx1 : Int32, sx1 + sx0 = nI (sumS ((gs.drop f).take (f + endP N (gs.drop f) - f)) + (if N = 1 then 0 else 7)) → wJ_SC_sendUp_63 G l d w 9 1671 (fun h' => CQ G D x own h (updD S.1 k (setRef (setMn (S.1 k) ((dMn (S.1 k) + N) % 256)) (if N = 1 then dRef (S.1 k) else (dRef (S.1 k) + 1) % 256)), S.2.1 ++ rows.map (fun r => (k, r)), S.2.2) h') (fun x7_ x8_ h_ k_ n_ => (∃ i f own' done, 1 ≤ i ∧ i ≤ N + 1 ∧ x8_ = nI i ∧ x7_ = nI f ∧ f ≤ gs.length ∧ done ++ sndR rep (dMn (S.1 k)) (dRef (S.1 k)) to val N i (segP N (N + 1 - i) (gs.drop f)) = rows ∧ done.length = i - 1 ∧ CS G own' h_ D x (updD S.1 k (setMn (S.1 k) ((dMn (S.1 k) + (i - 1)) % 256)), S.2.1 ++ done.map (fun r => (k, r)), S.2.2) ∧ FT own h h_ T0 ∧ Ey own own' h ∧ k_ ≤ 3 * (i - 1) ∧ n_ ≤ 557 * (i - 1)) ∧ 10 - x8_.toNatClampNeg < 10 - (nI i).toNatClampNeg) x (D k) (lN to) (nI val) (nI (kndS rep N)) (nI N) (nI f) (nI i) (nI (f + endP N (gs.drop f))) sx0 sx1 h1 c n := by
        intro sx0 sx1 hsx
        refine sendUp_row (gs := gs) (k := k) (S := (updD S.1 k (setMn (S.1 k) ((dMn (S.1 k) + (i - 1)) % 256)), S.2.1 ++ done.map (fun r => (k, r)), S.2.2)) C1 ?_ ?_ hk t1 t2 hv hkd hg (by omega) (by omega) hN1 hP (by omega) ?_ rfl (by rw [esub]; exact hsl) (by omega) (by omega) hsx ?_
        · dsimp only
          rw [updD_eq]
          exact Nat.mod_lt _ (by decide)
        · dsimp only
          rw [updD_eq]
          exact hrf
        · dsimp only
          rw [List.length_append, List.length_map]
          omega
        · intro own2 h2 c2 n2 C2 F2 E2 hc2 hn2 y hy
          subst hy
          refine ⟨⟨i + 1, f + endP N (gs.drop f), own2, done ++ [rowS rep (dMn (S.1 k)) (dRef (S.1 k)) to val N i ((gs.drop f).take (endP N (gs.drop f)))], by omega, by omega, nI_1 i, rfl, by omega, ?_, ?_, ?_, F1.trans F2 E1, E1.trans E2 F1.1, by omega, by omega⟩, ?_⟩
          · rw [List.append_assoc, List.singleton_append, show N + 1 - (i + 1) = N - i by omega, ← List.drop_drop]
            exact hrows
          · rw [List.length_append, List.length_singleton]
            omega
          · dsimp only at C2
            rw [updD_eq, updD_twice, esub] at C2
            have e1 : ((dMn (S.1 k) + (i - 1)) % 256 + 1) % 256 = (dMn (S.1 k) + (i + 1 - 1)) % 256 := by omega
            have e2 : dMn (setMn (S.1 k) ((dMn (S.1 k) + (i - 1)) % 256)) = (dMn (S.1 k) + (i - 1)) % 256 := rfl
            have e3 : dRef (setMn (S.1 k) ((dMn (S.1 k) + (i - 1)) % 256)) = dRef (S.1 k) := rfl
            have e4 : ∀ n, setMn (setMn (S.1 k) ((dMn (S.1 k) + (i - 1)) % 256)) n = setMn (S.1 k) n := fun n => rfl
            rw [e2, e3, e4, e1, List.append_assoc] at C2
            rw [List.map_append]
            exact C2
          · rw [nI_1, nI_clamp (by omega), nI_clamp (by omega)]
            omega
      rw [eqL (by omega) (by decide)]
      refine ⟨fun z => hrow 7 _ ?_, fun z => hrow 0 _ ?_⟩
      · rw [if_neg z, show (7 : Int32) = nI 7 from rfl, nI_add]
      · rw [if_pos z, show (0 : Int32) = nI 0 from rfl, nI_add]
    refine ⟨fun z => ⟨c1, da, c10, c11.1, _, c_Dr_partEnd c11 hgl (i := f) hf, by omega, ?_⟩, fun z => ⟨c1, da, c10, c11.1, ?_⟩⟩
    · rintro _ _ ⟨rfl, rfl⟩
      have : peL 0 (gs.drop f) = endP N (gs.drop f) := by unfold endP; rw [if_neg z]
      rw [this]
      exact mid
    · have : hI h1 da 1 = nI (f + endP N (gs.drop f)) := by
        rw [(c11.len).1]
        unfold endP
        rw [if_pos z, List.length_drop]
        congr 1
        omega
      rw [this]
      exact mid
end SV
