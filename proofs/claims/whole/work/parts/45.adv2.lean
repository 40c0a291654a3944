/-! advance -/
def KJ (G : Gx) : Prop := ∀ i j, 4 ≤ i → i ≤ 7 → 4 ≤ j → j ≤ 7 → gK G i = gK G j → i = j
theorem Ct.kj {G : Gx} {l : Launch} {M : MM} {d w : Nat} {av : List Value} {h : Hp} {mc ms : Nat} {P : Option Value → Hp → Prop} (C : KJ G → Ct G l M d w av h mc ms P) : Ct G l M d w av h mc ms P := by
  intro p e ha hc hk s m args below hf happ hPc hK
  have kj : KJ G := by
    obtain ⟨A0, hw, hcl, hz⟩ := hPc.2.1
    exact hz.2.2.2.1
  exact C kj p e ha hc hk s m args below hf happ hPc hK
theorem Ci.kj {G : Gx} {l : Launch} {M : MM} {d w : Nat} {av : List Value} {h : Hp} {mc ms : Nat} {P : Int32 → Hp → Prop} (C : KJ G → Ci G l M d w av h mc ms P) : Ci G l M d w av h mc ms P := Ct.kj C
section AD
variable {G : Gx} {l : Launch} {d w : Nat} {own own' : Nat → Tg} {h h' : Hp} {D : Nat → Nat} {x u ml pl : Nat} {xs pk : List Nat} {S : SS}
theorem CS.now {n : Nat} (C : CS G own h D x S) : CS G own (pI h x 5 (nI n)) D x (S.1, S.2.1, S.2.2.1, S.2.2.2.1, n) ∧ FT own h (pI h x 5 (nI n)) T0 := by
  obtain ⟨u, ml, pl, C1, U, M, V⟩ := C.split
  have F : FT own h (pI h x 5 (nI n)) (fun t => t = (1, 0)) := t_pI C1.1.2.1 rfl
  have nb : NB own (fun t => t = (1, 0)) := ⟨by simp, fun a _ => by simp⟩
  obtain ⟨⟨c1, c2, c3⟩, ⟨dv, c4, c5, c6, c7⟩, c8, ⟨a, b, c10, c11, c12, c13⟩, c14, c15⟩ := C1
  exact ⟨CS.join ⟨⟨c1, c2, hI_pI_eq⟩, ⟨dv, c4, c5, c6, c7⟩, c8, ⟨a, b, c10, c11.keptT F c12 c13 (by simp) (by simp), c12, c13⟩, c14, c15⟩ (U.kept F Ey.rfl (by simp) (by simp) (by simp) (by simp) (by simp)) (M.kept F Ey.rfl.ex nb ⟨by simp, by simp⟩ ⟨by simp, by simp⟩ (by simp)) (fun j hj => (V j hj).kept F Ey.rfl.ex nb (by simp) (by simp) ⟨by simp, by simp⟩ ⟨by simp, by simp, by simp⟩ ⟨by simp, by simp, by simp⟩ (by simp) (by simp <;> omega)), F.mono (fun t z => by rw [z]; simp [T0])⟩
theorem c_SC_advance {y : Int32} (C : CS G own h D x S) (hw : WF S) (hnow : S.2.2.2.2 + 100000 ≤ 60000000) : Ci G l M_SC_advance (d + 9) (w + 206) [.ref x, .int y] h 72 11892 (fun r h' => r = (sAdv S y).2 ∧ CQ G D x own h (sAdv S y).1 h') := by
  refine Ci.kj (fun kj => ?_)
  refine ok_SC_advance ?_
  unfold wp_SC_advance wJ_SC_advance_10 sAdv
  refine ⟨fun c => ⟨by omega, by rw [if_pos (Or.inl c)]; exact ⟨rfl, CQ.same C⟩⟩, fun c => ⟨fun c2 => ⟨C.hs, ?_⟩, fun c2 => ⟨by omega, by rw [if_pos (Or.inr (Int32.not_le.mp c2))]; exact ⟨rfl, CQ.same C⟩⟩⟩⟩
  obtain ⟨b, hb, rfl⟩ := i_nat c
  have hb1 : b ≤ 100000 := (leL (by omega) (by decide)).mp c2
  rw [if_neg (by
    rintro (z | z)
    · exact c z
    · exact absurd z (Int32.not_lt.mpr c2)), nI_clamp (by omega), C.1.2.2, nI_add]
  rintro _ rfl
  generalize hU : S.2.2.2.2 + b = U
  have hmu0 : mu S.2.2.2.1 ≤ 72100 := by
    have h1 := mu_le (fun m hm => muM_le (hw.2.2.2.2.2.2.2.1 m hm))
    have h2 := hw.2.2.2.2.2.1
    omega
  have hp12 := hw.2.2.2.2.2.2.1
  unfold wL_SC_advance_24
  refine ⟨fun x3 x4 h' k n => ∃ S1 c i own1, CS G own1 h' D x S1 ∧ WF S1 ∧ S1.2.2.2.2 = S.2.2.2.2 ∧ x3 = nI c ∧ x4 = nI i ∧ i + mu S1.2.2.2.1 ≤ 72100 ∧ c + (pend S1.2.2.2.1).length ≤ 12 ∧ advL (100000 - i) S1 U c = advL 100000 S U 0 ∧ FT own h h' T0 ∧ Ey own own1 h ∧ k ≤ 6 * c ∧ n ≤ 991 * c, fun _ x4 _ _ _ => 100000 - x4.toNatClampNeg, ⟨S, 0, 0, own, C, hw, rfl, rfl, rfl, by omega, by omega, rfl, FT.rfl, Ey.rfl, Nat.le_refl _, Nat.le_refl _⟩, ?_⟩
  rintro _ _ h1 k n ⟨S1, c, i, own1, C1, W1, hn1, rfl, rfl, hmu, hpc, hadv, F1, E1, hk, hn⟩
  have mu' : 100000 - (nI i + 1).toNatClampNeg < 100000 - (nI i).toNatClampNeg := by
    rw [nI_1, nI_clamp (by omega), nI_clamp (by omega)]
    omega
  have hfu : 100000 - i = (100000 - (i + 1)) + 1 := by omega
  rw [hfu, advL_succ] at hadv
  unfold wB_SC_advance_24
  refine ⟨fun z => absurd ((Lle (by omega) (by decide)).mp z) (by show ¬ 1000000 ≤ i; omega), fun _ => ?_⟩
  obtain ⟨u, ml, pl, xs, X1⟩ := C1.cx
  -- the end
  have stop : advL 100000 S U 0 = (S1, c) → wJ_SC_advance_130 G l d w 72 11892 (fun r h' => r = ((((advL 100000 S U 0).1.1, (advL 100000 S U 0).1.2.1, (advL 100000 S U 0).1.2.2.1, (advL 100000 S U 0).1.2.2.2.1, U) : SS), nI (advL 100000 S U 0).2).2 ∧ CQ G D x own h ((((advL 100000 S U 0).1.1, (advL 100000 S U 0).1.2.1, (advL 100000 S U 0).1.2.2.1, (advL 100000 S U 0).1.2.2.2.1, U) : SS), nI (advL 100000 S U 0).2).1 h') x (nI b) (nI U) (nI c) (nI i) h1 k n := by
    intro e
    rw [e]
    have N := C1.now (n := U)
    exact ⟨C1.hs, by omega, rfl, own1, N.1, F1.trans N.2 E1, E1.ex⟩
  refine ⟨C1.hs, _, c_SC_earliestPlace X1 W1, by omega, ?_⟩
  rintro r _ ⟨rfl, hr⟩
  cases he : erl S1.2.2.2.1 with
  | none =>
    rw [he] at hr hadv
    dsimp only at hr hadv
    subst hr
    exact ⟨fun _ => stop hadv.symm, fun z => absurd (by decide) z⟩
  | some kk =>
    rw [he] at hr hadv
    obtain ⟨j, rfl, hj, hjk⟩ := hr
    dsimp only at hadv
    have hX1 := X1
    obtain ⟨Cc, Uu, ⟨A, B, ex, rr⟩, V⟩ := X1
    have hpm := erl_mem he
    have hkl := pend_lt hpm
    have hat := mat_at hkl
    have M := rr kk _ hat
    have W := W1.2.2.2.2.2.2.2.1 _ (List.mem_of_getElem? hat)
    have bd := W.bnd W1.2.2.2.2.2.2.2.2
    have hgd : ((pend S1.2.2.2.1).map (fun k => xs.getD k 0)).getD j 0 = xs.getD kk 0 := by
      have : (pend S1.2.2.2.1)[j] = kk := by
        rw [List.getElem?_eq_getElem hj] at hjk
        exact Option.some.inj hjk
      simp [List.getD_eq_getElem?_getD, hj, this]
    refine ⟨fun z => absurd z (nI_pos (by omega)), fun _ => ⟨C1.hs, pl, Cc.2.2.2.2.2, B.hs, _, c_LJ_get B (by rw [List.length_map]; exact hj), by omega, ?_⟩⟩
    rintro _ _ ⟨rfl, rfl⟩
    rw [hgd]
    refine ⟨_, rfl, M.1, _, c_Me_moment M (by omega) (by omega), by omega, ?_⟩
    rintro _ _ ⟨rfl, rfl⟩
    change (nI (mom (mat S1.2.2.2.1 kk)) ≤ nI U → _) ∧ (¬ nI (mom (mat S1.2.2.2.1 kk)) ≤ nI U → _)
    have hml : mom (mat S1.2.2.2.1 kk) ≤ 60000736 := by unfold mom; omega
    rw [nI_leI (by omega) (by omega)]
    refine ⟨fun cu => ?_, fun cu => ?_⟩
    · rw [if_pos cu] at hadv
      refine ⟨C1.hs, pl, Cc.2.2.2.2.2, B.hs, _, c_LJ_get B (by rw [List.length_map]; exact hj), by omega, ?_⟩
      rintro _ _ ⟨rfl, rfl⟩
      rw [hgd]
      refine ⟨_, rfl, M.1, _, c_Me_moment M (by omega) (by omega), by omega, ?_⟩
      rintro _ _ ⟨rfl, rfl⟩
      change _ ∧ _
      have hmc : (if mFate (mat (deal1 S1 kk).2.2.2.1 kk) = 0 then 0 else 3) ≤ 3 ∧ (if mFate (mat (deal1 S1 kk).2.2.2.1 kk) = 0 then 0 else 563) ≤ 563 := by split <;> omega
      have hroomA : c + 1 ≤ 12 := by
        have : 0 < (pend S1.2.2.2.1).length := by omega
        omega
      refine ⟨C1.hs, if mFate (mat (deal1 S1 kk).2.2.2.1 kk) = 0 then 0 else 3, if mFate (mat (deal1 S1 kk).2.2.2.1 kk) = 0 then 0 else 563, _, c_SC_dealWith hX1 W1 hkl (fun z => by rw [z]; decide), by omega, ?_⟩
      rintro h2 ⟨⟨own2, X2, F2, E2⟩, kf2⟩
      obtain ⟨dW, dN, dM, dP⟩ := deal_ok W1 hpm
      have hat2 : (deal1 S1 kk).2.2.2.1[kk]? = some (mat (deal1 S1 kk).2.2.2.1 kk) := by
        refine mat_at ?_
        have := X2.2.2.1.2.2.1
        rw [← this, ex]
        exact hkl
      have M2 := X2.2.2.1.2.2.2 kk _ hat2
      have hfl : (hR h2 (xs.getD kk 0) 8 = some (gK G 4)) ↔ mFate (mat (deal1 S1 kk).2.2.2.1 kk) = 0 := by
        have e8 : hR h2 (xs.getD kk 0) 8 = some (gK G (4 + mFate (mat (deal1 S1 kk).2.2.2.1 kk))) := M2.2.2.2.2.2.2.2.2.2.2.2.1
        have hf3 : mFate (mat (deal1 S1 kk).2.2.2.1 kk) ≤ 3 := M2.2.2.2.2.2.2.2.2.2.2.2.2
        rw [e8]
        constructor
        · intro z
          have := kj _ _ (by omega) (by omega) (by omega) (by omega) (Option.some.inj z)
          omega
        · intro z
          rw [z]
      have F12 : FT own h h2 T0 := F1.trans F2 E1
      have E12 : Ey own own2 h := E1.trans E2 F1.1
      unfold wJ_SC_advance_124
      rw [hfl]
      refine ⟨M2.1, fun cf => ?_, fun cf => ?_⟩
      · rintro _ rfl
        have ed : deal S1 kk = (deal1 S1 kk, 0) := by unfold deal; rw [if_pos cf]
        rw [ed] at hadv dW dN dM dP
        dsimp only at hadv dW dN dM dP
        -- the waiting ones are the same
        have hpe : pend (deal1 S1 kk).2.2.2.1 = pend S1.2.2.2.1 := by
          obtain ⟨dev', m', e, -⟩ := deal1_form W1 hpm
          rw [e] at cf ⊢
          have : mat (S1.2.2.2.1.set kk m') kk = m' := mat_set hkl
          exact pend_set0 hpm (by rw [← this]; exact cf)
        have C2 : CS G own2 h2 D x (deal1 S1 kk) := CX.cs (by rw [hpe]; exact X2)
        refine ⟨⟨deal1 S1 kk, c, i + 1, own2, C2, dW, dN.trans hn1, rfl, nI_1 i, by omega, by omega, hadv, F12, E12, ?_, ?_⟩, mu'⟩
        · rw [if_pos cf]; omega
        · rw [if_pos cf]; omega
      · have ed : deal S1 kk = (rep1 (deal1 S1 kk) kk (mom (mat S1.2.2.2.1 kk)), 1) := by unfold deal; rw [if_neg cf]
        rw [ed] at hadv dW dN dM dP
        dsimp only at hadv dW dN dM dP
        rw [if_neg cf, if_neg cf]
        obtain ⟨dev', m', e, d1, d2, d3, d4, d5⟩ := deal1_form W1 hpm
        have hmm : mat (deal1 S1 kk).2.2.2.1 kk = m' := by rw [e]; exact mat_set hkl
        rw [hmm] at cf M2
        have hpe : pend (deal1 S1 kk).2.2.2.1 = (pend S1.2.2.2.1).eraseIdx j := by
          rw [e]
          exact pend_erase hjk cf
        obtain ⟨Cc2, Uu2, ⟨A2, B2, ex2, rr2⟩, V2⟩ := X2
        have hB2 : ∀ y ∈ (pend S1.2.2.2.1).map (fun k => xs.getD k 0), ObjA G h2 y 3 := fun y hy => by
          obtain ⟨q, hq, rfl⟩ := List.mem_map.mp hy
          have hql : q < (deal1 S1 kk).2.2.2.1.length := by
            rw [← ex2, ex]
            exact pend_lt hq
          exact obj_msg (rr2 q _ (mat_at hql)).1
        refine ⟨Cc2.1.1, pl, Cc2.2.2.2.2.2, B2.hs, _, c_LJ_remove (j := j) B2 (by rw [List.length_map]; exact hj) hB2, by omega, ?_⟩
        rintro _ h3 ⟨⟨rfl, B3, F3⟩, kf3⟩
        have nb3 : NB own2 (t45 10) := ⟨by simp [t45], fun a _ => by simp [t45]⟩
        have Cc3 := Cc2.kept F3 Ey.rfl.ex (by simp [t45]) (by simp [t45]) (by simp [t45]) (by simp [t45])
        have Uu3 := Uu2.kept F3 Ey.rfl (by simp [t45]) (by simp [t45]) (by simp [t45]) (by simp [t45]) (by simp [t45])
        have A3 := A2.kept F3 Ey.rfl.ex (by simp [t45]) (by simp [t45])
        have rr3 : ∀ k m, (deal1 S1 kk).2.2.2.1[k]? = some m → MS G own2 h3 D k (xs.getD k 0) m := fun k m hk => (rr2 k m hk).kept F3 Ey.rfl.ex nb3 (by simp [t45])
        have V3 : ∀ q, q < 4 → DV G own2 h3 D q ((deal1 S1 kk).1 q) := fun q hq => (V2 q hq).kept F3 Ey.rfl.ex nb3 (by simp [t45]) (by simp [t45]) ⟨by simp [t45] <;> omega, by simp [t45] <;> omega⟩ ⟨by simp [t45] <;> omega, by simp [t45] <;> omega, by simp [t45] <;> omega⟩ ⟨by simp [t45] <;> omega, by simp [t45] <;> omega, by simp [t45] <;> omega⟩ (by simp [t45]) (by simp [t45] <;> omega)
        have X3 : CX G own2 h3 D x u ml pl xs (pend (deal1 S1 kk).2.2.2.1) (deal1 S1 kk) := by
          refine ⟨Cc3, Uu3, ⟨A3, ?_, ex2, rr3⟩, V3⟩
          rw [hpe, ← er_map]
          exact B3
        have M3 : MS G own2 h3 D kk (xs.getD kk 0) m' := by
          have := rr3 kk _ hat2
          rw [hmm] at this
          exact this
        have hO : mOrg m' < 4 := d3.2.2.2.1
        have bd' := d3.bnd (by have := W1.2.2.2.2.2.2.2.2; exact this)
        have hsl : 2 < (mSub m').length := by
          have := d3.1.2.1.1
          omega
        have hto := Lg_to d3.1
        refine ⟨M3.1, 3, 428, _, c_Me_fileReport (t := mom (mat S1.2.2.2.1 kk)) M3 (V3 _ hO) hsl hto.1 hto.2 (by omega) (by omega), by omega, ?_⟩
        rintro h4 ⟨⟨own4, V4, F4, E4⟩, kf4⟩
        have X4 := X3.dev (F4.mono (TD.of45 (Or.inr (Or.inl rfl)))) E4 hO V4
        have erep : setDev (deal1 S1 kk) (updD (deal1 S1 kk).1 (mOrg m') (setRep ((deal1 S1 kk).1 (mOrg m')) (repN m' (mom (mat S1.2.2.2.1 kk)) (dRep ((deal1 S1 kk).1 (mOrg m')))))) = rep1 (deal1 S1 kk) kk (mom (mat S1.2.2.2.1 kk)) := by
          unfold rep1
          rw [hmm]
        rw [erep] at X4
        have C4 : CS G own4 h4 D x (rep1 (deal1 S1 kk) kk (mom (mat S1.2.2.2.1 kk))) := CX.cs X4
        have F13 : FT own h h3 T0 := F12.trans (F3.mono (t45_mono (by simp [T0]) (by simp [T0]))) E12
        have F14 : FT own h h4 T0 := F13.trans (F4.mono (t45_mono (by simp [T0]) (by simp [T0]))) E12
        rintro _ rfl _ rfl
        exact ⟨⟨rep1 (deal1 S1 kk) kk (mom (mat S1.2.2.2.1 kk)), c + 1, i + 1, own4, C4, dW, dN.trans hn1, nI_1 c, nI_1 i, by omega, by omega, hadv, F14, E12.trans E4 F13.1, by omega, by omega⟩, mu'⟩
    · rw [if_neg cu] at hadv
      exact stop hadv.symm
end AD
