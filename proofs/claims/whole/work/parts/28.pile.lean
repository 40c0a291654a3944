/-! piles -/
theorem cmp_eq {x y : Int64} : lg_cmp x y = 0 ↔ x = y := by
  unfold lg_cmp
  by_cases c : x > y
  · rw [if_pos c]
    exact ⟨fun z => absurd z (by decide), fun z => by rw [z] at c; exact absurd c (Int64.lt_irrefl)⟩
  · rw [if_neg c]
    by_cases e : x = y
    · rw [if_pos e]
      exact ⟨fun _ => e, fun _ => rfl⟩
    · rw [if_neg e]
      exact ⟨fun z => absurd z (by decide), fun z => absurd z e⟩
theorem cmp_gt {x y : Int64} : 0 < lg_cmp x y ↔ y < x := by
  unfold lg_cmp
  by_cases c : x > y
  · rw [if_pos c]
    exact ⟨fun _ => c, fun _ => by decide⟩
  · rw [if_neg c]
    by_cases e : x = y
    · rw [if_pos e]
      exact ⟨fun z => absurd z (by decide), fun z => absurd z c⟩
    · rw [if_neg e]
      exact ⟨fun z => absurd z (by decide), fun z => absurd z c⟩
theorem cmp_lt {x y : Int64} : lg_cmp x y < 0 ↔ x < y := by
  unfold lg_cmp
  by_cases c : x > y
  · rw [if_pos c]
    refine ⟨fun z => absurd z (by decide), fun z => ?_⟩
    have h1 := Int64.lt_iff_toInt_lt.mp z
    have h2 := Int64.lt_iff_toInt_lt.mp c
    omega
  · rw [if_neg c]
    by_cases e : x = y
    · rw [if_pos e]
      exact ⟨fun z => absurd z (by decide), fun z => by rw [e] at z; exact absurd z (Int64.lt_irrefl)⟩
    · rw [if_neg e]
      refine ⟨fun _ => ?_, fun _ => by decide⟩
      rw [Int64.lt_iff_toInt_lt]
      have h2 : ¬ y.toInt < x.toInt := fun z => c (Int64.lt_iff_toInt_lt.mpr z)
      have h3 : x.toInt ≠ y.toInt := fun z => e (Int64.toInt_inj.mp z)
      omega
def ptxt (ps : List (Option (List Nat))) : List Int32 := ps.flatMap (fun o => match o with
  | some bs => dtxt bs
  | none => [])
def keepP (ps : List (Option (List Nat))) (k : Nat) (bs : List Nat) : List (Option (List Nat)) := if ps[k]? = some none then ps.set k (some bs) else ps
theorem putT_putT (f : Nat → Int32) (s t : List Int32) : putT (putT f 0 s) s.length t = putT f 0 (s ++ t) := by
  funext j
  unfold putT
  by_cases c : s.length ≤ j ∧ j < s.length + t.length
  · rw [if_pos c, if_pos ⟨Nat.zero_le _, by rw [List.length_append]; omega⟩]
    simp only [List.getD_eq_getElem?_getD, Nat.sub_zero]
    rw [List.getElem?_append_right c.1]
  · rw [if_neg c]
    by_cases c2 : 0 ≤ j ∧ j < 0 + s.length
    · rw [if_pos c2, if_pos ⟨Nat.zero_le _, by rw [List.length_append]; omega⟩]
      simp only [List.getD_eq_getElem?_getD, Nat.sub_zero]
      rw [List.getElem?_append_left (by omega)]
    · rw [if_neg c2, if_neg (by rw [List.length_append]; omega)]
theorem lack_set {ps : List (Option (List Nat))} {k : Nat} {bs : List Nat} (h : ps[k]? = some none) : lack (ps.set k (some bs)) + 1 = lack ps := by
  induction ps generalizing k with
  | nil => simp at h
  | cons p ps ih =>
    cases k with
    | zero =>
      simp at h
      subst h
      simp [lack]
    | succ k =>
      simp at h
      have := ih h
      simp only [List.set_cons_succ, lack, List.countP_cons] at this ⊢
      omega
theorem lack_le (ps : List (Option (List Nat))) : lack ps ≤ ps.length := List.countP_le_length
theorem keepP_len (ps : List (Option (List Nat))) (k : Nat) (bs : List Nat) : (keepP ps k bs).length = ps.length := by unfold keepP; split <;> simp
section PI
variable {G : Gx} {l : Launch} {d w : Nat} {own own' : Nat → Tg} {h h' : Hp} {D : Nat → Nat}
theorem PZ.kept2 {dd a : Nat} {pl : SPl} (P : PZ own h dd a pl) (s1 : Same h h' a) (s2 : ∀ q, own q = (100 + a, dd) → hS h q ≠ none → Same h h' q) (sr : ∀ p, Rz own h p → Rz own h' p) : PZ own h' dd a pl := by
  obtain ⟨p1, p2, p3, p4, p5, q, p6, p7, p8, p9⟩ := P
  have s3 := s2 q p8 (ne_none p7)
  refine ⟨by rw [s1.1]; exact p1, p2, by rw [s1.2.2.1]; exact p3, by rw [s1.2.1]; exact p4, by rw [s1.2.1]; exact p5, q, by rw [s1.2.2.2]; exact p6, by rw [s3.1]; exact p7, p8, fun k o ho => ⟨fun z => by rw [s3.2.2.2]; exact (p9 k o ho).1 z, fun bs hb => ?_⟩⟩
  obtain ⟨ra, rb, z1, z2⟩ := (p9 k o ho).2 bs hb
  exact ⟨ra, rb, by rw [s3.2.2.2]; exact z1, sr _ z2⟩
theorem c_Pi_gathers {dd a frm ref n : Nat} {pl : SPl} (P : PZ own h dd a pl) (b1 : pl.1 < 9223372036854775808) (b2 : frm < 9223372036854775808) (b3 : pl.2.1 < 2147483648) (b4 : ref < 2147483648) (b5 : pl.2.2.length < 2147483648) (b6 : n < 2147483648) : Ci G l M_Pi_gathers (d + 0) (w + 0) [.ref a, .long (lN frm), .int (nI ref), .int (nI n)] h 0 0 (Xb (pl.1 = frm ∧ pl.2.1 = ref ∧ pl.2.2.length = n) h) := by
  obtain ⟨p1, p2, p3, p4, p5, q, p6, p7, p8, p9⟩ := P
  refine ok_Pi_gathers ?_
  unfold wp_Pi_gathers wJ_Pi_gathers_31 wJ_Pi_gathers_32
  rw [p3, p4, cmp_eq, pk_lEQ b1 b2, nI_eq b3 b4]
  refine ⟨p1, fun c => ⟨Or.inl rfl, Xb.n (fun z => c z.1)⟩, fun c1 => ⟨fun c => ⟨Or.inl rfl, Xb.n (fun z => c z.2.1)⟩, fun c2 => ⟨q, p6, _, p7, ?_⟩⟩⟩
  rw [nI_eq b5 b6]
  exact ⟨fun c => ⟨Or.inl rfl, Xb.n (fun z => c z.2.2)⟩, fun c3 => ⟨Or.inr rfl, Xb.y ⟨c1, c2, c3⟩⟩⟩
theorem c_Pi_lacking {dd a : Nat} {pl : SPl} (P : PZ own h dd a pl) : Ci G l M_Pi_lacking (d + 0) (w + 0) [.ref a] h 0 0 (Xi (nI (lack pl.2.2)) h) := ok_Pi_lacking ⟨P.1, P.2.2.2.2.1, rfl⟩
theorem c_Pi_keep {dd a p ra rb : Nat} {pl : SPl} {bs : List Nat} (P : PZ own h dd a pl) (h1 : 1 ≤ p) (h2 : p ≤ pl.2.2.length) (h3 : pl.2.2.length ≤ 100) (R : Rz own h (ra, rb, bs)) : Cv G l M_Pi_keep (d + 0) (w + 0) [.ref a, .int (nI p), .ref ra] h 0 0 (fun h' => PZ own h' dd a (pl.1, pl.2.1, keepP pl.2.2 (p - 1) bs) ∧ Fr h h' (fun x => x = a ∨ own x = (100 + a, dd))) := by
  have P0 := P
  obtain ⟨p1, p2, p3, p4, p5, q, p6, p7, p8, p9⟩ := P
  refine ok_Pi_keep ?_
  unfold wp_Pi_keep wJ_Pi_keep_43
  rw [show (1 : Int32) = nI 1 from rfl, pk_sub h1]
  rintro _ rfl
  refine ⟨fun c => absurd c (nI_pos (by omega)), fun _ => ⟨p1, q, p6, _, p7, fun c => absurd ((nI_leI (by omega) (by omega)).mp c) (by omega), fun _ => ⟨q, p6, _, p - 1, ⟨p7, rfl, by omega, by omega⟩, fun c => ⟨q, p6, _, p - 1, ⟨p7, rfl, by omega, by omega⟩, obj_row4 R.1.1, ?_⟩, fun o ho => ?_⟩⟩⟩
  · have hk : pl.2.2[p - 1]? = some none := by
      have hlt : p - 1 < pl.2.2.length := by omega
      have hz := p9 (p - 1) pl.2.2[p - 1] (List.getElem?_eq_getElem hlt)
      cases ho : pl.2.2[p - 1] with
      | none => rw [List.getElem?_eq_getElem hlt, ho]
      | some bs' =>
        obtain ⟨ra', rb', z1, -⟩ := hz.2 bs' ho
        rw [z1] at c
        cases c
    have hl := lack_set (bs := bs) hk
    have naq : a ≠ q := fun z => by rw [z, p7] at p1; cases p1
    have hll := lack_le pl.2.2
    have sr : ∀ p', Rz own h p' → Rz own (pI (pR h q (p - 1) (some ra)) a 3 (hI h a 3 - nI 1)) p' := by
      intro p' r'
      have n1 : p'.1 ≠ a := fun z => by have := r'.1.1; rw [z, p1] at this; cases this
      have n2 : p'.2.1 ≠ a := fun z => by have := r'.1.2.2.1; rw [z, p1] at this; cases this
      have n3 : p'.1 ≠ q := fun z => by have := r'.1.1; rw [z, p7] at this; cases this
      have n4 : p'.2.1 ≠ q := fun z => by have := r'.1.2.2.1; rw [z, p7] at this; cases this
      exact ⟨r'.1.same ((same_pR n3).trans (same_pI n1)) ((same_pR n4).trans (same_pI n2)), r'.2⟩
    refine ⟨⟨p1, p2, p3, ?_, ?_, q, ?_, ?_, p8, fun k o ho => ?_⟩, ?_⟩
    · show hI _ _ _ = _
      rw [hI_pI_ne (by omega)]
      exact p4
    · show hI _ _ _ = _
      rw [hI_pI_eq, p5]
      unfold keepP
      rw [if_pos hk, pk_sub (by omega)]
      congr 1
      dsimp only
      omega
    · show hR (pR h q (p - 1) (some ra)) a 2 = _
      rw [hR_pR_ne (fun z => naq z.1)]
      exact p6
    · show hS h q = _
      rw [p7]
      simp only [keepP_len]
    · dsimp only at ho
      unfold keepP at ho
      rw [if_pos hk] at ho
      have sh : hR (pI (pR h q (p - 1) (some ra)) a 3 (hI h a 3 - nI 1)) q k = hR (pR h q (p - 1) (some ra)) q k := rfl
      rw [sh]
      by_cases e : k = p - 1
      · rw [e, List.getElem?_set_self (by omega)] at ho
        cases ho
        rw [e, hR_pR_eq]
        exact ⟨fun z => (by cases z), fun bs' hb => by cases hb; exact ⟨ra, rb, rfl, sr _ R⟩⟩
      · rw [List.getElem?_set_ne (fun z => e z.symm)] at ho
        rw [hR_pR_ne (fun z => e z.2)]
        refine ⟨fun z => (p9 k o ho).1 z, fun bs' hb => ?_⟩
        obtain ⟨ra', rb', z1, z2⟩ := (p9 k o ho).2 bs' hb
        exact ⟨ra', rb', z1, sr _ z2⟩
    · exact (fr_pR.mono (fun x z => Or.inr (by rw [z]; exact p8))).trans fr_pI (fun x _ z => Or.inl z)
  · refine ⟨?_, Fr.rfl⟩
    have hk : ¬ pl.2.2[p - 1]? = some none := fun z => by
      have := (p9 (p - 1) none z).1 rfl
      rw [this] at ho
      cases ho
    have : keepP pl.2.2 (p - 1) bs = pl.2.2 := by unfold keepP; rw [if_neg hk]
    rw [this]
    exact P0
theorem ptxt_snoc (ps : List (Option (List Nat))) (o : Option (List Nat)) : ptxt (ps ++ [o]) = ptxt ps ++ ptxt [o] := by simp [ptxt]
theorem ptxt_take_le (ps : List (Option (List Nat))) (k : Nat) : (ptxt (ps.take k)).length ≤ (ptxt ps).length := by
  have : ptxt ps = ptxt (ps.take k) ++ ptxt (ps.drop k) := by
    unfold ptxt
    rw [← List.flatMap_append, List.take_append_drop]
  rw [this, List.length_append]
  omega
theorem c_Pi_readText {dd a tx : Nat} {pl : SPl} (P : PZ own h dd a pl) (htx : hS h tx = some (0, 480)) (hot : own tx = (9, dd)) (hb : ∀ o ∈ pl.2.2, ∀ bs, o = some bs → 12 + (bt bs 1 + 1) / 2 < bs.length) (h3 : pl.2.2.length ≤ 100) (hl : (ptxt pl.2.2).length ≤ 480) : Ci G l M_Pi_readText (d + 5) (w + 110) [.ref a, .ref tx] h 0 0 (fun x h' => x = nI (ptxt pl.2.2).length ∧ Wr h h' tx tx ∧ hI h' tx = putT (hI h tx) 0 (ptxt pl.2.2)) := by
  obtain ⟨p1, p2, p3, p4, p5, q, p6, p7, p8, p9⟩ := P
  refine ok_Pi_readText ?_
  unfold wp_Pi_readText wL_Pi_readText_4
  refine ⟨fun x2 x3 h' => ∃ k, k ≤ pl.2.2.length ∧ x3 = nI k ∧ x2 = nI (ptxt (pl.2.2.take k)).length ∧ Wr h h' tx tx ∧ hI h' tx = putT (hI h tx) 0 (ptxt (pl.2.2.take k)), fun _ x3 _ => 1000 - x3.toNatClampNeg, ⟨0, Nat.zero_le _, rfl, rfl, Wr.rfl, ?_⟩, ?_⟩
  · rw [List.take_zero]
    exact (putT_nil _ _).symm
  rintro _ _ h1 ⟨k, hk, rfl, rfl, W, hT⟩
  unfold wB_Pi_readText_4 wJ_Pi_readText_34
  have p1' : hS h1 a = some (17, 0) := by rw [W.1]; exact p1
  have p6' : hR h1 a 2 = some q := by rw [W.2.2.1]; exact p6
  have p7' : hS h1 q = some (4, pl.2.2.length) := by rw [W.1]; exact p7
  refine ⟨p1', q, p6', _, p7', fun c => ?_, fun c => ?_⟩
  · have : pl.2.2.length ≤ k := (nI_leI (by omega) (by omega)).mp c
    rw [List.take_of_length_le this] at hT ⊢
    exact ⟨rfl, W, hT⟩
  · have hkl : k < pl.2.2.length := by
      rcases Nat.lt_or_ge k pl.2.2.length with z | z
      · exact z
      · exact absurd (nI_le z (by omega)) c
    have mu : 1000 - (nI k + 1).toNatClampNeg < 1000 - (nI k).toNatClampNeg := by
      rw [nI_1, nI_clamp (by omega), nI_clamp (by omega)]
      omega
    have htk : pl.2.2.take (k + 1) = pl.2.2.take k ++ [pl.2.2[k]] := by rw [List.take_succ, List.getElem?_eq_getElem hkl]; rfl
    have hz := p9 k pl.2.2[k] (List.getElem?_eq_getElem hkl)
    refine ⟨q, p6', _, k, ⟨p7', rfl, hkl, by omega⟩, fun cn => ?_, fun r hr => ⟨q, p6', _, k, ⟨p7', rfl, hkl, by omega⟩, r, hr, ?_⟩⟩
    · rintro _ rfl
      refine ⟨⟨k + 1, hkl, nI_1 k, ?_⟩, mu⟩
      have hno : pl.2.2[k] = none := by
        cases ho : pl.2.2[k] with
        | none => rfl
        | some bs' =>
          obtain ⟨ra', rb', z1, -⟩ := hz.2 bs' ho
          rw [W.2.2.1, z1] at cn
          cases cn
      rw [htk, ptxt_snoc, hno, show ptxt [none] = [] from rfl, List.append_nil]
      exact ⟨rfl, W, hT⟩
    · cases ho : pl.2.2[k] with
      | none =>
        have := hz.1 ho
        rw [W.2.2.1, this] at hr
        cases hr
      | some bs =>
        obtain ⟨ra, rb, z1, z2⟩ := hz.2 bs ho
        have er : r = ra := by
          rw [W.2.2.1, z1] at hr
          cases hr
          rfl
        subst er
        have nb : rb ≠ tx := fun z => by
          have := z2.2.2
          dsimp only at this
          rw [z, hot] at this
          cases this
        have R1 : Rw h1 r rb bs := z2.1.wr W nb nb
        have htl := ptxt_take_le pl.2.2 (k + 1)
        have hpt : ptxt (pl.2.2.take (k + 1)) = ptxt (pl.2.2.take k) ++ dtxt bs := by
          rw [htk, ptxt_snoc, ho]
          simp [ptxt]
        rw [hpt, List.length_append] at htl
        refine ⟨R1.1, _, c_Ro_readText (q := tx) (p := (ptxt (pl.2.2.take k)).length) R1 (by rw [W.1]; exact htx) nb (hb _ (List.getElem_mem hkl) bs ho) (by omega), ?_⟩
        rintro _ h2 ⟨rfl, W2, hT2⟩ _ rfl
        refine ⟨⟨k + 1, hkl, nI_1 k, ?_, W.trans W2, ?_⟩, mu⟩
        · rw [hpt, List.length_append]
        · rw [hT2, hT, putT_putT, hpt]
end PI
