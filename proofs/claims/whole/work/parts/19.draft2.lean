/-! the draft's parts -/
/-- septets of a stretch -/
def sumS (gs : List Nat) : Nat := (gs.map sl).sum
/-- how many characters go into a part, some septets being there -/
def peL : Nat → List Nat → Nat
  | _, [] => 0
  | u, f :: fs => if u + sl f ≤ 153 then 1 + peL (u + sl f) fs else 0
/-- how many parts -/
def pcL : Nat → Nat → List Nat → Nat
  | p, _, [] => p
  | p, u, f :: fs => if u + sl f ≤ 153 then pcL p (u + sl f) fs else pcL (p + 1) (sl f) fs
theorem peL_cons (u f : Nat) (fs : List Nat) : peL u (f :: fs) = if u + sl f ≤ 153 then 1 + peL (u + sl f) fs else 0 := rfl
theorem pcL_cons (p u f : Nat) (fs : List Nat) : pcL p u (f :: fs) = if u + sl f ≤ 153 then pcL p (u + sl f) fs else pcL (p + 1) (sl f) fs := rfl
theorem sl_le (f : Nat) : 1 ≤ sl f ∧ sl f ≤ 2 := by unfold sl; split <;> omega
theorem sumS_le (gs : List Nat) : sumS gs ≤ 2 * gs.length := by
  induction gs with
  | nil => exact Nat.le_refl _
  | cons f fs ih =>
    have := (sl_le f).2
    simp only [sumS, List.map_cons, List.sum_cons, List.length_cons] at ih ⊢
    omega
theorem sumS_cons (f : Nat) (fs : List Nat) : sumS (f :: fs) = sl f + sumS fs := by simp [sumS]
theorem sumS_app (a b : List Nat) : sumS (a ++ b) = sumS a + sumS b := by simp [sumS]
theorem peL_le (u : Nat) (fs : List Nat) : peL u fs ≤ fs.length := by
  induction fs generalizing u with
  | nil => exact Nat.le_refl _
  | cons f fs ih =>
    unfold peL
    split
    · have := ih (u + sl f); simp only [List.length_cons]; omega
    · exact Nat.zero_le _
theorem drop_cons {gs : List Nat} {k : Nat} (hk : k < gs.length) : gs.drop k = gs.getD k 0 :: gs.drop (k + 1) := by
  rw [List.drop_eq_getElem_cons hk, List.getD_eq_getElem?_getD, List.getElem?_eq_getElem hk]
  rfl
section D2
variable {G : Gx} {l : Launch} {d w : Nat} {h : Hp} {a b : Nat} {gs : List Nat}
theorem DrA.at' (A : DrA h a b (gs.map some)) {k : Nat} (hk : k < gs.length) : hI h b k = nI (gs.getD k 0) := by
  rw [A.2.2.2.2.2 k (by simpa using hk)]
  have : (gs.map some).getD k none = some (gs.getD k 0) := by
    simp [List.getD_eq_getElem?_getD, List.getElem?_eq_getElem hk]
  rw [this]
  rfl
theorem DrA.len (A : DrA h a b (gs.map some)) : hI h a 1 = nI gs.length ∧ gs.length ≤ 480 := by
  have h1 := A.2.2.2.1
  have h2 := A.2.2.2.2.1
  rw [List.length_map] at h1 h2
  exact ⟨h1, h2⟩
theorem c_Dr_septets (A : DrA h a b (gs.map some)) (hg : ∀ j, gs.getD j 0 < 256) {i j : Nat} (hij : i ≤ j) (hj : j ≤ gs.length) : Ci G l M_Dr_septets (d + 1) (w + 20) [.ref a, .int (nI i), .int (nI j)] h 0 0 (Xi (nI (sumS ((gs.drop i).take (j - i)))) h) := by
  obtain ⟨l1, l2⟩ := A.len
  refine ok_Dr_septets ?_
  unfold wp_Dr_septets wL_Dr_septets_5
  refine ⟨fun y x h' => h = h' ∧ ∃ k, x = nI (i + k) ∧ i + k ≤ j ∧ y = nI (sumS ((gs.drop i).take k)), fun _ x _ => j - x.toNatClampNeg, ⟨rfl, 0, by rw [Nat.add_zero], by omega, rfl⟩, ?_⟩
  rintro _ _ _ ⟨rfl, k, rfl, hk, rfl⟩
  have hs := sumS_le ((gs.drop i).take k)
  have hlt0 : ((gs.drop i).take k).length ≤ 480 := by rw [List.length_take, List.length_drop]; omega
  unfold wB_Dr_septets_5
  refine ⟨fun c => ?_, fun c => ?_⟩
  · have : j ≤ i + k := (nI_leI (by omega) (by omega)).mp c
    rw [show j - i = k by omega]
    exact ⟨rfl, rfl⟩
  · have hlt : i + k < j := by
      rcases Nat.lt_or_ge (i + k) j with z | z
      · exact z
      · exact absurd (nI_le z (by omega)) c
    refine ⟨A.1, b, A.2.1, 480, i + k, ⟨A.2.2.1, rfl, by omega, by omega⟩, ?_⟩
    rw [A.at' (by omega)]
    refine ⟨_, c_Al_septetsOf (by have := hg (i + k); omega), ?_⟩
    rintro _ _ ⟨rfl, rfl⟩ _ rfl _ rfl
    refine ⟨⟨rfl, k + 1, nI_1 _, by omega, ?_⟩, ?_⟩
    · rw [nI_add, List.take_succ, List.getElem?_drop, List.getElem?_eq_getElem (by omega), sumS_app]
      congr 2
      simp [sumS, List.getD_eq_getElem?_getD, List.getElem?_eq_getElem (show i + k < gs.length by omega)]
    · show j - (nI (i + k) + 1).toNatClampNeg < j - (nI (i + k)).toNatClampNeg
      rw [nI_1, nI_clamp (by omega), nI_clamp (by omega)]
      omega
theorem c_Dr_partEnd (A : DrA h a b (gs.map some)) (hg : ∀ j, gs.getD j 0 < 256) {i : Nat} (hi : i ≤ gs.length) : Ci G l M_Dr_partEnd (d + 1) (w + 20) [.ref a, .int (nI i)] h 0 0 (Xi (nI (i + peL 0 (gs.drop i))) h) := by
  obtain ⟨l1, l2⟩ := A.len
  refine ok_Dr_partEnd ?_
  unfold wp_Dr_partEnd wL_Dr_partEnd_4
  refine ⟨fun y x h' => h = h' ∧ ∃ k u, x = nI (i + k) ∧ i + k ≤ gs.length ∧ y = nI u ∧ u ≤ 153 ∧ peL 0 (gs.drop i) = k + peL u (gs.drop (i + k)), fun _ x _ => gs.length - x.toNatClampNeg, ⟨rfl, 0, 0, by rw [Nat.add_zero], by omega, rfl, by omega, by simp⟩, ?_⟩
  rintro _ _ _ ⟨rfl, k, u, rfl, hk, rfl, hu, hp⟩
  unfold wB_Dr_partEnd_4
  rw [l1]
  refine ⟨A.1, fun c => ?_, fun c => ?_⟩
  · have : gs.length ≤ i + k := (nI_leI (by omega) (by omega)).mp c
    refine ⟨?_, rfl⟩
    rw [hp, List.drop_eq_nil_of_le this]
    congr 1
    show gs.length = i + (k + 0)
    omega
  · have hlt : i + k < gs.length := by
      rcases Nat.lt_or_ge (i + k) gs.length with z | z
      · exact z
      · exact absurd (nI_le z (by omega)) c
    refine ⟨b, A.2.1, 480, i + k, ⟨A.2.2.1, rfl, by omega, by omega⟩, ?_⟩
    rw [A.at' hlt]
    have hs := sl_le (gs.getD (i + k) 0)
    refine ⟨_, c_Al_septetsOf (by have := hg (i + k); omega), ?_⟩
    rintro _ _ ⟨rfl, rfl⟩
    rw [nI_add]
    rintro _ rfl
    rw [drop_cons hlt, peL_cons] at hp
    refine ⟨fun c2 => ?_, fun c2 => ⟨?_, rfl⟩⟩
    · have h153 : u + sl (gs.getD (i + k) 0) ≤ 153 := (nI_leI (b := 153) (by omega) (by decide)).mp c2
      rw [if_pos h153] at hp
      rintro _ rfl
      refine ⟨⟨rfl, k + 1, _, nI_1 _, by omega, rfl, h153, by rw [hp, show i + k + 1 = i + (k + 1) by omega]; omega⟩, ?_⟩
      show gs.length - (nI (i + k) + 1).toNatClampNeg < gs.length - (nI (i + k)).toNatClampNeg
      rw [nI_1, nI_clamp (by omega), nI_clamp (by omega)]
      omega
    · have h153 : ¬ u + sl (gs.getD (i + k) 0) ≤ 153 := fun z => c2 (nI_le (b := 153) z (by decide))
      rw [if_neg h153] at hp
      rw [hp]
      rfl
theorem pcL_le (p u : Nat) (fs : List Nat) : pcL p u fs ≤ p + fs.length := by
  induction fs generalizing p u with
  | nil => exact Nat.le_refl _
  | cons f fs ih =>
    unfold pcL
    split
    · have := ih p (u + sl f); simp only [List.length_cons]; omega
    · have := ih (p + 1) (sl f); simp only [List.length_cons]; omega
/-- how many rows a text takes -/
def pcN (gs : List Nat) : Nat := if sumS gs ≤ 160 then 1 else pcL 1 0 gs
theorem c_Dr_partCount (A : DrA h a b (gs.map some)) (hg : ∀ j, gs.getD j 0 < 256) : Ci G l M_Dr_partCount (d + 2) (w + 44) [.ref a] h 0 0 (Xi (nI (pcN gs)) h) := by
  obtain ⟨l1, l2⟩ := A.len
  refine ok_Dr_partCount ?_
  unfold wp_Dr_partCount
  rw [l1]
  refine ⟨A.1, _, c_Dr_septets (i := 0) A hg (Nat.zero_le _) (Nat.le_refl _), ?_⟩
  rw [Nat.sub_zero, List.drop_zero, List.take_length]
  rintro _ _ ⟨rfl, rfl⟩
  have hsum := sumS_le gs
  refine ⟨fun c => ?_, fun c => ⟨?_, rfl⟩⟩
  · have h160 : 160 < sumS gs := (nI_ltI (a := 160) (by decide) (by omega)).mp c
    have hpc : pcN gs = pcL 1 0 gs := if_neg (by omega)
    rw [hpc]
    unfold wL_Dr_partCount_23
    refine ⟨fun p u x h' => h = h' ∧ ∃ k p' u', x = nI k ∧ k ≤ gs.length ∧ p = nI p' ∧ u = nI u' ∧ u' ≤ 153 ∧ p' ≤ 1 + k ∧ pcL 1 0 gs = pcL p' u' (gs.drop k), fun _ _ x _ => gs.length - x.toNatClampNeg, ⟨rfl, 0, 1, 0, rfl, by omega, rfl, rfl, by omega, by omega, rfl⟩, ?_⟩
    rintro _ _ _ _ ⟨rfl, k, p, u, rfl, hk, rfl, rfl, hu, hp1, hp⟩
    unfold wB_Dr_partCount_23
    rw [l1]
    refine ⟨A.1, fun c => ?_, fun c => ?_⟩
    · have : gs.length ≤ k := (nI_leI (by omega) (by omega)).mp c
      rw [List.drop_eq_nil_of_le this] at hp
      exact ⟨by rw [hp]; rfl, rfl⟩
    · have hlt : k < gs.length := by
        rcases Nat.lt_or_ge k gs.length with z | z
        · exact z
        · exact absurd (nI_le z (by omega)) c
      refine ⟨b, A.2.1, 480, k, ⟨A.2.2.1, rfl, by omega, by omega⟩, ?_⟩
      rw [A.at' hlt]
      have hs := sl_le (gs.getD k 0)
      refine ⟨_, c_Al_septetsOf (by have := hg k; omega), ?_⟩
      rintro _ _ ⟨rfl, rfl⟩
      rw [nI_add]
      rw [drop_cons hlt, pcL_cons] at hp
      have mu : gs.length - (nI k + 1).toNatClampNeg < gs.length - (nI k).toNatClampNeg := by
        rw [nI_1, nI_clamp (by omega), nI_clamp (by omega)]
        omega
      unfold wJ_Dr_partCount_57
      refine ⟨fun c2 => ?_, fun c2 => ?_⟩
      · have h153 : u + sl (gs.getD k 0) ≤ 153 := (nI_leI (b := 153) (by omega) (by decide)).mp c2
        rw [if_pos h153] at hp
        rintro _ rfl _ rfl
        exact ⟨⟨rfl, k + 1, p, _, nI_1 k, by omega, rfl, nI_add _ _, h153, by omega, hp⟩, mu⟩
      · have h153 : ¬ u + sl (gs.getD k 0) ≤ 153 := fun z => c2 (nI_le (b := 153) z (by decide))
        rw [if_neg h153] at hp
        rintro _ rfl _ rfl _ rfl
        exact ⟨⟨rfl, k + 1, p + 1, sl (gs.getD k 0), nI_1 k, by omega, nI_1 p, by rw [show (0 : Int32) = nI 0 from rfl, nI_add, Nat.zero_add], by omega, by omega, hp⟩, mu⟩
  · have h160 : sumS gs ≤ 160 := Nat.not_lt.mp (fun z => c (nI_lt (a := 160) z (by omega)))
    unfold pcN
    rw [if_pos h160]
    rfl
/-- seven bits merged into a row -/
def mrg (bs : List Nat) (s bit v : Nat) : List Nat :=
  let p := s + bit / 8
  let b1 := bs.set p (bt bs p ||| v * 2 ^ (bit % 8) % 256)
  b1.set (p + 1) (bt b1 (p + 1) ||| v * 2 ^ (bit % 8) / 256)
theorem or_lt {x y : Nat} (hx : x < 256) (hy : y < 256) : x ||| y < 256 := Nat.or_lt_two_pow (n := 8) hx hy
theorem set_out {bs : List Nat} {j v : Nat} (h : bs.length ≤ j) : bs.set j v = bs := List.set_eq_of_length_le h
theorem c_RB_mergeSeptet {bs : List Nat} {wr s bit v : Nat} (B : RB h a b bs wr) (hv : v < 128) (hs : s < 1000) (hb : bit < 10000) : Cv G l M_Ro_mergeSeptet (d + 2) (w + 43) [.ref a, .int (nI s), .int (nI bit), .int (nI v)] h 0 0 (fun h' => RB h' a b (mrg bs s bit v) wr ∧ Wr h h' a b) := by
  refine ok_Ro_mergeSeptet ?_
  unfold wp_Ro_mergeSeptet
  have hlen := B.len
  have hpw : 2 ^ (bit % 8) ≤ 2 ^ 7 := Nat.pow_le_pow_right (by decide) (by omega)
  have hm : v * 2 ^ (bit % 8) ≤ 127 * 128 := Nat.mul_le_mul (by omega) hpw
  have e1 : nI s + nI bit / 8 = nI (s + bit / 8) := by rw [show (8 : Int32) = nI 8 from rfl, pk_div (by omega) (by decide) (by decide), nI_add]
  have e2 : nI bit - nI bit / 8 * 8 = nI (bit % 8) := by rw [show (8 : Int32) = nI 8 from rfl, pk_rem (by omega) (by decide) (by decide)]
  rw [e1, e2, nI_shl (by omega) (by omega)]
  rintro _ rfl _ rfl
  have e3 : nI (v * 2 ^ (bit % 8)) &&& 255 = nI (v * 2 ^ (bit % 8) % 256) := pk_andN (by omega) 8 (by decide)
  have e4 : nI (v * 2 ^ (bit % 8)) >>> (8 &&& 31) = nI (v * 2 ^ (bit % 8) / 256) := by rw [show (8 : Int32) = nI 8 from rfl, nI_shr (by decide) (by omega)]
  rw [e3, e4, nI_1]
  have m1 : ∀ {h : Hp} {bs : List Nat} {j v : Nat}, RB h a b bs wr → bs.length ≤ 200 → v < 256 → j < 100000 → Cv G l M_Ro_merge (d + 1) (w + 21) [.ref a, .int (nI j), .int (nI v)] h 0 0 (fun h' => RB h' a b (bs.set j (bt bs j ||| v)) wr ∧ Wr h h' a b) := by
    intro h bs j v B hl hv hj
    by_cases c : j < bs.length
    · exact c_RB_merge B c (or_lt (bt_lt B.1 j) hv)
    · refine (c_Ro_mergeN B.1 (Nat.not_lt.mp c) (by omega) (nI v)).mono ?_
      rintro _ rfl
      rw [set_out (Nat.not_lt.mp c)]
      exact ⟨B, Wr.rfl⟩
  refine ⟨B.1.1, _, m1 B hlen (Nat.mod_lt _ (by decide)) (by omega), ?_⟩
  rintro h1 ⟨B1, W1⟩
  refine ⟨B1.1.1, _, m1 B1 B1.len (by omega) (by omega), ?_⟩
  rintro h2 ⟨B2, W2⟩
  exact ⟨B2, W1.trans W2⟩
/-- the septets of a form -/
def fsep (f : Nat) : List Nat := if f < 128 then [f] else [27, f - 128]
/-- many septets merged -/
def mrgL : List Nat → Nat → Nat → List Nat → List Nat
  | bs, _, _, [] => bs
  | bs, s, bit, v :: vs => mrgL (mrg bs s bit v) s (bit + 7) vs
theorem mrgL_app (bs : List Nat) (s bit : Nat) (x y : List Nat) : mrgL bs s bit (x ++ y) = mrgL (mrgL bs s bit x) s (bit + 7 * x.length) y := by
  induction x generalizing bs bit with
  | nil => rfl
  | cons v vs ih =>
    show mrgL (mrg bs s bit v) s (bit + 7) (vs ++ y) = _
    rw [ih]
    congr 1
    simp only [List.length_cons]
    omega
theorem fsep_len (f : Nat) : (fsep f).length = sl f := by unfold fsep sl; split <;> rfl
/-- packs the characters i to j behind what the row has -/
theorem c_Dr_pack {a2 b2 wr i j : Nat} {bs : List Nat} (A : DrA h a b (gs.map some)) (hg : ∀ j, gs.getD j 0 < 256) (B : RB h a2 b2 bs wr) (n1 : a ≠ a2) (n2 : a ≠ b2) (n3 : b ≠ a2) (n4 : b ≠ b2) (hl : 2 < bs.length) (hij : i ≤ j) (hj : j ≤ gs.length) : Cv G l M_Dr_pack (d + 4) (w + 82) [.ref a, .int (nI i), .int (nI j), .ref a2] h 0 0 (fun h' => RB h' a2 b2 (mrgL bs (8 + (bt bs 2 + 1) / 2) (fbit bs) (((gs.drop i).take (j - i)).flatMap fsep)) wr ∧ Wr h h' a2 b2) := by
  obtain ⟨l1, l2⟩ := A.len
  have hb2 : bt bs 2 < 256 := bt_lt B.1 2
  refine ok_Dr_pack ?_
  unfold wp_Dr_pack
  refine ⟨B.1.1, _, c_Ro_submitDataAt B.1 hl, ?_⟩
  rintro _ _ ⟨rfl, rfl⟩
  rw [nI_1]
  rintro _ rfl
  refine ⟨B.1.1, _, c_Ro_firstBit B.1 (by omega), ?_⟩
  rintro _ _ ⟨rfl, rfl⟩
  have hfb : fbit bs ≤ 49 := by unfold fbit; split <;> omega
  rw [show 7 + (bt bs 2 + 1) / 2 + 1 = 8 + (bt bs 2 + 1) / 2 by omega]
  unfold wL_Dr_pack_17
  refine ⟨fun y x h' => ∃ k, x = nI (i + k) ∧ i + k ≤ j ∧ y = nI (fbit bs + 7 * sumS ((gs.drop i).take k)) ∧ RB h' a2 b2 (mrgL bs (8 + (bt bs 2 + 1) / 2) (fbit bs) (((gs.drop i).take k).flatMap fsep)) wr ∧ Wr h h' a2 b2, fun _ x _ => j - x.toNatClampNeg, ⟨0, by rw [Nat.add_zero], by omega, rfl, B, Wr.rfl⟩, ?_⟩
  rintro _ _ h1 ⟨k, rfl, hk, rfl, B1, W1⟩
  have hs := sumS_le ((gs.drop i).take k)
  have hlt0 : ((gs.drop i).take k).length ≤ 480 := by rw [List.length_take, List.length_drop]; omega
  have hfl : (((gs.drop i).take k).flatMap fsep).length = sumS ((gs.drop i).take k) := by
    rw [List.length_flatMap]
    unfold sumS
    congr 1
    exact List.map_congr_left (fun f _ => fsep_len f)
  have A1 : DrA h1 a b (gs.map some) := ⟨by rw [W1.1]; exact A.1, by rw [W1.2.2.1]; exact A.2.1, by rw [W1.1]; exact A.2.2.1, by rw [W1.2.2.2 a n1 n2]; exact A.2.2.2.1, A.2.2.2.2.1, fun q hq => by rw [W1.2.2.2 b n3 n4]; exact A.2.2.2.2.2 q hq⟩
  unfold wB_Dr_pack_17
  refine ⟨fun c => ?_, fun c => ?_⟩
  · have : j ≤ i + k := (nI_leI (by omega) (by omega)).mp c
    rw [show j - i = k by omega]
    exact ⟨B1, W1⟩
  · have hlt : i + k < j := by
      rcases Nat.lt_or_ge (i + k) j with z | z
      · exact z
      · exact absurd (nI_le z (by omega)) c
    refine ⟨A1.1, b, A1.2.1, 480, i + k, ⟨A1.2.2.1, rfl, by omega, by omega⟩, ?_⟩
    rw [A1.at' (by omega)]
    rintro _ rfl
    have hf := hg (i + k)
    have ht : (gs.drop i).take (k + 1) = (gs.drop i).take k ++ [gs.getD (i + k) 0] := by
      rw [List.take_succ, List.getElem?_drop, List.getElem?_eq_getElem (by omega), List.getD_eq_getElem?_getD, List.getElem?_eq_getElem (by omega)]
      rfl
    generalize hF : gs.getD (i + k) 0 = f at hf ht
    have mu : j - (nI (i + k) + 1).toNatClampNeg < j - (nI (i + k)).toNatClampNeg := by
      rw [nI_1, nI_clamp (by omega), nI_clamp (by omega)]
      omega
    unfold wJ_Dr_pack_53
    have hand : nI f &&& 127 = nI (f % 128) := pk_andN (by omega) 7 (by decide)
    rw [hand]
    refine ⟨fun c2 => ?_, fun c2 => ?_⟩
    · have h128 : f < 128 := (nI_ltI (b := 128) (by omega) (by decide)).mp c2
      rw [Nat.mod_eq_of_lt h128]
      refine ⟨B1.1.1, _, c_RB_mergeSeptet B1 h128 (by omega) (by omega), ?_⟩
      rintro h2 ⟨B2, W2⟩ _ rfl _ rfl
      refine ⟨⟨k + 1, nI_1 _, by omega, ?_, ?_, W1.trans W2⟩, mu⟩
      · rw [show (7 : Int32) = nI 7 from rfl, nI_add, ht, sumS_app]
        congr 1
        have : sumS [f] = 1 := by simp [sumS, sl, h128]
        omega
      · rw [ht, List.flatMap_append, mrgL_app, hfl]
        have : [f].flatMap fsep = [f] := by simp [fsep, h128]
        rw [this]
        exact B2
    · have h128 : ¬ f < 128 := fun z => c2 (nI_lt (b := 128) z (by decide))
      refine ⟨B1.1.1, _, c_RB_mergeSeptet (v := 27) B1 (by decide) (by omega) (by omega), ?_⟩
      rintro h2 ⟨B2, W2⟩
      rw [show (7 : Int32) = nI 7 from rfl, nI_add]
      rintro _ rfl
      refine ⟨B2.1.1, _, c_RB_mergeSeptet B2 (Nat.mod_lt _ (by decide)) (by omega) (by omega), ?_⟩
      rintro h3 ⟨B3, W3⟩
      rw [nI_add]
      rintro _ rfl _ rfl
      refine ⟨⟨k + 1, nI_1 _, by omega, ?_, ?_, (W1.trans W2).trans W3⟩, mu⟩
      · rw [ht, sumS_app]
        congr 1
        have : sumS [f] = 2 := by simp [sumS, sl, h128]
        omega
      · rw [ht, List.flatMap_append, mrgL_app, hfl]
        have : [f].flatMap fsep = [27, f % 128] := by
          simp [fsep, h128]
          omega
        rw [this]
        exact B3
end D2
