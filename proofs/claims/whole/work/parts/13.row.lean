/-! numbers -/
theorem nI_bv (a : Nat) : (nI a).toBitVec = BitVec.ofNat 32 a := rfl
theorem nI_and (a b : Nat) : nI a &&& nI b = nI (a &&& b) := by
  apply Int32.toBitVec_inj.mp
  rw [Int32.toBitVec_and, nI_bv, nI_bv, nI_bv]
  apply BitVec.eq_of_toNat_eq
  simp [BitVec.toNat_and, BitVec.toNat_ofNat, Nat.and_mod_two_pow]
theorem nI_or (a b : Nat) : nI a ||| nI b = nI (a ||| b) := by
  apply Int32.toBitVec_inj.mp
  rw [Int32.toBitVec_or, nI_bv, nI_bv, nI_bv]
  apply BitVec.eq_of_toNat_eq
  simp [BitVec.toNat_or, BitVec.toNat_ofNat, Nat.or_mod_two_pow]
theorem nI_xor (a b : Nat) : nI a ^^^ nI b = nI (a ^^^ b) := by
  apply Int32.toBitVec_inj.mp
  rw [Int32.toBitVec_xor, nI_bv, nI_bv, nI_bv]
  apply BitVec.eq_of_toNat_eq
  simp [BitVec.toNat_xor, BitVec.toNat_ofNat, Nat.xor_mod_two_pow]
theorem nI_sh {k : Nat} (hk : k < 32) : ((nI k &&& 31).toBitVec.smod 32).toNat = k := by
  have : ∀ k : Fin 32, ((nI k.val &&& 31).toBitVec.smod 32).toNat = k.val := by decide +kernel
  exact this ⟨k, hk⟩
theorem nI_shl {n k : Nat} (hk : k < 32) (h : n * 2 ^ k < 4294967296) : nI n <<< (nI k &&& 31) = nI (n * 2 ^ k) := pk_shlN _ k (nI_sh hk) h
theorem nI_shr {n k : Nat} (hk : k < 32) (h : n < 2147483648) : nI n >>> (nI k &&& 31) = nI (n / 2 ^ k) := pk_shrN h _ k (nI_sh hk)
theorem m1_lt {n : Nat} (h : n < 2147483648) : ¬ (nI n ≤ (-1 : Int32)) := by
  intro c
  have h1 := Int32.le_iff_toInt_le.mp c
  rw [nI_toInt h] at h1
  have h2 : (-1 : Int32).toInt = -1 := by decide
  omega
/-! a row of bytes -/
def Rw (h : Hp) (a b : Nat) (bs : List Nat) : Prop := hS h a = some (15, 0) ∧ hR h a 0 = some b ∧ hS h b = some (0, bs.length) ∧ bs.length ≤ 200 ∧ (∀ j, j < bs.length → hI h b j = nI (bs.getD j 0)) ∧ ∀ j, bs.getD j 0 < 256
def bt (bs : List Nat) (j : Nat) : Nat := bs.getD j 0
/-- what at answers -/
def rAt (bs : List Nat) (x : Int32) : Int32 := if x < 0 then -1 else if nI bs.length ≤ x then -1 else nI (bt bs x.toNatClampNeg)
theorem rAt_in {bs : List Nat} {j : Nat} (hj : j < bs.length) (hb : bs.length ≤ 200) : rAt bs (nI j) = nI (bt bs j) := by
  unfold rAt
  rw [if_neg (nI_pos (by omega)), if_neg (nI_ge hj (by omega)), nI_clamp (by omega)]
theorem rAt_out {bs : List Nat} {j : Nat} (hj : bs.length ≤ j) (hb : j < 2147483648) : rAt bs (nI j) = -1 := by
  unfold rAt
  rw [if_neg (nI_pos hb), if_pos (nI_le hj hb)]
section RW
variable {G : Gx} {l : Launch} {d w : Nat} {h : Hp} {a b : Nat} {bs : List Nat}
theorem c_Ro_size (R : Rw h a b bs) : Ci G l M_Ro_size (d + 0) (w + 0) [.ref a] h 0 0 (Xi (nI bs.length) h) := ok_Ro_size ⟨R.1, b, R.2.1, _, R.2.2.1, rfl, rfl⟩
theorem c_Ro_has (R : Rw h a b bs) (x : Int32) : Ci G l M_Ro_has (d + 0) (w + 0) [.ref a, .int x] h 0 0 (Xi (if x < 0 ∨ nI bs.length ≤ x then 0 else 1) h) := by
  refine ok_Ro_has ?_
  unfold wp_Ro_has wJ_Ro_has_17 wJ_Ro_has_18
  refine ⟨fun c => ⟨by decide, (if_pos (Or.inl c)).symm, rfl⟩, fun c => ⟨R.1, b, R.2.1, _, R.2.2.1, fun c2 => ⟨by decide, (if_pos (Or.inr c2)).symm, rfl⟩, fun c2 => ⟨by decide, (if_neg ?_).symm, rfl⟩⟩⟩
  rintro (z | z)
  · exact c z
  · exact c2 z
theorem c_Ro_hasY (R : Rw h a b bs) {j : Nat} (hj : j < bs.length) : Ci G l M_Ro_has (d + 0) (w + 0) [.ref a, .int (nI j)] h 0 0 (Xi 1 h) := by
  have := c_Ro_has (G := G) (l := l) (d := d) (w := w) R (nI j)
  rw [if_neg] at this
  · exact this
  · rintro (z | z)
    · exact nI_pos (by have := R.2.2.2.1; omega) z
    · exact nI_ge hj (by have := R.2.2.2.1; omega) z
theorem c_Ro_hasN (R : Rw h a b bs) {j : Nat} (hj : bs.length ≤ j) (hb : j < 2147483648) : Ci G l M_Ro_has (d + 0) (w + 0) [.ref a, .int (nI j)] h 0 0 (Xi 0 h) := by
  have := c_Ro_has (G := G) (l := l) (d := d) (w := w) R (nI j)
  rw [if_pos (Or.inr (nI_le hj hb))] at this
  exact this
theorem c_Ro_at (R : Rw h a b bs) (x : Int32) : Ci G l M_Ro_at (d + 1) (w + 21) [.ref a, .int x] h 0 0 (Xi (rAt bs x) h) := by
  refine ok_Ro_at ?_
  unfold wp_Ro_at wJ_Ro_at_18
  refine ⟨R.1, _, c_Ro_has R x, ?_⟩
  rintro _ _ ⟨rfl, rfl⟩
  unfold rAt
  by_cases c1 : x < 0
  · rw [if_pos (Or.inl c1), if_pos c1]
    exact ⟨fun _ => ⟨rfl, rfl⟩, fun c => absurd rfl c⟩
  · by_cases c2 : nI bs.length ≤ x
    · rw [if_pos (Or.inr c2), if_neg c1, if_pos c2]
      exact ⟨fun _ => ⟨rfl, rfl⟩, fun c => absurd rfl c⟩
    · rw [if_neg (by rintro (z | z); exact c1 z; exact c2 z), if_neg c1, if_neg c2]
      have hb := R.2.2.2.1
      rcases pk_ix x (n := bs.length) (by omega) with z | z | ⟨j, hj, rfl⟩
      · exact absurd z c1
      · exact absurd z c2
      · refine ⟨fun c => absurd c (by decide), fun _ => ⟨R.1, b, R.2.1, bs.length, j, ⟨R.2.2.1, rfl, hj, by omega⟩, ?_, rfl⟩⟩
        rw [nI_clamp (by omega)]
        exact R.2.2.2.2.1 j hj
theorem c_Ro_at' (R : Rw h a b bs) {j : Nat} (hj : j < bs.length) : Ci G l M_Ro_at (d + 1) (w + 21) [.ref a, .int (nI j)] h 0 0 (Xi (nI (bt bs j)) h) := by
  have := c_Ro_at (G := G) (l := l) (d := d) (w := w) R (nI j)
  rw [rAt_in hj R.2.2.2.1] at this
  exact this
theorem c_Ro_flip (R : Rw h a b bs) {j : Nat} (hj : j < bs.length) (x : Int32) : Cv G l M_Ro_flip (d + 1) (w + 21) [.ref a, .int (nI j), .int x] h 0 0 (Xv (pI h b j (hI h b j ^^^ x))) := by
  refine ok_Ro_flip ?_
  unfold wp_Ro_flip wJ_Ro_flip_18
  refine ⟨R.1, _, c_Ro_hasY R hj, ?_⟩
  rintro _ _ ⟨rfl, rfl⟩
  exact ⟨fun c => absurd c (by decide), fun _ => ⟨R.1, b, R.2.1, bs.length, j, ⟨R.2.2.1, rfl, hj, by have := R.2.2.2.1; omega⟩, rfl⟩⟩
theorem c_Ro_mergeY (R : Rw h a b bs) {j : Nat} (hj : j < bs.length) (x : Int32) : Cv G l M_Ro_merge (d + 1) (w + 21) [.ref a, .int (nI j), .int x] h 0 0 (Xv (pI h b j (hI h b j ||| x))) := by
  refine ok_Ro_merge ?_
  unfold wp_Ro_merge wJ_Ro_merge_18
  refine ⟨R.1, _, c_Ro_hasY R hj, ?_⟩
  rintro _ _ ⟨rfl, rfl⟩
  exact ⟨fun c => absurd c (by decide), fun _ => ⟨R.1, b, R.2.1, bs.length, j, ⟨R.2.2.1, rfl, hj, by have := R.2.2.2.1; omega⟩, rfl⟩⟩
theorem c_Ro_mergeN (R : Rw h a b bs) {j : Nat} (hj : bs.length ≤ j) (hb : j < 2147483648) (x : Int32) : Cv G l M_Ro_merge (d + 1) (w + 21) [.ref a, .int (nI j), .int x] h 0 0 (Xv h) := by
  refine ok_Ro_merge ?_
  unfold wp_Ro_merge wJ_Ro_merge_18
  refine ⟨R.1, _, c_Ro_hasN R hj hb, ?_⟩
  rintro _ _ ⟨rfl, rfl⟩
  exact ⟨fun _ => rfl, fun c => absurd rfl c⟩
theorem c_Ro_put (R : Rw h a b bs) {j : Nat} (hj : j < bs.length) (hw : hI h a 1 = nI j) (x : Int32) : Cv G l M_Ro_put (d + 1) (w + 21) [.ref a, .int x] h 0 0 (Xv (pI (pI h b j x) a 1 (nI (j + 1)))) := by
  refine ok_Ro_put ?_
  unfold wp_Ro_put wJ_Ro_put_31
  rw [hw]
  refine ⟨R.1, _, c_Ro_hasY R hj, ?_⟩
  rintro _ _ ⟨rfl, rfl⟩
  have hne : a ≠ b := fun z => by have := R.1; rw [z, R.2.2.1] at this; cases this
  refine ⟨fun c => absurd c (by decide), fun _ => ⟨R.1, b, R.2.1, bs.length, j, ⟨R.2.2.1, hw, hj, by have := R.2.2.2.1; omega⟩, ?_⟩⟩
  show _ = _
  rw [hI_pI_ne (fun z => hne z.1), hw, nI_1]
/-- a byte written -/
theorem Rw.set (R : Rw h a b bs) {j v : Nat} (hj : j < bs.length) (hv : v < 256) : Rw (pI h b j (nI v)) a b (bs.set j v) := by
  obtain ⟨r1, r2, r3, r4, r5, r6⟩ := R
  refine ⟨r1, r2, by rw [List.length_set]; exact r3, by rw [List.length_set]; exact r4, fun i hi => ?_, fun i => ?_⟩
  · rw [List.length_set] at hi
    by_cases e : i = j
    · subst e
      rw [hI_pI_eq]
      simp [List.getD_eq_getElem?_getD, hi]
    · rw [hI_pI_ne (fun z => e z.2), r5 i hi]
      simp [List.getD_eq_getElem?_getD, List.getElem?_set_ne (Ne.symm e)]
  · by_cases e : i = j
    · subst e
      simp [List.getD_eq_getElem?_getD, hj, hv]
    · have := r6 i
      simpa [List.getD_eq_getElem?_getD, List.getElem?_set_ne (Ne.symm e)] using this
theorem Rw.kept {h' : Hp} (R : Rw h a b bs) (s1 : hS h' a = hS h a) (s2 : hR h' a 0 = hR h a 0) (s3 : hS h' b = hS h b) (s4 : hI h' b = hI h b) : Rw h' a b bs := by
  obtain ⟨r1, r2, r3, r4, r5, r6⟩ := R
  exact ⟨by rw [s1]; exact r1, by rw [s2]; exact r2, by rw [s3]; exact r3, r4, fun j hj => by rw [s4]; exact r5 j hj, r6⟩
end RW
