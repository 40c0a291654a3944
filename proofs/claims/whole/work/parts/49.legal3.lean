/-! the reference's side -/
theorem numN_dig {bs : List Nat} {s : Nat} : ∀ m, (∀ k, k < m → nib bs s k ≤ 9) → ∀ i, i < m → numN bs s m / 10 ^ (m - 1 - i) % 10 = nib bs s i
  | 0, _, i, h => absurd h (Nat.not_lt_zero _)
  | m + 1, hd, i, h => by
    show (10 * numN bs s m + nib bs s m) / 10 ^ (m + 1 - 1 - i) % 10 = _
    have h9 := hd m (by omega)
    by_cases c : i = m
    · subst c
      rw [Nat.add_sub_cancel, Nat.sub_self, Nat.pow_zero]
      omega
    · have e : m + 1 - 1 - i = (m - 1 - i) + 1 := by omega
      rw [e, Nat.pow_succ, Nat.mul_comm (10 ^ (m - 1 - i)) 10, ← Nat.div_div_eq_div_mul]
      have : (10 * numN bs s m + nib bs s m) / 10 = numN bs s m := by omega
      rw [this]
      exact numN_dig m (fun k hk => hd k (by omega)) i (by omega)
theorem numN_ge {bs : List Nat} {s : Nat} (h0 : 1 ≤ nib bs s 0) : ∀ m, 1 ≤ m → 10 ^ (m - 1) ≤ numN bs s m
  | 0, h => absurd h (by decide)
  | 1, _ => by
    show 1 ≤ 10 * 0 + nib bs s 0
    omega
  | m + 2, _ => by
    have := numN_ge h0 (m + 1) (by omega)
    show 10 ^ (m + 1) ≤ 10 * numN bs s (m + 1) + nib bs s (m + 1)
    rw [Nat.add_sub_cancel] at this
    rw [Nat.pow_succ]
    omega
theorem numN_le0 {bs : List Nat} {s : Nat} (h0 : nib bs s 0 = 0) : ∀ m, (∀ k, k < m + 1 → nib bs s k ≤ 9) → numN bs s (m + 1) < 10 ^ m
  | 0, _ => by
    show 10 * 0 + nib bs s 0 < 1
    omega
  | m + 1, hd => by
    have := numN_le0 h0 m (fun k hk => hd k (by omega))
    have h9 := hd (m + 1) (by omega)
    show 10 * numN bs s (m + 1) + nib bs s (m + 1) < 10 ^ (m + 1)
    rw [Nat.pow_succ]
    omega
theorem nib_byte {bs : List Nat} (hb : ∀ j, bt bs j < 256) (s j : Nat) : bt bs (s + j) = nib bs s (2 * j) + 16 * nib bs s (2 * j + 1) := by
  unfold nib
  have e1 : 2 * j / 2 = j := by omega
  have e2 : (2 * j + 1) / 2 = j := by omega
  have e3 : 2 * j % 2 = 0 := by omega
  have e4 : (2 * j + 1) % 2 = 1 := by omega
  rw [e1, e2, e3, e4]
  have := hb (s + j)
  simp only [Nat.reducePow]
  omega
theorem dgs_at {v n j : Nat} (hj : j < (n + 1) / 2) : bt (dgs v n) j = dg v n (2 * j) + 16 * (if 2 * j + 1 < n then dg v n (2 * j + 1) else 15) := by
  unfold bt dgs
  rw [List.getD_eq_getElem?_getD, pd_at hj]
  simp
theorem bt_mrgL_lo {s i : Nat} (hi : i < s) : ∀ (sp bs : List Nat) (bit : Nat), bt (mrgL bs s bit sp) i = bt bs i
  | [], _, _ => rfl
  | v :: vs, bs, bit => by
    show bt (mrgL (mrg bs s bit v) s (bit + 7) vs) i = _
    rw [bt_mrgL_lo hi vs, bt_mrg, if_neg (by omega), if_neg (by omega)]
/-- what the reference reads of a row before it writes it anew -/
def LC (bs : List Nat) : Prop := (1 ≤ bt bs 2 ∧ bt bs 2 ≤ 12 ∧ 4 + (bt bs 2 + 1) / 2 ≤ bs.length ∧ (∀ k, k < bt bs 2 → nib bs 4 k ≤ 9) ∧ sTo bs ≠ 0) ∧ (sda bs < bs.length ∧ bt bs (sda bs) ≤ 160 ∧ sda bs + 1 + (7 * bt bs (sda bs) + 7) / 8 = bs.length) ∧ ((hdr bs = true → 7 ≤ bt bs (sda bs)) ∧ bt bs (sda bs - 1) ≤ 143) ∧ (hdr bs = true → 1 ≤ bt bs (sda bs + 5) ∧ bt bs (sda bs + 5) ≤ 3 ∧ 1 ≤ bt bs (sda bs + 6) ∧ bt bs (sda bs + 6) ≤ bt bs (sda bs + 5)) ∧ isT false (seps bs (sda bs + 1) (fbit bs) (tcount bs (bt bs (sda bs)))) = true
def lhd (bs : List Nat) : List Nat := if hdr bs then [5, 0, 3, bt bs (sda bs + 4), bt bs (sda bs + 5), bt bs (sda bs + 6)] else []
def knd (bs : List Nat) : Nat := 17 + (if wnt bs then 32 else 0) + (if hdr bs then 64 else 0)
/-- what it writes anew -/
def RE (bs : List Nat) : List Nat := subR (knd bs) (bt bs 1) (sTo bs) (bt bs (sda bs - 1)) (lhd bs) (seps bs (sda bs + 1) (fbit bs) (tcount bs (bt bs (sda bs))))
theorem knd_hdr (bs : List Nat) (r : List Nat) : hdr (knd bs :: r) = hdr bs := by
  show decide (knd bs / 64 % 2 = 1) = hdr bs
  unfold knd
  cases hdr bs <;> cases wnt bs <;> rfl
theorem knd_lt (bs : List Nat) : knd bs < 128 ∧ knd bs % 32 = 17 := by
  unfold knd
  cases hdr bs <;> cases wnt bs <;> decide
theorem knd_eq {bs : List Nat} (h1 : bt bs 0 % 32 = 17) (h2 : bt bs 0 < 128) : knd bs = bt bs 0 := by
  unfold knd wnt hdr
  have : ∀ x : Fin 128, x.val % 32 = 17 → 17 + (if decide (x.val / 32 % 2 = 1) then 32 else 0) + (if decide (x.val / 64 % 2 = 1) then 64 else 0) = x.val := by decide +kernel
  exact this ⟨bt bs 0, h2⟩ h1
/-- the row that it writes: its head, its length, its bits -/
theorem LC.re {bs : List Nat} (L : LC bs) (hb : ∀ j, bt bs j < 256) : ∃ B : List Nat, RE bs = mrgL B (8 + (nd (sTo bs) + 1) / 2) (fbit bs) (seps bs (sda bs + 1) (fbit bs) (tcount bs (bt bs (sda bs)))) ∧ B = subB (knd bs) (bt bs 1) (sTo bs) (bt bs (sda bs - 1)) (bt bs (sda bs)) (lhd bs) ∧ B.length = 8 + (nd (sTo bs) + 1) / 2 + (7 * bt bs (sda bs) + 7) / 8 ∧ (∀ j, bt B j < 256) ∧ (∀ j, j < 8 + (nd (sTo bs) + 1) / 2 → bt B j = bt ([knd bs, bt bs 1] ++ adr (sTo bs) ++ [0, 0, bt bs (sda bs - 1)] ++ [bt bs (sda bs)]) j) ∧ ∀ j, bt B (8 + (nd (sTo bs) + 1) / 2 + j) = bt (lhd bs) j := by
  obtain ⟨⟨a1, a2, a3, a4, a5⟩, ⟨b1, b2, b3⟩, ⟨c1, c2⟩, c3, c4⟩ := L
  have t1 : 1 ≤ sTo bs := by omega
  have t2 : sTo bs < 1000000000000 := by
    have := numN_lt (bs := bs) (s := 4) (bt bs 2) a4
    have h2 : (10 : Nat) ^ bt bs 2 ≤ 10 ^ 12 := Nat.pow_le_pow_right (by decide) a2
    have e : (10 : Nat) ^ 12 = 1000000000000 := by decide
    unfold sTo
    omega
  have hlen : (seps bs (sda bs + 1) (fbit bs) (tcount bs (bt bs (sda bs)))).length + (if (lhd bs).length = 0 then 0 else 7) = bt bs (sda bs) := by
    rw [seps_len]
    unfold tcount lhd
    cases hh : hdr bs
    · simp
    · have := c1 hh
      simp
      omega
  have e1 : RE bs = mrgL (subB (knd bs) (bt bs 1) (sTo bs) (bt bs (sda bs - 1)) (bt bs (sda bs)) (lhd bs)) (8 + (bt (subB (knd bs) (bt bs 1) (sTo bs) (bt bs (sda bs - 1)) (bt bs (sda bs)) (lhd bs)) 2 + 1) / 2) (fbit (subB (knd bs) (bt bs 1) (sTo bs) (bt bs (sda bs - 1)) (bt bs (sda bs)) (lhd bs))) (seps bs (sda bs + 1) (fbit bs) (tcount bs (bt bs (sda bs)))) := by
    unfold RE subR
    rw [hlen]
  have e2 : bt (subB (knd bs) (bt bs 1) (sTo bs) (bt bs (sda bs - 1)) (bt bs (sda bs)) (lhd bs)) 2 = nd (sTo bs) := rfl
  have e3 : fbit (subB (knd bs) (bt bs 1) (sTo bs) (bt bs (sda bs - 1)) (bt bs (sda bs)) (lhd bs)) = fbit bs := by
    unfold fbit
    have : hdr (subB (knd bs) (bt bs 1) (sTo bs) (bt bs (sda bs - 1)) (bt bs (sda bs)) (lhd bs)) = hdr bs := knd_hdr bs _
    rw [this]
  rw [e2, e3] at e1
  have hH : ([knd bs, bt bs 1] ++ adr (sTo bs) ++ [0, 0, bt bs (sda bs - 1)] ++ [bt bs (sda bs)]).length = 8 + (nd (sTo bs) + 1) / 2 := by
    simp only [List.length_append, adr_len, List.length_cons, List.length_nil]
    omega
  have hh6 : (lhd bs).length ≤ (7 * bt bs (sda bs) + 7) / 8 := by
    unfold lhd
    cases hh : hdr bs
    · simp
    · have := c1 hh
      simp
      omega
  have hB : subB (knd bs) (bt bs 1) (sTo bs) (bt bs (sda bs - 1)) (bt bs (sda bs)) (lhd bs) = ([knd bs, bt bs 1] ++ adr (sTo bs) ++ [0, 0, bt bs (sda bs - 1)] ++ [bt bs (sda bs)]) ++ (lhd bs ++ zs ((7 * bt bs (sda bs) + 7) / 8 - (lhd bs).length)) := by
    unfold subB
    rw [List.nil_append, List.append_assoc]
  refine ⟨_, e1, rfl, ?_, ?_, ?_, ?_⟩
  · rw [hB, List.length_append, hH, List.length_append, zs_len]
    omega
  · refine all_bt (fun x hx => ?_)
    rw [hB] at hx
    simp only [List.mem_append, List.mem_cons, List.not_mem_nil, or_false] at hx
    rcases hx with (((((z | z) | z) | z | z | z) | z) | z | z)
    · rw [z]; have := knd_lt bs; omega
    · rw [z]; exact hb _
    · exact adr_all t1 t2 x z
    · rw [z]; decide
    · rw [z]; decide
    · rw [z]; exact hb _
    · rw [z]; exact hb _
    · unfold lhd at z
      split at z
      · simp only [List.mem_cons, List.not_mem_nil, or_false] at z
        rcases z with z | z | z | z | z | z <;> rw [z]
        · decide
        · decide
        · decide
        · exact hb _
        · exact hb _
        · exact hb _
      · cases z
    · have := List.eq_of_mem_replicate z
      rw [this]; decide
  · intro j hj
    rw [hB, bt_app_l (by rw [hH]; exact hj)]
  · intro j
    rw [hB, ← hH, bt_app_r]
    by_cases c : j < (lhd bs).length
    · rw [bt_app_l c]
    · have e : j = (lhd bs).length + (j - (lhd bs).length) := by omega
      rw [bt_out (Nat.le_of_not_lt c), e, bt_app_r]
      unfold bt zs
      rw [List.getD_eq_getElem?_getD, List.getElem?_replicate]
      split <;> rfl
theorem or_0 (x : Nat) : (0 ||| x) = x := by simp
/-- its head, byte by byte -/
theorem re_head {bs : List Nat} {k : Nat} (hm : nd (sTo bs) = k) (h : List Nat) (e : h = [knd bs, bt bs 1] ++ adr (sTo bs) ++ [0, 0, bt bs (sda bs - 1)] ++ [bt bs (sda bs)]) : bt h 0 = knd bs ∧ bt h 1 = bt bs 1 ∧ bt h 2 = k ∧ bt h 3 = 145 ∧ (∀ j, j < (k + 1) / 2 → bt h (4 + j) = bt (dgs (sTo bs) k) j) ∧ bt h (4 + (k + 1) / 2) = 0 ∧ bt h (5 + (k + 1) / 2) = 0 ∧ bt h (6 + (k + 1) / 2) = bt bs (sda bs - 1) ∧ bt h (7 + (k + 1) / 2) = bt bs (sda bs) := by
  have e' : h = [knd bs, bt bs 1, k, 145] ++ (dgs (sTo bs) k ++ [0, 0, bt bs (sda bs - 1), bt bs (sda bs)]) := by
    rw [e, adr, hm]
    simp
  have l4 : ([knd bs, bt bs 1, k, 145] : List Nat).length = 4 := rfl
  have hd : ∀ j, bt h (4 + j) = bt (dgs (sTo bs) k ++ [0, 0, bt bs (sda bs - 1), bt bs (sda bs)]) j := fun j => by
    rw [e']
    exact bt_app_r (A := [knd bs, bt bs 1, k, 145])
  have hz : ∀ j, bt h (4 + ((k + 1) / 2 + j)) = bt [0, 0, bt bs (sda bs - 1), bt bs (sda bs)] j := fun j => by
    rw [hd]
    have := dgs_len (sTo bs) k
    rw [← this]
    exact bt_app_r
  refine ⟨by rw [e']; rfl, by rw [e']; rfl, by rw [e']; rfl, by rw [e']; rfl, fun j hj => ?_, ?_, ?_, ?_, ?_⟩
  · rw [hd, bt_app_l (by rw [dgs_len]; exact hj)]
  · exact hz 0
  · rw [show 5 + (k + 1) / 2 = 4 + ((k + 1) / 2 + 1) by omega]; exact hz 1
  · rw [show 6 + (k + 1) / 2 = 4 + ((k + 1) / 2 + 2) by omega]; exact hz 2
  · rw [show 7 + (k + 1) / 2 = 4 + ((k + 1) / 2 + 3) by omega]; exact hz 3
theorem Lg.lc {bs : List Nat} (L : Lg bs) : LC bs ∧ nd (sTo bs) = bt bs 2 := by
  have t := Lg_to L
  obtain ⟨⟨k1, k2⟩, ⟨a1, a2, a3, a4, a5, a6⟩, ⟨v1, v2, v3, v4⟩, ⟨u1, u2, u3, u4, u5, u6⟩⟩ := L
  have hs : sda bs = 7 + (bt bs 2 + 1) / 2 := rfl
  refine ⟨⟨⟨a2, a3, by omega, fun k hk => (a5 k hk).2.1, by omega⟩, ⟨u1, u2, by omega⟩, ⟨fun hh => (u4 hh).1, v4⟩, fun hh => ?_, u6⟩, ?_⟩
  · have := (u4 hh).2
    have q1 : bt bs (sda bs + 1 + 4) = bt bs (sda bs + 5) := rfl
    have q2 : bt bs (sda bs + 1 + 5) = bt bs (sda bs + 6) := rfl
    obtain ⟨_, _, _, z1, z2, z3, z4, _⟩ := this
    rw [q1] at z1 z2 z4
    rw [q2] at z3 z4
    exact ⟨z1, z2, z3, z4⟩
  · refine nd_eq a2 a3 ?_ ?_
    · exact numN_ge ((a5 0 (by omega)).2.2 rfl) _ a2
    · exact numN_lt _ (fun k hk => (a5 k hk).2.1)
/-- bits of the data: the reference's row has those of bs where text stands -/
theorem LC.bits {bs : List Nat} (L : LC bs) (hb : ∀ j, bt bs j < 256) (hm : nd (sTo bs) = bt bs 2) {n : Nat} : bitN (RE bs) (sda bs + 1) n = if fbit bs ≤ n ∧ n < 7 * bt bs (sda bs) then bitN bs (sda bs + 1) n else bt (lhd bs) (n / 8) / 2 ^ (n % 8) % 2 := by
  obtain ⟨B, e1, -, e3, e4, e5, e6⟩ := L.re hb
  have hs : 8 + (nd (sTo bs) + 1) / 2 = sda bs + 1 := by rw [hm]; unfold sda; omega
  rw [hs] at e1 e3 e5 e6
  obtain ⟨⟨a1, a2, a3, a4, a5⟩, ⟨b1, b2, b3⟩, ⟨c1, c2⟩, c3, c4⟩ := L
  have hu : fbit bs + 7 * tcount bs (bt bs (sda bs)) = 7 * bt bs (sda bs) := by
    unfold tcount fbit
    cases hh : hdr bs
    · simp
    · have := c1 hh
      simp
      omega
  have hB : ∀ n, bitN B (sda bs + 1) n = bt (lhd bs) (n / 8) / 2 ^ (n % 8) % 2 := fun n => by
    unfold bitN
    rw [e6]
  rw [e1, bitN_mrgL _ _ _ e4 (seps_lt _ _) (by rw [seps_len, hu, e3]; by_cases c : tcount bs (bt bs (sda bs)) = 0; exact Or.inl c; right; omega), seps_len, hu]
  by_cases c : fbit bs ≤ n ∧ n < 7 * bt bs (sda bs)
  · rw [if_pos c, if_pos c]
    have z : bitN B (sda bs + 1) n = 0 := by
      rw [hB]
      have : bt (lhd bs) (n / 8) = 0 := by
        apply bt_out
        unfold lhd
        rcases fbit_or bs with ⟨q1, q2⟩ | ⟨q1, q2⟩
        · rw [q1]
          simp
          omega
        · rw [q1]
          simp
      rw [this]
      simp
    rw [z, or_0, seps_at _ _ _ (by omega), sept_bit hb (Nat.mod_lt _ (by decide))]
    congr 1
    omega
  · rw [if_neg c, if_neg c, hB]
theorem bit_hi {x r k : Nat} (h : x / 2 ^ r = 0) (hk : r ≤ k) : x / 2 ^ k % 2 = 0 := by
  have h1 : x < 2 ^ r := by
    rcases Nat.lt_or_ge x (2 ^ r) with z | z
    · exact z
    · have := Nat.div_pos z (Nat.two_pow_pos r)
      omega
  have h2 : x < 2 ^ k := Nat.lt_of_lt_of_le h1 (Nat.pow_le_pow_right (by decide) hk)
  rw [Nat.div_eq_of_lt h2]
theorem hi_0 {x r : Nat} (hx : x < 256) (h : ∀ k, r ≤ k → k < 8 → x / 2 ^ k % 2 = 0) : x / 2 ^ r = 0 := by
  have h0 := h 0
  have h1 := h 1
  have h2 := h 2
  have h3 := h 3
  have h4 := h 4
  have h5 := h 5
  have h6 := h 6
  have h7 := h 7
  simp only [Nat.reducePow] at h0 h1 h2 h3 h4 h5 h6 h7
  by_cases c : 8 ≤ r
  · have : x < 2 ^ r := Nat.lt_of_lt_of_le (show x < 2 ^ 8 from hx) (Nat.pow_le_pow_right (by decide) c)
    exact Nat.div_eq_of_lt this
  · have : r = 0 ∨ r = 1 ∨ r = 2 ∨ r = 3 ∨ r = 4 ∨ r = 5 ∨ r = 6 ∨ r = 7 := by omega
    rcases this with e | e | e | e | e | e | e | e <;> subst e <;> simp only [Nat.reducePow] <;> omega
theorem Lg.re {bs : List Nat} (L : Lg bs) (hb : ∀ j, bt bs j < 256) : RE bs = bs := by
  obtain ⟨C, hm⟩ := L.lc
  obtain ⟨B, e1, -, e3, e4, e5, e6⟩ := C.re hb
  have C0 := C
  have hs : 8 + (nd (sTo bs) + 1) / 2 = sda bs + 1 := by rw [hm]; unfold sda; omega
  have hs' : sda bs = 7 + (bt bs 2 + 1) / 2 := rfl
  rw [hs] at e1 e3 e5 e6
  obtain ⟨⟨a1, a2, a3, a4, a5⟩, ⟨b1, b2, b3⟩, ⟨c1, c2⟩, c3, c4⟩ := C
  obtain ⟨⟨k1, k2⟩, ⟨l1, l2, l3, l4, l5, l6⟩, ⟨v1, v2, v3, v4⟩, ⟨u1, u2, u3, u4, u5, u6⟩⟩ := L
  have hl : (RE bs).length = bs.length := by rw [e1, mrgL_len, e3]; omega
  have hlt : ∀ j, bt (RE bs) j < 256 := by rw [e1]; exact mrgL_lt _ _ _ e4 (seps_lt _ _)
  refine bt_ext hl (fun i hi => ?_)
  rw [hl] at hi
  by_cases c : i < sda bs + 1
  · rw [e1, bt_mrgL_lo c, e5 i c]
    obtain ⟨h0, h1, h2, h3, h4, h5, h6, h7, h8⟩ := re_head hm _ rfl
    generalize [knd bs, bt bs 1] ++ adr (sTo bs) ++ [0, 0, bt bs (sda bs - 1)] ++ [bt bs (sda bs)] = hh at *
    by_cases i4 : i < 4
    · have : i = 0 ∨ i = 1 ∨ i = 2 ∨ i = 3 := by omega
      rcases this with e | e | e | e <;> subst e
      · rw [h0, knd_eq k1 k2]
      · exact h1
      · exact h2
      · rw [h3]; exact l4.symm
    · by_cases i5 : i < 4 + (bt bs 2 + 1) / 2
      · have ei : i = 4 + (i - 4) := by omega
        rw [ei, h4 _ (by omega), dgs_at (by omega), nib_byte hb]
        have hd : ∀ q, q < bt bs 2 → dg (sTo bs) (bt bs 2) q = nib bs 4 q := fun q hq => numN_dig _ a4 q hq
        rw [hd _ (by omega)]
        by_cases c2 : 2 * (i - 4) + 1 < bt bs 2
        · rw [if_pos c2, hd _ c2]
        · rw [if_neg c2]
          have e : 2 * (i - 4) + 1 = bt bs 2 := by omega
          have := (l6 (by omega)).2
          rw [e]
          rw [show (2 + 2 : Nat) = 4 from rfl] at this
          rw [this]
      · have : i = 4 + (bt bs 2 + 1) / 2 ∨ i = 5 + (bt bs 2 + 1) / 2 ∨ i = 6 + (bt bs 2 + 1) / 2 ∨ i = 7 + (bt bs 2 + 1) / 2 := by omega
        rcases this with e | e | e | e
        · rw [e, h5, ← v2, show sda bs - 3 = 4 + (bt bs 2 + 1) / 2 by omega]
        · rw [e, h6, ← v3, show sda bs - 2 = 5 + (bt bs 2 + 1) / 2 by omega]
        · rw [e, h7, show sda bs - 1 = 6 + (bt bs 2 + 1) / 2 by omega]
        · rw [e, h8, show sda bs = 7 + (bt bs 2 + 1) / 2 by omega]
  · have ei : i = sda bs + 1 + (i - (sda bs + 1)) := by omega
    rw [ei]
    refine bt_bits hlt hb (fun n hn => ?_)
    rw [C0.bits hb hm]
    by_cases c2 : fbit bs ≤ n ∧ n < 7 * bt bs (sda bs)
    · rw [if_pos c2]
    · rw [if_neg c2]
      unfold lhd
      by_cases c3 : n < fbit bs
      · rcases fbit_or bs with ⟨q1, q2⟩ | ⟨q1, q2⟩
        · obtain ⟨w0, w1, w2, w3, w4, w5, w6, w7⟩ := (u4 q1).2
          rw [q1, if_pos rfl]
          unfold bitN
          have : n / 8 = 0 ∨ n / 8 = 1 ∨ n / 8 = 2 ∨ n / 8 = 3 ∨ n / 8 = 4 ∨ n / 8 = 5 ∨ n = 48 := by omega
          rcases this with e | e | e | e | e | e | e
          · rw [e, Nat.add_zero, w0]; rfl
          · rw [e, w1]; rfl
          · rw [e, w2]; rfl
          · rw [e]; rfl
          · rw [e]; rfl
          · rw [e]; rfl
          · subst e
            rw [show (48 : Nat) / 8 = 6 from rfl, show (48 : Nat) % 8 = 0 from rfl, Nat.pow_zero, Nat.div_one, Nat.div_one, w7]
            rfl
        · omega
      · have hn7 : 7 * bt bs (sda bs) ≤ n := by omega
        have e7 : n / 8 = (7 * bt bs (sda bs)) / 8 := by omega
        have hz : bitN bs (sda bs + 1) n = 0 := by
          unfold bitN
          have q : sda bs + 1 + n / 8 = bs.length - 1 := by omega
          rw [q]
          exact bit_hi (u5 (by omega)) (by omega)
        rw [hz]
        have : bt (if hdr bs = true then [5, 0, 3, bt bs (sda bs + 4), bt bs (sda bs + 5), bt bs (sda bs + 6)] else []) (n / 8) = 0 := by
          apply bt_out
          rcases fbit_or bs with ⟨q1, q2⟩ | ⟨q1, q2⟩
          · have := c1 q1
            rw [q1]
            simp
            omega
          · rw [q1]
            simp
        rw [this]
        simp
theorem LC.lg {bs : List Nat} (C : LC bs) (hb : ∀ j, bt bs j < 256) (hre : RE bs = bs) : Lg bs := by
  have C0 := C
  obtain ⟨B, e1, -, e3, e4, e5, e6⟩ := C.re hb
  obtain ⟨⟨a1, a2, a3, a4, a5⟩, ⟨b1, b2, b3⟩, ⟨c1, c2⟩, c3, c4⟩ := C
  have t1 : 1 ≤ sTo bs := by omega
  have t2 : sTo bs < 1000000000000 := by
    have := numN_lt (bs := bs) (s := 4) (bt bs 2) a4
    have h2 : (10 : Nat) ^ bt bs 2 ≤ 10 ^ 12 := Nat.pow_le_pow_right (by decide) a2
    have e : (10 : Nat) ^ 12 = 1000000000000 := by decide
    unfold sTo
    omega
  have hx : ∀ j, j < 8 + (nd (sTo bs) + 1) / 2 → bt bs j = bt ([knd bs, bt bs 1] ++ adr (sTo bs) ++ [0, 0, bt bs (sda bs - 1)] ++ [bt bs (sda bs)]) j := fun j hj => by
    rw [← e5 j hj, ← bt_mrgL_lo (bit := fbit bs) hj (seps bs (sda bs + 1) (fbit bs) (tcount bs (bt bs (sda bs)))) B, ← e1, hre]
  have hm : nd (sTo bs) = bt bs 2 := by
    have := hx 2 (by omega)
    rw [(re_head rfl _ rfl).2.2.1] at this
    exact this.symm
  obtain ⟨h0, h1, h2, h3, h4, h5, h6, h7, h8⟩ := re_head hm _ rfl
  rw [hm] at hx
  generalize [knd bs, bt bs 1] ++ adr (sTo bs) ++ [0, 0, bt bs (sda bs - 1)] ++ [bt bs (sda bs)] = hh at *
  have hs' : sda bs = 7 + (bt bs 2 + 1) / 2 := rfl
  have hbits : ∀ n, ¬ (fbit bs ≤ n ∧ n < 7 * bt bs (sda bs)) → bitN bs (sda bs + 1) n = bt (lhd bs) (n / 8) / 2 ^ (n % 8) % 2 := fun n hn => by
    have := C0.bits (n := n) hb hm
    rw [hre, if_neg hn] at this
    exact this
  have k0 : bt bs 0 = knd bs := by rw [hx 0 (by omega), h0]
  have hnd := nd_ok t1 t2
  rw [hm] at hnd
  refine ⟨⟨by rw [k0]; exact (knd_lt bs).2, by rw [k0]; exact (knd_lt bs).1⟩, ⟨by omega, a1, a2, by rw [hx 3 (by omega), h3], fun k hk => ⟨by omega, a4 k hk, fun hk0 => ?_⟩, fun ho => ⟨by omega, ?_⟩⟩, ⟨by omega, ?_, ?_, c2⟩, b1, b2, by omega, fun hh1 => ⟨c1 hh1, ?_⟩, fun h8' => ?_, c4⟩
  · subst hk0
    rcases Nat.eq_zero_or_pos (nib bs (2 + 2) 0) with z | z
    · have hq : bt bs 2 = (bt bs 2 - 1) + 1 := by omega
      have := numN_le0 z (bt bs 2 - 1) (by rw [← hq]; exact a4)
      rw [← hq] at this
      have h10 := hnd.2.2.1
      unfold sTo at h10
      rw [show (2 + 2 : Nat) = 4 from rfl] at this
      omega
    · exact z
  · have hq : bt bs 2 = 2 * (bt bs 2 / 2) + 1 := by omega
    have e := hx (4 + bt bs 2 / 2) (by omega)
    rw [h4 _ (by omega), dgs_at (by omega), if_neg (by omega)] at e
    unfold nib
    rw [show (2 + 2 : Nat) = 4 from rfl, e, ho]
    have := dg_lt (sTo bs) (bt bs 2) (2 * (bt bs 2 / 2))
    simp only [Nat.pow_one]
    omega
  · rw [show sda bs - 3 = 4 + (bt bs 2 + 1) / 2 by omega, hx _ (by omega), h5]
  · rw [show sda bs - 2 = 5 + (bt bs 2 + 1) / 2 by omega, hx _ (by omega), h6]
  · have h7u := c1 hh1
    have hf : fbit bs = 49 := by unfold fbit; rw [hh1]; rfl
    have hB : ∀ i, i < 6 → bt bs (sda bs + 1 + i) = bt (lhd bs) i := fun i hi => by
      have hL : lhd bs = [5, 0, 3, bt bs (sda bs + 4), bt bs (sda bs + 5), bt bs (sda bs + 6)] := by unfold lhd; rw [hh1]; rfl
      refine byte_ext (hb _) ?_ (fun k hk => ?_)
      · rw [hL]
        refine all_bt (fun x hx => ?_) i
        simp only [List.mem_cons, List.not_mem_nil, or_false] at hx
        rcases hx with z | z | z | z | z | z <;> rw [z]
        · decide
        · decide
        · decide
        · exact hb _
        · exact hb _
        · exact hb _
      · have := hbits (8 * i + k) (by omega)
        unfold bitN at this
        rwa [show (8 * i + k) / 8 = i by omega, show (8 * i + k) % 8 = k by omega] at this
    have hL : lhd bs = [5, 0, 3, bt bs (sda bs + 4), bt bs (sda bs + 5), bt bs (sda bs + 6)] := by unfold lhd; rw [hh1]; rfl
    have c3' := c3 hh1
    refine ⟨?_, ?_, ?_, ?_, ?_, ?_, ?_, ?_⟩
    · have := hB 0 (by omega); rw [hL] at this; exact this
    · have := hB 1 (by omega); rw [hL] at this; exact this
    · have := hB 2 (by omega); rw [hL] at this; exact this
    · exact c3'.1
    · exact c3'.2.1
    · exact c3'.2.2.1
    · exact c3'.2.2.2
    · have := hbits 48 (by omega)
      unfold bitN at this
      rw [show (48 : Nat) / 8 = 6 from rfl, show (48 : Nat) % 8 = 0 from rfl, Nat.pow_zero, Nat.div_one, Nat.div_one, hL] at this
      exact this
  · refine hi_0 (hb _) (fun k hk hk8 => ?_)
    have q : bs.length - 1 = sda bs + 1 + (8 * ((7 * bt bs (sda bs)) / 8) + k) / 8 := by omega
    have := hbits (8 * ((7 * bt bs (sda bs)) / 8) + k) (by omega)
    unfold bitN at this
    rw [← q, show (8 * ((7 * bt bs (sda bs)) / 8) + k) % 8 = k by omega] at this
    rw [this]
    have z : bt (lhd bs) ((8 * ((7 * bt bs (sda bs)) / 8) + k) / 8) = 0 := by
      apply bt_out
      unfold lhd
      rcases fbit_or bs with ⟨q1, q2⟩ | ⟨q1, q2⟩
      · have := c1 q1
        rw [q1]
        simp
        omega
      · rw [q1]
        simp
    rw [z]
    simp
/-- the reference's verdict is the class's -/
theorem legal_iff {bs : List Nat} (hb : ∀ j, bt bs j < 256) : Lg bs ↔ (LC bs ∧ RE bs = bs) := ⟨fun L => ⟨L.lc.1, L.re hb⟩, fun z => z.1.lg hb z.2⟩
