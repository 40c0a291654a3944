/-! the reference's side -/
theorem bt_set (bs : List Nat) (p x i : Nat) : bt (bs.set p x) i = if p = i ∧ i < bs.length then x else bt bs i := by
  unfold bt
  rw [List.getD_eq_getElem?_getD, List.getD_eq_getElem?_getD, List.getElem?_set]
  by_cases c : p = i
  · subst c
    by_cases c2 : p < bs.length
    · rw [if_pos rfl, if_pos c2, if_pos ⟨rfl, c2⟩]; rfl
    · rw [if_pos rfl, if_neg c2, if_neg (fun z => c2 z.2), List.getElem?_eq_none (by omega)]
  · rw [if_neg c, if_neg (fun z => c z.1)]
theorem bt_ext {a b : List Nat} (hl : a.length = b.length) (h : ∀ i, i < a.length → bt a i = bt b i) : a = b := by
  apply List.ext_getElem hl
  intro i h1 h2
  have := h i h1
  unfold bt at this
  rw [List.getD_eq_getElem?_getD, List.getD_eq_getElem?_getD, List.getElem?_eq_getElem h1, List.getElem?_eq_getElem h2] at this
  exact this
/-- one bit merged -/
def mb (bs : List Nat) (s n v : Nat) : List Nat := bs.set (s + n / 8) (bt bs (s + n / 8) ||| v * 2 ^ (n % 8))
theorem mb_len (bs : List Nat) (s n v : Nat) : (mb bs s n v).length = bs.length := List.length_set
theorem mb_num1 : ∀ v : Fin 128, ∀ r : Fin 8, ∀ k : Fin 7, r.val + k.val < 8 → (v.val % 2 ^ k.val * 2 ^ r.val % 256 ||| v.val / 2 ^ k.val % 2 * 2 ^ (r.val + k.val)) = v.val % 2 ^ (k.val + 1) * 2 ^ r.val % 256 ∧ v.val % 2 ^ k.val * 2 ^ r.val / 256 = v.val % 2 ^ (k.val + 1) * 2 ^ r.val / 256 := by decide +kernel
theorem mb_num2 : ∀ v : Fin 128, ∀ r : Fin 8, ∀ k : Fin 7, 8 ≤ r.val + k.val → v.val % 2 ^ k.val * 2 ^ r.val % 256 = v.val % 2 ^ (k.val + 1) * 2 ^ r.val % 256 ∧ (v.val % 2 ^ k.val * 2 ^ r.val / 256 ||| v.val / 2 ^ k.val % 2 * 2 ^ (r.val + k.val - 8)) = v.val % 2 ^ (k.val + 1) * 2 ^ r.val / 256 := by decide +kernel
theorem bt_mrg (bs : List Nat) (s bit v i : Nat) : bt (mrg bs s bit v) i = if s + bit / 8 = i ∧ i < bs.length then bt bs i ||| v * 2 ^ (bit % 8) % 256 else if s + bit / 8 + 1 = i ∧ i < bs.length then bt bs i ||| v * 2 ^ (bit % 8) / 256 else bt bs i := by
  unfold mrg
  simp only [bt_set, List.length_set]
  by_cases c1 : s + bit / 8 = i
  · subst c1
    rw [if_neg (by omega)]
    by_cases c2 : s + bit / 8 < bs.length
    · rw [if_pos ⟨rfl, c2⟩, if_pos ⟨rfl, c2⟩]
    · rw [if_neg (by omega), if_neg (by omega), if_neg (by omega)]
  · rw [if_neg (show ¬ (s + bit / 8 = i ∧ i < bs.length) by omega), if_neg (show ¬ (s + bit / 8 = i ∧ i < bs.length) by omega)]
    by_cases c2 : s + bit / 8 + 1 = i ∧ i < bs.length
    · rw [if_pos c2, if_pos c2, if_neg (by omega), c2.1]
    · rw [if_neg c2, if_neg c2]
/-- a septet merged bit by bit -/
theorem mb_step {bs : List Nat} {s bit v k : Nat} (hv : v < 128) (hk : k < 7) : mb (mrg bs s bit (v % 2 ^ k)) s (bit + k) (v / 2 ^ k % 2) = mrg bs s bit (v % 2 ^ (k + 1)) := by
  have hr : bit % 8 < 8 := Nat.mod_lt _ (by decide)
  refine bt_ext (by rw [mb_len, mrg_len, mrg_len]) (fun i hi => ?_)
  rw [mb_len, mrg_len] at hi
  unfold mb
  rw [bt_set, mrg_len]
  by_cases c : bit % 8 + k < 8
  · have n1 := mb_num1 ⟨v, hv⟩ ⟨bit % 8, hr⟩ ⟨k, hk⟩ c
    have e1 : (bit + k) / 8 = bit / 8 := by omega
    have e2 : (bit + k) % 8 = bit % 8 + k := by omega
    rw [e1, e2, bt_mrg, bt_mrg, bt_mrg]
    simp only at n1
    by_cases c1 : s + bit / 8 = i
    · subst c1
      rw [if_pos ⟨rfl, hi⟩, if_pos ⟨rfl, hi⟩, if_pos ⟨rfl, hi⟩, Nat.or_assoc, n1.1]
    · rw [if_neg (show ¬ (s + bit / 8 = i ∧ i < bs.length) by omega), if_neg (show ¬ (s + bit / 8 = i ∧ i < bs.length) by omega), if_neg (show ¬ (s + bit / 8 = i ∧ i < bs.length) by omega), n1.2]
  · have n1 := mb_num2 ⟨v, hv⟩ ⟨bit % 8, hr⟩ ⟨k, hk⟩ (by show 8 ≤ bit % 8 + k; omega)
    have e1 : (bit + k) / 8 = bit / 8 + 1 := by omega
    have e2 : (bit + k) % 8 = bit % 8 + k - 8 := by omega
    rw [e1, e2, bt_mrg, bt_mrg, bt_mrg]
    simp only at n1
    by_cases c1 : s + bit / 8 = i
    · subst c1
      rw [if_neg (show ¬ (s + (bit / 8 + 1) = s + bit / 8 ∧ s + bit / 8 < bs.length) by omega), if_pos ⟨rfl, hi⟩, if_pos ⟨rfl, hi⟩, n1.1]
    · by_cases c2 : s + bit / 8 + 1 = i
      · have : s + (bit / 8 + 1) = i := by omega
        rw [this, if_pos ⟨rfl, hi⟩, if_neg (show ¬ (s + bit / 8 = i ∧ i < bs.length) by omega), if_pos ⟨c2, hi⟩, if_neg (show ¬ (s + bit / 8 = i ∧ i < bs.length) by omega), if_pos ⟨c2, hi⟩, Nat.or_assoc, n1.2]
      · rw [if_neg (show ¬ (s + (bit / 8 + 1) = i ∧ i < bs.length) by omega), if_neg (show ¬ (s + bit / 8 = i ∧ i < bs.length) by omega), if_neg (show ¬ (s + bit / 8 + 1 = i ∧ i < bs.length) by omega), if_neg (show ¬ (s + bit / 8 = i ∧ i < bs.length) by omega), if_neg (show ¬ (s + bit / 8 + 1 = i ∧ i < bs.length) by omega)]
theorem mrg_0 (bs : List Nat) (s bit : Nat) : mrg bs s bit 0 = bs := by
  refine bt_ext (mrg_len _ _ _ _) (fun i hi => ?_)
  rw [bt_mrg]
  simp
/-- bit n of the bytes from s on -/
def bitN (bs : List Nat) (s n : Nat) : Nat := bt bs (s + n / 8) / 2 ^ (n % 8) % 2
theorem bit_or : ∀ x : Fin 256, ∀ v : Fin 2, ∀ a : Fin 8, ∀ b : Fin 8, (x.val ||| v.val * 2 ^ a.val) / 2 ^ b.val % 2 = if a = b then (x.val / 2 ^ b.val % 2 ||| v.val) else x.val / 2 ^ b.val % 2 := by decide +kernel
theorem mb_lt {bs : List Nat} {s m v : Nat} (hb : ∀ j, bt bs j < 256) (hv : v < 2) (j : Nat) : bt (mb bs s m v) j < 256 := by
  unfold mb
  rw [bt_set]
  split
  · refine Nat.or_lt_two_pow (n := 8) (hb _) ?_
    have h1 : 2 ^ (m % 8) ≤ 2 ^ 7 := Nat.pow_le_pow_right (by decide) (by omega)
    have h2 : v = 0 ∨ v = 1 := by omega
    rcases h2 with e | e <;> rw [e] <;> omega
  · exact hb j
theorem bitN_mb {bs : List Nat} {s m v n : Nat} (hb : ∀ j, bt bs j < 256) (hv : v < 2) (hm : s + m / 8 < bs.length) : bitN (mb bs s m v) s n = if n = m then (bitN bs s n ||| v) else bitN bs s n := by
  unfold bitN mb
  rw [bt_set]
  by_cases c : m / 8 = n / 8
  · rw [c] at hm ⊢
    rw [if_pos ⟨rfl, hm⟩]
    have := bit_or ⟨bt bs (s + n / 8), hb _⟩ ⟨v, hv⟩ ⟨m % 8, Nat.mod_lt _ (by decide)⟩ ⟨n % 8, Nat.mod_lt _ (by decide)⟩
    simp only [Fin.mk.injEq] at this
    rw [this]
    by_cases c2 : n = m
    · rw [if_pos (by rw [c2]), if_pos c2]
    · rw [if_neg (by omega), if_neg c2]
  · rw [if_neg (by omega), if_neg (by omega)]
theorem mrg_lt {bs : List Nat} {s bit v : Nat} (hb : ∀ j, bt bs j < 256) (hv : v < 128) (j : Nat) : bt (mrg bs s bit v) j < 256 := by
  rw [bt_mrg]
  have h1 : 2 ^ (bit % 8) ≤ 2 ^ 7 := Nat.pow_le_pow_right (by decide) (by omega)
  have h2 : v * 2 ^ (bit % 8) ≤ 127 * 2 ^ 7 := Nat.mul_le_mul (by omega) h1
  split
  · exact Nat.or_lt_two_pow (n := 8) (hb _) (Nat.mod_lt _ (by decide))
  · split
    · exact Nat.or_lt_two_pow (n := 8) (hb _) (by omega)
    · exact hb j
theorem bitN_mrgk {bs : List Nat} {s bit v n : Nat} (hb : ∀ j, bt bs j < 256) (hv : v < 128) (hm : s + (bit + 6) / 8 < bs.length) : ∀ k, k ≤ 7 → bitN (mrg bs s bit (v % 2 ^ k)) s n = if bit ≤ n ∧ n < bit + k then (bitN bs s n ||| v / 2 ^ (n - bit) % 2) else bitN bs s n
  | 0, _ => by rw [Nat.pow_zero, Nat.mod_one, mrg_0, if_neg (by omega)]
  | k + 1, hk => by
    rw [← mb_step hv (by omega), bitN_mb (fun j => mrg_lt hb (by have := Nat.mod_le v (2 ^ k); omega) j) (Nat.mod_lt _ (by decide)) (by rw [mrg_len]; omega), bitN_mrgk hb hv hm k (by omega)]
    by_cases c : n = bit + k
    · rw [if_pos c, if_neg (by omega), if_pos (by omega), c, Nat.add_sub_cancel_left]
    · rw [if_neg c]
      by_cases c2 : bit ≤ n ∧ n < bit + k
      · rw [if_pos c2, if_pos (by omega)]
      · rw [if_neg c2, if_neg (by omega)]
theorem bitN_mrg {bs : List Nat} {s bit v n : Nat} (hb : ∀ j, bt bs j < 256) (hv : v < 128) (hm : s + (bit + 6) / 8 < bs.length) : bitN (mrg bs s bit v) s n = if bit ≤ n ∧ n < bit + 7 then (bitN bs s n ||| v / 2 ^ (n - bit) % 2) else bitN bs s n := by
  have := bitN_mrgk (n := n) hb hv hm 7 (Nat.le_refl _)
  rwa [Nat.mod_eq_of_lt (show v < 2 ^ 7 by omega)] at this
theorem mrgL_lt {s : Nat} : ∀ (sp bs : List Nat) (bit : Nat), (∀ j, bt bs j < 256) → (∀ x ∈ sp, x < 128) → ∀ j, bt (mrgL bs s bit sp) j < 256
  | [], bs, bit, hb, _, j => hb j
  | v :: vs, bs, bit, hb, hv, j => mrgL_lt vs (mrg bs s bit v) (bit + 7) (mrg_lt hb (hv v (List.mem_cons_self ..))) (fun x hx => hv x (List.mem_cons_of_mem _ hx)) j
theorem bitN_mrgL {s n : Nat} : ∀ (sp bs : List Nat) (bit : Nat), (∀ j, bt bs j < 256) → (∀ x ∈ sp, x < 128) → (sp.length = 0 ∨ s + (bit + 7 * sp.length - 1) / 8 < bs.length) → bitN (mrgL bs s bit sp) s n = if bit ≤ n ∧ n < bit + 7 * sp.length then (bitN bs s n ||| bt sp ((n - bit) / 7) / 2 ^ ((n - bit) % 7) % 2) else bitN bs s n
  | [], bs, bit, _, _, _ => by rw [if_neg (by simp)]; rfl
  | v :: vs, bs, bit, hb, hv, hl => by
    have hv0 := hv v (List.mem_cons_self ..)
    have hl' : s + (bit + 7 * (vs.length + 1) - 1) / 8 < bs.length := by
      rcases hl with z | z
      · simp at z
      · simpa using z
    show bitN (mrgL (mrg bs s bit v) s (bit + 7) vs) s n = _
    rw [bitN_mrgL vs (mrg bs s bit v) (bit + 7) (mrg_lt hb hv0) (fun x hx => hv x (List.mem_cons_of_mem _ hx)) (by rw [mrg_len]; by_cases c : vs.length = 0; exact Or.inl c; right; omega), bitN_mrg hb hv0 (by omega)]
    rw [List.length_cons]
    by_cases c : bit + 7 ≤ n ∧ n < bit + 7 + 7 * vs.length
    · rw [if_pos c, if_neg (by omega), if_pos (by omega)]
      have e1 : (n - bit) / 7 = (n - (bit + 7)) / 7 + 1 := by omega
      have e2 : (n - bit) % 7 = (n - (bit + 7)) % 7 := by omega
      rw [e1, e2]
      rfl
    · rw [if_neg c]
      by_cases c2 : bit ≤ n ∧ n < bit + 7
      · rw [if_pos c2, if_pos (by omega)]
        have e1 : (n - bit) / 7 = 0 := by omega
        have e2 : (n - bit) % 7 = n - bit := by omega
        rw [e1, e2]
        rfl
      · rw [if_neg c2, if_neg (by omega)]
theorem bit_two {x y t : Nat} (hx : x < 256) (ht : t < 14) : (y * 256 + x) / 2 ^ t % 2 = if t < 8 then x / 2 ^ t % 2 else y / 2 ^ (t - 8) % 2 := by
  have : t = 0 ∨ t = 1 ∨ t = 2 ∨ t = 3 ∨ t = 4 ∨ t = 5 ∨ t = 6 ∨ t = 7 ∨ t = 8 ∨ t = 9 ∨ t = 10 ∨ t = 11 ∨ t = 12 ∨ t = 13 := by omega
  rcases this with e | e | e | e | e | e | e | e | e | e | e | e | e | e <;> subst e <;> simp only [Nat.reduceLT, if_true, if_false, Nat.reducePow, Nat.reduceSub] <;> omega
/-- a bit of a septet that is read -/
theorem sept_bit {bs : List Nat} {s bit j : Nat} (hb : ∀ j, bt bs j < 256) (hj : j < 7) : sept bs s bit / 2 ^ j % 2 = bitN bs s (bit + j) := by
  unfold sept bitN
  have hr : bit % 8 < 8 := Nat.mod_lt _ (by decide)
  generalize hX : bt bs (s + bit / 8) = X
  generalize hY : bt bs (s + bit / 8 + 1) = Y
  have hx : X < 256 := by rw [← hX]; exact hb _
  have e : (Y * 256 + X) / 2 ^ (bit % 8) % 128 / 2 ^ j % 2 = (Y * 256 + X) / 2 ^ (bit % 8 + j) % 2 := by
    rw [Nat.pow_add, ← Nat.div_div_eq_div_mul]
    generalize (Y * 256 + X) / 2 ^ (bit % 8) = Z
    have : j = 0 ∨ j = 1 ∨ j = 2 ∨ j = 3 ∨ j = 4 ∨ j = 5 ∨ j = 6 := by omega
    rcases this with e | e | e | e | e | e | e <;> subst e <;> simp only [Nat.reducePow] <;> omega
  rw [e, bit_two hx (by omega)]
  by_cases c : bit % 8 + j < 8
  · rw [if_pos c]
    have e1 : (bit + j) / 8 = bit / 8 := by omega
    have e2 : (bit + j) % 8 = bit % 8 + j := by omega
    rw [e1, e2, hX]
  · rw [if_neg c]
    have e1 : (bit + j) / 8 = bit / 8 + 1 := by omega
    have e2 : (bit + j) % 8 = bit % 8 + j - 8 := by omega
    rw [e1, e2, ← Nat.add_assoc, hY]
theorem acc_num : ∀ a : Fin 128, ∀ j : Fin 7, (a.val % 2 ^ j.val ||| a.val / 2 ^ j.val % 2 * 2 ^ j.val) = a.val % 2 ^ (j.val + 1) := by decide +kernel
/-- a septet read bit by bit -/
theorem acc_step {bs : List Nat} {s bit j : Nat} (hb : ∀ j, bt bs j < 256) (hj : j < 7) : (sept bs s bit % 2 ^ j ||| bitN bs s (bit + j) * 2 ^ j) = sept bs s bit % 2 ^ (j + 1) := by
  rw [← sept_bit hb hj]
  exact acc_num ⟨sept bs s bit, sept_lt _ _ _⟩ ⟨j, hj⟩
theorem seps_at {bs : List Nat} {s : Nat} : ∀ (n bit k : Nat), k < n → bt (seps bs s bit n) k = sept bs s (bit + 7 * k)
  | 0, _, _, h => absurd h (Nat.not_lt_zero _)
  | n + 1, bit, 0, _ => rfl
  | n + 1, bit, k + 1, h => by
    show bt (seps bs s (bit + 7) n) k = _
    rw [seps_at n (bit + 7) k (by omega)]
    congr 1
    omega
theorem seps_lt {bs : List Nat} {s : Nat} : ∀ (n bit : Nat), ∀ x ∈ seps bs s bit n, x < 128
  | 0, _, x, h => by cases h
  | n + 1, bit, x, h => by
    rcases List.mem_cons.mp h with e | e
    · rw [e]; exact sept_lt _ _ _
    · exact seps_lt n (bit + 7) x e
theorem byte_num : ∀ x : Fin 256, ∀ y : Fin 256, (∀ i : Fin 8, x.val / 2 ^ i.val % 2 = y.val / 2 ^ i.val % 2) → x.val = y.val := by
  intro x y h
  have h0 := h 0
  have h1 := h 1
  have h2 := h 2
  have h3 := h 3
  have h4 := h 4
  have h5 := h 5
  have h6 := h 6
  have h7 := h 7
  have := x.isLt
  have := y.isLt
  simp only [Fin.isValue, Fin.val_zero, Fin.val_one, Fin.val_two, Nat.reducePow] at h0 h1 h2
  have e3 : (3 : Fin 8).val = 3 := rfl
  have e4 : (4 : Fin 8).val = 4 := rfl
  have e5 : (5 : Fin 8).val = 5 := rfl
  have e6 : (6 : Fin 8).val = 6 := rfl
  have e7 : (7 : Fin 8).val = 7 := rfl
  rw [e3] at h3
  rw [e4] at h4
  rw [e5] at h5
  rw [e6] at h6
  rw [e7] at h7
  simp only [Nat.reducePow] at h3 h4 h5 h6 h7
  omega
theorem byte_ext {x y : Nat} (hx : x < 256) (hy : y < 256) (h : ∀ i, i < 8 → x / 2 ^ i % 2 = y / 2 ^ i % 2) : x = y := byte_num ⟨x, hx⟩ ⟨y, hy⟩ (fun i => h i.val i.isLt)
/-- bytes from their bits -/
theorem bt_bits {a b : List Nat} {s i : Nat} (ha : ∀ j, bt a j < 256) (hb : ∀ j, bt b j < 256) (h : ∀ n, n / 8 = i → bitN a s n = bitN b s n) : bt a (s + i) = bt b (s + i) := by
  refine byte_ext (ha _) (hb _) (fun k hk => ?_)
  have := h (8 * i + k) (by omega)
  unfold bitN at this
  have e1 : (8 * i + k) / 8 = i := by omega
  have e2 : (8 * i + k) % 8 = k := by omega
  rwa [e1, e2] at this
