/-! writing a row -/
/-- only ints of a and b change -/
def Wr (h h' : Hp) (a b : Nat) : Prop := hS h' = hS h ∧ hL h' = hL h ∧ hR h' = hR h ∧ ∀ x, x ≠ a → x ≠ b → hI h' x = hI h x
theorem Wr.rfl {h : Hp} {a b : Nat} : Wr h h a b := ⟨Eq.refl _, Eq.refl _, Eq.refl _, fun _ _ _ => Eq.refl _⟩
theorem Wr.trans {h h1 h2 : Hp} {a b : Nat} (p : Wr h h1 a b) (q : Wr h1 h2 a b) : Wr h h2 a b := ⟨q.1.trans p.1, q.2.1.trans p.2.1, q.2.2.1.trans p.2.2.1, fun x n1 n2 => (q.2.2.2 x n1 n2).trans (p.2.2.2 x n1 n2)⟩
theorem wr_b {h : Hp} {a b k : Nat} {v : Int32} : Wr h (pI h b k v) a b := ⟨Eq.refl _, Eq.refl _, Eq.refl _, fun _ _ n2 => up2_off _ _ _ n2⟩
theorem wr_a {h : Hp} {a b k : Nat} {v : Int32} : Wr h (pI h a k v) a b := ⟨Eq.refl _, Eq.refl _, Eq.refl _, fun _ n1 _ => up2_off _ _ _ n1⟩
theorem Wr.Fr {h h' : Hp} {a b : Nat} (p : Wr h h' a b) : Fr h h' (fun x => x = a ∨ x = b) := ⟨fun x _ => by rw [p.1], fun x _ n => ⟨by rw [p.1], p.2.2.2 x (fun z => n (Or.inl z)) (fun z => n (Or.inr z)), by rw [p.2.1], by rw [p.2.2.1]⟩⟩
/-- a row that is being written: its bytes, how many are written -/
def RB (h : Hp) (a b : Nat) (bs : List Nat) (wr : Nat) : Prop := Rw h a b bs ∧ hI h a 1 = nI wr ∧ wr ≤ bs.length
def zs (n : Nat) : List Nat := List.replicate n 0
theorem zs_len (n : Nat) : (zs n).length = n := List.length_replicate
theorem Rw.ab {h : Hp} {a b : Nat} {bs : List Nat} (R : Rw h a b bs) : a ≠ b := fun z => by have := R.1; rw [z, R.2.2.1] at this; cases this
/-- digit i of the count digits of v -/
def dg (v count i : Nat) : Nat := v / 10 ^ (count - 1 - i) % 10
/-- the bytes of the digits from K on -/
def pd (v count K : Nat) : List Nat := (List.range ((count + 1) / 2)).map (fun j => (if K ≤ 2 * j then dg v count (2 * j) else 0) + 16 * (if 2 * j + 1 < count then (if K ≤ 2 * j + 1 then dg v count (2 * j + 1) else 0) else 15))
def dgs (v count : Nat) : List Nat := pd v count 0
theorem pd_len (v count K : Nat) : (pd v count K).length = (count + 1) / 2 := by simp [pd]
theorem pd_at {v count K j : Nat} (hj : j < (count + 1) / 2) : (pd v count K)[j]? = some ((if K ≤ 2 * j then dg v count (2 * j) else 0) + 16 * (if 2 * j + 1 < count then (if K ≤ 2 * j + 1 then dg v count (2 * j + 1) else 0) else 15)) := by
  simp [pd, List.getElem?_range hj]
theorem dg_lt (v count i : Nat) : dg v count i < 10 := Nat.mod_lt _ (by decide)
theorem pd_lt {v count K j : Nat} : (pd v count K).getD j 0 < 256 := by
  rw [List.getD_eq_getElem?_getD]
  by_cases hj : j < (count + 1) / 2
  · rw [pd_at hj]
    have h1 := dg_lt v count (2 * j)
    have h2 := dg_lt v count (2 * j + 1)
    simp only [Option.getD_some]
    split <;> split <;> (try split) <;> omega
  · rw [List.getElem?_eq_none (by rw [pd_len]; omega)]
    decide
theorem bt_mid {P X Z : List Nat} {j : Nat} (hj : j < X.length) : bt (P ++ X ++ Z) (P.length + j) = X.getD j 0 := by
  unfold bt
  rw [List.getD_eq_getElem?_getD, List.getD_eq_getElem?_getD, List.append_assoc, List.getElem?_append_right (by omega), Nat.add_sub_cancel_left, List.getElem?_append_left hj]
theorem set_mid {P X Z : List Nat} {j v : Nat} (hj : j < X.length) : (P ++ X ++ Z).set (P.length + j) v = P ++ X.set j v ++ Z := by
  rw [List.append_assoc, List.set_append_right _ _ (by omega), Nat.add_sub_cancel_left, List.set_append_left _ _ hj, List.append_assoc]
/-- one digit more -/
theorem pd_step {v count k : Nat} (hk : k < count) : (pd v count (k + 1)).set (k / 2) ((pd v count (k + 1)).getD (k / 2) 0 ||| dg v count k * 2 ^ (k % 2 * 4)) = pd v count k := by
  have hj : k / 2 < (count + 1) / 2 := by omega
  have hd := dg_lt v count k
  apply List.ext_getElem?
  intro i
  by_cases e : i = k / 2
  · subst e
    rw [List.getElem?_set_self (by rw [pd_len]; exact hj), List.getD_eq_getElem?_getD, pd_at hj, pd_at hj]
    congr 1
    simp only [Option.getD_some]
    rcases (show k % 2 = 0 ∨ k % 2 = 1 by omega) with z | z
    · have e2 : 2 * (k / 2) = k := by omega
      rw [e2, z, if_neg (show ¬ k + 1 ≤ k by omega), if_pos (show k + 1 ≤ k + 1 from Nat.le_refl _), if_pos (show k ≤ k from Nat.le_refl _), if_pos (show k ≤ k + 1 by omega)]
      generalize (if k + 1 < count then dg v count (k + 1) else 15) = H
      have := Nat.shiftLeft_add_eq_or_of_lt (i := 4) (b := dg v count k) (by omega) H
      rw [Nat.shiftLeft_eq] at this
      simp only [Nat.zero_mul, Nat.pow_zero, Nat.mul_one, Nat.zero_add]
      rw [Nat.mul_comm 16 H, show H * 16 = H * 2 ^ 4 from rfl, ← this]
      omega
    · have e2 : 2 * (k / 2) = k - 1 := by omega
      have e3 : k - 1 + 1 = k := by omega
      rw [e2, z, e3, if_neg (by omega), if_pos (by omega), if_neg (by omega), if_neg (by omega), if_pos (by omega), if_pos (Nat.le_refl _)]
      simp only [Nat.zero_or, Nat.mul_zero, Nat.zero_add]
      omega
  · rw [List.getElem?_set_ne (Ne.symm e)]
    by_cases hi : i < (count + 1) / 2
    · rw [pd_at hi, pd_at hi]
      have c1 : (k + 1 ≤ 2 * i) ↔ (k ≤ 2 * i) := by omega
      have c2 : (k + 1 ≤ 2 * i + 1) ↔ (k ≤ 2 * i + 1) := by omega
      simp only [c1, c2]
    · rw [List.getElem?_eq_none (by rw [pd_len]; omega), List.getElem?_eq_none (by rw [pd_len]; omega)]
section R3
variable {G : Gx} {l : Launch} {d w : Nat} {h : Hp} {a b : Nat}
theorem c_RB_put {P : List Nat} {m v : Nat} (B : RB h a b (P ++ zs (m + 1)) P.length) (hv : v < 256) : Cv G l M_Ro_put (d + 1) (w + 21) [.ref a, .int (nI v)] h 0 0 (fun h' => RB h' a b ((P ++ [v]) ++ zs m) (P ++ [v]).length ∧ Wr h h' a b) := by
  obtain ⟨R, hw, hl⟩ := B
  have hlt : P.length < (P ++ zs (m + 1)).length := by rw [List.length_append, zs_len]; omega
  refine (c_Ro_put R hlt hw (nI v)).mono ?_
  rintro _ rfl
  have e1 : (P ++ zs (m + 1)).set P.length v = (P ++ [v]) ++ zs m := by
    rw [List.set_append_right _ _ (Nat.le_refl _), Nat.sub_self, List.append_assoc]
    rfl
  have R2 := R.set hlt hv
  rw [e1] at R2
  have hne := R.ab
  refine ⟨⟨R2.kept rfl rfl rfl ?_, ?_, by simp⟩, wr_b.trans wr_a⟩
  · exact up2_off _ _ _ hne.symm
  · rw [hI_pI_eq]; simp
theorem c_Ro_digitsOf {v : Nat} (h1 : 1 ≤ v) (h2 : v < 1000000000000) : Ci G l M_Ro_digitsOf (d + 0) (w + 0) [.long (lN v)] h 0 0 (fun x h' => h = h' ∧ ∃ n, x = nI n ∧ 1 ≤ n ∧ n ≤ 12 ∧ 10 ^ (n - 1) ≤ v ∧ v < 10 ^ n) := by
  refine ok_Ro_digitsOf ?_
  unfold wp_Ro_digitsOf
  rw [show (10 : Int64) = lN 10 from rfl, pk_lDiv (by omega) (by decide) (by decide)]
  rintro _ rfl
  unfold wL_Ro_digitsOf_8
  refine ⟨fun x y h' => h = h' ∧ ∃ n, x = nI n ∧ 1 ≤ n ∧ n ≤ 12 ∧ 10 ^ (n - 1) ≤ v ∧ y = lN (v / 10 ^ n), fun x _ _ => 13 - x.toNatClampNeg, ⟨rfl, 1, rfl, by omega, by omega, by simpa using h1, rfl⟩, ?_⟩
  rintro _ _ _ ⟨rfl, n, rfl, n1, n2, n3, rfl⟩
  have hle : v / 10 ^ n ≤ v := Nat.div_le_self _ _
  have fin : v < 10 ^ n → wJ_Ro_digitsOf_32 G l d w (fun x h' => h = h' ∧ ∃ n, x = nI n ∧ 1 ≤ n ∧ n ≤ 12 ∧ 10 ^ (n - 1) ≤ v ∧ v < 10 ^ n) (lN v) (nI n) (lN (v / 10 ^ n)) h := fun z => ⟨rfl, n, rfl, n1, n2, n3, z⟩
  have hp : 0 < 10 ^ n := Nat.pow_pos (by decide)
  unfold wB_Ro_digitsOf_8
  have hc : lg_cmp (lN (v / 10 ^ n)) 0 ≤ 0 ↔ v / 10 ^ n = 0 := by
    unfold lg_cmp
    by_cases z : v / 10 ^ n = 0
    · rw [z]
      constructor
      · intro _; rfl
      · intro _; decide
    · have h3 : lN (v / 10 ^ n) > 0 := (pk_lLT (a := 0) (by decide) (Nat.lt_of_le_of_lt hle (by omega))).mpr (Nat.pos_of_ne_zero z)
      rw [if_pos h3]
      constructor
      · intro c; exact absurd c (by decide)
      · intro c; exact absurd c z
  refine ⟨fun c => fin ?_, fun c => ⟨fun c2 => fin ?_, fun c2 => ?_⟩⟩
  · exact (Nat.div_eq_zero_iff_lt hp).mp (hc.mp c)
  · have : 12 ≤ n := (nI_leI (a := 12) (by decide) (by omega)).mp c2
    rw [show n = 12 by omega]
    exact h2
  · have hn : n < 12 := by
      rcases Nat.lt_or_ge n 12 with z | z
      · exact z
      · exact absurd (nI_le (a := 12) z (by omega)) c2
    have hz : ¬ v / 10 ^ n = 0 := fun z => c (hc.mpr z)
    rw [show (10 : Int64) = lN 10 from rfl, pk_lDiv (by omega) (by decide) (by decide)]
    rintro _ rfl _ rfl
    refine ⟨⟨rfl, n + 1, nI_1 n, by omega, by omega, ?_, ?_⟩, ?_⟩
    · rw [Nat.add_sub_cancel]
      exact Nat.not_lt.mp (fun z => hz ((Nat.div_eq_zero_iff_lt hp).mpr z))
    · rw [Nat.pow_succ, Nat.div_div_eq_div_mul]
    · show 13 - (nI n + 1).toNatClampNeg < 13 - (nI n).toNatClampNeg
      rw [nI_1, nI_clamp (by omega), nI_clamp (by omega)]
      omega
end R3
