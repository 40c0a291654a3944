/-- how many digits -/
def nd (v : Nat) : Nat := if v < 10 then 1 else if v < 100 then 2 else if v < 1000 then 3 else if v < 10000 then 4 else if v < 100000 then 5 else if v < 1000000 then 6 else if v < 10000000 then 7 else if v < 100000000 then 8 else if v < 1000000000 then 9 else if v < 10000000000 then 10 else if v < 100000000000 then 11 else 12
theorem nd_eq {v n : Nat} (h1 : 1 ≤ n) (h2 : n ≤ 12) (h3 : 10 ^ (n - 1) ≤ v) (h4 : v < 10 ^ n) : nd v = n := by
  rcases (show n = 1 ∨ n = 2 ∨ n = 3 ∨ n = 4 ∨ n = 5 ∨ n = 6 ∨ n = 7 ∨ n = 8 ∨ n = 9 ∨ n = 10 ∨ n = 11 ∨ n = 12 by omega) with rfl | rfl | rfl | rfl | rfl | rfl | rfl | rfl | rfl | rfl | rfl | rfl <;> (unfold nd; repeat (first | rw [if_pos (by omega)] | rw [if_neg (by omega)]))
theorem nd_ok {v : Nat} (h1 : 1 ≤ v) (h2 : v < 1000000000000) : 1 ≤ nd v ∧ nd v ≤ 12 ∧ 10 ^ (nd v - 1) ≤ v ∧ v < 10 ^ nd v := by
  unfold nd
  split <;> (try split) <;> (try split) <;> (try split) <;> (try split) <;> (try split) <;> (try split) <;> (try split) <;> (try split) <;> (try split) <;> (try split) <;> (refine ⟨by omega, by omega, ?_, ?_⟩ <;> simp <;> omega)
/-- an address -/
def adr (v : Nat) : List Nat := nd v :: 145 :: dgs v (nd v)
section R4
variable {G : Gx} {l : Launch} {d w : Nat} {h : Hp} {a b : Nat}
theorem c_Ro_digitsOf' {v : Nat} (h1 : 1 ≤ v) (h2 : v < 1000000000000) : Ci G l M_Ro_digitsOf (d + 0) (w + 0) [.long (lN v)] h 0 0 (Xi (nI (nd v)) h) := (c_Ro_digitsOf h1 h2).mono (fun x h' ⟨e, n, e1, e2, e3, e4, e5⟩ => ⟨by rw [e1, nd_eq e2 e3 e4 e5], e⟩)
theorem RB.len {bs : List Nat} {wr : Nat} (B : RB h a b bs wr) : bs.length ≤ 200 := B.1.2.2.2.1
theorem bt_lt {bs : List Nat} (R : Rw h a b bs) (j : Nat) : bt bs j < 256 := R.2.2.2.2.2 j
/-- one byte changed by a merge -/
theorem c_RB_merge {bs : List Nat} {wr j v : Nat} (B : RB h a b bs wr) (hj : j < bs.length) (hv : bt bs j ||| v < 256) : Cv G l M_Ro_merge (d + 1) (w + 21) [.ref a, .int (nI j), .int (nI v)] h 0 0 (fun h' => RB h' a b (bs.set j (bt bs j ||| v)) wr ∧ Wr h h' a b) := by
  refine (c_Ro_mergeY B.1 hj (nI v)).mono ?_
  rintro _ rfl
  have e1 : hI h b j ||| nI v = nI (bt bs j ||| v) := by rw [B.1.2.2.2.2.1 j hj, nI_or]; rfl
  rw [e1]
  refine ⟨⟨B.1.set hj hv, ?_, by rw [List.length_set]; exact B.2.2⟩, wr_b⟩
  rw [hI_pI_ne (fun z => B.1.ab z.1)]
  exact B.2.1
/-- the digits of v, count of them -/
theorem c_RB_putDigits {P : List Nat} {m v count : Nat} (hc : 1 ≤ count) (hc2 : count ≤ 14) (hv : v < 9000000000000000000) (B : RB h a b (P ++ zs (m + (count + 1) / 2)) P.length) : Cv G l M_Ro_putDigits (d + 2) (w + 43) [.ref a, .long (lN v), .int (nI count)] h 0 0 (fun h' => RB h' a b ((P ++ dgs v count) ++ zs m) (P ++ dgs v count).length ∧ Wr h h' a b) := by
  have hlen := B.len
  rw [List.length_append, zs_len] at hlen
  refine ok_Ro_putDigits ?_
  unfold wp_Ro_putDigits
  rw [B.2.1]
  refine ⟨B.1.1, ?_⟩
  rintro _ rfl
  unfold wL_Ro_putDigits_9
  -- the first loop: the room for them
  refine ⟨fun x h' => ∃ i, x = nI (2 * i) ∧ i ≤ (count + 1) / 2 ∧ RB h' a b ((P ++ (pd v count count).take i) ++ zs (m + ((count + 1) / 2 - i))) (P ++ (pd v count count).take i).length ∧ Wr h h' a b, fun x _ => count + 1 - x.toNatClampNeg, ⟨0, rfl, by omega, by simpa using B, Wr.rfl⟩, ?_⟩
  rintro _ h1 ⟨i, rfl, hi, B1, W1⟩
  unfold wB_Ro_putDigits_9
  refine ⟨fun c => ?_, fun c => ?_⟩
  · have hge : count ≤ 2 * i := (nI_leI (by omega) (by omega)).mp c
    have ei : i = (count + 1) / 2 := by omega
    subst ei
    rw [show (pd v count count).take ((count + 1) / 2) = pd v count count from List.take_of_length_le (by rw [pd_len]; omega), Nat.sub_self, Nat.add_zero] at B1
    rw [show (1 : Int32) = nI 1 from rfl, pk_sub hc]
    rintro _ rfl
    unfold wL_Ro_putDigits_48
    refine ⟨fun y x h' => ∃ K, x = nI K - 1 ∧ K ≤ count ∧ y = lN (v / 10 ^ (count - K)) ∧ RB h' a b ((P ++ pd v count K) ++ zs m) (P ++ dgs v count).length ∧ Wr h h' a b, fun _ x _ => (x + 1).toNatClampNeg, ⟨count, by rw [show (1 : Int32) = nI 1 from rfl, pk_sub hc], Nat.le_refl _, by simp, ?_, W1⟩, ?_⟩
    · have : (P ++ pd v count count).length = (P ++ dgs v count).length := by simp [dgs, pd_len]
      rw [← this]
      exact B1
    rintro _ _ h2 ⟨K, rfl, hK, rfl, B2, W2⟩
    unfold wB_Ro_putDigits_48
    rcases K with _ | k
    · refine ⟨fun _ => ⟨B2, W2⟩, fun c => absurd (by decide) c⟩
    · rw [nI_pred]
      have hk : k < count := by omega
      have e2 : nI k / 2 = nI (k / 2) := by rw [show (2 : Int32) = nI 2 from rfl, pk_div (by omega) (by decide) (by decide)]
      have e3 : nI k - nI k / 2 * 2 = nI (k % 2) := by rw [show (2 : Int32) = nI 2 from rfl, pk_rem (by omega) (by decide) (by decide)]
      have hq : v / 10 ^ (count - (k + 1)) ≤ v := Nat.div_le_self _ _
      have e4 : (lN (v / 10 ^ (count - (k + 1))) - lN (v / 10 ^ (count - (k + 1))) / 10 * 10).toInt32 = nI (dg v count k) := by
        rw [show (10 : Int64) = lN 10 from rfl, pk_lRem (Nat.lt_of_le_of_lt hq (by omega)) (by decide) (by decide), lN_i]
        unfold dg
        rw [show count - (k + 1) = count - 1 - k by omega]
      have hd := dg_lt v count k
      have hpw : 2 ^ (k % 2 * 4) ≤ 16 := by rcases (show k % 2 = 0 ∨ k % 2 = 1 by omega) with z | z <;> rw [z] <;> decide
      have hm : dg v count k * 2 ^ (k % 2 * 4) ≤ 9 * 16 := Nat.mul_le_mul (by omega) hpw
      have e5 : nI (dg v count k) <<< (nI (k % 2) * 4 &&& 31) = nI (dg v count k * 2 ^ (k % 2 * 4)) := by
        rw [show (4 : Int32) = nI 4 from rfl, pk_mul, nI_shl (by omega) (by omega)]
      rw [e3, e2, e4, e5, nI_add]
      have hj : k / 2 < (pd v count (k + 1)).length := by rw [pd_len]; omega
      have ebt : bt ((P ++ pd v count (k + 1)) ++ zs m) (P.length + k / 2) = (pd v count (k + 1)).getD (k / 2) 0 := bt_mid hj
      have hst := pd_step (v := v) hk
      refine ⟨fun c => absurd c (nI_pos (by omega)), fun _ => ⟨B2.1.1, _, c_RB_merge (v := dg v count k * 2 ^ (k % 2 * 4)) B2 (by simp [pd_len, zs_len]; omega) ?_, ?_⟩⟩
      · rw [ebt]
        have h9 : ((pd v count (k + 1)).set (k / 2) ((pd v count (k + 1)).getD (k / 2) 0 ||| dg v count k * 2 ^ (k % 2 * 4))).getD (k / 2) 0 < 256 := by rw [hst]; exact pd_lt
        rw [List.getD_eq_getElem?_getD, List.getElem?_set_self hj] at h9
        exact h9
      rintro h3 ⟨B3, W3⟩
      rw [show (10 : Int64) = lN 10 from rfl, pk_lDiv (Nat.lt_of_le_of_lt hq (by omega)) (by decide) (by decide)]
      rintro _ rfl _ rfl
      refine ⟨⟨k, by rw [Int32.sub_eq_add_neg], by omega, ?_, ?_, W2.trans W3⟩, ?_⟩
      · rw [Nat.div_div_eq_div_mul, ← Nat.pow_succ, show (count - (k + 1)).succ = count - k by omega]
      · rw [ebt, set_mid hj, hst] at B3
        exact B3
      · show (nI k + -1 + 1).toNatClampNeg < (nI k + 1).toNatClampNeg
        have : nI k + -1 + 1 = nI k := by rw [Int32.add_assoc]; simp
        rw [this, nI_1, nI_clamp (by omega), nI_clamp (by omega)]
        omega
  · have hlt : 2 * i < count := by
      rcases Nat.lt_or_ge (2 * i) count with z | z
      · exact z
      · exact absurd (nI_le z (by omega)) c
    have hi2 : i < (count + 1) / 2 := by omega
    have key : ∀ v0 : Nat, v0 < 256 → (pd v count count)[i]? = some v0 → wJ_Ro_putDigits_31 G l d w (fun h' => RB h' a b ((P ++ dgs v count) ++ zs m) (P ++ dgs v count).length ∧ Wr h h' a b) (fun x5_ h_ => (∃ i, x5_ = nI (2 * i) ∧ i ≤ (count + 1) / 2 ∧ RB h_ a b ((P ++ (pd v count count).take i) ++ zs (m + ((count + 1) / 2 - i))) (P ++ (pd v count count).take i).length ∧ Wr h h_ a b) ∧ count + 1 - x5_.toNatClampNeg < count + 1 - (nI (2 * i)).toNatClampNeg) a (lN v) (nI count) (nI P.length) (nI (2 * i)) (nI v0) a h1 := by
      intro v0 hv0 e0
      unfold wJ_Ro_putDigits_31
      have B1' : RB h1 a b ((P ++ (pd v count count).take i) ++ zs (m + ((count + 1) / 2 - (i + 1)) + 1)) (P ++ (pd v count count).take i).length := by
        rw [show m + ((count + 1) / 2 - (i + 1)) + 1 = m + ((count + 1) / 2 - i) by omega]
        exact B1
      refine ⟨B1.1.1, _, c_RB_put B1' hv0, ?_⟩
      rintro h2 ⟨B2, W2⟩ _ rfl
      have e6 : (P ++ (pd v count count).take i) ++ [v0] = P ++ (pd v count count).take (i + 1) := by
        rw [List.append_assoc, List.take_succ, e0]
        rfl
      rw [e6] at B2
      rw [show (2 : Int32) = nI 2 from rfl, nI_add, nI_clamp (by omega), nI_clamp (by omega)]
      exact ⟨⟨i + 1, by rw [show 2 * (i + 1) = 2 * i + 2 by omega], by omega, B2, W1.trans W2⟩, by omega⟩
    rw [nI_1]
    refine ⟨fun c2 => ?_, fun c2 => ?_⟩
    · have : count ≤ 2 * i + 1 := (nI_leI (by omega) (by omega)).mp c2
      exact key 240 (by decide) (by rw [pd_at hi2, if_neg (by omega), if_neg (by omega)])
    · have : 2 * i + 1 < count := by
        rcases Nat.lt_or_ge (2 * i + 1) count with z | z
        · exact z
        · exact absurd (nI_le z (by omega)) c2
      exact key 0 (by decide) (by rw [pd_at hi2, if_neg (by omega), if_pos this, if_neg (by omega)])
end R4
