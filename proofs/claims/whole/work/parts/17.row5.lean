section R5
variable {G : Gx} {l : Launch} {d w : Nat} {h : Hp} {a b : Nat}
theorem dgs_len (v count : Nat) : (dgs v count).length = (count + 1) / 2 := pd_len _ _ _
theorem adr_len (v : Nat) : (adr v).length = 2 + (nd v + 1) / 2 := by simp [adr, dgs_len]; omega
theorem c_RB_put2 {P : List Nat} {m m' v : Nat} (hm : m' = m + 1) (B : RB h a b (P ++ zs m') P.length) (hv : v < 256) : Cv G l M_Ro_put (d + 1) (w + 21) [.ref a, .int (nI v)] h 0 0 (fun h' => RB h' a b ((P ++ [v]) ++ zs m) (P ++ [v]).length ∧ Wr h h' a b) := by
  subst hm
  exact c_RB_put B hv
theorem c_RB_putAddress {P : List Nat} {m v : Nat} (h1 : 1 ≤ v) (h2 : v < 1000000000000) (B : RB h a b (P ++ zs (m + (adr v).length)) P.length) : Cv G l M_Ro_putAddress (d + 3) (w + 70) [.ref a, .long (lN v)] h 0 0 (fun h' => RB h' a b ((P ++ adr v) ++ zs m) (P ++ adr v).length ∧ Wr h h' a b) := by
  obtain ⟨n1, n2, -, -⟩ := nd_ok h1 h2
  rw [adr_len] at B
  refine ok_Ro_putAddress ?_
  unfold wp_Ro_putAddress
  refine ⟨_, c_Ro_digitsOf' h1 h2, ?_⟩
  rintro _ _ ⟨rfl, rfl⟩
  refine ⟨B.1.1, _, c_RB_put2 (v := nd v) (m := m + (nd v + 1) / 2 + 1) (by omega) B (by omega), ?_⟩
  rintro h1' ⟨B1, W1⟩
  refine ⟨B1.1.1, _, c_RB_put2 (v := 145) (m := m + (nd v + 1) / 2) rfl B1 (by omega), ?_⟩
  rintro h2' ⟨B2, W2⟩
  refine ⟨B2.1.1, _, c_RB_putDigits n1 (by omega) (by omega) B2, ?_⟩
  rintro h3' ⟨B3, W3⟩
  have e : P ++ [nd v] ++ [145] ++ dgs v (nd v) = P ++ adr v := by simp [adr]
  rw [e] at B3
  exact ⟨B3, (W1.trans W2).trans W3⟩
theorem c_RB_putTime {P : List Nat} {m v : Nat} (h2 : v < 2147483648) (B : RB h a b (P ++ zs (m + 7)) P.length) : Cv G l M_Ro_putTime (d + 3) (w + 70) [.ref a, .int (nI v)] h 0 0 (fun h' => RB h' a b ((P ++ dgs v 14) ++ zs m) (P ++ dgs v 14).length ∧ Wr h h' a b) := by
  refine ok_Ro_putTime ?_
  unfold wp_Ro_putTime
  rw [nI_l h2]
  exact ⟨B.1.1, _, c_RB_putDigits (count := 14) (by decide) (by decide) (by omega) B, fun h' q => q⟩
theorem c_RB_putHeader {P : List Nat} {m r p q : Nat} (h1 : r < 256) (h2 : p < 256) (h3 : q < 256) (B : RB h a b (P ++ zs (m + 6)) P.length) : Cv G l M_Ro_putHeader (d + 2) (w + 42) [.ref a, .int (nI r), .int (nI p), .int (nI q)] h 0 0 (fun h' => RB h' a b ((P ++ [5, 0, 3, r, p, q]) ++ zs m) (P ++ [5, 0, 3, r, p, q]).length ∧ Wr h h' a b) := by
  refine ok_Ro_putHeader ?_
  unfold wp_Ro_putHeader
  refine ⟨B.1.1, _, c_RB_put2 (v := 5) (m := m + 5) rfl B (by omega), ?_⟩
  rintro h1' ⟨B1, W1⟩
  refine ⟨B1.1.1, _, c_RB_put2 (v := 0) (m := m + 4) rfl B1 (by omega), ?_⟩
  rintro h2' ⟨B2, W2⟩
  refine ⟨B2.1.1, _, c_RB_put2 (v := 3) (m := m + 3) rfl B2 (by omega), ?_⟩
  rintro h3' ⟨B3, W3⟩
  refine ⟨B3.1.1, _, c_RB_put2 (m := m + 2) rfl B3 h1, ?_⟩
  rintro h4' ⟨B4, W4⟩
  refine ⟨B4.1.1, _, c_RB_put2 (m := m + 1) rfl B4 h2, ?_⟩
  rintro h5' ⟨B5, W5⟩
  refine ⟨B5.1.1, _, c_RB_put2 (m := m) rfl B5 h3, ?_⟩
  rintro h6' ⟨B6, W6⟩
  have e : P ++ [5] ++ [0] ++ [3] ++ [r] ++ [p] ++ [q] = P ++ [5, 0, 3, r, p, q] := by simp
  rw [e] at B6
  exact ⟨B6, ((((W1.trans W2).trans W3).trans W4).trans W5).trans W6⟩
theorem c_RB_putSubmitHead {P : List Nat} {m k n v y : Nat} (hk : k < 256) (hn : n < 256) (h1 : 1 ≤ v) (h2 : v < 1000000000000) (hy : y < 256) (B : RB h a b (P ++ zs (m + (5 + (adr v).length))) P.length) : Cv G l M_Ro_putSubmitHead (d + 4) (w + 93) [.ref a, .int (nI k), .int (nI n), .long (lN v), .int (nI y)] h 0 0 (fun h' => RB h' a b ((P ++ ([k, n] ++ adr v ++ [0, 0, y])) ++ zs m) (P ++ ([k, n] ++ adr v ++ [0, 0, y])).length ∧ Wr h h' a b) := by
  refine ok_Ro_putSubmitHead ?_
  unfold wp_Ro_putSubmitHead
  refine ⟨B.1.1, _, c_RB_put2 (m := m + (4 + (adr v).length)) (by omega) B hk, ?_⟩
  rintro h1' ⟨B1, W1⟩
  refine ⟨B1.1.1, _, c_RB_put2 (m := m + 3 + (adr v).length) (by omega) B1 hn, ?_⟩
  rintro h2' ⟨B2, W2⟩
  refine ⟨B2.1.1, _, c_RB_putAddress h1 h2 B2, ?_⟩
  rintro h3' ⟨B3, W3⟩
  refine ⟨B3.1.1, _, c_RB_put2 (v := 0) (m := m + 2) rfl B3 (by omega), ?_⟩
  rintro h4' ⟨B4, W4⟩
  refine ⟨B4.1.1, _, c_RB_put2 (v := 0) (m := m + 1) rfl B4 (by omega), ?_⟩
  rintro h5' ⟨B5, W5⟩
  refine ⟨B5.1.1, _, c_RB_put2 (m := m) rfl B5 hy, ?_⟩
  rintro h6' ⟨B6, W6⟩
  have e : P ++ [k] ++ [n] ++ adr v ++ [0] ++ [0] ++ [y] = P ++ ([k, n] ++ adr v ++ [0, 0, y]) := by simp
  rw [e] at B6
  exact ⟨B6, ((((W1.trans W2).trans W3).trans W4).trans W5).trans W6⟩
/-- the rest of another row -/
theorem c_RB_putRest {P bs : List Nat} {m a2 b2 i : Nat} (R2 : Rw h a2 b2 bs) (n1 : b2 ≠ a) (n2 : b2 ≠ b) (hi : i ≤ bs.length) (B : RB h a b (P ++ zs (m + (bs.length - i))) P.length) : Cv G l M_Ro_putRest (d + 2) (w + 42) [.ref a, .ref a2, .int (nI i)] h 0 0 (fun h' => RB h' a b ((P ++ bs.drop i) ++ zs m) (P ++ bs.drop i).length ∧ Wr h h' a b) := by
  have hlen := R2.2.2.2.1
  refine ok_Ro_putRest ?_
  unfold wp_Ro_putRest
  unfold wL_Ro_putRest_2
  refine ⟨fun x h' => ∃ k, x = nI (i + k) ∧ i + k ≤ bs.length ∧ RB h' a b ((P ++ (bs.drop i).take k) ++ zs (m + (bs.length - i - k))) (P ++ (bs.drop i).take k).length ∧ Wr h h' a b, fun x _ => bs.length - x.toNatClampNeg, ⟨0, by rw [Nat.add_zero], by omega, by simpa using B, Wr.rfl⟩, ?_⟩
  rintro _ h1 ⟨k, rfl, hk, B1, W1⟩
  have R2' : Rw h1 a2 b2 bs := R2.kept (by rw [W1.1]) (by rw [W1.2.2.1]) (by rw [W1.1]) (W1.2.2.2 b2 n1 n2)
  unfold wB_Ro_putRest_2
  refine ⟨R2'.1, _, c_Ro_size R2', ?_⟩
  rintro _ _ ⟨rfl, rfl⟩
  refine ⟨fun c => ?_, fun c => ?_⟩
  · have : bs.length ≤ i + k := (nI_leI (by omega) (by omega)).mp c
    rw [show (bs.drop i).take k = bs.drop i from List.take_of_length_le (by rw [List.length_drop]; omega), show bs.length - i - k = 0 by omega, Nat.add_zero] at B1
    exact ⟨B1, W1⟩
  · have hlt : i + k < bs.length := by
      rcases Nat.lt_or_ge (i + k) bs.length with z | z
      · exact z
      · exact absurd (nI_le z (by omega)) c
    refine ⟨R2'.1, _, c_Ro_at' R2' hlt, ?_⟩
    rintro _ _ ⟨rfl, rfl⟩
    refine ⟨B1.1.1, _, c_RB_put2 (m := m + (bs.length - i - (k + 1))) (by omega) B1 (R2.2.2.2.2.2 _), ?_⟩
    rintro h2 ⟨B2, W2⟩ _ rfl
    have e : P ++ (bs.drop i).take k ++ [bt bs (i + k)] = P ++ (bs.drop i).take (k + 1) := by
      rw [List.append_assoc, List.take_succ, List.getElem?_drop]
      unfold bt
      rw [List.getD_eq_getElem?_getD, List.getElem?_eq_getElem hlt]
      rfl
    rw [e] at B2
    rw [nI_1]
    refine ⟨⟨k + 1, rfl, by omega, B2, W1.trans W2⟩, ?_⟩
    show bs.length - (nI (i + k + 1)).toNatClampNeg < bs.length - (nI (i + k)).toNatClampNeg
    rw [nI_clamp (by omega), nI_clamp (by omega)]
    omega
/-- a new row of n bytes -/
theorem c_Ro_init {n : Nat} {o : Option Nat} (hs : hS h a = some (15, 0)) (hz : hI h a 1 = 0) (hn : n ≤ 200) : Cv G l M_Ro_init (d + 1) (w + 20) [.ref a, .int (nI n), va_rf o] h 1 n (fun h' => ∃ q, Fre h q ∧ h' = pR (pR (pN h q (0, n)) a 0 (some q)) a 2 o ∧ RB h' a q (zs n) 0) := by
  refine ok_Ro_init ?_
  unfold wp_Ro_init
  refine ⟨n, ⟨rfl, by omega, by omega⟩, by omega, fun q F => ⟨Fre.old F hs, by omega, q, F, rfl, ⟨Fre.old F hs, ?_, ?_, by rw [zs_len]; exact hn, fun j hj => ?_, fun j => ?_⟩, hz, Nat.zero_le _⟩⟩
  · rw [hR_pR_ne (by omega), hR_pR_eq]
  · rw [zs_len]; exact Fre.new
  · rw [zs_len] at hj
    rw [show (zs n).getD j 0 = 0 by simp [zs, List.getD_eq_getElem?_getD, List.getElem?_replicate, hj]]
    exact F.2.1 j
  · have : (zs n).getD j 0 = 0 := by
      simp only [zs, List.getD_eq_getElem?_getD, List.getElem?_replicate]
      split <;> rfl
    rw [this]; decide
end R5
