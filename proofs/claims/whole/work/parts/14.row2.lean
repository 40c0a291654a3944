/-! reading a row -/
/-- digit k of those that begin at byte s -/
def nib (bs : List Nat) (s k : Nat) : Nat := bt bs (s + k / 2) / 16 ^ (k % 2) % 16
/-- the number of n digits that begin at byte s -/
def numN (bs : List Nat) (s : Nat) : Nat → Nat
  | 0 => 0
  | n + 1 => 10 * numN bs s n + nib bs s n
/-- seven bits from bit on, in the bytes from s on -/
def sept (bs : List Nat) (s bit : Nat) : Nat := (bt bs (s + bit / 8 + 1) * 256 + bt bs (s + bit / 8)) / 2 ^ (bit % 8) % 128
def hdr (bs : List Nat) : Bool := decide (bt bs 0 / 64 % 2 = 1)
def fbit (bs : List Nat) : Nat := if hdr bs then 49 else 0
theorem nib_lt (bs : List Nat) (s k : Nat) : nib bs s k < 16 := Nat.mod_lt _ (by decide)
section R2
variable {G : Gx} {l : Launch} {d w : Nat} {h : Hp} {a b : Nat} {bs : List Nat}
theorem c_Ro_digitAt (R : Rw h a b bs) {s k : Nat} (hs : s + k / 2 < bs.length) (hk : k < 1000) : Ci G l M_Ro_digitAt (d + 2) (w + 42) [.ref a, .int (nI s), .int (nI k)] h 0 0 (Xi (nI (nib bs s k)) h) := by
  have hb := R.2.2.2.1
  refine ok_Ro_digitAt ?_
  unfold wp_Ro_digitAt wJ_Ro_digitAt_32
  have e1 : nI s + nI k / 2 = nI (s + k / 2) := by rw [show (2 : Int32) = nI 2 from rfl, pk_div (by omega) (by decide) (by decide), nI_add]
  have e2 : nI k - nI k / 2 * 2 = nI (k % 2) := by rw [show (2 : Int32) = nI 2 from rfl, pk_rem (by omega) (by decide) (by decide)]
  rw [e1, e2]
  refine ⟨R.1, _, c_Ro_at' R hs, ?_⟩
  rintro _ _ ⟨rfl, rfl⟩
  have h256 : bt bs (s + k / 2) < 256 := R.2.2.2.2.2 _
  refine ⟨fun _ => ⟨fun c => ⟨?_, rfl⟩, fun c => ⟨?_, rfl⟩⟩, fun c => absurd (nI_pos' (by omega)) c⟩
  · have hk2 : k % 2 = 1 := by
      rcases (show k % 2 = 0 ∨ k % 2 = 1 by omega) with z | z
      · rw [z] at c; exact absurd rfl c
      · exact z
    rw [show (4 : Int32) = nI 4 from rfl, nI_shr (by decide) (by omega)]
    unfold nib
    rw [hk2]
    congr 1
    have : bt bs (s + k / 2) / 2 ^ 4 < 16 := by omega
    rw [show (16 : Nat) ^ 1 = 2 ^ 4 from rfl, Nat.mod_eq_of_lt this]
  · have hk2 : k % 2 = 0 := (nI_eq (b := 0) (by omega) (by decide)).mp c
    unfold nib
    rw [hk2, pk_andN (by omega) 4 (by decide)]
    congr 1
    simp
theorem c_Ro_digitAtN (R : Rw h a b bs) {s k : Nat} (hs : bs.length ≤ s + k / 2) (hk : k < 1000) (hs2 : s < 100000) : Ci G l M_Ro_digitAt (d + 2) (w + 42) [.ref a, .int (nI s), .int (nI k)] h 0 0 (Xi (-1) h) := by
  have hb := R.2.2.2.1
  refine ok_Ro_digitAt ?_
  unfold wp_Ro_digitAt wJ_Ro_digitAt_32
  have e1 : nI s + nI k / 2 = nI (s + k / 2) := by rw [show (2 : Int32) = nI 2 from rfl, pk_div (by omega) (by decide) (by decide), nI_add]
  rw [e1]
  refine ⟨R.1, _, c_Ro_at R _, ?_⟩
  rw [rAt_out hs (by omega)]
  rintro _ _ ⟨rfl, rfl⟩
  exact ⟨fun c => absurd c (by decide), fun _ => ⟨rfl, rfl⟩⟩
theorem bt_out {bs : List Nat} {j : Nat} (h : bs.length ≤ j) : bt bs j = 0 := by simp [bt, List.getD_eq_getElem?_getD, List.getElem?_eq_none h]
theorem c_Ro_septetAt (R : Rw h a b bs) {s bit : Nat} (hs : s < 1000) (hk : bit < 10000) : Ci G l M_Ro_septetAt (d + 1) (w + 21) [.ref a, .int (nI s), .int (nI bit)] h 0 0 (Xi (nI (sept bs s bit)) h) := by
  have hb := R.2.2.2.1
  refine ok_Ro_septetAt ?_
  unfold wp_Ro_septetAt
  have e1 : nI s + nI bit / 8 = nI (s + bit / 8) := by rw [show (8 : Int32) = nI 8 from rfl, pk_div (by omega) (by decide) (by decide), nI_add]
  have e2 : nI bit - nI bit / 8 * 8 = nI (bit % 8) := by rw [show (8 : Int32) = nI 8 from rfl, pk_rem (by omega) (by decide) (by decide)]
  rw [e1]
  rintro _ rfl
  have fin : ∀ lo hi : Nat, lo < 256 → hi < 256 → lo = bt bs (s + bit / 8) → hi = bt bs (s + bit / 8 + 1) → wJ_Ro_septetAt_49 G l d w (Xi (nI (sept bs s bit)) h) a (nI s) (nI bit) (nI (s + bit / 8)) (nI lo) (nI hi) h := by
    intro lo hi l1 l2 e3 e4
    unfold wJ_Ro_septetAt_49
    refine ⟨?_, rfl⟩
    rw [e2, show (8 : Int32) = nI 8 from rfl, nI_shl (by decide) (by omega), nI_or]
    have e5 : hi * 2 ^ 8 ||| lo = hi * 256 + lo := by
      have := Nat.shiftLeft_add_eq_or_of_lt (i := 8) (b := lo) (by omega) hi
      rw [Nat.shiftLeft_eq] at this
      rw [← this]
    rw [e5, nI_shr (by omega) (by omega), pk_andN (by
      have : (hi * 256 + lo) / 2 ^ (bit % 8) ≤ hi * 256 + lo := Nat.div_le_self _ _
      omega) 7 (by decide)]
    unfold sept
    rw [← e3, ← e4]
  have mid : ∀ lo : Nat, lo < 256 → lo = bt bs (s + bit / 8) → wJ_Ro_septetAt_25 G l d w (Xi (nI (sept bs s bit)) h) a (nI s) (nI bit) (nI (s + bit / 8)) (nI lo) h := by
    intro lo l1 e3
    unfold wJ_Ro_septetAt_25
    rw [nI_1]
    by_cases c : s + bit / 8 + 1 < bs.length
    · refine ⟨R.1, _, c_Ro_hasY R c, ?_⟩
      rintro _ _ ⟨rfl, rfl⟩
      refine ⟨fun z => absurd z (by decide), fun _ => ⟨R.1, b, R.2.1, bs.length, _, ⟨R.2.2.1, rfl, c, by omega⟩, ?_⟩⟩
      rw [R.2.2.2.2.1 _ c]
      exact fin lo _ l1 (R.2.2.2.2.2 _) e3 rfl
    · refine ⟨R.1, _, c_Ro_hasN R (Nat.not_lt.mp c) (by omega), ?_⟩
      rintro _ _ ⟨rfl, rfl⟩
      exact ⟨fun _ => fin lo 0 l1 (by decide) e3 (bt_out (Nat.not_lt.mp c)).symm, fun z => absurd rfl z⟩
  by_cases c : s + bit / 8 < bs.length
  · refine ⟨R.1, _, c_Ro_hasY R c, ?_⟩
    rintro _ _ ⟨rfl, rfl⟩
    refine ⟨fun z => absurd z (by decide), fun _ => ⟨R.1, b, R.2.1, bs.length, _, ⟨R.2.2.1, rfl, c, by omega⟩, ?_⟩⟩
    rw [R.2.2.2.2.1 _ c]
    exact mid _ (R.2.2.2.2.2 _) rfl
  · refine ⟨R.1, _, c_Ro_hasN R (Nat.not_lt.mp c) (by omega), ?_⟩
    rintro _ _ ⟨rfl, rfl⟩
    exact ⟨fun _ => mid 0 (by decide) (bt_out (Nat.not_lt.mp c)).symm, fun z => absurd rfl z⟩
theorem c_Ro_numberAt (R : Rw h a b bs) {s n : Nat} (hn : bt bs s = n) (h12 : n ≤ 12) (hs : s + 2 + (n + 1) / 2 ≤ bs.length) : Cl G l M_Ro_numberAt (d + 3) (w + 65) [.ref a, .int (nI s)] h 0 0 (Xl (lN (numN bs (s + 2) n)) h) := by
  have hb := R.2.2.2.1
  refine ok_Ro_numberAt ?_
  unfold wp_Ro_numberAt
  refine ⟨R.1, _, c_Ro_at' R (by omega), ?_⟩
  rintro _ _ ⟨rfl, rfl⟩
  rw [hn]
  unfold wL_Ro_numberAt_12
  refine ⟨fun y x h' => h = h' ∧ ∃ k, k ≤ n ∧ x = nI k ∧ y = lN (numN bs (s + 2) k), fun _ x _ => n - x.toNatClampNeg, ⟨rfl, 0, by omega, rfl, rfl⟩, ?_⟩
  rintro _ _ _ ⟨rfl, k, hk, rfl, rfl⟩
  unfold wB_Ro_numberAt_12
  refine ⟨fun c => ?_, fun c => ?_⟩
  · have : n ≤ k := (nI_leI (by omega) (by omega)).mp c
    rw [show k = n by omega]
    exact ⟨rfl, rfl⟩
  · have hlt : k < n := by
      rcases Nat.lt_or_ge k n with z | z
      · exact z
      · exact absurd (nI_le z (by omega)) c
    rw [show (2 : Int32) = nI 2 from rfl, nI_add]
    refine ⟨R.1, _, c_Ro_digitAt R (by omega) (by omega), ?_⟩
    rintro _ _ ⟨rfl, rfl⟩
    rintro _ rfl _ rfl
    refine ⟨⟨rfl, k + 1, hlt, nI_1 k, ?_⟩, ?_⟩
    · rw [nI_l (by have := nib_lt bs (s + 2) k; omega), show (10 : Int64) = lN 10 from rfl, lN_mul, lN_add]
      rfl
    · show n - (nI k + 1).toNatClampNeg < n - (nI k).toNatClampNeg
      rw [nI_1, nI_clamp (by omega), nI_clamp (by omega)]
      omega
theorem hdr_and {x : Nat} (hx : x < 256) : (nI x &&& 64 = 0) ↔ x / 64 % 2 = 0 := by
  have : ∀ y : Fin 256, (nI y.val &&& 64 = 0) ↔ y.val / 64 % 2 = 0 := by decide +kernel
  exact this ⟨x, hx⟩
theorem c_Ro_hasHeader (R : Rw h a b bs) (h0 : 0 < bs.length) : Ci G l M_Ro_hasHeader (d + 2) (w + 42) [.ref a] h 0 0 (Xi (if hdr bs then 1 else 0) h) := by
  refine ok_Ro_hasHeader ?_
  unfold wp_Ro_hasHeader wJ_Ro_hasHeader_16
  refine ⟨R.1, _, c_Ro_at' (j := 0) R h0, ?_⟩
  rintro _ _ ⟨rfl, rfl⟩
  have hx : bt bs 0 < 256 := R.2.2.2.2.2 0
  refine ⟨fun c => ⟨by decide, ?_, rfl⟩, fun c => ⟨by decide, ?_, rfl⟩⟩
  · have := (hdr_and hx).mp c
    simp [hdr, this]
  · have : ¬ bt bs 0 / 64 % 2 = 0 := fun z => c ((hdr_and hx).mpr z)
    have : bt bs 0 / 64 % 2 = 1 := by omega
    simp [hdr, this]
theorem c_Ro_firstBit (R : Rw h a b bs) (h0 : 0 < bs.length) : Ci G l M_Ro_firstBit (d + 3) (w + 62) [.ref a] h 0 0 (Xi (nI (fbit bs)) h) := by
  refine ok_Ro_firstBit ?_
  unfold wp_Ro_firstBit wJ_Ro_firstBit_13
  refine ⟨R.1, _, c_Ro_hasHeader R h0, ?_⟩
  rintro _ _ ⟨rfl, rfl⟩
  unfold fbit
  cases hdr bs
  · exact ⟨fun _ => ⟨rfl, rfl⟩, fun c => absurd rfl c⟩
  · exact ⟨fun c => absurd c (by decide), fun _ => ⟨rfl, rfl⟩⟩
theorem c_Ro_addressSize {n : Nat} (hn : n < 1000) : Ci G l M_Ro_addressSize (d + 0) (w + 0) [.int (nI n)] h 0 0 (Xi (nI (2 + (n + 1) / 2)) h) := by
  refine ok_Ro_addressSize ?_
  unfold wp_Ro_addressSize
  refine ⟨?_, rfl⟩
  rw [nI_1, show (2 : Int32) = nI 2 from rfl, pk_div (by omega) (by decide) (by decide), nI_add]
theorem c_Ro_dataSize {n : Nat} (hn : n < 1000) : Ci G l M_Ro_dataSize (d + 0) (w + 0) [.int (nI n)] h 0 0 (Xi (nI (1 + (7 * n + 7) / 8)) h) := by
  refine ok_Ro_dataSize ?_
  unfold wp_Ro_dataSize
  refine ⟨?_, rfl⟩
  rw [show (7 : Int32) = nI 7 from rfl, pk_mul, nI_add, show (8 : Int32) = nI 8 from rfl, pk_div (by omega) (by decide) (by decide), show (1 : Int32) = nI 1 from rfl, nI_add]
theorem c_Ro_submitDataAt (R : Rw h a b bs) (h0 : 2 < bs.length) : Ci G l M_Ro_submitDataAt (d + 2) (w + 42) [.ref a] h 0 0 (Xi (nI (7 + (bt bs 2 + 1) / 2)) h) := by
  refine ok_Ro_submitDataAt ?_
  unfold wp_Ro_submitDataAt
  refine ⟨R.1, _, c_Ro_at' (j := 2) R h0, ?_⟩
  rintro _ _ ⟨rfl, rfl⟩
  have hx : bt bs 2 < 256 := R.2.2.2.2.2 2
  refine ⟨_, c_Ro_addressSize (by omega), ?_⟩
  rintro _ _ ⟨rfl, rfl⟩
  refine ⟨?_, rfl⟩
  rw [show (2 : Int32) = nI 2 from rfl, nI_add, show (3 : Int32) = nI 3 from rfl, nI_add]
  congr 1
  omega
theorem c_Ro_deliverDataAt (R : Rw h a b bs) (h0 : 1 < bs.length) : Ci G l M_Ro_deliverDataAt (d + 2) (w + 42) [.ref a] h 0 0 (Xi (nI (12 + (bt bs 1 + 1) / 2)) h) := by
  refine ok_Ro_deliverDataAt ?_
  unfold wp_Ro_deliverDataAt
  refine ⟨R.1, _, c_Ro_at' (j := 1) R h0, ?_⟩
  rintro _ _ ⟨rfl, rfl⟩
  have hx : bt bs 1 < 256 := R.2.2.2.2.2 1
  refine ⟨_, c_Ro_addressSize (by omega), ?_⟩
  rintro _ _ ⟨rfl, rfl⟩
  refine ⟨?_, rfl⟩
  rw [show (1 : Int32) = nI 1 from rfl, nI_add, show (2 : Int32) = nI 2 from rfl, nI_add, show (7 : Int32) = nI 7 from rfl, nI_add]
  congr 1
  omega
end R2
