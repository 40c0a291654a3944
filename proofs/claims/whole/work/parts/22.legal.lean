/-! is a row a SUBMIT in the document's form -/
theorem eqL {n k : Nat} (hn : n < 2147483648) (hk : (OfNat.ofNat k : Nat) < 2147483648) : (nI n = (OfNat.ofNat k : Int32)) ↔ n = (OfNat.ofNat k : Nat) := nI_eq hn hk
theorem ltL {n k : Nat} (hn : n < 2147483648) (hk : (OfNat.ofNat k : Nat) < 2147483648) : (nI n < (OfNat.ofNat k : Int32)) ↔ n < (OfNat.ofNat k : Nat) := nI_ltI hn hk
theorem leL {n k : Nat} (hn : n < 2147483648) (hk : (OfNat.ofNat k : Nat) < 2147483648) : (nI n ≤ (OfNat.ofNat k : Int32)) ↔ n ≤ (OfNat.ofNat k : Nat) := nI_leI hn hk
theorem Llt {n k : Nat} (hn : n < 2147483648) (hk : (OfNat.ofNat k : Nat) < 2147483648) : ((OfNat.ofNat k : Int32) < nI n) ↔ (OfNat.ofNat k : Nat) < n := nI_ltI hk hn
theorem Lle {n k : Nat} (hn : n < 2147483648) (hk : (OfNat.ofNat k : Nat) < 2147483648) : ((OfNat.ofNat k : Int32) ≤ nI n) ↔ (OfNat.ofNat k : Nat) ≤ n := nI_leI hk hn
theorem litN (k : Nat) : (OfNat.ofNat k : Int32) = nI (OfNat.ofNat k) := rfl
/-- yes or no -/
def Xb (p : Prop) (h : Hp) : Int32 → Hp → Prop := fun x h' => h = h' ∧ ((x = 1 ∧ p) ∨ (x = 0 ∧ ¬ p))
theorem Xb.y {p : Prop} {h : Hp} (c : p) : Xb p h 1 h := ⟨rfl, Or.inl ⟨rfl, c⟩⟩
theorem Xb.n {p : Prop} {h : Hp} (c : ¬ p) : Xb p h 0 h := ⟨rfl, Or.inr ⟨rfl, c⟩⟩
def isT : Bool → List Nat → Bool
  | e, [] => !e
  | e, c :: cs => if e then (if 0 ≤ secN c then isT false cs else false) else isT (decide (c = 27)) cs
theorem isT_cons (e : Bool) (c : Nat) (cs : List Nat) : isT e (c :: cs) = if e then (if 0 ≤ secN c then isT false cs else false) else isT (decide (c = 27)) cs := rfl
def Lh (bs : List Nat) (s : Nat) : Prop := bt bs s = 5 ∧ bt bs (s + 1) = 0 ∧ bt bs (s + 2) = 3 ∧ 1 ≤ bt bs (s + 4) ∧ bt bs (s + 4) ≤ 3 ∧ 1 ≤ bt bs (s + 5) ∧ bt bs (s + 5) ≤ bt bs (s + 4) ∧ bt bs (s + 6) % 2 = 0
def Lu (bs : List Nat) (p : Nat) : Prop := p < bs.length ∧ bt bs p ≤ 160 ∧ bs.length = p + (1 + (7 * bt bs p + 7) / 8) ∧ (hdr bs = true → 7 ≤ bt bs p ∧ Lh bs (p + 1)) ∧ (7 * bt bs p % 8 ≠ 0 → bt bs (bs.length - 1) / 2 ^ (7 * bt bs p % 8) = 0) ∧ isT false (seps bs (p + 1) (fbit bs) (tcount bs (bt bs p))) = true
def La (bs : List Nat) (s : Nat) : Prop := s + 1 < bs.length ∧ 1 ≤ bt bs s ∧ bt bs s ≤ 12 ∧ bt bs (s + 1) = 145 ∧ (∀ k, k < bt bs s → s + 2 + k / 2 < bs.length ∧ nib bs (s + 2) k ≤ 9 ∧ (k = 0 → 1 ≤ nib bs (s + 2) k)) ∧ (bt bs s % 2 = 1 → s + 2 + bt bs s / 2 < bs.length ∧ nib bs (s + 2) (bt bs s) = 15)
/-- where a SUBMIT's user data begin -/
def sda (bs : List Nat) : Nat := 7 + (bt bs 2 + 1) / 2
def Lg (bs : List Nat) : Prop := (bt bs 0 % 32 = 17 ∧ bt bs 0 < 128) ∧ La bs 2 ∧ (sda bs - 1 < bs.length ∧ bt bs (sda bs - 3) = 0 ∧ bt bs (sda bs - 2) = 0 ∧ bt bs (sda bs - 1) ≤ 143) ∧ Lu bs (sda bs)
theorem and_97 {x : Nat} (hx : x < 256) : (nI x &&& (-97) = 17) ↔ (x % 32 = 17 ∧ x < 128) := by
  have : ∀ x : Fin 256, (nI x.val &&& (-97) = 17) ↔ (x.val % 32 = 17 ∧ x.val < 128) := by decide +kernel
  exact this ⟨x, hx⟩
theorem and_1 {x : Nat} (hx : x < 256) : (nI x &&& 1 = 0) ↔ x % 2 = 0 := by
  have : ∀ x : Fin 256, (nI x.val &&& 1 = 0) ↔ x.val % 2 = 0 := by decide +kernel
  exact this ⟨x, hx⟩
theorem fbit_or (bs : List Nat) : (hdr bs = true ∧ fbit bs = 49) ∨ (hdr bs = false ∧ fbit bs = 0) := by
  unfold fbit
  cases hdr bs
  · exact Or.inr ⟨rfl, rfl⟩
  · exact Or.inl ⟨rfl, rfl⟩
theorem tcount_end (bs : List Nat) (u k : Nat) : 7 * u ≤ fbit bs + 7 * k ↔ tcount bs u ≤ k := by
  unfold tcount
  rcases fbit_or bs with ⟨e1, e2⟩ | ⟨e1, e2⟩
  · rw [e1, e2, if_pos rfl]; omega
  · rw [e1, e2, if_neg (by decide)]; omega
theorem tcount_le (bs : List Nat) (u : Nat) : tcount bs u ≤ u := by unfold tcount; split <;> omega
theorem fbit_le (bs : List Nat) : fbit bs ≤ 49 := by rcases fbit_or bs with ⟨-, e2⟩ | ⟨-, e2⟩ <;> omega
theorem sept_lt (bs : List Nat) (s bit : Nat) : sept bs s bit < 128 := Nat.mod_lt _ (by decide)
section LG
variable {G : Gx} {l : Launch} {d w : Nat} {h : Hp} {a b : Nat} {bs : List Nat}
theorem c_Su_isText {p : Nat} (R : Rw h a b bs) (hp : p < bs.length) (hu : bt bs p ≤ 160) : Ci G l M_Su_isText (d + 4) (w + 82) [.ref a, .int (nI p)] h 0 0 (Xi (if isT false (seps bs (p + 1) (fbit bs) (tcount bs (bt bs p))) then 1 else 0) h) := by
  have hb := R.2.2.2.1
  refine ok_Su_isText ?_
  unfold wp_Su_isText
  refine ⟨R.1, _, c_Ro_at' R hp, ?_⟩
  rintro _ _ ⟨rfl, rfl⟩ _ rfl
  refine ⟨R.1, _, c_Ro_firstBit R (by omega), ?_⟩
  rintro _ _ ⟨rfl, rfl⟩
  rw [show (7 : Int32) = nI 7 from rfl, pk_mul]
  generalize hue : bt bs p = u at hu
  have hfl := fbit_le bs
  have htl := tcount_le bs u
  unfold wL_Su_isText_17
  refine ⟨fun x3 x4 h' => h = h' ∧ ∃ (k : Nat) (e : Bool), k ≤ tcount bs u ∧ x4 = nI (fbit bs + 7 * k) ∧ x3 = (if e then 1 else 0) ∧ isT e (seps bs (p + 1) (fbit bs + 7 * k) (tcount bs u - k)) = isT false (seps bs (p + 1) (fbit bs) (tcount bs u)), fun _ x4 _ => 10000 - x4.toNatClampNeg, ⟨rfl, 0, false, Nat.zero_le _, rfl, rfl, rfl⟩, ?_⟩
  rintro _ _ _ ⟨rfl, k, e, hk, rfl, rfl, he⟩
  unfold wB_Su_isText_17 wJ_Su_isText_66 wJ_Su_isText_65 wJ_Su_isText_66 wJ_Su_isText_81
  rw [nI_leI (by omega) (by omega), tcount_end]
  refine ⟨fun c => ?_, fun c => ?_⟩
  · have hz : tcount bs u - k = 0 := by omega
    rw [hz] at he
    rw [← he]
    cases e
    · exact ⟨fun c => absurd rfl c, fun _ => ⟨Or.inr rfl, rfl, rfl⟩⟩
    · exact ⟨fun _ => ⟨Or.inl rfl, rfl, rfl⟩, fun c => absurd c (by decide)⟩
  · have hz : tcount bs u - k = (tcount bs u - (k + 1)) + 1 := by omega
    rw [hz, seps_succ, isT_cons] at he
    have hbit : nI (fbit bs + 7 * k) + 7 = nI (fbit bs + 7 * (k + 1)) := by
      rw [show (7 : Int32) = nI 7 from rfl, nI_add]
      congr 1
    have hbit2 : fbit bs + 7 * (k + 1) = fbit bs + 7 * k + 7 := by omega
    have mu : 10000 - (nI (fbit bs + 7 * (k + 1))).toNatClampNeg < 10000 - (nI (fbit bs + 7 * k)).toNatClampNeg := by
      rw [nI_clamp (by omega), nI_clamp (by omega)]
      omega
    rw [show nI p + 1 = nI (p + 1) from nI_1 p]
    refine ⟨R.1, _, c_Ro_septetAt R (by omega) (by omega), ?_⟩
    rintro _ _ ⟨rfl, rfl⟩
    have hsl := sept_lt bs (p + 1) (fbit bs + 7 * k)
    rw [hbit]
    cases e
    · rw [if_neg (by decide)] at he
      refine ⟨fun _ => ⟨fun c2 => ?_, fun c2 => ?_⟩, fun c2 => absurd rfl c2⟩
      · rintro _ rfl
        rw [eqL (by omega) (by decide)] at c2
        rw [decide_eq_false c2] at he
        exact ⟨⟨rfl, k + 1, false, by omega, rfl, rfl, by rw [hbit2]; exact he⟩, mu⟩
      · rintro _ rfl
        rw [eqL (by omega) (by decide)] at c2
        rw [decide_eq_true c2] at he
        exact ⟨⟨rfl, k + 1, true, by omega, rfl, rfl, by rw [hbit2]; exact he⟩, mu⟩
    · rw [if_pos rfl] at he
      refine ⟨fun c2 => absurd c2 (by decide), fun _ => ⟨_, c_Al_second, ?_⟩⟩
      rintro _ _ ⟨rfl, rfl⟩
      refine ⟨fun c2 => ?_, fun c2 => ?_⟩
      · rintro _ rfl
        rw [if_pos c2] at he
        exact ⟨⟨rfl, k + 1, false, by omega, rfl, rfl, by rw [hbit2]; exact he⟩, mu⟩
      · rw [if_neg c2] at he
        rw [← he]
        exact ⟨rfl, rfl⟩
theorem c_Su_isHeader {s : Nat} (R : Rw h a b bs) (hs : s + 6 < bs.length) : Ci G l M_Su_isHeader (d + 2) (w + 42) [.ref a, .int (nI s)] h 0 0 (Xb (Lh bs s) h) := by
  have hb := R.2.2.2.1
  have lt := bt_lt R
  refine ok_Su_isHeader ?_
  unfold wp_Su_isHeader wJ_Su_isHeader_34 wJ_Su_isHeader_95 wJ_Su_isHeader_96
  simp only [litN, nI_add]
  refine ⟨R.1, _, c_Ro_at' R (by omega), ?_⟩
  rintro _ _ ⟨rfl, rfl⟩
  refine ⟨R.1, _, c_Ro_at' R (by omega), ?_⟩
  rintro _ _ ⟨rfl, rfl⟩
  refine ⟨R.1, _, c_Ro_at' R (by omega), ?_⟩
  rintro _ _ ⟨rfl, rfl⟩
  have l4 := lt (s + 4)
  have l5 := lt (s + 5)
  have l6 := lt (s + 6)
  have l0 := lt s
  have l1 := lt (s + 1)
  have l2 := lt (s + 2)
  have no : ¬ Lh bs s → (Xb (Lh bs s) h) (nI 0) h := fun n => Xb.n n
  rw [← show (1 : Int32) = nI 1 from rfl, ← show (0 : Int32) = nI 0 from rfl, and_1 l6]
  have key : ∀ (sx : Int32), ((sx = 0) ↔ ¬ bt bs (s + 6) % 2 = 0) → wJ_Su_isHeader_34 G l d w (Xb (Lh bs s) h) a (nI s) (nI (bt bs (s + 4))) (nI (bt bs (s + 5))) sx h := by
    intro sx hsx
    unfold wJ_Su_isHeader_34 wJ_Su_isHeader_95 wJ_Su_isHeader_96
    simp only [litN, nI_add]
    refine ⟨R.1, _, c_Ro_at' R (by omega), ?_⟩
    rintro _ _ ⟨rfl, rfl⟩
    rw [nI_eq (by omega) (by decide)]
    refine ⟨fun c => ⟨Or.inl (by trivial), no (fun z => c z.1)⟩, fun e0 => ⟨R.1, _, c_Ro_at' R (by omega), ?_⟩⟩
    rintro _ _ ⟨rfl, rfl⟩
    rw [nI_eq (by omega) (by decide)]
    refine ⟨fun c => ⟨Or.inl (by trivial), no (fun z => c z.2.1)⟩, fun e1 => ⟨R.1, _, c_Ro_at' R (by omega), ?_⟩⟩
    rintro _ _ ⟨rfl, rfl⟩
    rw [nI_eq (by omega) (by decide), nI_ltI (by omega) (by decide), nI_ltI (by decide) (by omega), nI_ltI (by omega) (by decide), nI_ltI (by omega) (by omega)]
    refine ⟨fun c => ⟨Or.inl (by trivial), no (fun z => c z.2.2.1)⟩, fun e2 => ⟨fun c => ⟨Or.inl (by trivial), no (fun z => by have := z.2.2.2.1; omega)⟩, fun e3 => ⟨fun c => ⟨Or.inl (by trivial), no (fun z => by have := z.2.2.2.2.1; omega)⟩, fun e4 => ⟨fun c => ⟨Or.inl (by trivial), no (fun z => by have := z.2.2.2.2.2.1; omega)⟩, fun e5 => ⟨fun c => ⟨Or.inl (by trivial), no (fun z => by have := z.2.2.2.2.2.2.1; omega)⟩, fun e6 => ⟨fun c => ⟨Or.inl (by trivial), no (fun z => hsx.mp c z.2.2.2.2.2.2.2)⟩, fun e7 => ⟨Or.inr (by trivial), ?_⟩⟩⟩⟩⟩⟩⟩
    have e8 : bt bs (s + 6) % 2 = 0 := Decidable.byContradiction (fun z => e7 (hsx.mpr z))
    exact Xb.y ⟨e0, e1, e2, by omega, by omega, by omega, by omega, e8⟩
  have k0 := key 0
  have k1 := key 1
  unfold wJ_Su_isHeader_34 wJ_Su_isHeader_95 wJ_Su_isHeader_96 at k0 k1
  simp only [litN, nI_add] at k0 k1 ⊢
  exact ⟨fun c => k0 ⟨fun _ => c, fun _ => by trivial⟩, fun c => k1 ⟨fun z => absurd z (by decide), fun z => absurd c z⟩⟩
theorem c_Ro_submitSize {v n : Nat} (h1 : 1 ≤ v) (h2 : v < 1000000000000) (hn : n < 1000) : Ci G l M_Ro_submitSize (d + 1) (w + 24) [.long (lN v), .int (nI n)] h 0 0 (Xi (nI (5 + (adr v).length + (1 + (7 * n + 7) / 8))) h) := by
  have := (nd_ok h1 h2).2.1
  refine ok_Ro_submitSize ⟨_, c_Ro_digitsOf' h1 h2, ?_⟩
  rintro _ _ ⟨rfl, rfl⟩
  refine ⟨_, c_Ro_addressSize (by omega), ?_⟩
  rintro _ _ ⟨rfl, rfl⟩
  refine ⟨_, c_Ro_dataSize hn, ?_⟩
  rintro _ _ ⟨rfl, rfl⟩
  refine ⟨?_, rfl⟩
  simp only [litN, nI_add, adr_len]
  congr 1
  omega
theorem c_Ro_deliverSize {v n : Nat} (h1 : 1 ≤ v) (h2 : v < 1000000000000) : Ci G l M_Ro_deliverSize (d + 1) (w + 24) [.long (lN v), .int (nI n)] h 0 0 (Xi (nI (10 + (adr v).length + n)) h) := by
  have := (nd_ok h1 h2).2.1
  refine ok_Ro_deliverSize ⟨_, c_Ro_digitsOf' h1 h2, ?_⟩
  rintro _ _ ⟨rfl, rfl⟩
  refine ⟨_, c_Ro_addressSize (by omega), ?_⟩
  rintro _ _ ⟨rfl, rfl⟩
  refine ⟨?_, rfl⟩
  simp only [litN, nI_add, adr_len]
  congr 1
  omega
theorem c_Ro_reportSize {v : Nat} (h1 : 1 ≤ v) (h2 : v < 1000000000000) : Ci G l M_Ro_reportSize (d + 1) (w + 24) [.long (lN v)] h 0 0 (Xi (nI (17 + (adr v).length)) h) := by
  have := (nd_ok h1 h2).2.1
  refine ok_Ro_reportSize ⟨_, c_Ro_digitsOf' h1 h2, ?_⟩
  rintro _ _ ⟨rfl, rfl⟩
  refine ⟨_, c_Ro_addressSize (by omega), ?_⟩
  rintro _ _ ⟨rfl, rfl⟩
  refine ⟨?_, rfl⟩
  simp only [litN, nI_add, adr_len]
  congr 1
  omega
end LG
