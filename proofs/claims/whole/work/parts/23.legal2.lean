/-! the rest of a SUBMIT's rules -/
section LG2
variable {G : Gx} {l : Launch} {d w : Nat} {h : Hp} {a b : Nat} {bs : List Nat}
theorem rAt_m1 {bs : List Nat} : rAt bs (-1) = -1 := by unfold rAt; rw [if_pos (by decide)]
theorem c_Su_isAddress {s : Nat} (R : Rw h a b bs) (hs : s + 1 < bs.length) : Ci G l M_Su_isAddress (d + 3) (w + 65) [.ref a, .int (nI s)] h 0 0 (Xb (La bs s) h) := by
  have hb := R.2.2.2.1
  have lt := bt_lt R
  refine ok_Su_isAddress ?_
  unfold wp_Su_isAddress wJ_Su_isAddress_30
  rw [show nI s + 1 = nI (s + 1) from nI_1 s]
  refine ⟨R.1, _, c_Ro_at' R (by omega), ?_⟩
  rintro _ _ ⟨rfl, rfl⟩
  have l0 := lt s
  have l1 := lt (s + 1)
  rw [ltL (by omega) (by decide), Llt (by omega) (by decide)]
  refine ⟨fun c => Xb.n (fun z => by have := z.2.1; omega), fun c1 => ⟨fun c => Xb.n (fun z => by have := z.2.2.1; omega), fun c2 => ⟨R.1, _, c_Ro_at' R hs, ?_⟩⟩⟩
  rintro _ _ ⟨rfl, rfl⟩
  rw [eqL (by omega) (by decide)]
  refine ⟨fun c3 => ?_, fun c => Xb.n (fun z => c z.2.2.2.1)⟩
  generalize hn : bt bs s = n at *
  unfold wL_Su_isAddress_34
  refine ⟨fun x3 h' => h = h' ∧ ∃ k, k ≤ n ∧ x3 = nI k ∧ ∀ j, j < k → s + 2 + j / 2 < bs.length ∧ nib bs (s + 2) j ≤ 9 ∧ (j = 0 → 1 ≤ nib bs (s + 2) j), fun x3 _ => 100 - x3.toNatClampNeg, ⟨rfl, 0, Nat.zero_le _, rfl, fun j hj => absurd hj (Nat.not_lt_zero _)⟩, ?_⟩
  rintro _ _ ⟨rfl, k, hk, rfl, hI⟩
  unfold wB_Su_isAddress_34 wJ_Su_isAddress_60 wJ_Su_isAddress_70 wJ_Su_isAddress_97 wJ_Su_isAddress_102
  rw [nI_leI (by omega) (by omega), show nI s + 2 = nI (s + 2) from nI_add s 2]
  refine ⟨fun c => ?_, fun c => ⟨R.1, ?_⟩⟩
  · have hkn : k = n := by omega
    subst hkn
    rw [show (2 : Int32) = nI 2 from rfl, pk_rem (by omega) (by decide) (by decide), eqL (by omega) (by decide)]
    have fin : (k % 2 = 1 → s + 2 + k / 2 < bs.length ∧ nib bs (s + 2) k = 15) → La bs s := fun f => ⟨hs, by omega, by omega, c3, by rw [hn]; exact hI, by rw [hn]; exact f⟩
    refine ⟨fun c4 => ⟨Or.inr rfl, Xb.y (fin (fun z => by omega))⟩, fun c4 => ⟨R.1, ?_⟩⟩
    by_cases c5 : s + 2 + k / 2 < bs.length
    · refine ⟨_, c_Ro_digitAt R c5 (by omega), ?_⟩
      rintro _ _ ⟨rfl, rfl⟩
      have := nib_lt bs (s + 2) k
      rw [eqL (by omega) (by decide)]
      refine ⟨fun c6 => ⟨Or.inl rfl, Xb.n (fun z => ?_)⟩, fun c6 => ⟨Or.inr rfl, Xb.y (fin (fun z => ⟨c5, c6⟩))⟩⟩
      have := (z.2.2.2.2.2 (by omega)).2
      rw [hn] at this
      exact c6 this
    · refine ⟨_, c_Ro_digitAtN R (by omega) (by omega) (by omega), ?_⟩
      rintro _ _ ⟨rfl, rfl⟩
      refine ⟨fun c6 => ⟨Or.inl rfl, Xb.n (fun z => ?_)⟩, fun c6 => absurd c6 (by decide)⟩
      have := (z.2.2.2.2.2 (by omega)).1
      rw [hn] at this
      exact c5 this
  · by_cases c5 : s + 2 + k / 2 < bs.length
    · refine ⟨_, c_Ro_digitAt R c5 (by omega), ?_⟩
      rintro _ _ ⟨rfl, rfl⟩
      have hnl := nib_lt bs (s + 2) k
      rw [eqL (by omega) (by decide), ltL (by omega) (by decide), ltL (by omega) (by decide), leL (by omega) (by decide)]
      have no : ¬ (nib bs (s + 2) k ≤ 9 ∧ (k = 0 → 1 ≤ nib bs (s + 2) k)) → (Xb (La bs s) h) 0 h := fun f => Xb.n (fun z => f (z.2.2.2.2.1 k (by omega)).2)
      have go : nib bs (s + 2) k ≤ 9 → (k = 0 → 1 ≤ nib bs (s + 2) k) → ∀ x_4 : Int32, x_4 = nI k + 1 → (h = h ∧ ∃ k, k ≤ n ∧ x_4 = nI k ∧ ∀ j, j < k → s + 2 + j / 2 < bs.length ∧ nib bs (s + 2) j ≤ 9 ∧ (j = 0 → 1 ≤ nib bs (s + 2) j)) ∧ 100 - x_4.toNatClampNeg < 100 - (nI k).toNatClampNeg := by
        rintro g1 g2 _ rfl
        refine ⟨⟨rfl, k + 1, by omega, nI_1 k, fun j hj => ?_⟩, ?_⟩
        · rcases (show j < k ∨ j = k by omega) with z | z
          · exact hI j z
          · rw [z]; exact ⟨c5, g1, g2⟩
        · rw [nI_1, nI_clamp (by omega), nI_clamp (by omega)]
          omega
      refine ⟨fun k0 => ⟨fun z => absurd z (Nat.not_lt_zero _), fun _ => ⟨fun c6 => go c6 (fun z => absurd z k0), fun c6 => no (fun z => c6 z.1)⟩⟩, fun k0 => ⟨fun z => no (fun y => by have := y.2 k0; omega), fun c7 => ⟨fun c6 => go c6 (fun z => by omega), fun c6 => no (fun z => c6 z.1)⟩⟩⟩
    · refine ⟨_, c_Ro_digitAtN R (by omega) (by omega) (by omega), ?_⟩
      rintro _ _ ⟨rfl, rfl⟩
      have no : (Xb (La bs s) h) 0 h := Xb.n (fun z => c5 (z.2.2.2.2.1 k (by omega)).1)
      exact ⟨fun _ => ⟨fun _ => no, fun c6 => absurd (by decide) c6⟩, fun _ => ⟨fun _ => no, fun c6 => absurd (by decide) c6⟩⟩
theorem c_Su_isUserData {p : Nat} (R : Rw h a b bs) (h0 : 0 < bs.length) (hp : p ≤ bs.length) : Ci G l M_Su_isUserData (d + 5) (w + 107) [.ref a, .int (nI p)] h 0 0 (Xb (Lu bs p) h) := by
  have hb := R.2.2.2.1
  have lt := bt_lt R
  refine ok_Su_isUserData ?_
  unfold wp_Su_isUserData wJ_Su_isUserData_30 wJ_Su_isUserData_55
  by_cases hpl : p < bs.length
  · refine ⟨R.1, _, c_Ro_at' R hpl, ?_⟩
    rintro _ _ ⟨rfl, rfl⟩
    have lp := lt p
    rw [ltL (by omega) (by decide), Llt (by omega) (by decide)]
    refine ⟨fun c => absurd c (Nat.not_lt_zero _), fun _ => ⟨fun c => Xb.n (fun z => by have := z.2.1; omega), fun c2 => ⟨R.1, _, c_Ro_size R, ?_⟩⟩⟩
    rintro _ _ ⟨rfl, rfl⟩
    refine ⟨_, c_Ro_dataSize (by omega), ?_⟩
    rintro _ _ ⟨rfl, rfl⟩
    rw [nI_add, nI_eq (by omega) (by omega)]
    refine ⟨fun c3 => ⟨R.1, _, c_Ro_hasHeader R h0, ?_⟩, fun c => Xb.n (fun z => c z.2.2.1)⟩
    rintro _ _ ⟨rfl, rfl⟩
    have fin : (hdr bs = true → 7 ≤ bt bs p ∧ Lh bs (p + 1)) → wJ_Su_isUserData_57 G l d w (Xb (Lu bs p) h) a (nI p) (nI (bt bs p)) h := by
      intro hh
      unfold wJ_Su_isUserData_57 wJ_Su_isUserData_86
      rw [show (7 : Int32) = nI 7 from rfl, show (8 : Int32) = nI 8 from rfl, pk_mul, pk_rem (by omega) (by decide) (by decide)]
      have last : (7 * bt bs p % 8 ≠ 0 → bt bs (bs.length - 1) / 2 ^ (7 * bt bs p % 8) = 0) → ∃ P_1 : Int32 → Hp → Prop, (Ci G l M_Su_isText (d + 4) (w + 82) [.ref a, .int (nI p)] h 0 0 P_1) ∧ (∀ (x_5 : Int32) (h_3 : Hp), P_1 x_5 h_3 → (x_5 = 0 ∨ x_5 = 1) ∧ ((Xb (Lu bs p) h) x_5 h_3)) := by
        intro hz
        refine ⟨_, c_Su_isText R hpl (by omega), ?_⟩
        rintro _ _ ⟨rfl, rfl⟩
        by_cases t : isT false (seps bs (p + 1) (fbit bs) (tcount bs (bt bs p))) = true
        · rw [if_pos t]
          exact ⟨Or.inr rfl, Xb.y ⟨hpl, by omega, c3, hh, hz, t⟩⟩
        · rw [if_neg t]
          exact ⟨Or.inl rfl, Xb.n (fun z => t z.2.2.2.2.2)⟩
      rintro _ rfl
      rw [eqL (by omega) (by decide)]
      refine ⟨fun c => last (fun z => absurd c z), fun c => ⟨R.1, _, c_Ro_size R, ?_⟩⟩
      rintro _ _ ⟨rfl, rfl⟩
      rw [show (1 : Int32) = nI 1 from rfl, pk_sub (by omega)]
      refine ⟨R.1, _, c_Ro_at' R (by omega), ?_⟩
      rintro _ _ ⟨rfl, rfl⟩
      have ll := lt (bs.length - 1)
      rw [nI_shr (by omega) (by omega), eqL (by have := Nat.div_le_self (bt bs (bs.length - 1)) (2 ^ (7 * bt bs p % 8)); omega) (by decide)]
      exact ⟨fun z => last (fun _ => z), fun z => Xb.n (fun y => z (y.2.2.2.2.1 c))⟩
    by_cases hh : hdr bs = true
    · rw [if_pos hh]
      refine ⟨fun c => absurd c (by decide), fun _ => ?_⟩
      rw [ltL (by omega) (by decide), show nI p + 1 = nI (p + 1) from nI_1 p]
      refine ⟨fun c => Xb.n (fun z => by have := (z.2.2.2.1 hh).1; omega), fun c => ⟨_, c_Su_isHeader R (by omega), ?_⟩⟩
      rintro _ _ ⟨rfl, ⟨rfl, y⟩ | ⟨rfl, y⟩⟩
      · exact ⟨fun _ => fin (fun _ => ⟨by omega, y⟩), fun z => absurd z (by decide)⟩
      · exact ⟨fun z => absurd rfl z, fun _ => Xb.n (fun z => y (z.2.2.2.1 hh).2)⟩
    · rw [if_neg hh]
      exact ⟨fun _ => fin (fun z => absurd z hh), fun c => absurd rfl c⟩
  · refine ⟨R.1, _, c_Ro_at R _, ?_⟩
    rw [rAt_out (by omega) (by omega)]
    rintro _ _ ⟨rfl, rfl⟩
    exact ⟨fun _ => Xb.n (fun z => hpl z.1), fun c => absurd (by decide) c⟩
theorem c_Su_areKept (R : Rw h a b bs) (h9 : 9 ≤ bs.length) : Ci G l M_Su_areKept (d + 6) (w + 130) [.ref a] h 0 0 (Xb (Lg bs) h) := by
  have hb := R.2.2.2.1
  have lt := bt_lt R
  refine ok_Su_areKept ?_
  unfold wp_Su_areKept wJ_Su_areKept_23
  rw [show (0 : Int32) = nI 0 from rfl]
  refine ⟨R.1, _, c_Ro_at' R (by omega), ?_⟩
  rintro _ _ ⟨rfl, rfl⟩ _ rfl
  rw [and_97 (lt 0)]
  refine ⟨fun c => Xb.n (fun z => c z.1), fun c0 => ⟨_, c_Su_isAddress (s := 2) R (by omega), ?_⟩⟩
  rintro _ _ ⟨rfl, ⟨rfl, A⟩ | ⟨rfl, A⟩⟩
  · refine ⟨fun _ => ⟨R.1, _, c_Ro_submitDataAt R (by omega), ?_⟩, fun c => absurd c (by decide)⟩
    rintro _ _ ⟨rfl, rfl⟩
    have hsda : 7 + (bt bs 2 + 1) / 2 = sda bs := rfl
    have hA := A.2.2.1
    have hA1 := A.2.1
    rw [hsda, show (1 : Int32) = nI 1 from rfl, pk_sub (by omega), show (3 : Int32) = nI 3 from rfl, pk_sub (by omega), show (2 : Int32) = nI 2 from rfl, pk_sub (by omega)]
    have no : ¬ Lg bs → ∀ x1 x2 x3, wJ_Su_areKept_81 G l d w (Xb (Lg bs) h) a x1 x2 x3 h := fun n _ _ _ => ⟨Or.inl rfl, Xb.n n⟩
    by_cases hl : sda bs - 1 < bs.length
    · refine ⟨R.1, _, c_Ro_at' R hl, ?_⟩
      rintro _ _ ⟨rfl, rfl⟩
      refine ⟨R.1, _, c_Ro_at' R (by omega), ?_⟩
      rintro _ _ ⟨rfl, rfl⟩
      have l1 := lt (sda bs - 1)
      have l2 := lt (sda bs - 2)
      have l3 := lt (sda bs - 3)
      rw [nI_eq (by omega) (by decide)]
      refine ⟨fun c => no (fun z => c z.2.2.1.2.1) _ _ _, fun e3 => ⟨R.1, _, c_Ro_at' R (by omega), ?_⟩⟩
      rintro _ _ ⟨rfl, rfl⟩
      rw [nI_eq (by omega) (by decide), nI_ltI (by omega) (by decide), Llt (by omega) (by decide)]
      refine ⟨fun c => no (fun z => c z.2.2.1.2.2.1) _ _ _, fun e2 => ⟨fun c => absurd c (Nat.not_lt_zero _), fun _ => ⟨fun c => no (fun z => by have := z.2.2.1.2.2.2; omega) _ _ _, fun e1 => ⟨_, c_Su_isUserData R (by omega) (by omega), ?_⟩⟩⟩⟩
      rintro _ _ ⟨rfl, ⟨rfl, U⟩ | ⟨rfl, U⟩⟩
      · exact ⟨fun c => absurd c (by decide), fun _ => ⟨Or.inr rfl, Xb.y ⟨c0, A, ⟨hl, e3, e2, by omega⟩, U⟩⟩⟩
      · exact ⟨fun _ => no (fun z => U z.2.2.2) _ _ _, fun c => absurd rfl c⟩
    · have nl : ¬ Lg bs := fun z => hl z.2.2.1.1
      refine ⟨R.1, _, c_Ro_at R _, ?_⟩
      rw [rAt_out (by omega) (by omega)]
      rintro _ _ ⟨rfl, rfl⟩
      refine ⟨R.1, _, c_Ro_at R _, ?_⟩
      rintro _ _ ⟨rfl, rfl⟩
      refine ⟨fun _ => no nl _ _ _, fun _ => ⟨R.1, _, c_Ro_at R _, ?_⟩⟩
      rintro _ _ ⟨rfl, rfl⟩
      exact ⟨fun _ => no nl _ _ _, fun _ => ⟨fun _ => no nl _ _ _, fun c => absurd (by decide) c⟩⟩
  · exact ⟨fun c => absurd rfl c, fun _ => Xb.n (fun z => A z.2.1)⟩
end LG2
