/-! the reference's side -/
section MI
variable {G : Gx} {l : Launch} {d w : Nat} {A : Nat → Nat} {h : Hp}
theorem drop_bt {l : List Nat} {k : Nat} (hk : k < l.length) : l.drop k = bt l k :: l.drop (k + 1) := drop_cons hk
theorem c_MO_areText {sp : List Nat} (M : MA A h) (Q : SQ A h sp) : Ci G l M_MO_areText (d + 1) (w + 20) [.ref (A 41)] h 0 0 (Xi (if isT false sp then 1 else 0) h) := by
  refine ok_MO_areText ?_
  have hl := Q.2.1
  unfold wp_MO_areText wL_MO_areText_4
  refine ⟨fun x1 x h' => h = h' ∧ ∃ (e : Bool) (k : Nat), k ≤ sp.length ∧ x1 = (if e then 1 else 0) ∧ x = nI k ∧ isT false sp = isT e (sp.drop k), fun x1 x h' => sp.length - x.toNatClampNeg, ⟨rfl, false, 0, Nat.zero_le _, rfl, rfl, rfl⟩, ?_⟩
  rintro _ _ _ ⟨rfl, e, k, hk, rfl, rfl, hT⟩
  unfold wB_MO_areText_4
  rw [Q.1, nI_leI (by omega) (by omega)]
  refine ⟨M.s41, fun c => ?_, fun c => ?_⟩
  · rw [List.drop_of_length_le (by omega)] at hT
    unfold wJ_MO_areText_66
    cases e with
    | false => exact ⟨fun z => absurd rfl z, fun _ => ⟨Or.inr rfl, by rw [hT]; rfl, rfl⟩⟩
    | true => exact ⟨fun _ => ⟨Or.inl rfl, by rw [hT]; rfl, rfl⟩, fun z => absurd z (by decide)⟩
  · have hk' : k < sp.length := by omega
    have hv : bt sp k < 128 := Q.2.2.1 _ (getD_mem hk')
    rw [drop_bt hk', isT_cons] at hT
    unfold wJ_MO_areText_30 wJ_MO_areText_49 wJ_MO_areText_50
    cases e with
    | false =>
      refine ⟨fun _ => ⟨fun z => absurd rfl z, fun _ => ⟨M.s41, A 3, M.r3, 960, k, ⟨M.s3, rfl, by omega, by omega⟩, ?_⟩⟩, fun z => absurd rfl z⟩
      rw [Q.2.2.2 k hk', eqL (by omega) (by decide)]
      refine ⟨fun n27 => ?_, fun e27 => ?_⟩
      · rintro _ rfl
        rw [nI_1]
        exact ⟨⟨rfl, false, k + 1, hk', rfl, rfl, by rw [hT, if_neg (by decide), decide_eq_false n27]⟩, mu_lt hk' (by omega)⟩
      · rintro _ rfl
        rw [nI_1]
        exact ⟨⟨rfl, true, k + 1, hk', rfl, rfl, by rw [hT, if_neg (by decide), decide_eq_true e27]⟩, mu_lt hk' (by omega)⟩
    | true =>
      rw [if_pos rfl] at hT
      refine ⟨fun z => absurd z (by decide), fun _ => ⟨A 3, M.r3, 960, k, ⟨M.s3, rfl, by omega, by omega⟩, ?_⟩⟩
      rw [Q.2.2.2 k hk']
      refine ⟨_, c_MO_escaped hv, ?_⟩
      rintro _ _ ⟨rfl, rfl⟩
      refine ⟨fun c0 => ⟨fun _ => ?_, fun z => absurd z (by decide)⟩, fun c0 => ⟨?_, rfl⟩⟩
      · rintro _ rfl
        rw [nI_1]
        exact ⟨⟨rfl, false, k + 1, hk', rfl, rfl, by rw [hT, if_pos c0]⟩, mu_lt hk' (by omega)⟩
      · rw [hT, if_neg c0]
        rfl
/-- a number can be read at p -/
def RN (bs : List Nat) (p : Nat) : Prop := p + 1 < bs.length ∧ 1 ≤ bt bs p ∧ bt bs p ≤ 12 ∧ p + 2 + (bt bs p + 1) / 2 ≤ bs.length ∧ ∀ k, k < bt bs p → nib bs (p + 2) k ≤ 9
theorem c_MO_readNumber {bs : List Nat} {p : Nat} (M : MA A h) (B : BF A h bs) (hb : ∀ j, bt bs j < 256) (hp : p < 176) : Cl G l M_MO_readNumber (d + 0) (w + 0) [.ref (A 41), .int (nI p)] h 0 0 (fun r h' => h = h' ∧ ((RN bs p ∧ r = lN (numN bs (p + 2) (bt bs p))) ∨ (¬ RN bs p ∧ r = 0))) := by
  refine ok_MO_readNumber ?_
  have hl := B.2.1
  unfold wp_MO_readNumber wJ_MO_readNumber_52
  rw [B.1, nI_1, nI_leI (by omega) (by omega)]
  refine ⟨M.s41, fun c => ⟨rfl, Or.inr ⟨fun z => absurd z.1 (by omega), rfl⟩⟩, fun c => ⟨A 12, M.r12, 176, p, ⟨M.s12, rfl, by omega, by omega⟩, ?_⟩⟩
  have h256 := hb p
  rw [B.2.2 p (by omega), ltL (by omega) (by decide)]
  refine ⟨fun c1 => ⟨rfl, Or.inr ⟨fun z => absurd z.2.1 (by omega), rfl⟩⟩, fun c1 => ⟨A 12, M.r12, 176, p, ⟨M.s12, rfl, by omega, by omega⟩, ?_⟩⟩
  rw [B.2.2 p (by omega), Llt (by omega) (by decide)]
  refine ⟨fun c2 => ⟨rfl, Or.inr ⟨fun z => absurd z.2.2.1 (by omega), rfl⟩⟩, fun c2 => ⟨A 12, M.r12, 176, p, ⟨M.s12, rfl, by omega, by omega⟩, ?_⟩⟩
  rw [B.2.2 p (by omega), nI_1, show (2 : Int32) = nI 2 from rfl, pk_div (by omega) (by decide) (by decide), nI_add, nI_add, nI_leI (by omega) (by omega)]
  refine ⟨fun c3 => ?_, fun c3 => ⟨rfl, Or.inr ⟨fun z => absurd z.2.2.2.1 (by omega), rfl⟩⟩⟩
  unfold wL_MO_readNumber_59
  refine ⟨fun y x h' => h = h' ∧ ∃ k, k ≤ bt bs p ∧ x = nI k ∧ y = lN (numN bs (p + 2) k) ∧ ∀ i, i < k → nib bs (p + 2) i ≤ 9, fun y x h' => bt bs p - x.toNatClampNeg, ⟨rfl, 0, Nat.zero_le _, rfl, rfl, fun i hi => absurd hi (Nat.not_lt_zero _)⟩, ?_⟩
  rintro _ _ _ ⟨rfl, k, hk, rfl, rfl, hno⟩
  unfold wB_MO_readNumber_59
  refine ⟨M.s41, A 12, M.r12, 176, p, ⟨M.s12, rfl, by omega, by omega⟩, ?_⟩
  rw [B.2.2 p (by omega), nI_leI (by omega) (by omega)]
  refine ⟨fun c4 => ?_, fun c4 => ?_⟩
  · have ek : k = bt bs p := by omega
    subst ek
    exact ⟨rfl, Or.inl ⟨⟨by omega, by omega, by omega, by omega, hno⟩, rfl⟩⟩
  · have er : nI k - nI k / 2 * 2 = nI (k % 2) := pk_rem (by omega) (by decide) (by decide)
    rw [er, show (2 : Int32) = nI 2 from rfl, pk_div (by omega) (by decide) (by decide), nI_add, nI_add]
    refine ⟨A 12, M.r12, 176, _, ⟨M.s12, rfl, by omega, by omega⟩, ?_⟩
    rintro _ rfl
    have hbk := hb (p + 2 + k / 2)
    have e16 : 2 ^ (4 * (k % 2)) = 16 ^ (k % 2) := by
      rw [Nat.pow_mul]
    rw [B.2.2 _ (by omega), show (4 : Int32) = nI 4 from rfl, pk_mul, nI_shr (by omega) (by omega), pk_andN (Nat.lt_of_le_of_lt (Nat.div_le_self _ _) (by omega)) 4 rfl, e16]
    have en : bt bs (p + 2 + k / 2) / 16 ^ (k % 2) % 2 ^ 4 = nib bs (p + 2) k := rfl
    rw [en]
    have hnl := nib_lt bs (p + 2) k
    rw [leL (by omega) (by decide)]
    refine ⟨fun c9 => ?_, fun c9 => ⟨rfl, Or.inr ⟨fun z => c9 (z.2.2.2.2 k (by omega)), rfl⟩⟩⟩
    rintro _ rfl _ rfl
    rw [nI_1, nI_l (by omega), lN_10, lN_mul, lN_add]
    refine ⟨⟨rfl, k + 1, by omega, rfl, ?_, fun i hi => ?_⟩, mu_lt (by omega) (by omega)⟩
    · show lN (numN bs (p + 2) k * 10 + nib bs (p + 2) k) = lN (10 * numN bs (p + 2) k + nib bs (p + 2) k)
      rw [Nat.mul_comm]
    · by_cases ci : i = k
      · rw [ci]; exact c9
      · exact hno i (by omega)
/-- the row written anew, compared -/
theorem legal_cmp {bs re : List Nat} {x3 x4 x5 : Int32} {y1 : Int64} {f : Int32} {P : Int32 → Hp → Prop} (M : MA A h) (B : BF A h re) (hre : ∀ j, bt re j < 256) (hbs : ∀ j, bt bs j < 256) (R : RA A h 0 bs) (hl : bs.length ≤ 160) (hf : (f = 1 ∧ re.length = bs.length) ∨ (f = 0 ∧ re.length ≠ bs.length)) (p1 : re = bs → P x3 h) (p0 : re ≠ bs → P (-1) h) : wL_MO_legal_360 G l d w P (A 41) y1 x3 x4 x5 (nI bs.length) 0 f 0 h := by
  have hrl := B.2.1
  unfold wL_MO_legal_360
  refine ⟨fun x8 x h' => h = h' ∧ ∃ k, k ≤ bs.length ∧ x = nI k ∧ ((x8 = 1 ∧ re.length = bs.length ∧ ∀ i, i < k → bt re i = bt bs i) ∨ (x8 = 0 ∧ re ≠ bs)), fun x8 x h' => bs.length - x.toNatClampNeg, ⟨rfl, 0, Nat.zero_le _, rfl, ?_⟩, ?_⟩
  · rcases hf with ⟨e1, e2⟩ | ⟨e1, e2⟩
    · exact Or.inl ⟨e1, e2, fun i hi => absurd hi (Nat.not_lt_zero _)⟩
    · exact Or.inr ⟨e1, fun z => e2 (by rw [z])⟩
  rintro x8 _ _ ⟨rfl, k, hk, rfl, h8⟩
  unfold wB_MO_legal_360 wJ_MO_legal_419 wJ_MO_legal_400 wJ_MO_legal_401
  rw [nI_leI (by omega) (by omega)]
  refine ⟨fun c => ?_, fun c => ?_⟩
  · rcases h8 with ⟨e1, e2, e3⟩ | ⟨e1, e2⟩
    · refine ⟨fun z => absurd (e1.symm.trans z) (by decide), fun _ => p1 (bt_ext e2 (fun i hi => e3 i (by omega)))⟩
    · exact ⟨fun _ => p0 e2, fun z => absurd e1 z⟩
  · rcases h8 with ⟨e1, e2, e3⟩ | ⟨e1, e2⟩
    · refine ⟨fun z => absurd (e1.symm.trans z) (by decide), fun _ => ⟨M.s41, A 12, M.r12, 176, k, ⟨M.s12, rfl, by omega, by omega⟩, A 13, M.r13, 8960, k, ⟨M.s13, ?_, by omega, by omega⟩, ?_⟩⟩
      · rw [show (160 : Int32) * 0 = nI 0 from rfl, nI_add, Nat.zero_add]
      · have hr := R.2 k (by omega)
        rw [Nat.mul_zero, Nat.zero_add] at hr
        have b1 := hre k
        have b2 := hbs k
        rw [B.2.2 k (by omega), hr, nI_eq (by omega) (by omega)]
        refine ⟨fun ne => ?_, fun e => ?_⟩
        · rintro _ rfl
          rw [nI_1]
          exact ⟨⟨rfl, k + 1, by omega, rfl, Or.inr ⟨rfl, fun z => ne (by rw [z])⟩⟩, mu_lt (by omega) (by omega)⟩
        · rintro _ rfl
          rw [nI_1]
          refine ⟨⟨rfl, k + 1, by omega, rfl, Or.inl ⟨rfl, e2, fun i hi => ?_⟩⟩, mu_lt (by omega) (by omega)⟩
          by_cases ci : i = k
          · rw [ci]; exact e
          · exact e3 i (by omega)
    · refine ⟨fun _ => ?_, fun z => absurd e1 z⟩
      rintro _ rfl
      rw [nI_1]
      exact ⟨⟨rfl, k + 1, by omega, rfl, Or.inr ⟨rfl, e2⟩⟩, mu_lt (by omega) (by omega)⟩
theorem c_MO_legal {bs : List Nat} (M : MA A h) (B : BF A h bs) (R : RA A h 0 bs) (hb : ∀ j, bt bs j < 256) (h9 : 9 ≤ bs.length) (hl : bs.length ≤ 160) : Ci G l M_MO_legal (d + 4) (w + 102) [.ref (A 41)] h 0 0 (fun r h' => ((Lg bs ∧ r = nI (sda bs)) ∨ (¬ Lg bs ∧ r = -1)) ∧ Mf A [2, 3, 11, 12] h h') := by
  refine ok_MO_legal ?_
  have no : ¬ LC bs → ∀ h', Mf A [2, 3, 11, 12] h h' → ((Lg bs ∧ (-1 : Int32) = nI (sda bs)) ∨ (¬ Lg bs ∧ (-1 : Int32) = -1)) ∧ Mf A [2, 3, 11, 12] h h' := fun c h' F => ⟨Or.inr ⟨fun z => c ((legal_iff hb).mp z).1, rfl⟩, F⟩
  have rl : ∀ j, j < bs.length → hI h (A 12) j = nI (bt bs j) := B.2.2
  unfold wp_MO_legal
  rw [B.1, Lle (by omega) (by decide)]
  refine ⟨M.s41, fun _ => ⟨_, c_MO_readNumber (p := 2) M B hb (by decide), ?_⟩, fun c => absurd (show 3 ≤ bs.length by omega) c⟩
  rintro y _ ⟨rfl, hy⟩
  have bad : ∀ sx0, y = 0 → wJ_MO_legal_41 G l d w (fun r h' => ((Lg bs ∧ r = nI (sda bs)) ∨ (¬ Lg bs ∧ r = -1)) ∧ Mf A [2, 3, 11, 12] h h') (A 41) y sx0 h := fun sx0 y0 => by
    unfold wJ_MO_legal_41 wJ_MO_legal_88
    rw [cmp_eq]
    refine ⟨fun _ => no (fun L => ?_) h Mf.rfl, fun c => absurd y0 c⟩
    rcases hy with ⟨r1, r2⟩ | ⟨r1, r2⟩
    · rw [y0] at r2
      have h0 := numN_lt (bs := bs) (s := 4) (bt bs 2) L.1.2.2.2.1
      have h2 : (10 : Nat) ^ bt bs 2 ≤ 10 ^ 12 := Nat.pow_le_pow_right (by decide) L.1.2.1
      have h3 : (10 : Nat) ^ 12 < 2 ^ 63 := by decide
      exact L.1.2.2.2.2 ((pk_lEQ (show 0 < 2 ^ 63 by decide) (Nat.lt_trans h0 (Nat.lt_of_le_of_lt h2 h3))).mp r2).symm
    · exact r1 ⟨by omega, L.1.1, L.1.2.1, L.1.2.2.1, L.1.2.2.2.1⟩
  unfold wJ_MO_legal_17
  rw [cmp_eq]
  refine ⟨fun cy => ?_, fun y0 => bad 0 y0⟩
  rcases hy with ⟨⟨n1, n2, n3, n4, n5⟩, rfl⟩ | ⟨r1, r2⟩
  case inr => exact absurd r2 cy
  have hto : numN bs (2 + 2) (bt bs 2) = sTo bs := rfl
  rw [hto] at cy ⊢
  have t0 : sTo bs ≠ 0 := fun z => cy (by rw [z]; rfl)
  have t2 : sTo bs < 1000000000000 := by
    have h0 := numN_lt (bs := bs) (s := 4) (bt bs 2) n5
    have h2 : (10 : Nat) ^ bt bs 2 ≤ 10 ^ 12 := Nat.pow_le_pow_right (by decide) n3
    have e : (10 : Nat) ^ 12 = 1000000000000 := by decide
    unfold sTo
    omega
  have c1 : 1 ≤ bt bs 2 ∧ bt bs 2 ≤ 12 ∧ 4 + (bt bs 2 + 1) / 2 ≤ bs.length ∧ (∀ k, k < bt bs 2 → nib bs 4 k ≤ 9) ∧ sTo bs ≠ 0 := ⟨n2, n3, by omega, n5, t0⟩
  have hb2 := hb 2
  have hs : sda bs = 7 + (bt bs 2 + 1) / 2 := rfl
  refine ⟨M.s41, A 12, M.r12, 176, 2, ⟨M.s12, rfl, by omega, by omega⟩, ?_⟩
  have ep : (7 : Int32) + (hI h (A 12) 2 + 1) / 2 = nI (sda bs) := by
    rw [rl 2 (by omega), nI_1, show (2 : Int32) = nI 2 from rfl, pk_div (by omega) (by decide) (by decide), show (7 : Int32) = nI 7 from rfl, nI_add]
    rfl
  rw [ep]
  generalize hpp : sda bs = p at *
  unfold wJ_MO_legal_41 wJ_MO_legal_88
  rw [cmp_eq, B.1, nI_leI (by omega) (by omega)]
  refine ⟨fun c => absurd c cy, fun _ => ⟨M.s41, fun c => no (fun L => absurd L.2.1.1 (by rw [hpp]; omega)) h Mf.rfl, fun c => ⟨A 12, M.r12, 176, p, ⟨M.s12, rfl, by omega, by omega⟩, ?_⟩⟩⟩
  have hbp := hb p
  rw [rl p (by omega), Llt (by omega) (by decide)]
  refine ⟨fun c => no (fun L => absurd L.2.1.2.1 (by rw [hpp]; omega)) h Mf.rfl, fun c160 => ⟨A 12, M.r12, 176, p, ⟨M.s12, rfl, by omega, by omega⟩, ?_⟩⟩
  rw [rl p (by omega)]
  refine ⟨_, c_MO_bytesFor (by omega), ?_⟩
  rintro _ _ ⟨rfl, rfl⟩
  rw [nI_1, nI_add, B.1, nI_eq (by omega) (by omega)]
  refine ⟨M.s41, fun clen => ?_, fun c => no (fun L => absurd L.2.1.2.2 (by rw [hpp]; exact c)) h Mf.rfl⟩
  refine ⟨A 12, M.r12, 176, 0, ⟨M.s12, rfl, by omega, by omega⟩, ?_⟩
  rw [rl 0 (by omega), hdr_and (hb 0)]
  have hh : (bt bs 0 / 64 % 2 = 0 → hdr bs = false) ∧ (¬ bt bs 0 / 64 % 2 = 0 → hdr bs = true) := by
    unfold hdr
    exact ⟨fun z => decide_eq_false (by omega), fun z => decide_eq_true (by omega)⟩
  -- from the header's bit on
  have after : ∀ (x4 : Int32), (x4 = 0 ∧ hdr bs = false) ∨ (x4 = 1 ∧ hdr bs = true) → wJ_MO_legal_107 G l d w (fun r h' => ((Lg bs ∧ r = nI p) ∨ (¬ Lg bs ∧ r = -1)) ∧ Mf A [2, 3, 11, 12] h h') (A 41) (lN (sTo bs)) (nI p) x4 h := by
    intro x4 h4
    have h4n : (x4 = 0 ↔ hdr bs = false) := by
      rcases h4 with ⟨e1, e2⟩ | ⟨e1, e2⟩
      · exact ⟨fun _ => e2, fun _ => e1⟩
      · rw [e1, e2]
        exact ⟨fun z => absurd z (by decide), fun z => absurd z (by decide)⟩
    -- the row is written anew
    have anew : ∀ x5, (hdr bs = true → 7 ≤ bt bs p) → bt bs (p - 1) ≤ 143 → (hdr bs = true → 1 ≤ bt bs (p + 5) ∧ bt bs (p + 5) ≤ 3 ∧ 1 ≤ bt bs (p + 6) ∧ bt bs (p + 6) ≤ bt bs (p + 5)) → ∀ h1, SQ A h1 (seps bs (p + 1) (fbit bs) (tcount bs (bt bs p))) → Mf A [2, 3] h h1 → wJ_MO_legal_227 G l d w (fun r h' => ((Lg bs ∧ r = nI p) ∨ (¬ Lg bs ∧ r = -1)) ∧ Mf A [2, 3, 11, 12] h h') (A 41) (lN (sTo bs)) (nI p) x4 x5 h1 := by
      intro x5 a1 a2 a3 h1 Q1 F1
      have M1 := F1.ma M
      have B1 := B.kept F1 M.j (by decide) (by decide)
      have F1' : Mf A [2, 3, 11, 12] h h1 := F1.mono (by simp)
      unfold wJ_MO_legal_227
      refine ⟨M1.s41, _, c_MO_areText M1 Q1, ?_⟩
      rintro _ _ ⟨rfl, rfl⟩
      refine ⟨fun c => ?_, fun c => ?_⟩
      · have hT : isT false (seps bs (p + 1) (fbit bs) (tcount bs (bt bs p))) = true := by
          cases hq : isT false (seps bs (p + 1) (fbit bs) (tcount bs (bt bs p))) with
          | true => rfl
          | false => rw [hq] at c; exact absurd rfl c
        have L : LC bs := by
          unfold LC
          rw [hpp]
          exact ⟨c1, ⟨by omega, by omega, clen⟩, ⟨a1, a2⟩, a3, hT⟩
        refine ⟨M1.s41, ?_⟩
        rintro _ rfl
        refine ⟨_, c_MO_baseOf (n := 0) (by decide), ?_⟩
        rintro _ _ ⟨rfl, rfl⟩
        refine ⟨M1.s41, A 12, M1.r12, 176, 0, ⟨M1.s12, rfl, by omega, by omega⟩, ?_⟩
        rw [B1.2.2 0 (by omega), wnt_and (hb 0), B1.1]
        have hcnt : (seps bs (p + 1) (fbit bs) (tcount bs (bt bs p))).length = tcount bs (bt bs p) := seps_len _ _ _ _
        have htc := tcount_le bs (bt bs p)
        have sub : ∀ x1, (x1 = 0 ↔ wnt bs = false) → wJ_MO_legal_266 G l d w (fun r h' => ((Lg bs ∧ r = nI p) ∨ (¬ Lg bs ∧ r = -1)) ∧ Mf A [2, 3, 11, 12] h h') (A 41) (lN (sTo bs)) (nI p) x4 x5 (nI bs.length) (nI (bL 0)) x1 (A 41) h1 := by
          intro x1 hw
          have fin : ∀ x8 x9 x10, ((lhd bs = [] ∧ x8 < 0) ∨ ∃ r p q, lhd bs = [5, 0, 3, r, p, q] ∧ x8 = nI r ∧ x9 = nI p ∧ x10 = nI q ∧ r < 2147483648) → wJ_MO_legal_338 G l d w (fun r h' => ((Lg bs ∧ r = nI p) ∨ (¬ Lg bs ∧ r = -1)) ∧ Mf A [2, 3, 11, 12] h h') (A 41) (lN (sTo bs)) (nI p) x4 x5 (nI bs.length) (nI (bL 0)) x10 x9 x8 (nI (tcount bs (bt bs p))) 0 (nI (bt bs (p - 1))) (lN (sTo bs)) (nI (bt bs 1)) x1 (A 41) h1 := by
            intro x8 x9 x10 hx
            unfold wJ_MO_legal_338
            refine ⟨M1.s41, _, c_MO_putSubmit (first := 0) (count := tcount bs (bt bs p)) M1 Q1 hw (by omega) t2 (by omega) hx (by omega), ?_⟩
            rintro h2 ⟨B2, F2⟩
            have M2 := F2.ma M1
            have F2' : Mf A [2, 3, 11, 12] h h2 := F1'.trans (F2.mono (by simp))
            have ek : kdS (wnt bs) (lhd bs) = knd bs := by
              unfold kdS knd lhd
              cases hdr bs <;> rfl
            rw [ek, List.drop_zero, List.take_of_length_le (by omega)] at B2
            have eR : subR (knd bs) (bt bs 1) (sTo bs) (bt bs (p - 1)) (lhd bs) (seps bs (p + 1) (fbit bs) (tcount bs (bt bs p))) = RE bs := by
              unfold RE
              rw [hpp]
            rw [eR] at B2
            have hRl : ∀ j, bt (RE bs) j < 256 := by
              obtain ⟨Bq, e1, -, e3, e4, -, -⟩ := L.re hb
              rw [e1]
              exact mrgL_lt _ _ _ e4 (seps_lt _ _)
            have R2 : RA A h2 0 bs := ⟨by rw [F2'.i M.j 14 (by decide) (by decide) (by decide)]; exact R.1, fun i hi => by rw [F2'.i M.j 13 (by decide) (by decide) (by decide)]; exact R.2 i hi⟩
            have q1 : RE bs = bs → ((Lg bs ∧ nI p = nI p) ∨ (¬ Lg bs ∧ nI p = -1)) ∧ Mf A [2, 3, 11, 12] h h2 := fun e => ⟨Or.inl ⟨(legal_iff hb).mpr ⟨L, e⟩, rfl⟩, F2'⟩
            have q0 : RE bs ≠ bs → ((Lg bs ∧ (-1 : Int32) = nI p) ∨ (¬ Lg bs ∧ (-1 : Int32) = -1)) ∧ Mf A [2, 3, 11, 12] h h2 := fun e => ⟨Or.inr ⟨fun z => e ((legal_iff hb).mp z).2, rfl⟩, F2'⟩
            have hRB := B2.2.1
            unfold wJ_MO_legal_355
            rw [B2.1, nI_eq (by omega) (by omega)]
            exact ⟨M2.s41, fun c => legal_cmp M2 B2 hRl hb R2 hl (Or.inr ⟨rfl, c⟩) q1 q0, fun c => legal_cmp M2 B2 hRl hb R2 hl (Or.inl ⟨rfl, c⟩) q1 q0⟩
          unfold wJ_MO_legal_266 wJ_MO_legal_303 wJ_MO_legal_320
          have e1 : nI p - 1 = nI (p - 1) := pk_sub (show 1 ≤ p by omega)
          rw [e1, Q1.1, hcnt]
          refine ⟨M1.s41, A 12, M1.r12, 176, 1, ⟨M1.s12, rfl, by omega, by omega⟩, A 12, M1.r12, 176, p - 1, ⟨M1.s12, rfl, by omega, by omega⟩, fun c => ⟨fun _ => ⟨fun _ => ?_, fun z => absurd c z⟩, fun z => absurd c z⟩, fun c => ?_⟩
          · rw [B1.2.2 1 (by omega), B1.2.2 (p - 1) (by omega)]
            refine fin (-1) 0 0 (Or.inl ⟨?_, by decide⟩)
            unfold lhd
            rw [h4n.mp c]
            rfl
          · have hht : hdr bs = true := by
              cases hq : hdr bs with
              | true => rfl
              | false => exact absurd (h4n.mpr hq) c
            have h7 := a1 hht
            rw [show nI p + 4 = nI (p + 4) from nI_add p 4, show nI p + 5 = nI (p + 5) from nI_add p 5, show nI p + 6 = nI (p + 6) from nI_add p 6]
            refine ⟨A 12, M1.r12, 176, p + 4, ⟨M1.s12, rfl, by omega, by omega⟩, fun z => absurd z c, fun _ => ⟨M1.s41, A 12, M1.r12, 176, p + 5, ⟨M1.s12, rfl, by omega, by omega⟩, fun z => absurd z c, fun _ => ⟨M1.s41, A 12, M1.r12, 176, p + 6, ⟨M1.s12, rfl, by omega, by omega⟩, ?_⟩⟩⟩
            rw [B1.2.2 1 (by omega), B1.2.2 (p - 1) (by omega), B1.2.2 (p + 4) (by omega), B1.2.2 (p + 5) (by omega), B1.2.2 (p + 6) (by omega)]
            have hb4 := hb (p + 4)
            refine fin _ _ _ (Or.inr ⟨bt bs (p + 4), bt bs (p + 5), bt bs (p + 6), ?_, rfl, rfl, rfl, by omega⟩)
            unfold lhd
            rw [hht, hpp]
            rfl
        have hw0 : (bt bs 0 / 32 % 2 = 0 → wnt bs = false) ∧ (¬ bt bs 0 / 32 % 2 = 0 → wnt bs = true) := by
          unfold wnt
          exact ⟨fun z => decide_eq_false (by omega), fun z => decide_eq_true (by omega)⟩
        refine ⟨fun cw => sub 0 ⟨fun _ => hw0.1 cw, fun _ => rfl⟩, fun cw => sub 1 ⟨fun z => absurd z (by decide), fun z => ?_⟩⟩
        rw [hw0.2 cw] at z
        cases z
      · unfold wJ_MO_legal_234
        refine no (fun L => ?_) h1 F1'
        have := L.2.2.2.2
        rw [hpp] at this
        rw [this] at c
        exact absurd c (by decide)
    -- the text is read
    have read : ∀ x5, (hdr bs = true → 7 ≤ bt bs p) → bt bs (p - 1) ≤ 143 → ((x5 = 1 ∧ hdr bs = true ∧ 1 ≤ bt bs (p + 5) ∧ bt bs (p + 5) ≤ 3 ∧ 1 ≤ bt bs (p + 6) ∧ bt bs (p + 6) ≤ bt bs (p + 5)) ∨ (x5 = 0 ∧ ¬ (hdr bs = true ∧ 1 ≤ bt bs (p + 5) ∧ bt bs (p + 5) ≤ 3 ∧ 1 ≤ bt bs (p + 6) ∧ bt bs (p + 6) ≤ bt bs (p + 5)))) → wJ_MO_legal_208 G l d w (fun r h' => ((Lg bs ∧ r = nI p) ∨ (¬ Lg bs ∧ r = -1)) ∧ Mf A [2, 3, 11, 12] h h') (A 41) (lN (sTo bs)) (nI p) x4 x5 h := by
      intro x5 a1 a2 a3
      unfold wJ_MO_legal_208
      refine ⟨M.s41, _, c_MO_readSeptets (b := fbit bs) (cnt := tcount bs (bt bs p)) M B hb (by omega) ?_ (by omega) (by omega), ?_⟩
      · rcases h4 with ⟨e1, e2⟩ | ⟨e1, e2⟩
        · left
          unfold fbit tcount
          rw [e2]
          exact ⟨e1, rfl, rfl⟩
        · right
          unfold fbit tcount
          rw [e1, e2]
          exact ⟨by decide, rfl, a1 e2, rfl⟩
      · rintro h1 ⟨Q1, F1⟩
        refine ⟨fun c => anew _ a1 a2 (fun z => ?_) h1 Q1 F1, fun c => ⟨fun c5 => ?_, fun c5 => anew _ a1 a2 (fun _ => ?_) h1 Q1 F1⟩⟩
        · rw [h4n.mp c] at z
          cases z
        · unfold wJ_MO_legal_234
          refine no (fun L => ?_) h1 (F1.mono (by simp))
          have hht : hdr bs = true := by
            cases hq : hdr bs with
            | true => rfl
            | false => exact absurd (h4n.mpr hq) c
          have q := L.2.2.2.1 hht
          rw [hpp] at q
          rcases a3 with ⟨e, -⟩ | ⟨e, e2⟩
          · rw [e] at c5; exact absurd c5 (by decide)
          · exact e2 ⟨hht, q⟩
        · rcases a3 with ⟨e, e2⟩ | ⟨e, e2⟩
          · exact e2.2
          · exact absurd e c5
    -- the parts' numbers
    have parts : (hdr bs = true → 7 ≤ bt bs p) → wJ_MO_legal_125 G l d w (fun r h' => ((Lg bs ∧ r = nI p) ∨ (¬ Lg bs ∧ r = -1)) ∧ Mf A [2, 3, 11, 12] h h') (A 41) (lN (sTo bs)) (nI p) x4 h := by
      intro a1
      unfold wJ_MO_legal_125 wJ_MO_legal_207 wJ_MO_legal_139
      have e1 : nI p - 1 = nI (p - 1) := pk_sub (show 1 ≤ p by omega)
      have hbq := hb (p - 1)
      rw [e1]
      refine ⟨M.s41, A 12, M.r12, 176, p - 1, ⟨M.s12, rfl, by omega, by omega⟩, ?_⟩
      rw [rl (p - 1) (by omega), leL (by omega) (by decide)]
      refine ⟨fun a2 => ⟨fun c => read 0 a1 a2 (Or.inr ⟨rfl, fun z => ?_⟩), fun c => ?_⟩, fun a2 => no (fun L => ?_) h Mf.rfl⟩
      · rw [h4n.mp c] at z
        exact absurd z.1 (by decide)
      · have hht : hdr bs = true := by
          cases hq : hdr bs with
          | true => rfl
          | false => exact absurd (h4n.mpr hq) c
        have h7 := a1 hht
        have b5 := hb (p + 5)
        have b6 := hb (p + 6)
        rw [show nI p + 5 = nI (p + 5) from nI_add p 5, show nI p + 6 = nI (p + 6) from nI_add p 6]
        refine ⟨A 12, M.r12, 176, p + 5, ⟨M.s12, rfl, by omega, by omega⟩, ?_⟩
        rw [rl (p + 5) (by omega), ltL (by omega) (by decide)]
        refine ⟨fun z => read 0 a1 a2 (Or.inr ⟨rfl, fun q => by omega⟩), fun z1 => ⟨A 12, M.r12, 176, p + 5, ⟨M.s12, rfl, by omega, by omega⟩, ?_⟩⟩
        rw [rl (p + 5) (by omega), Llt (by omega) (by decide)]
        refine ⟨fun z => read 0 a1 a2 (Or.inr ⟨rfl, fun q => by omega⟩), fun z2 => ⟨A 12, M.r12, 176, p + 6, ⟨M.s12, rfl, by omega, by omega⟩, ?_⟩⟩
        rw [rl (p + 6) (by omega), ltL (by omega) (by decide)]
        refine ⟨fun z => read 0 a1 a2 (Or.inr ⟨rfl, fun q => by omega⟩), fun z3 => ⟨A 12, M.r12, 176, p + 6, ⟨M.s12, rfl, by omega, by omega⟩, A 12, M.r12, 176, p + 5, ⟨M.s12, rfl, by omega, by omega⟩, ?_⟩⟩
        rw [rl (p + 6) (by omega), rl (p + 5) (by omega), nI_ltI (by omega) (by omega)]
        exact ⟨fun z => read 0 a1 a2 (Or.inr ⟨rfl, fun q => by omega⟩), fun z4 => read 1 a1 a2 (Or.inl ⟨rfl, hht, by omega, by omega, by omega, by omega⟩)⟩
      · have q := L.2.2.1.2
        rw [hpp] at q
        exact a2 q
    unfold wJ_MO_legal_107 wJ_MO_legal_139
    refine ⟨fun c => parts (fun z => ?_), fun c => ⟨M.s41, A 12, M.r12, 176, p, ⟨M.s12, rfl, by omega, by omega⟩, ?_⟩⟩
    · rw [h4n.mp c] at z
      cases z
    · rw [rl p (by omega), ltL (by omega) (by decide)]
      refine ⟨fun z => no (fun L => ?_) h Mf.rfl, fun z => parts (fun _ => by omega)⟩
      have hht : hdr bs = true := by
        cases hq : hdr bs with
        | true => rfl
        | false => exact absurd (h4n.mpr hq) c
      have q := L.2.2.1.1 hht
      rw [hpp] at q
      omega
  exact ⟨fun c => after 0 (Or.inl ⟨rfl, hh.1 c⟩), fun c => after 1 (Or.inr ⟨rfl, hh.2 c⟩)⟩
end MI
