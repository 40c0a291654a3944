/-! the law: class and reference go side by side -/
section LP
variable {G : Gx} {l : Launch} {own own' : Nat → Tg} {h h' : Hp} {D A : Nat → Nat} {x : Nat} {S S' : SS}
/-- the reference's cells stay: so does what it holds -/
theorem MR.congr (R : MR A h S) (e : ∀ f, ar f = true → Same h h' (A f)) : MR A h' S := by
  obtain ⟨M, r⟩ := R
  have M' : MA A h' := ⟨fun f hf => by rw [(e f hf).1]; exact M.1 f hf, fun f hf n => by rw [(e 41 rfl).2.2.2]; exact M.2.1 f hf n, M.2.2⟩
  refine ⟨M', ?_⟩
  have iE : ∀ f, ar f = true → hI h (A f) = hI h' (A f) := fun f hf => (e f hf).2.1.symm
  have lE : ∀ f, ar f = true → hL h (A f) = hL h' (A f) := fun f hf => (e f hf).2.2.1.symm
  unfold MDr MDn MDc MTx LR RA MFr MMs MM1 MPc MPd MPl PA at r ⊢
  rw [iE 41 rfl, iE 1 rfl, iE 5 rfl, iE 6 rfl, iE 7 rfl, iE 8 rfl, iE 9 rfl, iE 13 rfl, iE 14 rfl, iE 15 rfl, iE 16 rfl, iE 20 rfl, iE 21 rfl, iE 24 rfl, iE 25 rfl, iE 26 rfl, iE 27 rfl, iE 28 rfl, iE 29 rfl, iE 30 rfl, iE 31 rfl, iE 32 rfl, iE 33 rfl, iE 34 rfl, iE 36 rfl, iE 37 rfl, iE 38 rfl, iE 39 rfl, iE 40 rfl, lE 4 rfl, lE 10 rfl, lE 22 rfl, lE 23 rfl, lE 35 rfl] at r
  exact r
theorem ar_ne {M : MA A h} {f : Nat} (hf : ar f = true) : hS h (A f) ≠ none := by
  rw [M.1 f hf]
  exact fun z => by cases z
/-- a call of the class leaves the reference's cells -/
theorem step_c (R : MR A h S) (o : ∀ f, ar f = true → own (A f) = (0, 0)) (Q : CQ G D x own h S' h') : ∃ own', CS G own' h' D x S' ∧ MR A h' S ∧ ∀ f, ar f = true → own' (A f) = (0, 0) := by
  obtain ⟨own', C, F, E⟩ := Q
  have M := R.1
  refine ⟨own', C, R.congr (fun f hf => F.kp (M.1 f hf) (o f hf) (by simp [T0])), fun f hf => ?_⟩
  exact E.at (M.1 f hf) (o f hf) (by simp)
/-- a call of the reference leaves the class's cells -/
theorem step_m (C : CS G own h D x S') (o : ∀ f, ar f = true → own (A f) = (0, 0)) (Q : MQr A h S' h') : CS G own h' D x S' ∧ MR A h' S' := by
  refine ⟨?_, Q.1⟩
  have Mf' := Q.2
  have F : FT own h h' (fun t => t = (0, 0)) := by
    refine ⟨fun y _ => by rw [Mf'.1.1], fun y _ n => ?_⟩
    have n' : ¬ own y = (0, 0) := n
    have n41 : y ≠ A 41 := fun z => n' (by rw [z]; exact o 41 rfl)
    have q := Mf'.2.1 y n41 (fun f _ hf z => n' (by rw [z]; exact o f hf))
    exact ⟨by rw [Mf'.1.1], q.1, q.2, by rw [Mf'.1.2]⟩
  obtain ⟨u, ml, pl, C1, U, M, V⟩ := C.split
  have nb : NB own (fun t => t = (0, 0)) := ⟨by simp, fun a _ => by simp⟩
  exact CS.join (C1.kept F Ey.rfl.ex (by simp) (by simp) (by simp) (by simp)) (U.kept F Ey.rfl (by simp) (by simp) (by simp) (by simp) (by simp)) (M.kept F Ey.rfl.ex nb ⟨by simp, by simp⟩ ⟨by simp, by simp⟩ (by simp)) (fun d hd => (V d hd).kept F Ey.rfl.ex nb (by simp) (by simp) ⟨by simp, by simp⟩ ⟨by simp, by simp, by simp⟩ ⟨by simp, by simp, by simp⟩ (by simp) (by simp <;> omega))
end LP
/-- the time stands still but in advance -/
theorem now_reg {S : SS} {y : Int32} {n : Int64} : (sReg S y n).1.2.2.2.2 = S.2.2.2.2 := by
  unfold sReg
  split
  · rfl
  · split <;> rfl
theorem now_pow {S : SS} {y : Int32} {b : Bool} : (sPow S y b).1.2.2.2.2 = S.2.2.2.2 := by
  unfold sPow
  split <;> rfl
theorem now_typ {S : SS} {c : Nat} {n : Int32} : (sTyp S c n).1.2.2.2.2 = S.2.2.2.2 := by
  unfold sTyp
  split <;> rfl
theorem now_snd {S : SS} {y v : Int32} {to : Int64} {rep : Bool} : (sSend S y to v rep).1.2.2.2.2 = S.2.2.2.2 := by
  unfold sSend
  split
  · rfl
  · split
    · rfl
    · split
      · rfl
      · split
        · rfl
        · split <;> rfl
theorem now_alt {S : SS} {i x : Int32} : (sAlt S i x).1.2.2.2.2 = S.2.2.2.2 := by
  unfold sAlt
  split
  · rfl
  · split <;> rfl
theorem now_rcv {S : SS} : (sRcv S).1.2.2.2.2 = S.2.2.2.2 := by
  unfold sRcv
  split
  · rfl
  · split
    · rfl
    · split <;> rfl
theorem now_tak {S : SS} {y : Int32} : (sTak S y).1.2.2.2.2 = S.2.2.2.2 := by
  unfold sTak
  split
  · rfl
  · split <;> rfl
theorem now_cop {S : SS} {y : Int32} : (sCop S y).1.2.2.2.2 = S.2.2.2.2 := by
  unfold sCop
  split
  · rfl
  · split
    · rfl
    · split <;> rfl
theorem now_swp {S : SS} {y : Int32} : (sSwp S y).1.2.2.2.2 = S.2.2.2.2 := by
  unfold sSwp
  split
  · rfl
  · split <;> rfl
theorem now_rpt {S : SS} {y : Int32} : (sRpt S y).1.2.2.2.2 = S.2.2.2.2 := by
  unfold sRpt
  split
  · rfl
  · split <;> rfl
/-- where the loop stands after i calls -/
def LI (G : Gx) (D A : Nat → Nat) (x i : Nat) (S : SS) (own : Nat → Tg) (h : Hp) (k n : Nat) : Prop := CS G own h D x S ∧ MR A h S ∧ WX S ∧ (∀ f, ar f = true → own (A f) = (0, 0)) ∧ S.2.2.2.2 ≤ 100000 * i ∧ k ≤ 137 + 72 * i ∧ n ≤ 24224 + 11892 * i
set_option maxHeartbeats 4000000 in
set_option maxRecDepth 100000 in
theorem law_loop {G : Gx} {l : Launch} {D A : Nat → Nat} {x k0 n0 : Nat} {h0 : Hp} {own0 : Nat → Tg} (hL : kLen G 9 ≤ 3072) (I0 : LI G D A x 0 S0 own0 h0 k0 n0) : wL_LW_law_18 G l x (A 41) 0 h0 k0 n0 := by
  unfold wL_LW_law_18
  refine ⟨fun x3 h k n => ∃ i S own, x3 = nI (6 * i) ∧ 6 * i ≤ kLen G 9 ∧ LI G D A x i S own h k n, fun x3 h k n => kLen G 9 - x3.toNatClampNeg, ⟨0, S0, own0, rfl, Nat.zero_le _, I0⟩, ?_⟩
  rintro _ h k n ⟨i, S, own, rfl, hi, C, R, W, ho, hnow, hk, hn⟩
  have M := R.1
  unfold wB_LW_law_18
  have cnt : (nI (kLen G 9) - 6 < nI (6 * i)) ↔ kLen G 9 < 6 * i + 6 := by
    by_cases c : 6 ≤ kLen G 9
    · rw [show (6 : Int32) = nI 6 from rfl, pk_sub c, nI_ltI (by omega) (by omega)]
      omega
    · have hneg : nI (kLen G 9) - nI 6 < 0 := pk_sneg (by decide) (by omega)
      have hp : (0 : Int32) ≤ nI (6 * i) := nI_pos' (by omega)
      refine ⟨fun _ => by omega, fun _ => ?_⟩
      have e1 := Int32.lt_iff_toInt_lt.mp hneg
      have e2 := Int32.le_iff_toInt_le.mp hp
      exact Int32.lt_iff_toInt_lt.mpr (by show (nI (kLen G 9) - nI 6).toInt < _; omega)
  rw [cnt]
  refine ⟨fun _ => ⟨⟨by omega, by omega⟩, rfl⟩, fun c => ?_⟩
  have hi6 : 6 * i + 6 ≤ kLen G 9 := by omega
  have t1 : nI (6 * i) + 1 = nI (6 * i + 1) ∧ 6 * i + 1 < kLen G 9 ∧ 6 * i + 1 < 2147483648 := ⟨nI_add (6 * i) 1, by omega, by omega⟩
  have t2 : nI (6 * i) + 2 = nI (6 * i + 2) ∧ 6 * i + 2 < kLen G 9 ∧ 6 * i + 2 < 2147483648 := ⟨nI_add (6 * i) 2, by omega, by omega⟩
  have t3 : nI (6 * i) + 3 = nI (6 * i + 3) ∧ 6 * i + 3 < kLen G 9 ∧ 6 * i + 3 < 2147483648 := ⟨nI_add (6 * i) 3, by omega, by omega⟩
  have t4 : nI (6 * i) + 4 = nI (6 * i + 4) ∧ 6 * i + 4 < kLen G 9 ∧ 6 * i + 4 < 2147483648 := ⟨nI_add (6 * i) 4, by omega, by omega⟩
  have t5 : nI (6 * i) + 5 = nI (6 * i + 5) ∧ 6 * i + 5 < kLen G 9 ∧ 6 * i + 5 < 2147483648 := ⟨nI_add (6 * i) 5, by omega, by omega⟩
  have hs := C.hs
  -- the next round
  have nxt : ∀ (S1 : SS) (own1 : Nat → Tg) (h1 : Hp) (k1 n1 : Nat), CS G own1 h1 D x S1 → MR A h1 S1 → WX S1 → (∀ f, ar f = true → own1 (A f) = (0, 0)) → S1.2.2.2.2 ≤ 100000 * i + 100000 → k1 ≤ k + 72 → n1 ≤ n + 11892 → wJ_LW_law_714 G l (fun x3_ h_ k_ n_ => (∃ i S own, x3_ = nI (6 * i) ∧ 6 * i ≤ kLen G 9 ∧ LI G D A x i S own h_ k_ n_) ∧ kLen G 9 - x3_.toNatClampNeg < kLen G 9 - (nI (6 * i)).toNatClampNeg) x (A 41) (nI (6 * i)) h1 k1 n1 := by
    intro S1 own1 h1 k1 n1 c1 c2 c3 c4 c5 c6 c7
    unfold wJ_LW_law_714
    rintro _ rfl
    have e6 : nI (6 * i) + 6 = nI (6 * (i + 1)) := nI_add (6 * i) 6
    rw [e6]
    refine ⟨⟨i + 1, S1, own1, rfl, by omega, c1, c2, c3, c4, by omega, by omega, by omega⟩, ?_⟩
    rw [nI_clamp (by omega), nI_clamp (by omega)]
    omega
  refine ⟨6 * i, ⟨rfl, by omega, by omega⟩, ?_⟩
  intro xs exs
  have bk : k ≤ 600000 ∧ n ≤ 7302250 := ⟨by omega, by omega⟩
  refine ⟨fun _ => ?_, fun _ => ?_, fun _ => ?_, fun _ => ?_, fun _ => ?_, fun _ => ?_, fun _ => ?_, fun _ => ?_, fun _ => ?_, fun _ => ?_, fun _ => ?_, fun _ => ?_, fun _ => ?_, fun _ => ?_, fun _ => ?_, fun _ => ?_, fun _ => ?_, fun _ => ?_, fun _ => ?_, fun _ _ _ _ _ _ _ _ _ _ _ _ _ _ _ _ _ _ _ => ?_⟩
  · refine ⟨6 * i + 1, t1, 6 * i + 2, t2, 6 * i + 3, t3, hs, _, c_SC_register (d := 0) (w := 0) C, bk, ?_⟩
    rintro _ h1 ⟨rfl, Q1⟩
    obtain ⟨own1, C1, R1, o1⟩ := step_c R ho Q1
    refine ⟨6 * i + 1, t1, 6 * i + 2, t2, 6 * i + 3, t3, R1.1.s41, _, c_MO_register (d := 0) (w := 0) R1, bk, ?_⟩
    rintro _ h2 ⟨rfl, Q2⟩
    obtain ⟨C2, R2⟩ := step_m C1 o1 Q2
    exact ⟨fun _ => nxt _ own1 h2 k n C2 R2 (wx_reg W) o1 (by rw [now_reg]; omega) (by omega) (by omega), fun z => absurd rfl z⟩
  · refine ⟨6 * i + 1, t1, 6 * i + 2, t2, ?_⟩
    have pw : ∀ b : Bool, (kTab G 9 (6 * i + 2) = 0 ↔ b = false) → wJ_LW_law_206 G l (fun x3_ h_ k_ n_ => (∃ i S own, x3_ = nI (6 * i) ∧ 6 * i ≤ kLen G 9 ∧ LI G D A x i S own h_ k_ n_) ∧ kLen G 9 - x3_.toNatClampNeg < kLen G 9 - (nI (6 * i)).toNatClampNeg) x (A 41) (nI (6 * i)) (if b then 1 else 0) (kTab G 9 (6 * i + 1)) x h k n := by
      intro b hb
      unfold wJ_LW_law_206
      refine ⟨hs, _, c_SC_power (d := 0) (w := 0) C, bk, ?_⟩
      rintro _ h1 ⟨rfl, Q1⟩
      obtain ⟨own1, C1, R1, o1⟩ := step_c R ho Q1
      have fin : wJ_LW_law_228 G l (fun x3_ h_ k_ n_ => (∃ i S own, x3_ = nI (6 * i) ∧ 6 * i ≤ kLen G 9 ∧ LI G D A x i S own h_ k_ n_) ∧ kLen G 9 - x3_.toNatClampNeg < kLen G 9 - (nI (6 * i)).toNatClampNeg) x (A 41) (nI (6 * i)) (if b then 1 else 0) (kTab G 9 (6 * i + 1)) (A 41) (sPow S (kTab G 9 (6 * i + 1)) b).2 h1 k n := by
        unfold wJ_LW_law_228
        refine ⟨R1.1.s41, _, c_MO_power1 (d := 0) (w := 0) R1, bk, ?_⟩
        rintro _ h2 ⟨rfl, Q2⟩
        obtain ⟨C2, R2⟩ := step_m C1 o1 Q2
        exact ⟨fun _ => nxt _ own1 h2 k n C2 R2 (wx_pow W) o1 (by rw [now_pow]; omega) (by omega) (by omega), fun z => absurd rfl z⟩
      refine ⟨6 * i + 1, t1, 6 * i + 2, t2, fun z => ?_, fun z => ?_⟩
      · rw [hb.mp z] at fin ⊢
        exact fin
      · have bt : b = true := by
          cases hq : b with
          | true => rfl
          | false => exact absurd (hb.mpr hq) z
        rw [bt] at fin ⊢
        exact fin
    exact ⟨fun z => pw false ⟨fun _ => rfl, fun _ => z⟩, fun z => pw true ⟨fun y => absurd y z, fun y => by cases y⟩⟩
  · refine ⟨6 * i + 1, t1, 6 * i + 2, t2, hs, _, by rw [pk_char]; exact c_SC_type (d := 0) (w := 0) C W.1.2.2.2.1, bk, ?_⟩
    rintro _ h1 ⟨rfl, Q1⟩
    obtain ⟨own1, C1, R1, o1⟩ := step_c R ho Q1
    refine ⟨6 * i + 1, t1, 6 * i + 2, t2, R1.1.s41, _, by rw [pk_char]; exact c_MO_type (d := 0) (w := 0) R1 W.1.2.2.2.1, bk, ?_⟩
    rintro _ h2 ⟨rfl, Q2⟩
    obtain ⟨C2, R2⟩ := step_m C1 o1 Q2
    exact ⟨fun _ => nxt _ own1 h2 k n C2 R2 (wx_typ W (Nat.mod_lt _ (by decide))) o1 (by rw [now_typ]; omega) (by omega) (by omega), fun z => absurd rfl z⟩
  · refine ⟨hs, _, c_SC_wipe (d := 0) (w := 0) C, bk, ?_⟩
    rintro h1 Q1
    obtain ⟨own1, C1, R1, o1⟩ := step_c R ho Q1
    refine ⟨R1.1.s41, _, c_MO_wipe (d := 0) (w := 0) R1, bk, ?_⟩
    rintro h2 Q2
    obtain ⟨C2, R2⟩ := step_m C1 o1 Q2
    exact nxt _ own1 h2 k n C2 R2 (wx_wip W) o1 (by show S.2.2.2.2 ≤ _; omega) (by omega) (by omega)
  · refine ⟨6 * i + 1, t1, 6 * i + 2, t2, 6 * i + 3, t3, 6 * i + 4, t4, 6 * i + 5, t5, ?_⟩
    have sd : ∀ b : Bool, (kTab G 9 (6 * i + 5) = 0 ↔ b = false) → wJ_LW_law_326 G l (fun x3_ h_ k_ n_ => (∃ i S own, x3_ = nI (6 * i) ∧ 6 * i ≤ kLen G 9 ∧ LI G D A x i S own h_ k_ n_) ∧ kLen G 9 - x3_.toNatClampNeg < kLen G 9 - (nI (6 * i)).toNatClampNeg) x (A 41) (nI (6 * i)) (if b then 1 else 0) (kTab G 9 (6 * i + 4)) ((((kTab G 9 (6 * i + 2)).toInt64) <<< ((32 : Int32).toInt64 &&& 63)) ||| (((kTab G 9 (6 * i + 3)).toInt64) &&& 4294967295)) (kTab G 9 (6 * i + 1)) x h k n := by
      intro b hb
      unfold wJ_LW_law_326
      refine ⟨hs, 9, 1671, _, c_SC_send (d := 0) (w := 0) C W.1, ⟨by omega, by omega⟩, ?_⟩
      rintro _ h1 ⟨rfl, Q1⟩
      obtain ⟨own1, C1, R1, o1⟩ := step_c R ho Q1
      have fin : wJ_LW_law_373 G l (fun x3_ h_ k_ n_ => (∃ i S own, x3_ = nI (6 * i) ∧ 6 * i ≤ kLen G 9 ∧ LI G D A x i S own h_ k_ n_) ∧ kLen G 9 - x3_.toNatClampNeg < kLen G 9 - (nI (6 * i)).toNatClampNeg) x (A 41) (nI (6 * i)) (if b then 1 else 0) (kTab G 9 (6 * i + 4)) ((((kTab G 9 (6 * i + 2)).toInt64) <<< ((32 : Int32).toInt64 &&& 63)) ||| (((kTab G 9 (6 * i + 3)).toInt64) &&& 4294967295)) (kTab G 9 (6 * i + 1)) (A 41) (sSend S (kTab G 9 (6 * i + 1)) ((((kTab G 9 (6 * i + 2)).toInt64) <<< ((32 : Int32).toInt64 &&& 63)) ||| (((kTab G 9 (6 * i + 3)).toInt64) &&& 4294967295)) (kTab G 9 (6 * i + 4)) b).2 h1 (k + 9) (n + 1671) := by
        unfold wJ_LW_law_373
        refine ⟨R1.1.s41, _, c_MO_send (d := 0) (w := 0) R1 W, ⟨by omega, by omega⟩, ?_⟩
        rintro _ h2 ⟨rfl, Q2⟩
        obtain ⟨C2, R2⟩ := step_m C1 o1 Q2
        exact ⟨fun _ => nxt _ own1 h2 (k + 9) (n + 1671) C2 R2 (wx_snd W) o1 (by rw [now_snd]; omega) (by omega) (by omega), fun z => absurd rfl z⟩
      refine ⟨6 * i + 1, t1, 6 * i + 2, t2, 6 * i + 3, t3, 6 * i + 4, t4, 6 * i + 5, t5, fun z => ?_, fun z => ?_⟩
      · rw [hb.mp z] at fin ⊢
        exact fin
      · have bt : b = true := by
          cases hq : b with
          | true => rfl
          | false => exact absurd (hb.mpr hq) z
        rw [bt] at fin ⊢
        exact fin
    exact ⟨fun z => sd false ⟨fun _ => rfl, fun _ => z⟩, fun z => sd true ⟨fun y => absurd y z, fun y => by cases y⟩⟩
  · refine ⟨6 * i + 1, t1, 6 * i + 2, t2, hs, _, c_SC_alter (d := 0) (w := 0) C W.1, bk, ?_⟩
    rintro _ h1 ⟨rfl, Q1⟩
    obtain ⟨own1, C1, R1, o1⟩ := step_c R ho Q1
    refine ⟨6 * i + 1, t1, 6 * i + 2, t2, R1.1.s41, _, c_MO_alter (d := 0) (w := 0) R1 W, bk, ?_⟩
    rintro _ h2 ⟨rfl, Q2⟩
    obtain ⟨C2, R2⟩ := step_m C1 o1 Q2
    exact ⟨fun _ => nxt _ own1 h2 k n C2 R2 (wx_alt W) o1 (by rw [now_alt]; omega) (by omega) (by omega), fun z => absurd rfl z⟩
  · refine ⟨hs, 3, 809, _, c_SC_receive (d := 0) (w := 0) C W.1, ⟨by omega, by omega⟩, ?_⟩
    rintro _ h1 ⟨⟨rfl, Q1⟩, -⟩
    obtain ⟨own1, C1, R1, o1⟩ := step_c R ho Q1
    refine ⟨R1.1.s41, _, c_MO_receive (d := 0) (w := 0) R1 W, ⟨by omega, by omega⟩, ?_⟩
    rintro _ h2 ⟨rfl, Q2⟩
    obtain ⟨C2, R2⟩ := step_m C1 o1 Q2
    exact ⟨fun _ => nxt _ own1 h2 (k + 3) (n + 809) C2 R2 (wx_rcv W) o1 (by rw [now_rcv]; omega) (by omega) (by omega), fun z => absurd rfl z⟩
  · refine ⟨6 * i + 1, t1, hs, 72, 11892, _, c_SC_advance (d := 0) (w := 0) C W.1 (by omega), ⟨by omega, by omega⟩, ?_⟩
    rintro _ h1 ⟨rfl, Q1⟩
    obtain ⟨own1, C1, R1, o1⟩ := step_c R ho Q1
    refine ⟨6 * i + 1, t1, R1.1.s41, _, c_MO_advance (d := 0) (w := 0) R1 W (by omega), ⟨by omega, by omega⟩, ?_⟩
    rintro _ h2 ⟨rfl, Q2⟩
    obtain ⟨C2, R2⟩ := step_m C1 o1 Q2
    exact ⟨fun _ => nxt _ own1 h2 (k + 72) (n + 11892) C2 R2 (wx_adv W (by omega)).1 o1 (by have := (wx_adv (y := kTab G 9 (6 * i + 1)) W (by omega)).2; omega) (by omega) (by omega), fun z => absurd rfl z⟩
  · refine ⟨6 * i + 1, t1, hs, 3, 407, _, c_SC_take (d := 0) (w := 0) C W.1, ⟨by omega, by omega⟩, ?_⟩
    rintro _ h1 ⟨rfl, Q1⟩
    obtain ⟨own1, C1, R1, o1⟩ := step_c R ho Q1
    refine ⟨6 * i + 1, t1, R1.1.s41, _, c_MO_take (d := 0) (w := 0) R1 W, ⟨by omega, by omega⟩, ?_⟩
    rintro _ h2 ⟨rfl, Q2⟩
    obtain ⟨C2, R2⟩ := step_m C1 o1 Q2
    exact ⟨fun _ => nxt _ own1 h2 (k + 3) (n + 407) C2 R2 (wx_tak W) o1 (by rw [now_tak]; omega) (by omega) (by omega), fun z => absurd rfl z⟩
  · refine ⟨6 * i + 1, t1, hs, 1, 400, _, c_SC_copy (d := 0) (w := 0) C W.1, ⟨by omega, by omega⟩, ?_⟩
    rintro _ h1 ⟨rfl, Q1⟩
    obtain ⟨own1, C1, R1, o1⟩ := step_c R ho Q1
    refine ⟨6 * i + 1, t1, R1.1.s41, _, c_MO_copy (d := 0) (w := 0) R1 W, ⟨by omega, by omega⟩, ?_⟩
    rintro _ h2 ⟨rfl, Q2⟩
    obtain ⟨C2, R2⟩ := step_m C1 o1 Q2
    exact ⟨fun _ => nxt _ own1 h2 (k + 1) (n + 400) C2 R2 (wx_cop W) o1 (by rw [now_cop]; omega) (by omega) (by omega), fun z => absurd rfl z⟩
  · refine ⟨6 * i + 1, t1, hs, _, c_SC_swap (d := 0) (w := 0) C, bk, ?_⟩
    rintro _ h1 ⟨rfl, Q1⟩
    obtain ⟨own1, C1, R1, o1⟩ := step_c R ho Q1
    refine ⟨6 * i + 1, t1, R1.1.s41, _, c_MO_swap (d := 0) (w := 0) R1 W, bk, ?_⟩
    rintro _ h2 ⟨rfl, Q2⟩
    obtain ⟨C2, R2⟩ := step_m C1 o1 Q2
    exact ⟨fun _ => nxt _ own1 h2 k n C2 R2 (wx_swp W) o1 (by rw [now_swp]; omega) (by omega) (by omega), fun z => absurd rfl z⟩
  · refine ⟨6 * i + 1, t1, hs, _, c_SC_report (d := 0) (w := 0) C W.1, bk, ?_⟩
    rintro _ h1 ⟨rfl, Q1⟩
    obtain ⟨own1, C1, R1, o1⟩ := step_c R ho Q1
    refine ⟨6 * i + 1, t1, R1.1.s41, _, c_MO_report (d := 0) (w := 0) R1 W, bk, ?_⟩
    rintro _ h2 ⟨rfl, Q2⟩
    obtain ⟨C2, R2⟩ := step_m C1 o1 Q2
    exact ⟨fun _ => nxt _ own1 h2 k n C2 R2 (wx_rpt W) o1 (by rw [now_rpt]; omega) (by omega) (by omega), fun z => absurd rfl z⟩
  · refine ⟨6 * i + 1, t1, hs, _, c_SC_waiting (d := 0) (w := 0) C, bk, ?_⟩
    rintro _ _ ⟨rfl, rfl⟩
    refine ⟨6 * i + 1, t1, M.s41, _, c_MO_waiting (d := 0) (w := 0) R, bk, ?_⟩
    rintro _ _ ⟨rfl, rfl⟩
    exact ⟨fun _ => nxt S own h k n C R W ho (by omega) (by omega) (by omega), fun z => absurd rfl z⟩
  · refine ⟨6 * i + 1, t1, 6 * i + 2, t2, hs, _, c_SC_byteAt (d := 0) (w := 0) C, bk, ?_⟩
    rintro _ _ ⟨rfl, rfl⟩
    refine ⟨6 * i + 1, t1, 6 * i + 2, t2, M.s41, _, c_MO_byteAt (d := 0) (w := 0) R, bk, ?_⟩
    rintro _ _ ⟨rfl, rfl⟩
    exact ⟨fun _ => nxt S own h k n C R W ho (by omega) (by omega) (by omega), fun z => absurd rfl z⟩
  · refine ⟨6 * i + 1, t1, 6 * i + 2, t2, hs, _, c_SC_text (d := 0) (w := 0) C (fun k hk => (W.1.1 k hk).2.2.2.2.2.2.2.2.2.1), bk, ?_⟩
    rintro _ _ ⟨rfl, rfl⟩
    refine ⟨6 * i + 1, t1, 6 * i + 2, t2, M.s41, _, c_MO_text (d := 0) (w := 0) R (fun k hk => (W.1.1 k hk).2.2.2.2.2.2.2.2.2.1), bk, ?_⟩
    rintro _ _ ⟨rfl, rfl⟩
    exact ⟨fun _ => nxt S own h k n C R W ho (by omega) (by omega) (by omega), fun z => absurd rfl z⟩
  · refine ⟨6 * i + 1, t1, hs, _, c_SC_sender (d := 0) (w := 0) C, bk, ?_⟩
    rintro _ _ ⟨rfl, rfl⟩
    refine ⟨6 * i + 1, t1, M.s41, _, c_MO_sender (d := 0) (w := 0) R, bk, ?_⟩
    rintro _ _ ⟨rfl, rfl⟩
    exact ⟨fun _ => nxt S own h k n C R W ho (by omega) (by omega) (by omega), fun z => absurd (cmp_eq.mpr rfl) z⟩
  · refine ⟨6 * i + 1, t1, hs, _, c_SC_state (d := 0) (w := 0) C W.1.2.2.2.2.2.1, bk, ?_⟩
    rintro _ _ ⟨rfl, rfl⟩
    refine ⟨6 * i + 1, t1, M.s41, _, c_MO_state (d := 0) (w := 0) R W.1.2.2.2.2.2.1, bk, ?_⟩
    rintro _ _ ⟨rfl, rfl⟩
    exact ⟨fun _ => nxt S own h k n C R W ho (by omega) (by omega) (by omega), fun z => absurd rfl z⟩
  · refine ⟨6 * i + 1, t1, hs, _, c_SC_offers (d := 0) (w := 0) C W.1.2.2.2.2.2.1, bk, ?_⟩
    rintro _ _ ⟨rfl, rfl⟩
    refine ⟨6 * i + 1, t1, M.s41, _, c_MO_offers (d := 0) (w := 0) R W.1.2.2.2.2.2.1, bk, ?_⟩
    rintro _ _ ⟨rfl, rfl⟩
    exact ⟨fun _ => nxt S own h k n C R W ho (by omega) (by omega) (by omega), fun z => absurd rfl z⟩
  · refine ⟨hs, _, c_SC_time (d := 0) (w := 0) C, bk, ?_⟩
    rintro _ _ ⟨rfl, rfl⟩
    refine ⟨M.s41, _, c_MO_time (d := 0) (w := 0) R, bk, ?_⟩
    rintro _ _ ⟨rfl, rfl⟩
    exact ⟨fun _ => nxt S own h k n C R W ho (by omega) (by omega) (by omega), fun z => absurd rfl z⟩
  · exact nxt S own h k n C R W ho (by omega) (by omega) (by omega)
/-- the law, from an empty world -/
theorem law_wp {G : Gx} {l : Launch} {h : Hp} (hL : kLen G 9 ≤ 3072) (he : ∀ a, hS h a = none) : wp_LW_law G l h := by
  unfold wp_LW_law
  refine ⟨⟨by decide, by decide⟩, fun q F => ⟨100, 3000, _, c_SC_init (d := 0) (w := 0) (h := pN h q (10, 0)) Fre.new (fun j => F.2.1 j) (fun j => F.2.2.2 j), ⟨by decide, by decide⟩, ?_⟩⟩
  rintro h1 ⟨own1, D, C1, F1, E1⟩
  refine ⟨⟨by decide, by decide⟩, fun q2 F2 => ⟨35, 21177, _, c_MO_init (d := 0) (w := 0) (h := pN h1 q2 (18, 0)) Fre.new (fun j => F2.2.1 j), ⟨by decide, by decide⟩, ?_⟩⟩
  rintro h2 ⟨A, a1, a2, a3, a4, a5⟩
  rw [← a1]
  have eS : ∀ y, hS h1 y ≠ none → y ≠ q2 := fun y hy z => hy (by rw [z]; exact F2.1)
  have e1 : ∀ y, hS h1 y ≠ none → hS (pN h1 q2 (18, 0)) y = hS h1 y := fun y hy => (same_pN (eS y hy)).1
  -- the owners: nothing of the reference is the class's
  have hC : CS G (fun y => if hS h1 y = none then (0, 0) else own1 y) h2 D q S0 := by
    have F : FT own1 h1 h2 (fun _ => False) := by
      refine ⟨fun y hy => ?_, fun y hy _ => ?_⟩
      · rw [a4 y (by rw [e1 y hy]; exact hy), e1 y hy]
      · obtain ⟨b1, b2, b3⟩ := a5 y (by rw [e1 y hy]; exact hy) (eS y hy)
        exact ⟨by rw [a4 y (by rw [e1 y hy]; exact hy), e1 y hy], b1, b2, b3⟩
    have E : Ey own1 (fun y => if hS h1 y = none then (0, 0) else own1 y) h1 := fun y hy => if_neg hy
    obtain ⟨u, ml, pl, C', U, M, V⟩ := C1.split
    have nb : NB own1 (fun _ => False) := ⟨fun z => z, fun _ _ z => z⟩
    exact CS.join (C'.kept F E.ex (fun z => z) (fun z => z) (fun z => z) (fun z => z)) (U.kept F E (fun z => z) (fun z => z) (fun z => z) (fun z => z) (fun _ z => z)) (M.kept F E.ex nb ⟨fun z => z, fun z => z⟩ ⟨fun z => z, fun z => z⟩ (fun _ z => z)) (fun d hd => (V d hd).kept F E.ex nb (fun z => z) (fun z => z) ⟨fun z => z, fun z => z⟩ ⟨fun z => z, fun z => z, fun z => z⟩ ⟨fun z => z, fun z => z, fun z => z⟩ (fun z => z) (fun _ z => z))
  have ho : ∀ f, ar f = true → (fun y => if hS h1 y = none then ((0, 0) : Tg) else own1 y) (A f) = (0, 0) := fun f hf => by
    by_cases c : f = 41
    · show (if hS h1 (A f) = none then ((0, 0) : Tg) else own1 (A f)) = (0, 0)
      rw [c, a1]
      exact if_pos F2.1
    · have := a3 f hf c
      show (if hS h1 (A f) = none then ((0, 0) : Tg) else own1 (A f)) = (0, 0)
      refine if_pos ?_
      by_cases cq : A f = q2
      · rw [cq]; exact F2.1
      · rw [← this]
        exact ((same_pN cq).1).symm
  exact law_loop hL ⟨hC, a2, wx_0, ho, Nat.zero_le _, by decide, by decide⟩
