/-! the reference's side -/
/-! the state, as the reference holds it -/
def linS (S : SS) (n : Nat) : List (List Nat) := if n = 0 then S.2.1.map (fun p => p.2) else if n < 5 then dInb (S.1 (n - 1)) else dRep (S.1 (n - 5))
def FA : List Nat := [0, 1, 2, 3, 4, 5, 6, 7, 8, 9, 10, 11, 12, 13, 14, 15, 16, 17, 18, 19, 20, 21, 22, 23, 24, 25, 26, 27, 28, 29, 30, 31, 32, 33, 34, 35, 36, 37, 38, 39, 40]
def MDr (A : Nat → Nat) (h : Hp) (drf : List Nat) : Prop := hI h (A 41) 0 = nI drf.length ∧ ∀ j, j < drf.length → hI h (A 1) j = nI (bt drf j)
def MDn (A : Nat → Nat) (h : Hp) (dev : Nat → SDv) : Prop := ∀ d, d < 4 → hL h (A 4) d = lN (dNum (dev d)) ∧ hI h (A 5) d = (if dOn (dev d) then 1 else 0)
def MDc (A : Nat → Nat) (h : Hp) (dev : Nat → SDv) : Prop := ∀ d, d < 4 → hI h (A 6) d = nI (dMn (dev d)) ∧ hI h (A 7) d = nI (dRef (dev d))
def MTx (A : Nat → Nat) (h : Hp) (dev : Nat → SDv) : Prop := ∀ d, d < 4 → hI h (A 8) d = nI (dTxt (dev d)).length ∧ hL h (A 10) d = lN (dSnd (dev d)) ∧ ∀ j, j < (dTxt (dev d)).length → hI h (A 9) (480 * d + j) = (dTxt (dev d)).getD j 0
def MFr (A : Nat → Nat) (h : Hp) (up : List (Nat × List Nat)) : Prop := ∀ k, k < up.length → hI h (A 15) k = nI (up.getD k (0, [])).1
def MM1 (A : Nat → Nat) (h : Hp) (k : Nat) (m : SMs) : Prop := hI h (A 20) k = nI (mOrg m) ∧ hI h (A 21) k = nI (bt (mSub m) 1) ∧ hL h (A 22) k = lN (mFrm m) ∧ hL h (A 23) k = lN (sTo (mSub m)) ∧ hI h (A 24) k = (if wnt (mSub m) then 1 else 0) ∧ hI h (A 25) k = (if hdr (mSub m) then 1 else 0) ∧ hI h (A 26) k = nI (mAcc m) ∧ hI h (A 27) k = nI (sOld (mSub m) (mAcc m)) ∧ hI h (A 28) k = nI (mNxt m) ∧ hI h (A 29) k = nI (mOff m) ∧ hI h (A 30) k = nI (mFate m)
def MMs (A : Nat → Nat) (h : Hp) (ms : List SMs) (now : Nat) : Prop := (hI h (A 41) 17 = nI ms.length ∧ hI h (A 41) 18 = nI (pend ms).length ∧ hI h (A 41) 19 = nI now) ∧ (∀ k, k < ms.length → MM1 A h k (mat ms k)) ∧ ∀ k, ms.length ≤ k → hI h (A 29) k = 0 ∧ hI h (A 30) k = 0
def MPd (A : Nat → Nat) (h : Hp) (k s : Nat) (sub : List Nat) : Prop := s < 12 ∧ hI h (A 31) k = nI s ∧ hI h (A 32) s = 1 ∧ hI h (A 33) s = nI (sub.length - sda sub) ∧ ∀ i, i < sub.length - sda sub → hI h (A 34) (144 * s + i) = nI (bt sub (sda sub + i))
def MPc (A : Nat → Nat) (h : Hp) (ms : List SMs) : Prop := ∃ pl : Nat → Nat, (∀ k, k ∈ pend ms → MPd A h k (pl k) (mSub (mat ms k))) ∧ (∀ k j, k ∈ pend ms → j ∈ pend ms → pl k = pl j → k = j) ∧ ∀ s, s < 12 → hI h (A 32) s = 0 ∨ ∃ k, k ∈ pend ms ∧ pl k = s
def PA (A : Nat → Nat) (h : Hp) (q : Nat) (pl : SPl) : Prop := hL h (A 35) q = lN pl.1 ∧ hI h (A 36) q = nI pl.2.1 ∧ hI h (A 37) q = nI pl.2.2.length ∧ ∀ i o, pl.2.2[i]? = some o → (o = none → hI h (A 39) (3 * q + i) = -1) ∧ ∀ bs, o = some bs → hI h (A 39) (3 * q + i) = nI (dtxt bs).length ∧ ∀ j, j < (dtxt bs).length → hI h (A 40) (153 * (3 * q + i) + j) = (dtxt bs).getD j 0
def MPl (A : Nat → Nat) (h : Hp) (dev : Nat → SDv) : Prop := ∀ d, d < 4 → hI h (A 38) d = nI (dPil (dev d)).length ∧ ∀ k, k < (dPil (dev d)).length → PA A h (3 * d + k) ((dPil (dev d)).getD k (0, 0, []))
/-- the whole state -/
def MR (A : Nat → Nat) (h : Hp) (S : SS) : Prop := MA A h ∧ MDr A h S.2.2.1 ∧ MDn A h S.1 ∧ MDc A h S.1 ∧ MTx A h S.1 ∧ LR A h (linS S) ∧ MFr A h S.2.1 ∧ MMs A h S.2.2.2.1 S.2.2.2.2 ∧ MPc A h S.2.2.2.1 ∧ MPl A h S.1
/-- what a call leaves -/
def MQr (A : Nat → Nat) (h : Hp) (S : SS) (h' : Hp) : Prop := MR A h' S ∧ Mf A FA h h'
section MJ
variable {G : Gx} {l : Launch} {d w : Nat} {A : Nat → Nat} {h h' : Hp} {F : List Nat} {S : SS} {dev dev' : Nat → SDv}
theorem MQr.same (R : MR A h S) : MQr A h S h := ⟨R, Mf.rfl⟩
theorem MDr.kept {drf : List Nat} (c : MDr A h drf) (a : Mf A F h h') (J : MJ A) (n0 : 0 ∉ F) (n1 : 1 ∉ F) : MDr A h' drf := ⟨by rw [a.2.2 0 n0]; exact c.1, fun j hj => by rw [a.i J 1 (by decide) (by decide) n1]; exact c.2 j hj⟩
theorem MDn.kept (c : MDn A h dev) (a : Mf A F h h') (J : MJ A) (e : ∀ d, d < 4 → dNum (dev' d) = dNum (dev d) ∧ dOn (dev' d) = dOn (dev d)) (n4 : 4 ∉ F) (n5 : 5 ∉ F) : MDn A h' dev' := fun d hd => ⟨by rw [a.l J 4 (by decide) (by decide) n4, (e d hd).1]; exact (c d hd).1, by rw [a.i J 5 (by decide) (by decide) n5, (e d hd).2]; exact (c d hd).2⟩
theorem MDc.kept (c : MDc A h dev) (a : Mf A F h h') (J : MJ A) (e : ∀ d, d < 4 → dMn (dev' d) = dMn (dev d) ∧ dRef (dev' d) = dRef (dev d)) (n4 : 6 ∉ F) (n5 : 7 ∉ F) : MDc A h' dev' := fun d hd => ⟨by rw [a.i J 6 (by decide) (by decide) n4, (e d hd).1]; exact (c d hd).1, by rw [a.i J 7 (by decide) (by decide) n5, (e d hd).2]; exact (c d hd).2⟩
theorem MTx.kept (c : MTx A h dev) (a : Mf A F h h') (J : MJ A) (e : ∀ d, d < 4 → dTxt (dev' d) = dTxt (dev d) ∧ dSnd (dev' d) = dSnd (dev d)) (n8 : 8 ∉ F) (n9 : 9 ∉ F) (n10 : 10 ∉ F) : MTx A h' dev' := fun d hd => ⟨by rw [a.i J 8 (by decide) (by decide) n8, (e d hd).1]; exact (c d hd).1, by rw [a.l J 10 (by decide) (by decide) n10, (e d hd).2]; exact (c d hd).2.1, fun j hj => by rw [(e d hd).1] at hj ⊢; rw [a.i J 9 (by decide) (by decide) n9]; exact (c d hd).2.2 j hj⟩
theorem MFr.kept {up : List (Nat × List Nat)} (c : MFr A h up) (a : Mf A F h h') (J : MJ A) (n15 : 15 ∉ F) : MFr A h' up := fun k hk => by rw [a.i J 15 (by decide) (by decide) n15]; exact c k hk
theorem MM1.kept {k : Nat} {m : SMs} (c : MM1 A h k m) (a : Mf A F h h') (J : MJ A) (n : ∀ f, 20 ≤ f → f ≤ 30 → f ∉ F) : MM1 A h' k m := by
  obtain ⟨c1, c2, c3, c4, c5, c6, c7, c8, c9, c10, c11⟩ := c
  exact ⟨by rw [a.i J 20 (by decide) (by decide) (n _ (by decide) (by decide))]; exact c1, by rw [a.i J 21 (by decide) (by decide) (n _ (by decide) (by decide))]; exact c2, by rw [a.l J 22 (by decide) (by decide) (n _ (by decide) (by decide))]; exact c3, by rw [a.l J 23 (by decide) (by decide) (n _ (by decide) (by decide))]; exact c4, by rw [a.i J 24 (by decide) (by decide) (n _ (by decide) (by decide))]; exact c5, by rw [a.i J 25 (by decide) (by decide) (n _ (by decide) (by decide))]; exact c6, by rw [a.i J 26 (by decide) (by decide) (n _ (by decide) (by decide))]; exact c7, by rw [a.i J 27 (by decide) (by decide) (n _ (by decide) (by decide))]; exact c8, by rw [a.i J 28 (by decide) (by decide) (n _ (by decide) (by decide))]; exact c9, by rw [a.i J 29 (by decide) (by decide) (n _ (by decide) (by decide))]; exact c10, by rw [a.i J 30 (by decide) (by decide) (n _ (by decide) (by decide))]; exact c11⟩
theorem MMs.kept {ms : List SMs} {now : Nat} (c : MMs A h ms now) (a : Mf A F h h') (J : MJ A) (n : ∀ f, 17 ≤ f → f ≤ 30 → f ∉ F) : MMs A h' ms now := ⟨⟨by rw [a.2.2 17 (n _ (by decide) (by decide))]; exact c.1.1, by rw [a.2.2 18 (n _ (by decide) (by decide))]; exact c.1.2.1, by rw [a.2.2 19 (n _ (by decide) (by decide))]; exact c.1.2.2⟩, fun k hk => (c.2.1 k hk).kept a J (fun f h1 h2 => n f (by omega) h2), fun k hk => ⟨by rw [a.i J 29 (by decide) (by decide) (n _ (by decide) (by decide))]; exact (c.2.2 k hk).1, by rw [a.i J 30 (by decide) (by decide) (n _ (by decide) (by decide))]; exact (c.2.2 k hk).2⟩⟩
theorem MPd.kept {k s : Nat} {sub : List Nat} (c : MPd A h k s sub) (a : Mf A F h h') (J : MJ A) (n31 : 31 ∉ F) (n32 : 32 ∉ F) (n33 : 33 ∉ F) (n34 : 34 ∉ F) : MPd A h' k s sub := ⟨c.1, by rw [a.i J 31 (by decide) (by decide) n31]; exact c.2.1, by rw [a.i J 32 (by decide) (by decide) n32]; exact c.2.2.1, by rw [a.i J 33 (by decide) (by decide) n33]; exact c.2.2.2.1, fun i hi => by rw [a.i J 34 (by decide) (by decide) n34]; exact c.2.2.2.2 i hi⟩
theorem MPc.kept {ms : List SMs} (c : MPc A h ms) (a : Mf A F h h') (J : MJ A) (n31 : 31 ∉ F) (n32 : 32 ∉ F) (n33 : 33 ∉ F) (n34 : 34 ∉ F) : MPc A h' ms := by
  obtain ⟨pl, c1, c2, c3⟩ := c
  exact ⟨pl, fun k hk => (c1 k hk).kept a J n31 n32 n33 n34, c2, fun s hs => by rw [a.i J 32 (by decide) (by decide) n32]; exact c3 s hs⟩
theorem PA.kept {q : Nat} {pl : SPl} (c : PA A h q pl) (a : Mf A F h h') (J : MJ A) (n : ∀ f, 35 ≤ f → f ≤ 40 → f ∉ F) : PA A h' q pl := by
  obtain ⟨c1, c2, c3, c4⟩ := c
  refine ⟨by rw [a.l J 35 (by decide) (by decide) (n _ (by decide) (by decide))]; exact c1, by rw [a.i J 36 (by decide) (by decide) (n _ (by decide) (by decide))]; exact c2, by rw [a.i J 37 (by decide) (by decide) (n _ (by decide) (by decide))]; exact c3, fun i o ho => ?_⟩
  rw [a.i J 39 (by decide) (by decide) (n _ (by decide) (by decide)), a.i J 40 (by decide) (by decide) (n _ (by decide) (by decide))]
  exact c4 i o ho
theorem MPl.kept (c : MPl A h dev) (a : Mf A F h h') (J : MJ A) (e : ∀ d, d < 4 → dPil (dev' d) = dPil (dev d)) (n : ∀ f, 35 ≤ f → f ≤ 40 → f ∉ F) : MPl A h' dev' := fun d hd => ⟨by rw [a.i J 38 (by decide) (by decide) (n _ (by decide) (by decide)), e d hd]; exact (c d hd).1, fun k hk => by rw [e d hd] at hk ⊢; exact ((c d hd).2 k hk).kept a J n⟩
theorem updD_all4 {P : SDv → SDv → Prop} {k : Nat} {v : SDv} (hr : ∀ v, P v v) (hv : P v (dev k)) : ∀ d, d < 4 → P (updD dev k v d) (dev d) := fun d _ => by
  by_cases z : d = k
  · rw [z, updD_eq]; exact hv
  · rw [updD_ne z]; exact hr _
/-- is it a device -/
theorem c_MO_isDevice {y : Int32} : Ci G l M_MO_isDevice (d + 0) (w + 0) [.int y] h 0 0 (fun r h' => h = h' ∧ ((∃ k, k < 4 ∧ y = nI k ∧ devOf y = some k ∧ r = 1) ∨ (devOf y = none ∧ r = 0))) := by
  refine ok_MO_isDevice ?_
  unfold wp_MO_isDevice wJ_MO_isDevice_13 wJ_MO_isDevice_14
  rcases int_dev y with ⟨k, hk, rfl⟩ | hy
  · refine ⟨fun c => absurd c (nI_pos (by omega)), fun _ => ⟨fun c => absurd ((Lle (by omega) (by decide)).mp c) (by show ¬ 4 ≤ k; omega), fun _ => ⟨Or.inr rfl, rfl, Or.inl ⟨k, hk, rfl, devOf_nI hk, rfl⟩⟩⟩⟩
  · refine ⟨fun c => ⟨Or.inl rfl, rfl, Or.inr ⟨devOf_no hy, rfl⟩⟩, fun c => ⟨fun c2 => ⟨Or.inl rfl, rfl, Or.inr ⟨devOf_no hy, rfl⟩⟩, fun c2 => absurd ⟨Int32.not_lt.mp c, Int32.not_le.mp c2⟩ hy⟩⟩
theorem c_MO_isNumber {y : Int64} : Ci G l M_MO_isNumber (d + 0) (w + 0) [.long y] h 0 0 (Xb (1 ≤ y ∧ y ≤ 999999999999) h) := by
  refine ok_MO_isNumber ?_
  unfold wp_MO_isNumber wJ_MO_isNumber_18 wJ_MO_isNumber_19
  rw [cmp_lt, cmp_gt]
  exact ⟨fun c => ⟨Or.inl rfl, Xb.n (fun z => absurd c (Int64.not_lt.mpr z.1))⟩, fun c => ⟨fun c2 => ⟨Or.inl rfl, Xb.n (fun z => absurd c2 (Int64.not_lt.mpr z.2))⟩, fun c2 => ⟨Or.inr rfl, Xb.y ⟨Int64.not_lt.mp c, Int64.not_lt.mp c2⟩⟩⟩⟩
theorem linS_dev {k : Nat} {v : SDv} (h1 : dInb v = dInb (S.1 k)) (h2 : dRep v = dRep (S.1 k)) : linS (updD S.1 k v, S.2) = linS S := by
  funext n
  unfold linS
  have e1 : ∀ j, dInb (updD S.1 k v j) = dInb (S.1 j) := fun j => by
    by_cases z : j = k
    · rw [z, updD_eq]; exact h1
    · rw [updD_ne z]
  have e2 : ∀ j, dRep (updD S.1 k v j) = dRep (S.1 j) := fun j => by
    by_cases z : j = k
    · rw [z, updD_eq]; exact h2
    · rw [updD_ne z]
  simp only [e1, e2]
theorem c_MO_register {y : Int32} {n : Int64} (R : MR A h S) : Ci G l M_MO_register (d + 1) (w + 21) [.ref (A 41), .int y, .long n] h 0 0 (fun r h' => r = (sReg S y n).2 ∧ MQr A h (sReg S y n).1 h') := by
  refine ok_MO_register ?_
  have R0 := R
  obtain ⟨M, r1, r2, r3, r4, r5, r6, r7, r8, r9⟩ := R
  unfold wp_MO_register wJ_MO_register_14
  refine ⟨_, c_MO_isDevice, ?_⟩
  rintro _ _ ⟨rfl, ⟨k, hk, rfl, hd, rfl⟩ | ⟨hd, rfl⟩⟩
  · unfold sReg
    rw [hd]
    refine ⟨fun c => absurd c (by decide), fun _ => ⟨_, c_MO_isNumber, ?_⟩⟩
    rintro _ _ ⟨rfl, ⟨rfl, hn⟩ | ⟨rfl, hn⟩⟩
    · refine ⟨fun _ => ⟨M.s41, A 4, M.r4, 4, k, ⟨M.s4, rfl, hk, by omega⟩, ?_⟩, fun c => absurd c (by decide)⟩
      dsimp only
      rw [if_pos hn]
      obtain ⟨v, rfl, v1, v2⟩ := num_of hn
      rw [lNat_lN (by omega)]
      have F0 : Mf A [4] h (pL h (A 4) k (lN v)) := mf_pL (by decide) (by decide)
      refine ⟨rfl, ⟨F0.ma M, r1.kept F0 M.j (by decide) (by decide), fun j hj => ?_, r3.kept F0 M.j (updD_all4 (P := fun a b => dMn a = dMn b ∧ dRef a = dRef b) (fun _ => ⟨rfl, rfl⟩) ⟨rfl, rfl⟩) (by decide) (by decide), r4.kept F0 M.j (updD_all4 (P := fun a b => dTxt a = dTxt b ∧ dSnd a = dSnd b) (fun _ => ⟨rfl, rfl⟩) ⟨rfl, rfl⟩) (by decide) (by decide) (by decide), ?_, r6.kept F0 M.j (by decide), r7.kept F0 M.j (by simp; omega), r8.kept F0 M.j (by decide) (by decide) (by decide) (by decide), r9.kept F0 M.j (updD_all4 (P := fun a b => dPil a = dPil b) (fun _ => rfl) rfl) (by simp; omega)⟩, F0.mono (by decide)⟩
      · show hL _ (A 4) j = lN (dNum (updD S.1 k _ j)) ∧ hI _ (A 5) j = (if dOn (updD S.1 k _ j) then 1 else 0)
        rw [rEL]
        by_cases c : j = k
        · rw [c, va_up_self, updD_eq]
          exact ⟨rfl, (r2 k hk).2⟩
        · rw [va_up_ne _ _ c, updD_ne c]
          exact r2 j hj
      · show LR A _ (linS (updD S.1 k (setNum (S.1 k) v), S.2))
        rw [linS_dev (v := setNum (S.1 k) v) rfl rfl]
        exact r5.kept F0 M.j (by decide) (by decide) (by decide)
    · refine ⟨fun c => absurd rfl c, fun _ => ?_⟩
      dsimp only
      rw [if_neg hn]
      exact ⟨rfl, MQr.same R0⟩
  · unfold sReg
    rw [hd]
    exact ⟨fun _ => ⟨rfl, MQr.same R0⟩, fun c => absurd rfl c⟩
theorem c_MO_power1 {y : Int32} {b : Bool} (R : MR A h S) : Ci G l M_MO_power1 (d + 1) (w + 20) [.ref (A 41), .int y, .int (if b then 1 else 0)] h 0 0 (fun r h' => r = (sPow S y b).2 ∧ MQr A h (sPow S y b).1 h') := by
  refine ok_MO_power1 ?_
  have R0 := R
  obtain ⟨M, r1, r2, r3, r4, r5, r6, r7, r8, r9⟩ := R
  unfold wp_MO_power1
  refine ⟨_, c_MO_isDevice, ?_⟩
  rintro _ _ ⟨rfl, ⟨k, hk, rfl, hd, rfl⟩ | ⟨hd, rfl⟩⟩
  · unfold sPow
    rw [hd]
    refine ⟨fun _ => ⟨M.s41, A 5, M.r5, 4, k, ⟨M.s5, rfl, hk, by omega⟩, by cases b <;> simp, ?_⟩, fun c => absurd c (by decide)⟩
    have F0 : Mf A [5] h (pI h (A 5) k (if b then 1 else 0)) := mf_pI M.j (by decide) (by decide) (by decide)
    refine ⟨rfl, ⟨F0.ma M, r1.kept F0 M.j (by decide) (by decide), fun j hj => ?_, r3.kept F0 M.j (updD_all4 (P := fun a b => dMn a = dMn b ∧ dRef a = dRef b) (fun _ => ⟨rfl, rfl⟩) ⟨rfl, rfl⟩) (by decide) (by decide), r4.kept F0 M.j (updD_all4 (P := fun a b => dTxt a = dTxt b ∧ dSnd a = dSnd b) (fun _ => ⟨rfl, rfl⟩) ⟨rfl, rfl⟩) (by decide) (by decide) (by decide), ?_, r6.kept F0 M.j (by decide), r7.kept F0 M.j (by simp; omega), r8.kept F0 M.j (by decide) (by decide) (by decide) (by decide), r9.kept F0 M.j (updD_all4 (P := fun a b => dPil a = dPil b) (fun _ => rfl) rfl) (by simp; omega)⟩, F0.mono (by decide)⟩
    · show hL _ (A 4) j = lN (dNum (updD S.1 k _ j)) ∧ hI _ (A 5) j = (if dOn (updD S.1 k _ j) then 1 else 0)
      rw [rE]
      by_cases c : j = k
      · rw [c, va_up_self, updD_eq]
        exact ⟨(r2 k hk).1, rfl⟩
      · rw [va_up_ne _ _ c, updD_ne c]
        exact r2 j hj
    · show LR A _ (linS (updD S.1 k (setOn (S.1 k) b), S.2))
      rw [linS_dev (v := setOn (S.1 k) b) rfl rfl]
      exact r5.kept F0 M.j (by decide) (by decide) (by decide)
  · unfold sPow
    rw [hd]
    exact ⟨fun c => absurd rfl c, fun _ => ⟨rfl, MQr.same R0⟩⟩
/-- the draft has changed -/
theorem MR.dr {drf : List Nat} (R : MR A h S) (F0 : Mf A [0, 1] h h') (D : MDr A h' drf) : MQr A h (S.1, S.2.1, drf, S.2.2.2) h' := by
  obtain ⟨M, r1, r2, r3, r4, r5, r6, r7, r8, r9⟩ := R
  exact ⟨⟨F0.ma M, D, r2.kept F0 M.j (fun _ _ => ⟨rfl, rfl⟩) (by decide) (by decide), r3.kept F0 M.j (fun _ _ => ⟨rfl, rfl⟩) (by decide) (by decide), r4.kept F0 M.j (fun _ _ => ⟨rfl, rfl⟩) (by decide) (by decide) (by decide), r5.kept F0 M.j (by decide) (by decide) (by decide), r6.kept F0 M.j (by decide), r7.kept F0 M.j (by simp; omega), r8.kept F0 M.j (by decide) (by decide) (by decide) (by decide), r9.kept F0 M.j (fun _ _ => rfl) (by simp; omega)⟩, F0.mono (by decide)⟩
theorem c_MO_wipe (R : MR A h S) : Cv G l M_MO_wipe (d + 0) (w + 0) [.ref (A 41)] h 0 0 (fun h' => MQr A h (sWip S) h') := by
  refine ok_MO_wipe ⟨R.1.s41, ?_⟩
  exact R.dr (mf_pS (by decide)) ⟨hI_pI_eq, fun j hj => absurd hj (Nat.not_lt_zero _)⟩
theorem c_MO_type {c : Nat} {n : Int32} (R : MR A h S) (hl : S.2.2.1.length ≤ 480) : Ci G l M_MO_type (d + 0) (w + 0) [.ref (A 41), .int (nI c), .int n] h 0 0 (fun r h' => r = (sTyp S c n).2 ∧ MQr A h (sTyp S c n).1 h') := by
  refine ok_MO_type ?_
  have R0 := R
  obtain ⟨M, r1, -⟩ := R
  unfold wp_MO_type wJ_MO_type_24 sTyp
  refine ⟨fun z => ?_, fun z1 => ⟨fun z => ?_, fun z2 => ?_⟩⟩
  · rw [if_neg (fun y => absurd z (Int32.not_lt.mpr y.1))]
    exact ⟨rfl, MQr.same R0⟩
  · rw [if_neg (fun y => absurd z (Int32.not_lt.mpr y.2.1))]
    exact ⟨rfl, MQr.same R0⟩
  · have g1 := Int32.not_lt.mp z1
    have g2 := Int32.not_lt.mp z2
    obtain ⟨m, m1, m2, rfl⟩ : ∃ m : Nat, 1 ≤ m ∧ m ≤ 160 ∧ n = nI m := by
      have h1 := Int32.le_iff_toInt_le.mp g1
      have h2 := Int32.le_iff_toInt_le.mp g2
      have e0 : (1 : Int32).toInt = 1 := rfl
      have e4 : (160 : Int32).toInt = 160 := rfl
      rw [e0] at h1
      rw [e4] at h2
      refine ⟨n.toInt.toNat, by omega, by omega, ?_⟩
      apply Int32.toInt_inj.mp
      rw [nI_toInt (by omega)]
      omega
    rw [nI_clamp (by omega), r1.1, nI_add, leL (by omega) (by decide)]
    refine ⟨M.s41, fun z => ?_, fun z => ?_⟩
    · rw [if_pos ⟨g1, g2, z⟩]
      unfold wL_MO_type_28
      refine ⟨fun x h' => ∃ k, k ≤ m ∧ x = nI k ∧ MDr A h' (S.2.2.1 ++ List.replicate k c) ∧ Mf A [0, 1] h h', fun x h' => m - x.toNatClampNeg, ⟨0, Nat.zero_le _, rfl, by rw [List.replicate_zero, List.append_nil]; exact r1, Mf.rfl⟩, ?_⟩
      rintro _ h1 ⟨k, hk, rfl, D1, F1⟩
      have M1 := F1.ma M
      unfold wB_MO_type_28
      rw [nI_leI (by omega) (by omega)]
      have hlk : (S.2.2.1 ++ List.replicate k c).length = S.2.2.1.length + k := by rw [List.length_append, List.length_replicate]
      refine ⟨fun c1 => ⟨rfl, ?_⟩, fun c1 => ⟨M1.s41, A 1, M1.r1, 480, S.2.2.1.length + k, ⟨M1.s1, by rw [D1.1, hlk], by omega, by omega⟩, ?_⟩⟩
      · rw [show k = m by omega] at D1
        exact R0.dr F1 D1
      · rintro _ rfl
        rw [rN M.j (by decide) (by decide) (by decide), D1.1, hlk, nI_1, nI_1]
        refine ⟨⟨k + 1, by omega, rfl, ⟨?_, fun j hj => ?_⟩, F1.trans ((mf_pI M.j (by decide) (by decide) (by decide)).trans (mf_pS (by decide)))⟩, mu_lt (by omega) (by omega)⟩
        · rw [hI_pI_eq, List.length_append, List.length_replicate]
          rfl
        · rw [List.replicate_succ', ← List.append_assoc] at hj ⊢
          rw [List.length_append, hlk] at hj
          simp only [List.length_cons, List.length_nil] at hj
          rw [rN M.j (by decide) (by decide) (by decide), rE]
          by_cases cj : j = S.2.2.1.length + k
          · rw [cj, va_up_self, ← hlk, bt_snoc_r]
          · rw [va_up_ne _ _ cj, bt_snoc_l (by omega)]
            exact D1.2 j (by omega)
    · rw [if_neg (fun y => z y.2.2)]
      exact ⟨rfl, MQr.same R0⟩
theorem c_MO_time (R : MR A h S) : Ci G l M_MO_time (d + 0) (w + 0) [.ref (A 41)] h 0 0 (Xi (nI S.2.2.2.2) h) := ok_MO_time ⟨R.1.s41, R.2.2.2.2.2.2.2.1.1.2.2, rfl⟩
theorem c_MO_sender {y : Int32} (R : MR A h S) : Cl G l M_MO_sender (d + 1) (w + 20) [.ref (A 41), .int y] h 0 0 (Xl (sSnd S y) h) := by
  refine ok_MO_sender ?_
  obtain ⟨M, r1, r2, r3, r4, r5, r6, r7, r8, r9⟩ := R
  unfold wp_MO_sender wJ_MO_sender_17 sSnd
  refine ⟨_, c_MO_isDevice, ?_⟩
  rintro _ _ ⟨rfl, ⟨k, hk, rfl, hd, rfl⟩ | ⟨hd, rfl⟩⟩
  · rw [hd]
    exact ⟨fun c => absurd c (by decide), fun _ => ⟨M.s41, A 10, M.r10, 4, k, ⟨M.s10, rfl, hk, by omega⟩, (r4 k hk).2.1, rfl⟩⟩
  · rw [hd]
    exact ⟨fun _ => ⟨rfl, rfl⟩, fun c => absurd rfl c⟩
theorem c_MO_text {y i : Int32} (R : MR A h S) (hw : ∀ k, k < 4 → (dTxt (S.1 k)).length ≤ 480) : Ci G l M_MO_text (d + 1) (w + 20) [.ref (A 41), .int y, .int i] h 0 0 (Xi (sTxt S y i) h) := by
  refine ok_MO_text ?_
  obtain ⟨M, r1, r2, r3, r4, r5, r6, r7, r8, r9⟩ := R
  unfold wp_MO_text wJ_MO_text_21 wJ_MO_text_38 sTxt
  refine ⟨_, c_MO_isDevice, ?_⟩
  rintro _ _ ⟨rfl, ⟨k, hk, rfl, hd, rfl⟩ | ⟨hd, rfl⟩⟩
  · rw [hd]
    have hl := hw k hk
    dsimp only
    refine ⟨fun c => absurd c (by decide), fun _ => ⟨fun c => ⟨by rw [if_pos (Or.inl c)], rfl⟩, fun c => ⟨M.s41, A 8, M.r8, 4, k, ⟨M.s8, rfl, hk, by omega⟩, ?_⟩⟩⟩
    obtain ⟨j, hj, rfl⟩ := i_nat c
    rw [(r4 k hk).1, nI_ltI (by omega) (by omega)]
    refine ⟨fun c2 => ⟨A 9, M.r9, 1920, 480 * k + j, ⟨M.s9, by rw [show (480 : Int32) = nI 480 from rfl, pk_mul, nI_add], by omega, by omega⟩, ?_, rfl⟩, fun c2 => ⟨?_, rfl⟩⟩
    · rw [if_neg, (r4 k hk).2.2 j c2, nI_clamp (by omega)]
      rintro (z | z)
      · exact c z
      · have := (nI_leI (by omega) (by omega)).mp z
        omega
    · rw [if_pos (Or.inr (nI_le (by omega) (by omega)))]
  · rw [hd]
    exact ⟨fun _ => ⟨rfl, rfl⟩, fun c => absurd rfl c⟩
theorem c_MO_state {m : Int32} (R : MR A h S) (hl : S.2.2.2.1.length ≤ 100) : Ci G l M_MO_state (d + 0) (w + 0) [.ref (A 41), .int m] h 0 0 (Xi (sSta S m) h) := by
  refine ok_MO_state ?_
  obtain ⟨M, r1, r2, r3, r4, r5, r6, r7, r8, r9⟩ := R
  unfold wp_MO_state wJ_MO_state_12 wJ_MO_state_23 sSta
  refine ⟨fun c => ⟨by rw [if_pos (Or.inl c)], rfl⟩, fun c => ⟨M.s41, ?_⟩⟩
  obtain ⟨j, hj, rfl⟩ := i_nat c
  rw [r7.1.1, nI_ltI (by omega) (by omega)]
  refine ⟨fun c2 => ⟨A 30, M.r30, 100, j, ⟨M.s30, rfl, by omega, by omega⟩, ?_, rfl⟩, fun c2 => ⟨by rw [if_pos (Or.inr (nI_le (by omega) (by omega)))], rfl⟩⟩
  rw [if_neg, nI_clamp (by omega)]
  · exact (r7.2.1 j c2).2.2.2.2.2.2.2.2.2.2
  · rintro (z | z)
    · exact c z
    · have := (nI_leI (by omega) (by omega)).mp z
      omega
theorem c_MO_offers {m : Int32} (R : MR A h S) (hl : S.2.2.2.1.length ≤ 100) : Ci G l M_MO_offers (d + 0) (w + 0) [.ref (A 41), .int m] h 0 0 (Xi (sOff S m) h) := by
  refine ok_MO_offers ?_
  obtain ⟨M, r1, r2, r3, r4, r5, r6, r7, r8, r9⟩ := R
  unfold wp_MO_offers wJ_MO_offers_12 wJ_MO_offers_23 sOff
  refine ⟨fun c => ⟨by rw [if_pos (Or.inl c)], rfl⟩, fun c => ⟨M.s41, ?_⟩⟩
  obtain ⟨j, hj, rfl⟩ := i_nat c
  rw [r7.1.1, nI_ltI (by omega) (by omega)]
  refine ⟨fun c2 => ⟨A 29, M.r29, 100, j, ⟨M.s29, rfl, by omega, by omega⟩, ?_, rfl⟩, fun c2 => ⟨by rw [if_pos (Or.inr (nI_le (by omega) (by omega)))], rfl⟩⟩
  rw [if_neg, nI_clamp (by omega)]
  · exact (r7.2.1 j c2).2.2.2.2.2.2.2.2.2.1
  · rintro (z | z)
    · exact c z
    · have := (nI_leI (by omega) (by omega)).mp z
      omega
end MJ
