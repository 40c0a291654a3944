/-! the centre's own methods: first steps -/
def updD (dev : Nat → SDv) (d : Nat) (v : SDv) : Nat → SDv := fun j => if j = d then v else dev j
theorem updD_eq {dev : Nat → SDv} {d : Nat} {v : SDv} : updD dev d v d = v := if_pos rfl
theorem updD_ne {dev : Nat → SDv} {d j : Nat} {v : SDv} (n : j ≠ d) : updD dev d v j = dev j := if_neg n
/-- the cells of device d and what it holds -/
def TD (d : Nat) : Tg → Prop := fun t => t = (8, d) ∨ t = (9, d) ∨ t = (3, 1 + d) ∨ t = (3, 5 + d) ∨ t45 (1 + d) t ∨ t45 (5 + d) t ∨ t45 (11 + d) t ∨ t = (14, d) ∨ (100 ≤ t.1 ∧ t.2 = d)
theorem TD.of45 {d n : Nat} (h : n = 1 + d ∨ n = 5 + d ∨ n = 11 + d) : ∀ t, t45 n t → TD d t := by
  intro t ht
  rcases h with z | z | z
  · rw [z] at ht; exact Or.inr (Or.inr (Or.inr (Or.inr (Or.inl ht))))
  · rw [z] at ht; exact Or.inr (Or.inr (Or.inr (Or.inr (Or.inr (Or.inl ht)))))
  · rw [z] at ht; exact Or.inr (Or.inr (Or.inr (Or.inr (Or.inr (Or.inr (Or.inl ht))))))
theorem TD.ofP {d : Nat} : ∀ t, TP d t → TD d t := by
  rintro t (z | z | z | z | z)
  · exact Or.inr (Or.inr (Or.inr (Or.inr (Or.inr (Or.inr (Or.inl z))))))
  · exact Or.inr (Or.inr (Or.inr (Or.inr (Or.inr (Or.inr (Or.inr (Or.inl z)))))))
  · exact Or.inr (Or.inr (Or.inr (Or.inr (Or.inr (Or.inr (Or.inr (Or.inr z)))))))
  · exact Or.inl z
  · exact Or.inr (Or.inl z)
def T0 : Tg → Prop := fun t => t ≠ (0, 0)
theorem TD.t0 {d : Nat} : ∀ t, TD d t → T0 t := by
  intro t ht z
  rw [z] at ht
  simp [TD, t45] at ht
section C0
variable {G : Gx} {l : Launch} {d w : Nat} {own own' : Nat → Tg} {h h' : Hp} {D : Nat → Nat} {x : Nat} {dev : Nat → SDv} {up : List (Nat × List Nat)} {drf : List Nat} {ms : List SMs} {now : Nat}
theorem c_De_read {dd ra rb : Nat} {v : SDv} {bs : List Nat} (V : DV G own h D dd v) (R : Rz own h (ra, rb, bs)) (K : DK bs) (hl3 : (dPil v).length ≤ 3) (hv : ∀ pl ∈ dPil v, PK pl) : Ci G l M_De_read (d + 9) (w + 213) [.ref (D dd), .ref ra] h 3 407 (fun x h' => (x = (rdD v bs).2 ∧ ∃ own', DV G own' h' D dd (rdD v bs).1 ∧ FT own h h' (TP dd) ∧ Ey own own' h) ∧ KF G h') := by
  refine Ci.kf (fun kf => ?_)
  have R0 := R
  obtain ⟨Rr, Ra, Rb⟩ := R
  dsimp only at Rr Ra Rb
  refine ok_De_read ?_
  unfold wp_De_read
  have k1 := K.1
  have k2 := K.2.1
  have k3 := K.2.2.1
  refine ⟨Rr.1, _, c_Ro_numberAt (s := 1) (n := bt bs 1) Rr rfl k2 (by omega), by omega, ?_⟩
  rintro _ _ ⟨rfl, rfl⟩
  change _ ∧ _
  refine ⟨Rr.1, _, c_Ro_hasHeader Rr (by omega), by omega, ?_⟩
  rintro _ _ ⟨rfl, rfl⟩
  unfold rdD
  by_cases hh : hdr bs = true
  · rw [if_pos hh, if_pos hh]
    refine ⟨fun c => absurd c (by decide), fun _ => ⟨V.1, 3, 407, _, c_De_gather V R0 K hh hl3 hv, by omega, ?_⟩⟩
    rintro _ h1 ⟨q, kf1⟩
    exact ⟨by omega, q⟩
  · rw [if_neg hh, if_neg hh]
    refine ⟨fun _ => ?_, fun c => absurd rfl c⟩
    have V0 := V
    obtain ⟨v1, v2, v3, v4, v5, v6, v7, v8, v9, v11, v13, tx, v15, v16, v17, v18⟩ := V
    have nb : rb ≠ tx := fun z => by
      rw [z, v17] at Rb
      cases Rb
    rw [show (0 : Int32) = nI 0 from rfl]
    have hle := dtxt_le K
    refine ⟨v1, tx, v15, Rr.1, _, c_Ro_readText (q := tx) (p := 0) Rr v16 nb k3 (by omega), by omega, ?_⟩
    rintro _ h1 ⟨rfl, W, T⟩
    rw [Nat.zero_add]
    have := V0.txt (frm := dFrm bs) v15 W T
    refine ⟨by rw [W.1]; exact v1, by omega, ?_⟩
    rw [hI_pI_eq]
    refine ⟨rfl, own, this.1, this.2.mono (fun t z => ?_), Ey.rfl⟩
    rcases z with z | z
    · exact Or.inr (Or.inr (Or.inr (Or.inl z)))
    · exact Or.inr (Or.inr (Or.inr (Or.inr z)))
theorem c_dvY {k : Nat} (C : CR G own h D x dev up drf ms now) (hk : k < 4) : Cr G l M_SC_deviceOf (d + 0) (w + 0) [.ref x, .int (nI k)] h 0 0 (Xq (some (D k)) h) := by
  obtain ⟨⟨c1, c2, c3⟩, ⟨dv, c4, c5, c6, c7⟩, -⟩ := C
  refine ok_SC_deviceOf ?_
  unfold wp_SC_deviceOf wJ_SC_deviceOf_9 wJ_SC_deviceOf_19
  exact ⟨fun c => absurd c (nI_pos (by omega)), fun _ => ⟨fun _ => ⟨c1, dv, c4, 4, k, ⟨c5, rfl, hk, by omega⟩, c7 k hk, rfl⟩, fun c => absurd ((ltL (by omega) (by decide)).mpr hk) c⟩⟩
theorem c_dvN {y : Int32} (hy : ¬ (0 ≤ y ∧ y < 4)) : Cr G l M_SC_deviceOf (d + 0) (w + 0) [.ref x, .int y] h 0 0 (Xq none h) := by
  refine ok_SC_deviceOf ?_
  unfold wp_SC_deviceOf wJ_SC_deviceOf_9 wJ_SC_deviceOf_19
  refine ⟨fun c => ⟨rfl, rfl⟩, fun c1 => ⟨fun c2 => absurd ⟨Int32.not_lt.mp c1, c2⟩ hy, fun _ => ⟨rfl, rfl⟩⟩⟩
theorem int_dev (y : Int32) : (∃ k, k < 4 ∧ y = nI k) ∨ ¬ (0 ≤ y ∧ y < 4) := by
  by_cases c : 0 ≤ y ∧ y < 4
  · left
    have h1 := Int32.le_iff_toInt_le.mp c.1
    have h2 := Int32.lt_iff_toInt_lt.mp c.2
    have e0 : (0 : Int32).toInt = 0 := rfl
    have e4 : (4 : Int32).toInt = 4 := rfl
    rw [e0] at h1
    rw [e4] at h2
    refine ⟨y.toInt.toNat, by omega, ?_⟩
    apply Int32.toInt_inj.mp
    rw [nI_toInt (by omega)]
    omega
  · exact Or.inr c
theorem c_isNum {y : Int64} : Ci G l M_SC_isNumber (d + 0) (w + 0) [.long y] h 0 0 (Xb (1 ≤ y ∧ y ≤ 999999999999) h) := by
  refine ok_SC_isNumber ?_
  unfold wp_SC_isNumber wJ_SC_isNumber_18 wJ_SC_isNumber_19
  rw [cmp_lt, cmp_gt]
  exact ⟨fun c => ⟨Or.inl rfl, Xb.n (fun z => absurd c (Int64.not_lt.mpr z.1))⟩, fun c1 => ⟨fun c => ⟨Or.inl rfl, Xb.n (fun z => absurd c (Int64.not_lt.mpr z.2))⟩, fun c2 => ⟨Or.inr rfl, Xb.y ⟨Int64.not_lt.mp c1, Int64.not_lt.mp c2⟩⟩⟩⟩
theorem num_of {y : Int64} (hy : 1 ≤ y ∧ y ≤ 999999999999) : ∃ v, y = lN v ∧ 1 ≤ v ∧ v < 1000000000000 := by
  have h1 := Int64.le_iff_toInt_le.mp hy.1
  have h2 := Int64.le_iff_toInt_le.mp hy.2
  have e0 : (1 : Int64).toInt = 1 := rfl
  have e4 : (999999999999 : Int64).toInt = 999999999999 := rfl
  rw [e0] at h1
  rw [e4] at h2
  refine ⟨y.toInt.toNat, ?_, by omega, by omega⟩
  apply Int64.toInt_inj.mp
  rw [pk_lT (by omega)]
  omega
theorem CR.dv {dd : Nat} {v : SDv} (C : CR G own h D x dev up drf ms now) (F : FT own h h' (TD dd)) (E : Ey own own' h) (hd : dd < 4) (V : DV G own' h' D dd v) : CR G own' h' D x (updD dev dd v) up drf ms now := by
  obtain ⟨⟨c1, c2, c3⟩, ⟨dv, c4, c5, c6, c7⟩, ⟨u, c8, c9⟩, ⟨a, b, c10, c11, c12, c13⟩, ⟨ml, pl, c14, c15, c16⟩, c17⟩ := C
  have nb : NB own (TD dd) := ⟨by simp [TD, t45], fun a _ => by simp [TD, t45]⟩
  have s1 := F.kp c1 c2 (by simp [TD, t45])
  have s2 := F.kp c5 c6 (by simp [TD, t45])
  refine ⟨⟨by rw [s1.1]; exact c1, E.at c1 c2, by rw [s1.2.1]; exact c3⟩, ⟨dv, by rw [s1.2.2.2]; exact c4, by rw [s2.1]; exact c5, E.at c5 c6, fun d hd => by rw [s2.2.2.2]; exact c7 d hd⟩, ⟨u, by rw [s1.2.2.2]; exact c8, c9.kept F E (by simp [TD, t45] <;> omega) (by simp [TD, t45] <;> omega) (by simp [TD, t45] <;> omega) (by simp [TD, t45]) (by simp [TD, t45])⟩, ⟨a, b, by rw [s1.2.2.2]; exact c10, c11.keptT F c12 c13 (by simp [TD, t45]) (by simp [TD, t45]), E.at c11.1 c12, E.at c11.2.2.1 c13⟩, ⟨ml, pl, by rw [s1.2.2.2]; exact c14, by rw [s1.2.2.2]; exact c15, c16.kept F E.ex nb ⟨by simp [TD, t45] <;> omega, by simp [TD, t45] <;> omega⟩ ⟨by simp [TD, t45] <;> omega, by simp [TD, t45] <;> omega⟩ (by simp [TD, t45])⟩, fun j hj => ?_⟩
  by_cases z : j = dd
  · subst z
    rw [updD_eq]
    exact V
  · rw [updD_ne z]
    exact (c17 j hj).kept F E.ex nb (by simp [TD, t45]; omega) (by simp [TD, t45]; omega) ⟨by simp [TD, t45]; omega, by simp [TD, t45]; omega⟩ ⟨by simp [TD, t45]; omega, by simp [TD, t45]; omega, by simp [TD, t45]; omega⟩ ⟨by simp [TD, t45]; omega, by simp [TD, t45]; omega, by simp [TD, t45]; omega⟩ (by simp [TD, t45]; omega) (by simp [TD, t45]; omega)
end C0
