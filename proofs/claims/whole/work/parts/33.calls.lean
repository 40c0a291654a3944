/-! the simpler calls -/
section CA
variable {G : Gx} {l : Launch} {d w : Nat} {own own' : Nat → Tg} {h h' : Hp} {D : Nat → Nat} {x : Nat} {S : SS}
theorem c_LN_removeFirst {n a most : Nat} {r : List Nat} {rs : List (List Nat)} (L : LN G own h n a most (r :: rs)) : Cr G l M_Li_removeFirst (d + 4) (w + 96) [.ref a] h 0 0 (fun o h' => (∃ ra rb, o = some ra ∧ Rz own h' (ra, rb, r) ∧ LN G own h' n a most rs ∧ FT own h h' (t45 n)) ∧ KF G h') := by
  obtain ⟨ps, A, e, rz⟩ := L
  have nb : NB own (t45 n) := ⟨by simp [t45], fun a _ => by simp [t45]⟩
  cases ps with
  | nil => cases e
  | cons p ps =>
    simp only [List.map_cons, List.cons.injEq] at e
    refine (c_LA_removeFirst A).mono ?_
    rintro _ h1 ⟨⟨rfl, A1, F1⟩, kf⟩
    refine ⟨⟨p.1, p.2.1, rfl, ?_, ⟨ps, A1, e.2, fun q hq => (rz q (List.mem_cons_of_mem _ hq)).kept F1 Ey.rfl.ex nb⟩, F1⟩, kf⟩
    rw [e.1]
    exact (rz p List.mem_cons_self).kept F1 Ey.rfl.ex nb
theorem c_LN_removeFirst0 {n a most : Nat} (L : LN G own h n a most []) : Cr G l M_Li_removeFirst (d + 4) (w + 96) [.ref a] h 0 0 (Xq none h) := by
  obtain ⟨ps, A, e, rz⟩ := L
  cases ps with
  | nil => exact c_LA_removeFirst0 A
  | cons p ps => cases e
theorem c_LN_first {n a most : Nat} {r : List Nat} {rs : List (List Nat)} (L : LN G own h n a most (r :: rs)) : Cr G l M_Li_first (d + 4) (w + 94) [.ref a] h 0 0 (fun o h' => h = h' ∧ ∃ ra rb, o = some ra ∧ Rz own h (ra, rb, r)) := by
  obtain ⟨ps, A, e, rz⟩ := L
  cases ps with
  | nil => cases e
  | cons p ps =>
    simp only [List.map_cons, List.cons.injEq] at e
    refine (c_LA_first A).mono ?_
    rintro _ _ ⟨rfl, rfl⟩
    refine ⟨rfl, p.1, p.2.1, rfl, ?_⟩
    rw [e.1]
    exact rz p List.mem_cons_self
theorem c_LN_first0 {n a most : Nat} (L : LN G own h n a most []) : Cr G l M_Li_first (d + 4) (w + 94) [.ref a] h 0 0 (Xq none h) := by
  obtain ⟨ps, A, e, rz⟩ := L
  cases ps with
  | nil => exact c_LA_first A
  | cons p ps => cases e
theorem c_LN_swap {n a most : Nat} {r q : List Nat} {rs : List (List Nat)} (L : LN G own h n a most (r :: q :: rs)) : Ci G l M_Li_exchangeFirstTwo (d + 4) (w + 96) [.ref a] h 0 0 (fun o h' => (o = 1 ∧ LN G own h' n a most (q :: r :: rs) ∧ FT own h h' (t45 n)) ∧ KF G h') := by
  obtain ⟨ps, A, e, rz⟩ := L
  have nb : NB own (t45 n) := ⟨by simp [t45], fun a _ => by simp [t45]⟩
  match ps, A, e, rz with
  | p1 :: p2 :: ps, A, e, rz =>
    simp only [List.map_cons, List.cons.injEq] at e
    refine (c_LA_swap A).mono ?_
    rintro _ h1 ⟨⟨rfl, A1, F1⟩, kf⟩
    refine ⟨⟨rfl, ⟨p2 :: p1 :: ps, A1, by simp [e], fun q hq => (rz q ?_).kept F1 Ey.rfl.ex nb⟩, F1⟩, kf⟩
    simp only [List.mem_cons] at hq ⊢
    rcases hq with z | z | z
    · exact Or.inr (Or.inl z)
    · exact Or.inl z
    · exact Or.inr (Or.inr z)
theorem c_LN_swapN {n a most : Nat} {rs : List (List Nat)} (L : LN G own h n a most rs) (hl : rs.length < 2) : Ci G l M_Li_exchangeFirstTwo (d + 4) (w + 96) [.ref a] h 0 0 (Xi 0 h) := by
  obtain ⟨ps, A, e, rz⟩ := L
  exact c_LA_swapN A (by rw [e] at hl; simpa using hl)
theorem c_SC_take {y : Int32} (C : CS G own h D x S) (hw : WF S) : Ci G l M_SC_take (d + 10) (w + 236) [.ref x, .int y] h 3 407 (fun r h' => r = (sTak S y).2 ∧ CQ G D x own h (sTak S y).1 h') := by
  refine ok_SC_take ?_
  unfold wp_SC_take wJ_SC_take_34 sTak
  rcases int_dev y with ⟨k, hk, rfl⟩ | hy
  · rw [devOf_nI hk]
    refine ⟨C.hs, _, c_dvY C hk, by omega, ?_⟩
    rintro _ _ ⟨rfl, rfl⟩
    refine ⟨fun z => (by cases z), fun q hq => ?_⟩
    cases hq
    have V := C.dvv hk
    have V0 := V
    obtain ⟨v1, v2, v3, v4, v5, v6, v7, v8, ⟨i, v9, L⟩, -⟩ := V
    have W := hw.1 k hk
    have W0 := W
    obtain ⟨w1, w2, w3, w4, w5, w6, w7, w8, w9, w10, w11⟩ := W
    dsimp only
    refine ⟨v1, i, v9, L.la, ?_⟩
    cases hi : dInb (S.1 k) with
    | nil =>
      rw [hi] at L
      refine ⟨_, c_LN_removeFirst0 L, by omega, ?_⟩
      rintro _ _ ⟨rfl, rfl⟩
      exact ⟨fun _ => ⟨by omega, rfl, CQ.same C⟩, fun q hq => by cases hq⟩
    | cons r rs =>
      rw [hi] at L
      refine ⟨_, c_LN_removeFirst L, by omega, ?_⟩
      rintro _ h1 ⟨⟨ra, rb, rfl, R, L1, F1⟩, kf⟩
      refine ⟨fun z => (by cases z), fun q hq => ?_⟩
      cases hq
      have V1 : DV G own h1 D k (setInb (S.1 k) rs) := V0.inb F1 Ey.rfl.ex v9 L1
      refine ⟨V1.1, 3, 407, _, c_De_read V1 R (w2 r (by rw [hi]; exact List.mem_cons_self)) w8 w9, by omega, ?_⟩
      rintro _ h2 ⟨⟨rfl, own2, V2, F2, E2⟩, kf2⟩
      refine ⟨by omega, rfl, ?_⟩
      have F12 : FT own h h2 (TD k) := (F1.mono (TD.of45 (Or.inl rfl))).trans (F2.mono TD.ofP) Ey.rfl
      exact CQ.dv C F12 (fun x' hx => E2 x' (by rw [F1.1 x' hx]; exact hx)) hk V2
  · rw [devOf_no hy]
    refine ⟨C.hs, _, c_dvN hy, by omega, ?_⟩
    rintro _ _ ⟨rfl, rfl⟩
    exact ⟨fun _ => ⟨by omega, rfl, CQ.same C⟩, fun q hq => by cases hq⟩
theorem c_SC_copy {y : Int32} (C : CS G own h D x S) (hw : WF S) : Ci G l M_SC_copy (d + 8) (w + 183) [.ref x, .int y] h 1 400 (fun r h' => r = (sCop S y).2 ∧ CQ G D x own h (sCop S y).1 h') := by
  refine ok_SC_copy ?_
  unfold wp_SC_copy wJ_SC_copy_34 sCop
  rcases int_dev y with ⟨k, hk, rfl⟩ | hy
  · rw [devOf_nI hk]
    refine ⟨C.hs, _, c_dvY C hk, by omega, ?_⟩
    rintro _ _ ⟨rfl, rfl⟩
    refine ⟨fun z => (by cases z), fun q hq => ?_⟩
    cases hq
    have V := C.dvv hk
    have V0 := V
    obtain ⟨v1, v2, v3, v4, v5, v6, v7, v8, ⟨i, v9, L⟩, -⟩ := V
    dsimp only
    refine ⟨v1, i, v9, L.la, ?_⟩
    cases hi : dInb (S.1 k) with
    | nil =>
      rw [hi] at L
      refine ⟨_, c_LN_first0 L, by omega, ?_⟩
      rintro _ _ ⟨rfl, rfl⟩
      exact ⟨fun _ => ⟨by omega, rfl, CQ.same C⟩, fun q hq => by cases hq⟩
    | cons r rs =>
      rw [hi] at L
      have hl := L.len
      simp only [List.length_cons] at hl
      refine ⟨_, c_LN_first L, by omega, ?_⟩
      rintro _ _ ⟨rfl, ra, rb, rfl, R⟩
      refine ⟨fun z => (by cases z), fun q hq => ?_⟩
      cases hq
      refine ⟨v1, i, v9, L.la, _, c_LN_room L, by omega, ?_⟩
      rintro _ _ ⟨rfl, rfl⟩
      rw [eqL (by omega) (by decide), List.length_cons]
      refine ⟨fun c => ⟨v1, i, v9, L.la, 1, 400, _, c_LN_append L (by simp only [List.length_cons]; omega) R, by omega, ?_⟩, fun c => ⟨by omega, ?_⟩⟩
      · rintro h1 ⟨⟨own1, L1, F1, E1⟩, kf1⟩
        dsimp only
        rw [if_neg (by omega)]
        refine ⟨by omega, rfl, ?_⟩
        exact CQ.dv C (F1.mono (TD.of45 (Or.inl rfl))) E1 hk (V0.inb F1 E1.ex v9 L1)
      · dsimp only
        rw [if_pos (by omega)]
        exact ⟨rfl, CQ.same C⟩
  · rw [devOf_no hy]
    refine ⟨C.hs, _, c_dvN hy, by omega, ?_⟩
    rintro _ _ ⟨rfl, rfl⟩
    exact ⟨fun _ => ⟨by omega, rfl, CQ.same C⟩, fun q hq => by cases hq⟩
theorem c_SC_swap {y : Int32} (C : CS G own h D x S) : Ci G l M_SC_swap (d + 5) (w + 117) [.ref x, .int y] h 0 0 (fun r h' => r = (sSwp S y).2 ∧ CQ G D x own h (sSwp S y).1 h') := by
  refine ok_SC_swap ?_
  unfold wp_SC_swap wJ_SC_swap_24 wJ_SC_swap_25 sSwp
  rcases int_dev y with ⟨k, hk, rfl⟩ | hy
  · rw [devOf_nI hk]
    refine ⟨C.hs, _, c_dvY C hk, ?_⟩
    rintro _ _ ⟨rfl, rfl⟩
    refine ⟨fun z => (by cases z), fun q hq => ?_⟩
    cases hq
    have V := C.dvv hk
    have V0 := V
    obtain ⟨v1, v2, v3, v4, v5, v6, v7, v8, ⟨i, v9, L⟩, -⟩ := V
    dsimp only
    refine ⟨v1, i, v9, L.la, ?_⟩
    match hi : dInb (S.1 k), L with
    | [], L =>
      refine ⟨_, c_LN_swapN L (by simp), ?_⟩
      rintro _ _ ⟨rfl, rfl⟩
      exact ⟨fun _ => ⟨Or.inl rfl, rfl, CQ.same C⟩, fun c => absurd rfl c⟩
    | [r], L =>
      refine ⟨_, c_LN_swapN L (by simp), ?_⟩
      rintro _ _ ⟨rfl, rfl⟩
      exact ⟨fun _ => ⟨Or.inl rfl, rfl, CQ.same C⟩, fun c => absurd rfl c⟩
    | r :: q :: rs, L =>
      refine ⟨_, c_LN_swap L, ?_⟩
      rintro _ h1 ⟨⟨rfl, L1, F1⟩, kf1⟩
      refine ⟨fun c => absurd c (by decide), fun _ => ⟨Or.inr rfl, rfl, ?_⟩⟩
      exact CQ.dv C (F1.mono (TD.of45 (Or.inl rfl))) Ey.rfl hk (V0.inb F1 Ey.rfl.ex v9 L1)
  · rw [devOf_no hy]
    refine ⟨C.hs, _, c_dvN hy, ?_⟩
    rintro _ _ ⟨rfl, rfl⟩
    exact ⟨fun _ => ⟨Or.inl rfl, rfl, CQ.same C⟩, fun q hq => by cases hq⟩
theorem c_SC_report {y : Int32} (C : CS G own h D x S) (hw : WF S) : Ci G l M_SC_report (d + 5) (w + 116) [.ref x, .int y] h 0 0 (fun r h' => r = (sRpt S y).2 ∧ CQ G D x own h (sRpt S y).1 h') := by
  refine ok_SC_report ?_
  unfold wp_SC_report wJ_SC_report_49 sRpt
  rcases int_dev y with ⟨k, hk, rfl⟩ | hy
  · rw [devOf_nI hk]
    refine ⟨C.hs, _, c_dvY C hk, ?_⟩
    rintro _ _ ⟨rfl, rfl⟩
    refine ⟨fun z => (by cases z), fun q hq => ?_⟩
    cases hq
    have V := C.dvv hk
    have V0 := V
    obtain ⟨v1, v2, v3, v4, v5, v6, v7, v8, -, ⟨i, v9, L⟩, -⟩ := V
    obtain ⟨w1, w2, w3, w4, w5, w6, w7, w8, w9, w10, w11⟩ := hw.1 k hk
    dsimp only
    refine ⟨v1, i, v9, L.la, ?_⟩
    cases hi : dRep (S.1 k) with
    | nil =>
      rw [hi] at L
      refine ⟨_, c_LN_removeFirst0 L, ?_⟩
      rintro _ _ ⟨rfl, rfl⟩
      exact ⟨fun _ => ⟨rfl, CQ.same C⟩, fun q hq => by cases hq⟩
    | cons r rs =>
      rw [hi] at L
      refine ⟨_, c_LN_removeFirst L, ?_⟩
      rintro _ h1 ⟨⟨ra, rb, rfl, R, L1, F1⟩, kf⟩
      refine ⟨fun z => (by cases z), fun q hq => ?_⟩
      cases hq
      have V1 : DV G own h1 D k (setRep (S.1 k) rs) := V0.rep F1 Ey.rfl.ex v9 L1
      have Rr : Rw h1 ra rb r := R.1
      have hr := w4 r (by rw [hi]; exact List.mem_cons_self)
      refine ⟨Rr.1, _, c_Ro_size Rr, ?_⟩
      rintro _ _ ⟨rfl, rfl⟩
      rw [show (1 : Int32) = nI 1 from rfl, pk_sub (by omega)]
      refine ⟨Rr.1, _, c_Ro_at' Rr (by omega), ?_⟩
      rintro _ _ ⟨rfl, rfl⟩
      refine ⟨Rr.1, _, c_Ro_at' Rr (by omega), ?_⟩
      rintro _ _ ⟨rfl, rfl⟩
      exact ⟨rfl, CQ.dv C (F1.mono (TD.of45 (Or.inr (Or.inl rfl)))) Ey.rfl hk V1⟩
  · rw [devOf_no hy]
    refine ⟨C.hs, _, c_dvN hy, ?_⟩
    rintro _ _ ⟨rfl, rfl⟩
    exact ⟨fun _ => ⟨rfl, CQ.same C⟩, fun q hq => by cases hq⟩
/-- a line, whoever owns its rows -/
def LX (G : Gx) (own : Nat → Tg) (h : Hp) (a : Nat) (L : List (List Nat)) : Prop := ∃ n most, ∃ ps : List (Nat × Nat × List Nat), LA G own h n a most (ps.map (fun p => p.1)) ∧ L = ps.map (fun p => p.2.2) ∧ ∀ p ∈ ps, Rw h p.1 p.2.1 p.2.2
theorem LN.lx {n a most : Nat} {rs : List (List Nat)} (L : LN G own h n a most rs) : LX G own h a rs := by
  obtain ⟨ps, A, e, rz⟩ := L
  exact ⟨n, most, ps, A, e, fun p hp => (rz p hp).1⟩
theorem UP.lx {a : Nat} {up : List (Nat × List Nat)} (U : UP G own h D a up) : LX G own h a (up.map (fun p => p.2)) := by
  obtain ⟨ps, A, e, nd, r⟩ := U
  refine ⟨0, 8, ps.map (fun p => (p.1, p.2.1, p.2.2.2)), ?_, ?_, ?_⟩
  · rw [List.map_map]
    exact A
  · rw [e, List.map_map, List.map_map]
    rfl
  · intro p hp
    obtain ⟨q, hq, rfl⟩ := List.mem_map.mp hp
    exact (r q hq).1
theorem c_SC_lineOf {y : Int32} (C : CS G own h D x S) : Cr G l M_SC_lineOf (d + 1) (w + 21) [.ref x, .int y] h 0 0 (fun o h' => h = h' ∧ match linOf S y with
    | none => o = none
    | some L => ∃ a, o = some a ∧ LX G own h a L) := by
  refine ok_SC_lineOf ?_
  unfold wp_SC_lineOf wJ_SC_lineOf_54 wJ_SC_lineOf_35 linOf
  refine ⟨fun c => ?_, fun c => ?_⟩
  · rw [if_neg c]
    refine ⟨fun c4 => ?_, fun c4 => ?_⟩
    · rcases int_dev y with ⟨k, hk, rfl⟩ | hy
      · rw [devOf_nI hk]
        refine ⟨C.hs, _, c_dvY C hk, ?_⟩
        rintro _ _ ⟨rfl, rfl⟩
        refine ⟨fun z => (by cases z), fun q hq => ?_⟩
        cases hq
        have V := C.dvv hk
        obtain ⟨v1, v2, v3, v4, v5, v6, v7, v8, ⟨i, v9, L⟩, -⟩ := V
        exact ⟨v1, rfl, i, v9, L.lx⟩
      · rw [devOf_no hy]
        refine ⟨C.hs, _, c_dvN hy, ?_⟩
        rintro _ _ ⟨rfl, rfl⟩
        refine ⟨fun _ => ⟨rfl, ?_⟩, fun q hq => by cases hq⟩
        dsimp only
        cases devOf (y - 4) with
        | none => rfl
        | some k => dsimp only; rw [if_pos c4]
    · have hy : ¬ (0 ≤ y ∧ y < 4) := fun z => c4 z.2
      rw [devOf_no hy]
      rcases int_dev (y - 4) with ⟨k, hk, e⟩ | hy'
      · rw [e, devOf_nI hk]
        refine ⟨C.hs, _, c_dvY C hk, ?_⟩
        rintro _ _ ⟨rfl, rfl⟩
        refine ⟨fun z => (by cases z), fun q hq => ?_⟩
        cases hq
        have V := C.dvv hk
        obtain ⟨v1, v2, v3, v4, v5, v6, v7, v8, -, ⟨i, v9, L⟩, -⟩ := V
        refine ⟨v1, rfl, ?_⟩
        dsimp only
        rw [if_neg c4]
        exact ⟨i, v9, L.lx⟩
      · rw [devOf_no hy']
        refine ⟨C.hs, _, c_dvN hy', ?_⟩
        rintro _ _ ⟨rfl, rfl⟩
        exact ⟨fun _ => ⟨rfl, rfl⟩, fun q hq => by cases hq⟩
  · rw [if_pos c]
    obtain ⟨u, c8, c9⟩ := C.2.2.1
    exact ⟨C.hs, rfl, u, c8, c9.lx⟩
theorem c_SC_waiting {y : Int32} (C : CS G own h D x S) : Ci G l M_SC_waiting (d + 2) (w + 43) [.ref x, .int y] h 0 0 (Xi (sWai S y) h) := by
  refine ok_SC_waiting ?_
  unfold wp_SC_waiting wJ_SC_waiting_18 sWai
  refine ⟨C.hs, _, c_SC_lineOf C, ?_⟩
  rintro o _ ⟨rfl, q⟩
  cases hl : linOf S y with
  | none =>
    rw [hl] at q
    dsimp only at q
    subst q
    exact ⟨fun _ => ⟨rfl, rfl⟩, fun q hq => by cases hq⟩
  | some L =>
    rw [hl] at q
    obtain ⟨a, rfl, n, most, ps, A, e, r⟩ := q
    refine ⟨fun z => (by cases z), fun q hq => ?_⟩
    cases hq
    refine ⟨A.1, _, c_LA_size A, ?_⟩
    rintro _ _ ⟨rfl, rfl⟩
    refine ⟨?_, rfl⟩
    dsimp only
    rw [e, List.length_map, List.length_map]
theorem c_SC_byteAt {y i : Int32} (C : CS G own h D x S) : Ci G l M_SC_byteAt (d + 5) (w + 114) [.ref x, .int y, .int i] h 0 0 (Xi (sByt S y i) h) := by
  refine ok_SC_byteAt ?_
  unfold wp_SC_byteAt wJ_SC_byteAt_33 wJ_SC_byteAt_44 sByt
  refine ⟨C.hs, _, c_SC_lineOf C, ?_⟩
  rintro o _ ⟨rfl, q⟩
  cases hl : linOf S y with
  | none =>
    rw [hl] at q
    dsimp only at q
    subst q
    exact ⟨fun _ => ⟨rfl, rfl⟩, fun q hq => by cases hq⟩
  | some L =>
    rw [hl] at q
    obtain ⟨a, rfl, n, most, ps, A, e, r⟩ := q
    refine ⟨fun z => (by cases z), fun q hq => ?_⟩
    cases hq
    refine ⟨A.1, _, c_LA_first A, ?_⟩
    rintro _ _ ⟨rfl, rfl⟩
    cases ps with
    | nil =>
      rw [e]
      exact ⟨fun _ => ⟨rfl, rfl⟩, fun q hq => by cases hq⟩
    | cons p ps =>
      rw [List.map_cons] at e
      rw [e]
      refine ⟨fun z => (by cases z), fun q hq => ?_⟩
      cases hq
      have R := r p List.mem_cons_self
      dsimp only
      refine ⟨R.1, _, c_Ro_has R i, ?_⟩
      rintro _ _ ⟨rfl, rfl⟩
      by_cases c : i < 0 ∨ nI p.2.2.length ≤ i
      · rw [if_pos c, if_pos c]
        exact ⟨fun z => absurd rfl z, fun _ => ⟨rfl, rfl⟩⟩
      · rw [if_neg c, if_neg c]
        refine ⟨fun _ => ⟨R.1, _, c_Ro_at R i, ?_⟩, fun z => absurd z (by decide)⟩
        rintro _ _ ⟨rfl, rfl⟩
        refine ⟨?_, rfl⟩
        unfold rAt
        rw [if_neg (fun z => c (Or.inl z)), if_neg (fun z => c (Or.inr z))]
end CA
