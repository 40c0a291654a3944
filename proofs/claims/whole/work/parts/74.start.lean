/-! the start: what the Statement gives of it, as the proofs see it -/
theorem len_small {args : Array Value} {s : State} {tm : Term} {v : Value} (h : (Term.length tm).eval args s none [] s = some v) : ∃ (a : Nat) (cell : Cell), tm.eval args s none [] s = some (.ref a) ∧ s.arrayAt? a = some cell ∧ cell.slots.size < 2147483648 ∧ v = .int cell.slots.size.toInt32 := by
  simp only [Term.eval, Option.bind_eq_bind] at h
  cases ht : tm.eval args s none [] s with
  | none => simp [ht] at h
  | some z =>
    cases z <;> simp [ht] at h
    case ref a =>
      obtain ⟨cell, hcell, h⟩ := Option.bind_eq_some_iff.mp h
      by_cases hn : cell.slots.size < 2147483648
      · rw [if_pos hn] at h; cases h; exact ⟨a, cell, rfl, hcell, hn, rfl⟩
      · rw [if_neg hn] at h; cases h
theorem st_arr {args : Array Value} {s : State} {tm : Term} {ty : FieldType} {N : Nat} {f : Nat → Value} (hN : N < 2 ^ 31) (harr : (Cond.arrayOf tm ty).before args s = true) (hlen : (Term.length tm).eval args s none [] s = some (.int (Int32.ofNat N))) (hel : ∀ j : Nat, j < N → (Term.elem tm (.int (Int32.ofNat j))).eval args s none [] s = some (f j)) : ∃ t : Nat, tm.eval args s none [] s = some (.ref t) ∧ ∃ c : Cell, s.heap[t]? = some c ∧ okA s ty N f c := by
  obtain ⟨t, ht, cell, h1, h2, h3, h4, h5, h6, -⟩ := va_Tof (A := fun _ => False) hN harr hlen hel (fun _ _ z => z)
  obtain ⟨t', cell', k1, k2, k3, k4⟩ := len_small hlen
  cases ht.symm.trans k1
  cases h1.symm.trans (State.arrayAt?_spec k2).1
  refine ⟨t, ht, cell, h1, h3, h2, ?_, h6⟩
  have e := congrArg Int32.toNatClampNeg h5
  rw [show cell.slots.size.toInt32 = Int32.ofNat cell.slots.size from rfl, Int32.toNatClampNeg_ofNat_of_lt k3, Int32.toNatClampNeg_ofNat_of_lt hN] at e
  exact e
def stF : List Cond := flatC (Jvm.Cond.and given_1 narrow_1)
abbrev stA (n : String) : Term := .static "SeptetCentre$Alphabet" n "[I"
abbrev stD : Term := .static "java/util/ArrayList" "DEFAULTCAPACITY_EMPTY_ELEMENTDATA" "[Ljava/lang/Object;"
def fateN : List String := ["WAITS", "TAKEN", "TOO_OLD", "UNKNOWN"]
def fateF : List (String × String × String × List Int32) := [("SeptetCentre$Fate", "answer", "I", [0, 1, 2, 3]), ("SeptetCentre$Fate", "reported", "I", [0, 0, 70, 73])]
theorem m_d1 : Cond.arrayOf stD (.object "java/lang/Object") ∈ stF := by decide +kernel
theorem m_d2 : Cond.eq (.length stD) (.int (Int32.ofNat 0)) ∈ stF := by decide +kernel
theorem m_mi : Cond.isRef (.mirror "[Ljava/lang/Object;") ∈ stF := by decide +kernel
theorem m_a0 : Cond.arrayOf (stA "CHARACTERS") .int ∈ stF := by decide +kernel
theorem m_l0 : Cond.eq (.length (stA "CHARACTERS")) (.int (Int32.ofNat 128)) ∈ stF := by decide +kernel
theorem m_e0 : ∀ j, j < 128 → Cond.eq (.elem (stA "CHARACTERS") (.int (Int32.ofNat j))) (.int (tabC.getD j 0)) ∈ stF := by decide +kernel
theorem m_a1 : Cond.arrayOf (stA "SECOND_CODES") .int ∈ stF := by decide +kernel
theorem m_l1 : Cond.eq (.length (stA "SECOND_CODES")) (.int (Int32.ofNat 10)) ∈ stF := by decide +kernel
theorem m_e1 : ∀ j, j < 10 → Cond.eq (.elem (stA "SECOND_CODES") (.int (Int32.ofNat j))) (.int (tabD.getD j 0)) ∈ stF := by decide +kernel
theorem m_a2 : Cond.arrayOf (stA "SECOND_CHARACTERS") .int ∈ stF := by decide +kernel
theorem m_l2 : Cond.eq (.length (stA "SECOND_CHARACTERS")) (.int (Int32.ofNat 10)) ∈ stF := by decide +kernel
theorem m_e2 : ∀ j, j < 10 → Cond.eq (.elem (stA "SECOND_CHARACTERS") (.int (Int32.ofNat j))) (.int (tabE.getD j 0)) ∈ stF := by decide +kernel
theorem m_fx : ∀ i, i < 4 → Cond.exactly (.static "SeptetCentre$Fate" (fateN.getD i "") "LSeptetCentre$Fate;") "SeptetCentre$Fate" ∈ stF := by decide +kernel
theorem m_ff : ∀ q ∈ fateF, ∀ i, i < 4 → Cond.eq (.field (.static "SeptetCentre$Fate" (fateN.getD i "") "LSeptetCentre$Fate;") q.1 q.2.1 q.2.2.1) (.int (q.2.2.2.getD i 0)) ∈ stF := by decide +kernel
theorem m_fd : ∀ i, i < 4 → ∀ j, j < 4 → i ≠ j → Cond.not (.eq (.static "SeptetCentre$Fate" (fateN.getD i "") "LSeptetCentre$Fate;") (.static "SeptetCentre$Fate" (fateN.getD j "") "LSeptetCentre$Fate;")) ∈ stF ∨ Cond.not (.eq (.static "SeptetCentre$Fate" (fateN.getD j "") "LSeptetCentre$Fate;") (.static "SeptetCentre$Fate" (fateN.getD i "") "LSeptetCentre$Fate;")) ∈ stF := by decide +kernel
theorem s_d : Cond.laysStatic "java/util/ArrayList" "DEFAULTCAPACITY_EMPTY_ELEMENTDATA" "[Ljava/lang/Object;" ∈ lw_tbl := tb1 _ (List.mem_of_getElem? (i := 51) (by decide +kernel))
theorem s_a0 : Cond.laysStatic "SeptetCentre$Alphabet" "CHARACTERS" "[I" ∈ lw_tbl := tb1 _ (List.mem_of_getElem? (i := 183) (by decide +kernel))
theorem s_a1 : Cond.laysStatic "SeptetCentre$Alphabet" "SECOND_CODES" "[I" ∈ lw_tbl := tb1 _ (List.mem_of_getElem? (i := 185) (by decide +kernel))
theorem s_a2 : Cond.laysStatic "SeptetCentre$Alphabet" "SECOND_CHARACTERS" "[I" ∈ lw_tbl := tb1 _ (List.mem_of_getElem? (i := 187) (by decide +kernel))
theorem s_f0 : Cond.laysStatic "SeptetCentre$Fate" "WAITS" "LSeptetCentre$Fate;" ∈ lw_tbl := tb2 _ (List.mem_of_getElem? (i := 236) (by decide +kernel))
theorem s_f1 : Cond.laysStatic "SeptetCentre$Fate" "TAKEN" "LSeptetCentre$Fate;" ∈ lw_tbl := tb3 _ (List.mem_of_getElem? (i := 88) (by decide +kernel))
theorem s_f2 : Cond.laysStatic "SeptetCentre$Fate" "TOO_OLD" "LSeptetCentre$Fate;" ∈ lw_tbl := tb3 _ (List.mem_of_getElem? (i := 58) (by decide +kernel))
theorem s_f3 : Cond.laysStatic "SeptetCentre$Fate" "UNKNOWN" "LSeptetCentre$Fate;" ∈ lw_tbl := tb3 _ (List.mem_of_getElem? (i := 64) (by decide +kernel))
theorem s_ia : Cond.initialized "SeptetCentre$Alphabet" ∈ lw_tbl := tb1 _ (List.mem_of_getElem? (i := 9) (by decide +kernel))
theorem s_if : Cond.initialized "SeptetCentre$Fate" ∈ lw_tbl := tb1 _ (List.mem_of_getElem? (i := 20) (by decide +kernel))
theorem s_id : Cond.initialized "java/util/ArrayList" ∈ lw_tbl := tb1 _ (List.mem_of_getElem? (i := 5) (by decide +kernel))
def tyD (d : String) : FieldType := (parseFieldDescriptor d).getD .int
theorem zd0 : ∀ k, k < 6 → parseFieldDescriptor (zT0 k).2.2.1 = some (tyD (zT0 k).2.2.1) ∧ defaultValue (tyD (zT0 k).2.2.1) = fv (fun _ => 0) (fun _ => 0) (fun _ => none) k (zT0 k).2.2.1 := by decide +kernel
theorem zd1 : ∀ k, k < 2 → parseFieldDescriptor (zT1 k).2.2.1 = some (tyD (zT1 k).2.2.1) ∧ defaultValue (tyD (zT1 k).2.2.1) = fv (fun _ => 0) (fun _ => 0) (fun _ => none) k (zT1 k).2.2.1 := by decide +kernel
theorem zd2 : ∀ k, k < 3 → parseFieldDescriptor (zT2 k).2.2.1 = some (tyD (zT2 k).2.2.1) ∧ defaultValue (tyD (zT2 k).2.2.1) = fv (fun _ => 0) (fun _ => 0) (fun _ => none) k (zT2 k).2.2.1 := by decide +kernel
theorem zd3 : ∀ k, k < 2 → parseFieldDescriptor (zT3 k).2.2.1 = some (tyD (zT3 k).2.2.1) ∧ defaultValue (tyD (zT3 k).2.2.1) = fv (fun _ => 0) (fun _ => 0) (fun _ => none) k (zT3 k).2.2.1 := by decide +kernel
theorem zd4 : ∀ k, k < 10 → parseFieldDescriptor (zT4 k).2.2.1 = some (tyD (zT4 k).2.2.1) ∧ defaultValue (tyD (zT4 k).2.2.1) = fv (fun _ => 0) (fun _ => 0) (fun _ => none) k (zT4 k).2.2.1 := by decide +kernel
theorem zd5 : ∀ k, k < 3 → parseFieldDescriptor (zT5 k).2.2.1 = some (tyD (zT5 k).2.2.1) ∧ defaultValue (tyD (zT5 k).2.2.1) = fv (fun _ => 0) (fun _ => 0) (fun _ => none) k (zT5 k).2.2.1 := by decide +kernel
theorem zd6 : ∀ k, k < 9 → parseFieldDescriptor (zT6 k).2.2.1 = some (tyD (zT6 k).2.2.1) ∧ defaultValue (tyD (zT6 k).2.2.1) = fv (fun _ => 0) (fun _ => 0) (fun _ => none) k (zT6 k).2.2.1 := by decide +kernel
theorem zd7 : ∀ k, k < 4 → parseFieldDescriptor (zT7 k).2.2.1 = some (tyD (zT7 k).2.2.1) ∧ defaultValue (tyD (zT7 k).2.2.1) = fv (fun _ => 0) (fun _ => 0) (fun _ => none) k (zT7 k).2.2.1 := by decide +kernel
theorem zd8 : ∀ k, k < 41 → parseFieldDescriptor (zT8 k).2.2.1 = some (tyD (zT8 k).2.2.1) ∧ defaultValue (tyD (zT8 k).2.2.1) = fv (fun _ => 0) (fun _ => 0) (fun _ => none) k (zT8 k).2.2.1 := by decide +kernel
theorem st_cl {G : Gx} {A0 : Array Value} {ci : Nat} {C : String} {T : u_T} {N : Nat} (hts : ∀ w ∈ lw_tbl, w.before A0 G.1 = true) (hK : u_Kn G.1 C T N (G.2.1.1 ci) (G.2.1.2 ci)) (hin : ∀ w ∈ u_ws C T N, w ∈ lw_tbl) (hnm : ∀ a, a < N → ∀ b, b < N → a ≠ b → (T a).2.1 ≠ (T b).2.1) (hd : ∀ k, k < N → parseFieldDescriptor (T k).2.2.1 = some (tyD (T k).2.2.1) ∧ defaultValue (tyD (T k).2.2.1) = fv (fun _ => 0) (fun _ => 0) (fun _ => none) k (T k).2.2.1) : clO G A0 ci (C, T, N) := by
  refine ⟨hK, hin, fun k hk => ⟨_, hd k hk⟩, ?_⟩
  intro a b ha hb hne
  obtain ⟨sl, -⟩ := hK
  obtain ⟨_, _, _, fa, hia, ea⟩ := sl a ha
  obtain ⟨_, _, _, fb, hib, eb⟩ := sl b hb
  show G.2.1.2 ci a ≠ G.2.1.2 ci b
  rw [← ea, ← eb]
  refine u_apart (u_lays hts hin ha) (u_lays hts hin hb) hia hib ?_
  rw [(State.fieldFound?_type hia (hd a ha).1).1, (State.fieldFound?_type hib (hd b hb).1).1]
  exact hnm a ha b hb hne
theorem st_kn {s : State} {A0 : Array Value} (hts : ∀ w ∈ lw_tbl, w.before A0 s = true) (ci : Nat) : ∃ z : ClassId × (Nat → Nat), ∀ q, zCL[ci]? = some q → u_Kn s q.1 q.2.1 q.2.2 z.1 z.2 := by
  match ci with
  | 0 => obtain ⟨c, iS, hK⟩ := u_known hts zw0 (hts _ kI_0); exact ⟨(c, iS), fun q hq => by cases hq; exact hK⟩
  | 1 => obtain ⟨c, iS, hK⟩ := u_known hts zw1 (hts _ kI_1); exact ⟨(c, iS), fun q hq => by cases hq; exact hK⟩
  | 2 => obtain ⟨c, iS, hK⟩ := u_known hts zw2 (hts _ kI_2); exact ⟨(c, iS), fun q hq => by cases hq; exact hK⟩
  | 3 => obtain ⟨c, iS, hK⟩ := u_known hts zw3 (hts _ kI_3); exact ⟨(c, iS), fun q hq => by cases hq; exact hK⟩
  | 4 => obtain ⟨c, iS, hK⟩ := u_known hts zw4 (hts _ kI_4); exact ⟨(c, iS), fun q hq => by cases hq; exact hK⟩
  | 5 => obtain ⟨c, iS, hK⟩ := u_known hts zw5 (hts _ kI_5); exact ⟨(c, iS), fun q hq => by cases hq; exact hK⟩
  | 6 => obtain ⟨c, iS, hK⟩ := u_known hts zw6 (hts _ kI_6); exact ⟨(c, iS), fun q hq => by cases hq; exact hK⟩
  | 7 => obtain ⟨c, iS, hK⟩ := u_known hts zw7 (hts _ kI_7); exact ⟨(c, iS), fun q hq => by cases hq; exact hK⟩
  | 8 => obtain ⟨c, iS, hK⟩ := u_known hts zw8 (hts _ kI_8); exact ⟨(c, iS), fun q hq => by cases hq; exact hK⟩
  | k + 9 => exact ⟨(0, fun _ => 0), fun q hq => by simp [zCL] at hq⟩
def stK (a0 a1 a2 a3 : Nat) (ad : Nat → Nat) (mi b : Nat) : Nat → Nat := fun t => match t with
  | 0 => a0
  | 1 => a1
  | 2 => a2
  | 3 => a3
  | 4 => ad 0
  | 5 => ad 1
  | 6 => ad 2
  | 7 => ad 3
  | 8 => mi
  | _ => b
theorem st_fate {G : Gx} {ad : Nat → Nat} {t i : Nat} (hE : va_En "SeptetCentre$Fate" "LSeptetCentre$Fate;" fateN fateF ad (fun q => G.1.heap.size ≤ q) G.1 G.1.heap) (hi : i < 4) (e : gK G t = ad i) (ea : fateA t = [0, 1, 2, 3].getD i 0) (er : fateR t = [0, 0, 70, 73].getD i 0) : okF G t := by
  obtain ⟨-, ⟨c, h1, h2, -, -⟩, hF⟩ := hE.1 i hi
  obtain ⟨cf, k, x1, f, c1, p1, p2, p3, p4, p5, -⟩ := hF _ (List.mem_cons_self)
  obtain ⟨cf', k', x2, f', c2, q1, q2, q3, q4, q5, -⟩ := hF _ (List.mem_cons_of_mem _ List.mem_cons_self)
  cases h1.symm.trans p3
  cases h1.symm.trans q3
  refine ⟨c, by rw [e]; exact h1, h2, p4, ⟨cf, k, x1, f, p1, p2, by rw [ea]; exact p5⟩, ⟨cf', k', x2, f', q1, q2, by rw [er]; exact q5⟩⟩
theorem st_sys {s : State} {b L : Nat} {xs : Nat → Int32} (hL : L ≤ 3072) (hts : ∀ w ∈ lw_tbl, w.before #[Value.ref b] s = true) (hX : va_X b L xs s s.heap) (hgv : (Jvm.Cond.and given_1 narrow_1).before #[Value.ref b] s = true) : ∃ G : Gx, G.1 = s ∧ gK G 9 = b ∧ kLen G 9 = L ∧ SysF G := by
  have hs : ∀ w ∈ stF, w.before #[Value.ref b] s = true := flat_of_before _ hgv
  have hA : ∀ a : Nat, a < s.heap.size → ¬ (fun q : Nat => s.heap.size ≤ q) a := fun a h => Nat.not_le.mpr h
  obtain ⟨a0, e0, c0, g0, k0⟩ := st_arr (f := fun _ => .null) (by decide) (hs _ m_d1) (va_eqt (hs _ m_d2)) (fun j hj => absurd hj (Nat.not_lt_zero j))
  obtain ⟨a1, e1, c1, g1, k1⟩ := st_arr (f := fun j => .int (tabC.getD j 0)) (by decide) (hs _ m_a0) (va_eqt (hs _ m_l0)) (fun j hj => va_eqt (hs _ (m_e0 j hj)))
  obtain ⟨a2, e2, c2, g2, k2⟩ := st_arr (f := fun j => .int (tabD.getD j 0)) (by decide) (hs _ m_a1) (va_eqt (hs _ m_l1)) (fun j hj => va_eqt (hs _ (m_e1 j hj)))
  obtain ⟨a3, e3, c3, g3, k3⟩ := st_arr (f := fun j => .int (tabE.getD j 0)) (by decide) (hs _ m_a2) (va_eqt (hs _ m_l2)) (fun j hj => va_eqt (hs _ (m_e2 j hj)))
  obtain ⟨mi, hmi⟩ := va_Mi.of (hs _ m_mi)
  have fl : ∀ i, i < fateN.length → (Cond.laysStatic "SeptetCentre$Fate" (fateN.getD i "") "LSeptetCentre$Fate;").before #[Value.ref b] s = true := by
    intro i hi
    match i, hi with
    | 0, _ => exact hts _ s_f0
    | 1, _ => exact hts _ s_f1
    | 2, _ => exact hts _ s_f2
    | 3, _ => exact hts _ s_f3
    | k + 4, hi => exact absurd hi (Nat.not_lt.mpr (Nat.le_add_left 4 k))
  obtain ⟨ad, hE⟩ := va_Enof (E := "SeptetCentre$Fate") (d := "LSeptetCentre$Fate;") (nm := fateN) (F := fateF) (A := fun q : Nat => s.heap.size ≤ q) fl (hts _ s_if) (fun i hi => hs _ (m_fx i hi)) (fun q hq i hi => hs _ (m_ff q hq i hi)) (fun i j hi hj hne => (m_fd i hi j hj hne).imp (hs _) (hs _)) hA
  obtain ⟨z, hz⟩ := Classical.axiomOfChoice (st_kn hts)
  refine ⟨(s, (fun ci => (z ci).1, fun ci => (z ci).2), stK a0 a1 a2 a3 ad mi b, L, xs), rfl, rfl, rfl, #[Value.ref b], hts, ?_, ?_⟩
  · intro ci q hq
    match ci, hq with
    | 0, hq => cases hq; exact st_cl hts (hz 0 _ rfl) zw0 zn0 zd0
    | 1, hq => cases hq; exact st_cl hts (hz 1 _ rfl) zw1 zn1 zd1
    | 2, hq => cases hq; exact st_cl hts (hz 2 _ rfl) zw2 zn2 zd2
    | 3, hq => cases hq; exact st_cl hts (hz 3 _ rfl) zw3 zn3 zd3
    | 4, hq => cases hq; exact st_cl hts (hz 4 _ rfl) zw4 zn4 zd4
    | 5, hq => cases hq; exact st_cl hts (hz 5 _ rfl) zw5 zn5 zd5
    | 6, hq => cases hq; exact st_cl hts (hz 6 _ rfl) zw6 zn6 zd6
    | 7, hq => cases hq; exact st_cl hts (hz 7 _ rfl) zw7 zn7 zd7
    | 8, hq => cases hq; exact st_cl hts (hz 8 _ rfl) zw8 zn8 zd8
    | k + 9, hq => simp [zCL] at hq
  · refine ⟨⟨va_Zof (hts _ s_d) (hts _ s_id) e0 hA, va_Zof (hts _ s_a0) (hts _ s_ia) e1 hA, va_Zof (hts _ s_a1) (hts _ s_ia) e2 hA, va_Zof (hts _ s_a2) (hts _ s_ia) e3 hA⟩, ⟨(hE.1 0 (by decide)).1, (hE.1 1 (by decide)).1, (hE.1 2 (by decide)).1, (hE.1 3 (by decide)).1⟩, ?_, ?_, ?_, ⟨c0, g0, k0⟩, hmi, hL⟩
    · intro t t1 t2
      rcases (show t = 4 ∨ t = 5 ∨ t = 6 ∨ t = 7 by omega) with rfl | rfl | rfl | rfl
      · exact st_fate hE (i := 0) (by decide) rfl rfl rfl
      · exact st_fate hE (i := 1) (by decide) rfl rfl rfl
      · exact st_fate hE (i := 2) (by decide) rfl rfl rfl
      · exact st_fate hE (i := 3) (by decide) rfl rfl rfl
    · intro i j i1 i2 j1 j2 e
      have key : ∀ t, 4 ≤ t → t ≤ 7 → stK a0 a1 a2 a3 ad mi b t = ad (t - 4) := by
        intro t t1 t2
        rcases (show t = 4 ∨ t = 5 ∨ t = 6 ∨ t = 7 by omega) with rfl | rfl | rfl | rfl <;> rfl
      have e : stK a0 a1 a2 a3 ad mi b i = stK a0 a1 a2 a3 ad mi b j := e
      rw [key i i1 i2, key j j1 j2] at e
      have := hE.2 (i - 4) (j - 4) (show i - 4 < 4 by omega) (show j - 4 < 4 by omega) e
      omega
    · intro t ht
      rcases (show t = 1 ∨ t = 2 ∨ t = 3 ∨ t = 9 by omega) with rfl | rfl | rfl | rfl
      · exact ⟨c1, g1, k1⟩
      · exact ⟨c2, g2, k2⟩
      · exact ⟨c3, g3, k3⟩
      · obtain ⟨scr, q1, q2, q3, q4, q5⟩ := hX
        exact ⟨scr, q1, q3, q2, q4, q5⟩
set_option maxHeartbeats 4000000 in
/-- from the entry, for every script of at most 3072 ints, the law comes to its end with true -/
theorem whole_start {p : Program} {e : Env} {s : State} {m : MethodId} {below : List Frame} {meth : Method} {c : Code} (l : Launch) {b L : Nat} {xs : Nat → Int32} (hL : L ≤ 3072) (C0 : lw_At p s m meth c b L xs) : W p l e room_1 s m #[Value.ref b] below meth c s.heap [] 0 0 (lw_Z below #[Value.ref b] s) (entryFrame m ([Value.ref b] : List Value).toArray 4) := by
  obtain ⟨hx, hb, hr, hml, hown, hts, hX, hbl, hlocks, hgv, hnm⟩ := id C0
  obtain ⟨G, rfl, hG9, hGL, hSy⟩ := st_sys hL hts hX hgv
  have he : ∀ a, hS ((fun _ => none, fun _ _ => 0, fun _ _ => 0, fun _ _ => none) : Hp) a = none := fun _ => rfl
  have hRf : Rf G ((fun _ => none, fun _ _ => 0, fun _ _ => 0, fun _ _ => none) : Hp) G.1.heap := ⟨fun a kd h => (by cases h), fun a _ => ⟨fun _ => rfl, fun _ => rfl, fun _ => rfl⟩, fun _ _ => rfl, Nat.le_refl _⟩
  have K := ok_LW_law (p := p) (e := e) (m := m) (b := b) (below := below) (meth := meth) (c := c) (law_wp (l := l) (by rw [hGL]; exact hL) he)
  rw [lg_entry_eq]
  have ok : OKx M_LW_law (XL G p l e m b below meth c) := ⟨hx, hb, hml, hown, hlocks, hr, hnm, State.WarmedH.refl G.1, hSy⟩
  exact K ok _ G.1.heap [] (by rw [hG9]; exact Lv.entry (n := 4) (av := [.ref b]) (Nat.le_of_ble_eq_true rfl)) hRf (fun q hq => by cases hq)
