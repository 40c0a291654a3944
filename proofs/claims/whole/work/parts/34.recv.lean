/-! messages are read, rows altered and received -/
/-- the centre's own fields -/
def CRc (own : Nat → Tg) (h : Hp) (D : Nat → Nat) (x u : Nat) (drf : List Nat) (ml pl now : Nat) : Prop := (hS h x = some (10, 0) ∧ own x = (1, 0) ∧ hI h x 5 = nI now) ∧ (∃ dv, hR h x 0 = some dv ∧ hS h dv = some (5, 4) ∧ own dv = (2, 0) ∧ ∀ d, d < 4 → hR h dv d = some (D d)) ∧ hR h x 1 = some u ∧ (∃ a b, hR h x 2 = some a ∧ DrA h a b (drf.map fm) ∧ own a = (6, 0) ∧ own b = (7, 0)) ∧ hR h x 3 = some ml ∧ hR h x 4 = some pl
def sAny (m : SMs) : Bool := decide (mFate m = 0)
theorem pend_snoc (ms : List SMs) (m : SMs) : pend (ms ++ [m]) = pend ms ++ (if mFate m = 0 then [ms.length] else []) := by
  unfold pend
  rw [List.length_append, List.length_singleton, List.range_succ, List.filter_append]
  congr 1
  · apply List.filter_congr
    intro k hk
    rw [List.getElem?_append_left (List.mem_range.mp hk)]
  · simp [List.filter_cons]
theorem pend_mem {ms : List SMs} {k : Nat} : k ∈ pend ms ↔ ∃ m, ms[k]? = some m ∧ mFate m = 0 := by
  unfold pend
  rw [List.mem_filter, List.mem_range]
  constructor
  · rintro ⟨h1, h2⟩
    refine ⟨ms[k], List.getElem?_eq_getElem h1, ?_⟩
    rw [List.getElem?_eq_getElem h1] at h2
    simpa using h2
  · rintro ⟨m, h1, h2⟩
    have hk : k < ms.length := by
      rcases Nat.lt_or_ge k ms.length with z | z
      · exact z
      · rw [List.getElem?_eq_none z] at h1; cases h1
    refine ⟨hk, ?_⟩
    rw [h1]
    simpa using h2
theorem getD_snoc {xs : List Nat} {v k : Nat} (h : k < xs.length) : (xs ++ [v]).getD k 0 = xs.getD k 0 := getD_app_l h
section RV
variable {G : Gx} {l : Launch} {d w : Nat} {own own' : Nat → Tg} {h h' : Hp} {D : Nat → Nat} {x u ml pl now : Nat} {drf : List Nat} {S : SS} {T : Tg → Prop}
theorem CRc.kept (C : CRc own h D x u drf ml pl now) (F : FT own h h' T) (E : Eo own own' h) (n1 : ¬ T (1, 0)) (n2 : ¬ T (2, 0)) (n6 : ¬ T (6, 0)) (n7 : ¬ T (7, 0)) : CRc own' h' D x u drf ml pl now := by
  obtain ⟨⟨c1, c2, c3⟩, ⟨dv, c4, c5, c6, c7⟩, c8, ⟨a, b, c10, c11, c12, c13⟩, c14, c15⟩ := C
  have s1 := F.kp c1 c2 n1
  have s2 := F.kp c5 c6 n2
  exact ⟨⟨by rw [s1.1]; exact c1, E.at c1 c2 (by simp), by rw [s1.2.1]; exact c3⟩, ⟨dv, by rw [s1.2.2.2]; exact c4, by rw [s2.1]; exact c5, E.at c5 c6 (by simp), fun d hd => by rw [s2.2.2.2]; exact c7 d hd⟩, by rw [s1.2.2.2]; exact c8, ⟨a, b, by rw [s1.2.2.2]; exact c10, c11.keptT F c12 c13 n6 n7, E.at c11.1 c12 (by simp), E.at c11.2.2.1 c13 (by simp)⟩, by rw [s1.2.2.2]; exact c14, by rw [s1.2.2.2]; exact c15⟩
theorem CS.split (C : CS G own h D x S) : ∃ u ml pl, CRc own h D x u S.2.2.1 ml pl S.2.2.2.2 ∧ UP G own h D u S.2.1 ∧ MG G own h D ml pl S.2.2.2.1 ∧ ∀ d, d < 4 → DV G own h D d (S.1 d) := by
  obtain ⟨c1, c4, ⟨u, c8, c9⟩, c10, ⟨ml, pl, c14, c15, c16⟩, c17⟩ := C
  exact ⟨u, ml, pl, ⟨c1, c4, c8, c10, c14, c15⟩, c9, c16, c17⟩
theorem CS.join {dev : Nat → SDv} {up : List (Nat × List Nat)} {ms : List SMs} (C : CRc own h D x u drf ml pl now) (U : UP G own h D u up) (M : MG G own h D ml pl ms) (V : ∀ d, d < 4 → DV G own h D d (dev d)) : CS G own h D x (dev, up, drf, ms, now) := ⟨C.1, C.2.1, ⟨u, C.2.2.1, U⟩, C.2.2.2.1, ⟨ml, pl, C.2.2.2.2.1, C.2.2.2.2.2, M⟩, V⟩
theorem c_SC_state {m : Int32} (C : CS G own h D x S) (hl : S.2.2.2.1.length ≤ 100) : Ci G l M_SC_state (d + 4) (w + 94) [.ref x, .int m] h 0 0 (Xi (sSta S m) h) := by
  obtain ⟨u, ml, pl, C1, -, ⟨xs, A, B, e, r⟩, -⟩ := C.split
  refine ok_SC_state ?_
  unfold wp_SC_state wJ_SC_state_15 wJ_SC_state_37 sSta
  refine ⟨fun c => ⟨by rw [if_pos (Or.inl c)], rfl⟩, fun c => ?_⟩
  obtain ⟨k, hk, rfl⟩ := i_nat c
  refine ⟨C1.1.1, ml, C1.2.2.2.2.1, A.hs, _, c_LJ_size A, ?_⟩
  rintro _ _ ⟨rfl, rfl⟩
  rw [nI_ltI (by omega) (by omega), e]
  refine ⟨fun c2 => ⟨C1.1.1, ml, C1.2.2.2.2.1, A.hs, _, c_LJ_get A (by omega), ?_⟩, fun c2 => ⟨by rw [if_pos (Or.inr (nI_le (by omega) (by omega)))], rfl⟩⟩
  rintro _ _ ⟨rfl, rfl⟩
  have M := r k _ (List.getElem?_eq_getElem c2)
  have hM := M
  obtain ⟨m1, -, -, -, -, -, -, -, -, -, m12, m13, m14⟩ := M
  refine ⟨_, rfl, m1, 4 + mFate S.2.2.2.1[k], ⟨m13, by omega, by omega⟩, ?_, rfl⟩
  rw [if_neg, nI_clamp (by omega), List.getD_eq_getElem?_getD, List.getElem?_eq_getElem c2]
  · generalize S.2.2.2.1[k] = mm at m14
    show fateA (4 + mFate mm) = nI (mFate mm)
    rcases (show mFate mm = 0 ∨ mFate mm = 1 ∨ mFate mm = 2 ∨ mFate mm = 3 by omega) with z | z | z | z <;> rw [z] <;> rfl
  · rintro (z | z)
    · exact c z
    · have := (nI_leI (by omega) (by omega)).mp z
      omega
theorem c_SC_offers {m : Int32} (C : CS G own h D x S) (hl : S.2.2.2.1.length ≤ 100) : Ci G l M_SC_offers (d + 4) (w + 94) [.ref x, .int m] h 0 0 (Xi (sOff S m) h) := by
  obtain ⟨u, ml, pl, C1, -, ⟨xs, A, B, e, r⟩, -⟩ := C.split
  refine ok_SC_offers ?_
  unfold wp_SC_offers wJ_SC_offers_15 wJ_SC_offers_34 sOff
  refine ⟨fun c => ⟨by rw [if_pos (Or.inl c)], rfl⟩, fun c => ?_⟩
  obtain ⟨k, hk, rfl⟩ := i_nat c
  refine ⟨C1.1.1, ml, C1.2.2.2.2.1, A.hs, _, c_LJ_size A, ?_⟩
  rintro _ _ ⟨rfl, rfl⟩
  rw [nI_ltI (by omega) (by omega), e]
  refine ⟨fun c2 => ⟨C1.1.1, ml, C1.2.2.2.2.1, A.hs, _, c_LJ_get A (by omega), ?_⟩, fun c2 => ⟨by rw [if_pos (Or.inr (nI_le (by omega) (by omega)))], rfl⟩⟩
  rintro _ _ ⟨rfl, rfl⟩
  have M := r k _ (List.getElem?_eq_getElem c2)
  obtain ⟨m1, -, -, -, -, -, -, -, -, -, m12, m13, m14⟩ := M
  refine ⟨_, rfl, m1, ?_, rfl⟩
  rw [if_neg, nI_clamp (by omega), List.getD_eq_getElem?_getD (l := S.2.2.2.1), List.getElem?_eq_getElem c2]
  · exact m12
  · rintro (z | z)
    · exact c z
    · have := (nI_leI (by omega) (by omega)).mp z
      omega
theorem c_SC_alter {i y : Int32} (C : CS G own h D x S) (hw : WF S) : Ci G l M_SC_alter (d + 5) (w + 114) [.ref x, .int i, .int y] h 0 0 (fun r h' => r = (sAlt S i y).2 ∧ CQ G D x own h (sAlt S i y).1 h') := by
  obtain ⟨u, ml, pl, C1, U, M, V⟩ := C.split
  have U0 := U
  obtain ⟨ps, A, e, nd, r⟩ := U
  refine ok_SC_alter ?_
  unfold wp_SC_alter wJ_SC_alter_32 sAlt
  refine ⟨C1.1.1, u, C1.2.2.1, A.1, _, c_LA_first A, ?_⟩
  rintro _ _ ⟨rfl, rfl⟩
  cases ps with
  | nil =>
    rw [e]
    exact ⟨fun _ => ⟨rfl, CQ.same C⟩, fun q hq => by cases hq⟩
  | cons p ps =>
    rw [List.map_cons] at e
    rw [e]
    dsimp only
    refine ⟨fun z => (by cases z), fun q hq => ?_⟩
    cases hq
    obtain ⟨R, r2, r3, r4, r5⟩ := r p List.mem_cons_self
    refine ⟨R.1, _, c_Ro_has R i, ?_⟩
    rintro _ _ ⟨rfl, rfl⟩
    have hbl := R.2.2.2.1
    by_cases c : i < 0 ∨ nI p.2.2.2.length ≤ i
    · rw [if_pos c, if_neg]
      · exact ⟨fun _ => ⟨rfl, CQ.same C⟩, fun z => absurd rfl z⟩
      · rintro ⟨z1, z2, -⟩
        rcases c with c | c
        · exact absurd c (Int32.not_lt.mpr z1)
        · exact absurd z2 (Int32.not_lt.mpr c)
    · rw [if_neg c]
      obtain ⟨j, hj, rfl⟩ := i_nat (fun z => c (Or.inl z))
      have hjl : j < p.2.2.2.length := by
        rcases Nat.lt_or_ge j p.2.2.2.length with z | z
        · exact z
        · exact absurd (Or.inr (nI_le z hj)) c
      have no : ¬ (0 ≤ nI j ∧ nI j < nI p.2.2.2.length ∧ 1 ≤ y ∧ y ≤ 255) → (fun r h' => r = (if 0 ≤ nI j ∧ nI j < nI p.2.2.2.length ∧ 1 ≤ y ∧ y ≤ 255 then (((S.1, (p.2.2.1, p.2.2.2.set (nI j).toNatClampNeg (bt p.2.2.2 (nI j).toNatClampNeg ^^^ y.toNatClampNeg)) :: ps.map (fun p => p.2.2), S.2.2) : SS), (1 : Int32)) else (S, 0)).2 ∧ CQ G D x own h (if 0 ≤ nI j ∧ nI j < nI p.2.2.2.length ∧ 1 ≤ y ∧ y ≤ 255 then (((S.1, (p.2.2.1, p.2.2.2.set (nI j).toNatClampNeg (bt p.2.2.2 (nI j).toNatClampNeg ^^^ y.toNatClampNeg)) :: ps.map (fun p => p.2.2), S.2.2) : SS), (1 : Int32)) else (S, 0)).1 h') 0 h := by
        intro z
        rw [if_neg z]
        exact ⟨rfl, CQ.same C⟩
      refine ⟨fun z => absurd z (by decide), fun _ => ⟨fun c1 => no (fun z => absurd c1 (Int32.not_lt.mpr z.2.2.1)), fun c1 => ⟨fun c2 => ⟨R.1, _, c_Ro_flip R hjl y, ?_⟩, fun c2 => no (fun z => c2 z.2.2.2)⟩⟩⟩
      rintro _ rfl
      have g1 := Int32.not_lt.mp c1
      obtain ⟨v, v1, v2, rfl⟩ : ∃ v : Nat, 1 ≤ v ∧ v ≤ 255 ∧ y = nI v := by
        have h1 := Int32.le_iff_toInt_le.mp g1
        have h2 := Int32.le_iff_toInt_le.mp c2
        have e0 : (1 : Int32).toInt = 1 := rfl
        have e4 : (255 : Int32).toInt = 255 := rfl
        rw [e0] at h1
        rw [e4] at h2
        refine ⟨y.toInt.toNat, by omega, by omega, ?_⟩
        apply Int32.toInt_inj.mp
        rw [nI_toInt (by omega)]
        omega
      rw [if_pos ⟨nI_pos' (by omega), (nI_ltI (by omega) (by omega)).mpr hjl, g1, c2⟩, nI_clamp (by omega), nI_clamp (by omega)]
      refine ⟨rfl, ?_⟩
      have hx256 : bt p.2.2.2 j ^^^ v < 256 := Nat.xor_lt_two_pow (n := 8) (bt_lt R j) (by omega)
      have hh : hI h p.2.1 j ^^^ nI v = nI (bt p.2.2.2 j ^^^ v) := by rw [R.2.2.2.2.1 j hjl, nI_xor]; rfl
      rw [hh]
      have F : FT own h (pI h p.2.1 j (nI (bt p.2.2.2 j ^^^ v))) (fun t => t = (12, p.1)) := t_pI r3 rfl
      have nb : NB own (fun t => t = (12, p.1)) := ⟨by simp, fun a ha z => by
        have : a = p.1 := by simpa using z
        rw [this, r2] at ha
        cases ha⟩
      have U' : UP G own (pI h p.2.1 j (nI (bt p.2.2.2 j ^^^ v))) D u ((p.2.2.1, p.2.2.2.set j (bt p.2.2.2 j ^^^ v)) :: ps.map (fun p => p.2.2)) := by
        refine ⟨(p.1, p.2.1, p.2.2.1, p.2.2.2.set j (bt p.2.2.2 j ^^^ v)) :: ps, ?_, by simp, ?_, fun q hq => ?_⟩
        · rw [List.map_cons]
          exact A.kept F Ey.rfl.ex (by simp) (by simp) (by simp)
        · rw [List.map_cons] at nd ⊢
          exact nd
        · rcases List.mem_cons.mp hq with z | z
          · rw [z]
            exact ⟨R.set hjl hx256, r2, r3, r4, r5⟩
          · obtain ⟨t1, t2, t3, t4, t5⟩ := r q (List.mem_cons_of_mem _ z)
            have nq : q.1 ≠ p.1 := by
              rw [List.map_cons, List.nodup_cons] at nd
              intro y
              exact nd.1 (by rw [← y]; exact List.mem_map.mpr ⟨q, z, rfl⟩)
            have s1 := F.kp t1.1 t2 (by simp)
            exact ⟨t1.same s1 (F.kp t1.2.2.1 t3 (by simp [nq])), t2, t3, t4, by rw [s1.2.2.2]; exact t5⟩
      refine ⟨own, CS.join (C1.kept F Ey.rfl.ex (by simp) (by simp) (by simp) (by simp)) U' (M.kept F Ey.rfl.ex nb ⟨by simp, by simp⟩ ⟨by simp, by simp⟩ (by simp)) (fun k hk => (V k hk).kept F Ey.rfl.ex nb (by simp) (by simp) ⟨by simp, by simp⟩ ⟨by simp, by simp, by simp⟩ ⟨by simp, by simp, by simp⟩ (by simp) (by simp; omega)), F.mono (fun t z => by rw [z]; simp [T0]), Ey.rfl.ex⟩
/-- what receive does -/
def rMsg (S : SS) (p : Nat × List Nat) : SMs := (p.2, p.1, dNum (S.1 p.1), S.2.2.2.2, S.2.2.2.2, 0, 0)
end RV
