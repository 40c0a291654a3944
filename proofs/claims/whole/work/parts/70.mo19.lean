/-! the reference's side -/
section MV2
variable {G : Gx} {l : Launch} {d w : Nat} {A : Nat → Nat} {h h0 : Hp} {D : List Nat} {q0 : Nat}
/-- while the reference's rows are made -/
def IN (h0 : Hp) (q0 : Nat) (A : Nat → Nat) (D : List Nat) (h : Hp) : Prop := hS h q0 = some (18, 0) ∧ (∀ j, hI h q0 j = 0) ∧ (∀ f, f ∈ D → hS h (A f) = some (kdL.getD f (0, 0)) ∧ hR h q0 f = some (A f) ∧ (∀ j, hI h (A f) j = 0) ∧ (∀ j, hL h (A f) j = 0) ∧ A f ≠ q0 ∧ hS h0 (A f) = none) ∧ (∀ f g, f ∈ D → g ∈ D → A f = A g → f = g) ∧ ((∀ x, hS h0 x ≠ none → hS h x = hS h0 x) ∧ ∀ x, hS h0 x ≠ none → x ≠ q0 → (hI h x = hI h0 x ∧ hL h x = hL h0 x ∧ hR h x = hR h0 x))
theorem IN.step {q f : Nat} {k : Nat × Nat} (I : IN h0 q0 A D h) (F : Fre h q) (hf : f ∉ D) (hk : k = kdL.getD f (0, 0)) : ∃ A', IN h0 q0 A' (f :: D) (pR (pN h q k) q0 f (some q)) := by
  obtain ⟨i1, i2, i3, i4, i5, i6⟩ := I
  obtain ⟨f1, f2, f3, f4⟩ := F
  have nq : q ≠ q0 := fun z => by rw [z, i1] at f1; cases f1
  have nA : ∀ g, g ∈ D → A g ≠ q := fun g hg z => by
    have := (i3 g hg).1
    rw [z, f1] at this
    cases this
  have n0 : hS h0 q = none := by
    cases hq : hS h0 q with
    | none => rfl
    | some v =>
      have := i5 q (by rw [hq]; exact fun z => by cases z)
      rw [f1, hq] at this
      cases this
  have eS : ∀ x, hS (pR (pN h q k) q0 f (some q)) x = if x = q then some k else hS h x := fun x => rfl
  refine ⟨fun x => if x = f then q else A x, ?_, ?_, fun g hg => ?_, fun a b ha hb e => ?_, fun x hx => ?_, fun x hx hn => ?_⟩
  · rw [eS, if_neg (fun z => nq z.symm)]
    exact i1
  · exact i2
  · by_cases cg : g = f
    · have eA : (if g = f then q else A g) = q := if_pos cg
      show hS _ (if g = f then q else A g) = _ ∧ _ = some (if g = f then q else A g) ∧ (∀ j, hI _ (if g = f then q else A g) j = 0) ∧ (∀ j, hL _ (if g = f then q else A g) j = 0) ∧ (if g = f then q else A g) ≠ q0 ∧ hS h0 (if g = f then q else A g) = none
      rw [eA, eS, if_pos rfl, cg, ← hk]
      exact ⟨rfl, hR_pR_eq, f2, f3, nq, n0⟩
    · have hg' : g ∈ D := by
        rcases List.mem_cons.mp hg with z | z
        · exact absurd z cg
        · exact z
      have eA : (if g = f then q else A g) = A g := if_neg cg
      show hS _ (if g = f then q else A g) = _ ∧ _ = some (if g = f then q else A g) ∧ (∀ j, hI _ (if g = f then q else A g) j = 0) ∧ (∀ j, hL _ (if g = f then q else A g) j = 0) ∧ (if g = f then q else A g) ≠ q0 ∧ hS h0 (if g = f then q else A g) = none
      rw [eA, eS, if_neg (nA g hg')]
      obtain ⟨a1, a2, a3, a4, a5, a6⟩ := i3 g hg'
      exact ⟨a1, by rw [hR_pR_ne (fun z => cg z.2)]; exact a2, a3, a4, a5, a6⟩
  · have e' : (if a = f then q else A a) = (if b = f then q else A b) := e
    rcases List.mem_cons.mp ha with za | za <;> rcases List.mem_cons.mp hb with zb | zb
    · rw [za, zb]
    · have nb : b ≠ f := fun z => hf (by rw [← z]; exact zb)
      rw [if_pos za, if_neg nb] at e'
      exact absurd e'.symm (nA b zb)
    · have na : a ≠ f := fun z => hf (by rw [← z]; exact za)
      rw [if_neg na, if_pos zb] at e'
      exact absurd e' (nA a za)
    · have na : a ≠ f := fun z => hf (by rw [← z]; exact za)
      have nb : b ≠ f := fun z => hf (by rw [← z]; exact zb)
      rw [if_neg na, if_neg nb] at e'
      exact i4 a b za zb e'
  · have nx : x ≠ q := fun z => hx (by rw [z]; exact n0)
    rw [eS, if_neg nx]
    exact i5 x hx
  · obtain ⟨a1, a2, a3⟩ := i6 x hx hn
    refine ⟨a1, a2, ?_⟩
    rw [← a3]
    exact up2_off _ _ _ hn
theorem ar_le {f : Nat} (h : ar f = true) : f ≤ 41 := by
  unfold ar at h
  rw [Bool.and_eq_true] at h
  exact of_decide_eq_true h.1
theorem IN.done (I : IN h0 q0 A D h) (hD : ∀ f, ar f = true → f = 41 ∨ f ∈ D) (h41 : 41 ∉ D) : ∃ A', A' 41 = q0 ∧ MR A' h S0 ∧ (∀ f, ar f = true → f ≠ 41 → hS h0 (A' f) = none) := by
  obtain ⟨i1, i2, i3, i4, i5, i6⟩ := I
  have eA : ∀ f, ar f = true → f ≠ 41 → (f ∈ D ∧ (if f = 41 then q0 else A f) = A f) := fun f hf n => ⟨by rcases hD f hf with z | z; exact absurd z n; exact z, if_neg n⟩
  have M : MA (fun x => if x = 41 then q0 else A x) h := by
    refine ⟨fun f hf => ?_, fun f hf n => ?_, fun f g hf hg e => ?_⟩
    · show hS h (if f = 41 then q0 else A f) = _
      by_cases c : f = 41
      · rw [if_pos c, c]
        exact i1
      · obtain ⟨m, e⟩ := eA f hf c
        rw [e]
        exact (i3 f m).1
    · obtain ⟨m, e⟩ := eA f hf n
      show hR h (if 41 = 41 then q0 else A 41) f = some (if f = 41 then q0 else A f)
      rw [if_pos rfl, e]
      exact (i3 f m).2.1
    · have e' : (if f = 41 then q0 else A f) = (if g = 41 then q0 else A g) := e
      by_cases c : f = 41 <;> by_cases c2 : g = 41
      · rw [c, c2]
      · obtain ⟨m, e2⟩ := eA g hg c2
        rw [if_pos c, e2] at e'
        exact absurd e'.symm (i3 g m).2.2.2.2.1
      · obtain ⟨m, e2⟩ := eA f hf c
        rw [if_pos c2, e2] at e'
        exact absurd e' (i3 f m).2.2.2.2.1
      · obtain ⟨m, e2⟩ := eA f hf c
        obtain ⟨m2, e3⟩ := eA g hg c2
        rw [e2, e3] at e'
        exact i4 f g m m2 e'
  have zI : ∀ f, ar f = true → f ≠ 41 → ∀ j, hI h (if f = 41 then q0 else A f) j = 0 := fun f hf n j => by
    obtain ⟨m, e⟩ := eA f hf n
    rw [e]
    exact (i3 f m).2.2.1 j
  have zL : ∀ f, ar f = true → f ≠ 41 → ∀ j, hL h (if f = 41 then q0 else A f) j = 0 := fun f hf n j => by
    obtain ⟨m, e⟩ := eA f hf n
    rw [e]
    exact (i3 f m).2.2.2.1 j
  have hl : ∀ n, linS S0 n = [] := fun n => by
    unfold linS
    split
    · rfl
    · split <;> rfl
  refine ⟨fun x => if x = 41 then q0 else A x, if_pos rfl, ⟨M, ⟨i2 0, fun j hj => absurd hj (Nat.not_lt_zero _)⟩, fun f _ => ⟨zL 4 rfl (by decide) f, zI 5 rfl (by decide) f⟩, fun f _ => ⟨zI 6 rfl (by decide) f, zI 7 rfl (by decide) f⟩, fun f _ => ⟨zI 8 rfl (by decide) f, zL 10 rfl (by decide) f, fun j hj => absurd hj (Nat.not_lt_zero _)⟩, fun n hn => ?_, fun k hk => absurd hk (Nat.not_lt_zero _), ⟨⟨i2 17, i2 18, i2 19⟩, fun k hk => absurd hk (Nat.not_lt_zero _), fun k _ => ⟨zI 29 rfl (by decide) k, zI 30 rfl (by decide) k⟩⟩, ⟨fun _ => 0, (fun k hk => by cases hk), (fun k j hk => by cases hk), fun s _ => Or.inl (zI 32 rfl (by decide) s)⟩, fun f _ => ⟨zI 38 rfl (by decide) f, fun k hk => absurd hk (Nat.not_lt_zero _)⟩⟩, fun f hf n => ?_⟩
  · rw [hl]
    exact ⟨zI 16 rfl (by decide) n, Nat.zero_le _, (fun r hr => by cases hr), fun k hk => absurd hk (Nat.not_lt_zero _)⟩
  · obtain ⟨m, e⟩ := eA f hf n
    show hS h0 (if f = 41 then q0 else A f) = none
    rw [e]
    exact (i3 f m).2.2.2.2.2
set_option maxRecDepth 100000 in
set_option maxHeartbeats 4000000 in
theorem c_MO_init (hs : hS h q0 = some (18, 0)) (hz : ∀ j, hI h q0 j = 0) : Cv G l M_MO_init (d + 1) (w + 20) [.ref q0] h 35 21177 (fun h' => ∃ A, A 41 = q0 ∧ MR A h' S0 ∧ (∀ f, ar f = true → f ≠ 41 → hS h (A f) = none) ∧ (∀ x, hS h x ≠ none → hS h' x = hS h x) ∧ ∀ x, hS h x ≠ none → x ≠ q0 → (hI h' x = hI h x ∧ hL h' x = hL h x ∧ hR h' x = hR h x)) := by
  refine ok_MO_init ?_
  unfold wp_MO_init
  have I0 : IN h q0 (fun _ => 0) [] h := ⟨hs, hz, (fun f hf => by cases hf), (fun f g hf => by cases hf), fun _ _ => rfl, fun _ _ _ => ⟨rfl, rfl, rfl⟩⟩
  refine ⟨480, ⟨rfl, by decide, by decide⟩, ⟨by decide, by decide⟩, fun q1 F1 => ?_⟩
  obtain ⟨A1, I1⟩ := I0.step (f := 1) (k := (0, 480)) F1 (by decide) rfl
  refine ⟨?_, ?_⟩
  · exact I1.1
  generalize pR (pN h q1 (0, 480)) q0 1 (some q1) = h1 at I1 ⊢
  refine ⟨960, ⟨rfl, by decide, by decide⟩, ⟨by decide, by decide⟩, fun q3 F3 => ?_⟩
  obtain ⟨A3, I3⟩ := I1.step (f := 3) (k := (0, 960)) F3 (by decide) rfl
  generalize pR (pN h1 q3 (0, 960)) q0 3 (some q3) = h3 at I3 ⊢
  refine ⟨4, ⟨rfl, by decide, by decide⟩, ⟨by decide, by decide⟩, fun q4 F4 => ?_⟩
  obtain ⟨A4, I4⟩ := I3.step (f := 4) (k := (1, 4)) F4 (by decide) rfl
  generalize pR (pN h3 q4 (1, 4)) q0 4 (some q4) = h4 at I4 ⊢
  refine ⟨4, ⟨rfl, by decide, by decide⟩, ⟨by decide, by decide⟩, fun q5 F5 => ?_⟩
  obtain ⟨A5, I5⟩ := I4.step (f := 5) (k := (2, 4)) F5 (by decide) rfl
  generalize pR (pN h4 q5 (2, 4)) q0 5 (some q5) = h5 at I5 ⊢
  refine ⟨4, ⟨rfl, by decide, by decide⟩, ⟨by decide, by decide⟩, fun q6 F6 => ?_⟩
  obtain ⟨A6, I6⟩ := I5.step (f := 6) (k := (0, 4)) F6 (by decide) rfl
  generalize pR (pN h5 q6 (0, 4)) q0 6 (some q6) = h6 at I6 ⊢
  refine ⟨4, ⟨rfl, by decide, by decide⟩, ⟨by decide, by decide⟩, fun q7 F7 => ?_⟩
  obtain ⟨A7, I7⟩ := I6.step (f := 7) (k := (0, 4)) F7 (by decide) rfl
  generalize pR (pN h6 q7 (0, 4)) q0 7 (some q7) = h7 at I7 ⊢
  refine ⟨4, ⟨rfl, by decide, by decide⟩, ⟨by decide, by decide⟩, fun q8 F8 => ?_⟩
  obtain ⟨A8, I8⟩ := I7.step (f := 8) (k := (0, 4)) F8 (by decide) rfl
  generalize pR (pN h7 q8 (0, 4)) q0 8 (some q8) = h8 at I8 ⊢
  refine ⟨1920, ⟨rfl, by decide, by decide⟩, ⟨by decide, by decide⟩, fun q9 F9 => ?_⟩
  obtain ⟨A9, I9⟩ := I8.step (f := 9) (k := (0, 1920)) F9 (by decide) rfl
  generalize pR (pN h8 q9 (0, 1920)) q0 9 (some q9) = h9 at I9 ⊢
  refine ⟨4, ⟨rfl, by decide, by decide⟩, ⟨by decide, by decide⟩, fun q10 F10 => ?_⟩
  obtain ⟨A10, I10⟩ := I9.step (f := 10) (k := (1, 4)) F10 (by decide) rfl
  generalize pR (pN h9 q10 (1, 4)) q0 10 (some q10) = h10 at I10 ⊢
  refine ⟨176, ⟨rfl, by decide, by decide⟩, ⟨by decide, by decide⟩, fun q12 F12 => ?_⟩
  obtain ⟨A12, I12⟩ := I10.step (f := 12) (k := (0, 176)) F12 (by decide) rfl
  generalize pR (pN h10 q12 (0, 176)) q0 12 (some q12) = h12 at I12 ⊢
  refine ⟨8960, ⟨rfl, by decide, by decide⟩, ⟨by decide, by decide⟩, fun q13 F13 => ?_⟩
  obtain ⟨A13, I13⟩ := I12.step (f := 13) (k := (0, 8960)) F13 (by decide) rfl
  generalize pR (pN h12 q13 (0, 8960)) q0 13 (some q13) = h13 at I13 ⊢
  refine ⟨56, ⟨rfl, by decide, by decide⟩, ⟨by decide, by decide⟩, fun q14 F14 => ?_⟩
  obtain ⟨A14, I14⟩ := I13.step (f := 14) (k := (0, 56)) F14 (by decide) rfl
  generalize pR (pN h13 q14 (0, 56)) q0 14 (some q14) = h14 at I14 ⊢
  refine ⟨56, ⟨rfl, by decide, by decide⟩, ⟨by decide, by decide⟩, fun q15 F15 => ?_⟩
  obtain ⟨A15, I15⟩ := I14.step (f := 15) (k := (0, 56)) F15 (by decide) rfl
  generalize pR (pN h14 q15 (0, 56)) q0 15 (some q15) = h15 at I15 ⊢
  refine ⟨9, ⟨rfl, by decide, by decide⟩, ⟨by decide, by decide⟩, fun q16 F16 => ?_⟩
  obtain ⟨A16, I16⟩ := I15.step (f := 16) (k := (0, 9)) F16 (by decide) rfl
  generalize pR (pN h15 q16 (0, 9)) q0 16 (some q16) = h16 at I16 ⊢
  refine ⟨100, ⟨rfl, by decide, by decide⟩, ⟨by decide, by decide⟩, fun q20 F20 => ?_⟩
  obtain ⟨A20, I20⟩ := I16.step (f := 20) (k := (0, 100)) F20 (by decide) rfl
  generalize pR (pN h16 q20 (0, 100)) q0 20 (some q20) = h20 at I20 ⊢
  refine ⟨100, ⟨rfl, by decide, by decide⟩, ⟨by decide, by decide⟩, fun q21 F21 => ?_⟩
  obtain ⟨A21, I21⟩ := I20.step (f := 21) (k := (0, 100)) F21 (by decide) rfl
  generalize pR (pN h20 q21 (0, 100)) q0 21 (some q21) = h21 at I21 ⊢
  refine ⟨100, ⟨rfl, by decide, by decide⟩, ⟨by decide, by decide⟩, fun q22 F22 => ?_⟩
  obtain ⟨A22, I22⟩ := I21.step (f := 22) (k := (1, 100)) F22 (by decide) rfl
  generalize pR (pN h21 q22 (1, 100)) q0 22 (some q22) = h22 at I22 ⊢
  refine ⟨100, ⟨rfl, by decide, by decide⟩, ⟨by decide, by decide⟩, fun q23 F23 => ?_⟩
  obtain ⟨A23, I23⟩ := I22.step (f := 23) (k := (1, 100)) F23 (by decide) rfl
  generalize pR (pN h22 q23 (1, 100)) q0 23 (some q23) = h23 at I23 ⊢
  refine ⟨100, ⟨rfl, by decide, by decide⟩, ⟨by decide, by decide⟩, fun q24 F24 => ?_⟩
  obtain ⟨A24, I24⟩ := I23.step (f := 24) (k := (2, 100)) F24 (by decide) rfl
  generalize pR (pN h23 q24 (2, 100)) q0 24 (some q24) = h24 at I24 ⊢
  refine ⟨100, ⟨rfl, by decide, by decide⟩, ⟨by decide, by decide⟩, fun q25 F25 => ?_⟩
  obtain ⟨A25, I25⟩ := I24.step (f := 25) (k := (2, 100)) F25 (by decide) rfl
  generalize pR (pN h24 q25 (2, 100)) q0 25 (some q25) = h25 at I25 ⊢
  refine ⟨100, ⟨rfl, by decide, by decide⟩, ⟨by decide, by decide⟩, fun q26 F26 => ?_⟩
  obtain ⟨A26, I26⟩ := I25.step (f := 26) (k := (0, 100)) F26 (by decide) rfl
  generalize pR (pN h25 q26 (0, 100)) q0 26 (some q26) = h26 at I26 ⊢
  refine ⟨100, ⟨rfl, by decide, by decide⟩, ⟨by decide, by decide⟩, fun q27 F27 => ?_⟩
  obtain ⟨A27, I27⟩ := I26.step (f := 27) (k := (0, 100)) F27 (by decide) rfl
  generalize pR (pN h26 q27 (0, 100)) q0 27 (some q27) = h27 at I27 ⊢
  refine ⟨100, ⟨rfl, by decide, by decide⟩, ⟨by decide, by decide⟩, fun q28 F28 => ?_⟩
  obtain ⟨A28, I28⟩ := I27.step (f := 28) (k := (0, 100)) F28 (by decide) rfl
  generalize pR (pN h27 q28 (0, 100)) q0 28 (some q28) = h28 at I28 ⊢
  refine ⟨100, ⟨rfl, by decide, by decide⟩, ⟨by decide, by decide⟩, fun q29 F29 => ?_⟩
  obtain ⟨A29, I29⟩ := I28.step (f := 29) (k := (0, 100)) F29 (by decide) rfl
  generalize pR (pN h28 q29 (0, 100)) q0 29 (some q29) = h29 at I29 ⊢
  refine ⟨100, ⟨rfl, by decide, by decide⟩, ⟨by decide, by decide⟩, fun q30 F30 => ?_⟩
  obtain ⟨A30, I30⟩ := I29.step (f := 30) (k := (0, 100)) F30 (by decide) rfl
  generalize pR (pN h29 q30 (0, 100)) q0 30 (some q30) = h30 at I30 ⊢
  refine ⟨100, ⟨rfl, by decide, by decide⟩, ⟨by decide, by decide⟩, fun q31 F31 => ?_⟩
  obtain ⟨A31, I31⟩ := I30.step (f := 31) (k := (0, 100)) F31 (by decide) rfl
  generalize pR (pN h30 q31 (0, 100)) q0 31 (some q31) = h31 at I31 ⊢
  refine ⟨12, ⟨rfl, by decide, by decide⟩, ⟨by decide, by decide⟩, fun q32 F32 => ?_⟩
  obtain ⟨A32, I32⟩ := I31.step (f := 32) (k := (2, 12)) F32 (by decide) rfl
  generalize pR (pN h31 q32 (2, 12)) q0 32 (some q32) = h32 at I32 ⊢
  refine ⟨12, ⟨rfl, by decide, by decide⟩, ⟨by decide, by decide⟩, fun q33 F33 => ?_⟩
  obtain ⟨A33, I33⟩ := I32.step (f := 33) (k := (0, 12)) F33 (by decide) rfl
  generalize pR (pN h32 q33 (0, 12)) q0 33 (some q33) = h33 at I33 ⊢
  refine ⟨1728, ⟨rfl, by decide, by decide⟩, ⟨by decide, by decide⟩, fun q34 F34 => ?_⟩
  obtain ⟨A34, I34⟩ := I33.step (f := 34) (k := (0, 1728)) F34 (by decide) rfl
  generalize pR (pN h33 q34 (0, 1728)) q0 34 (some q34) = h34 at I34 ⊢
  refine ⟨12, ⟨rfl, by decide, by decide⟩, ⟨by decide, by decide⟩, fun q35 F35 => ?_⟩
  obtain ⟨A35, I35⟩ := I34.step (f := 35) (k := (1, 12)) F35 (by decide) rfl
  generalize pR (pN h34 q35 (1, 12)) q0 35 (some q35) = h35 at I35 ⊢
  refine ⟨12, ⟨rfl, by decide, by decide⟩, ⟨by decide, by decide⟩, fun q36 F36 => ?_⟩
  obtain ⟨A36, I36⟩ := I35.step (f := 36) (k := (0, 12)) F36 (by decide) rfl
  generalize pR (pN h35 q36 (0, 12)) q0 36 (some q36) = h36 at I36 ⊢
  refine ⟨12, ⟨rfl, by decide, by decide⟩, ⟨by decide, by decide⟩, fun q37 F37 => ?_⟩
  obtain ⟨A37, I37⟩ := I36.step (f := 37) (k := (0, 12)) F37 (by decide) rfl
  generalize pR (pN h36 q37 (0, 12)) q0 37 (some q37) = h37 at I37 ⊢
  refine ⟨4, ⟨rfl, by decide, by decide⟩, ⟨by decide, by decide⟩, fun q38 F38 => ?_⟩
  obtain ⟨A38, I38⟩ := I37.step (f := 38) (k := (0, 4)) F38 (by decide) rfl
  generalize pR (pN h37 q38 (0, 4)) q0 38 (some q38) = h38 at I38 ⊢
  refine ⟨36, ⟨rfl, by decide, by decide⟩, ⟨by decide, by decide⟩, fun q39 F39 => ?_⟩
  obtain ⟨A39, I39⟩ := I38.step (f := 39) (k := (0, 36)) F39 (by decide) rfl
  generalize pR (pN h38 q39 (0, 36)) q0 39 (some q39) = h39 at I39 ⊢
  refine ⟨5508, ⟨rfl, by decide, by decide⟩, ⟨by decide, by decide⟩, fun q40 F40 => ?_⟩
  obtain ⟨A40, I40⟩ := I39.step (f := 40) (k := (0, 5508)) F40 (by decide) rfl
  generalize pR (pN h39 q40 (0, 5508)) q0 40 (some q40) = h40 at I40 ⊢
  obtain ⟨A', a1, a2, a3⟩ := I40.done (fun f hf => by
    have t : ∀ f : Fin 42, ar f.val = true → f.val = 41 ∨ f.val ∈ ([40, 39, 38, 37, 36, 35, 34, 33, 32, 31, 30, 29, 28, 27, 26, 25, 24, 23, 22, 21, 20, 16, 15, 14, 13, 12, 10, 9, 8, 7, 6, 5, 4, 3, 1] : List Nat) := by decide +kernel
    exact t ⟨f, by have := ar_le hf; omega⟩ hf) (by decide)
  exact ⟨⟨by decide, by decide⟩, A', a1, a2, a3, I40.2.2.2.2.1, I40.2.2.2.2.2⟩
end MV2
