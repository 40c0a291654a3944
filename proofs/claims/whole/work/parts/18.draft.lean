/-! the alphabet and the draft -/
def tabDn : List Nat := [10, 20, 40, 41, 47, 60, 61, 62, 64, 101]
/-- the form of a character: its code, or 128 and its second code -/
def fm (c : Nat) : Option Nat := match (List.range 128).find? (fun j => decide (tabC.getD j 0 = nI c)) with
  | some j => some j
  | none => match (List.range 10).find? (fun j => decide (tabE.getD j 0 = nI c)) with
    | some j => some (128 + tabDn.getD j 0)
    | none => none
def fI (o : Option Nat) : Int32 := match o with
  | some f => nI f
  | none => -1
/-- the character behind an escape -/
def secN (c : Nat) : Int32 := match (List.range 10).find? (fun j => decide (tabD.getD j 0 = nI c)) with
  | some j => tabE.getD j 0
  | none => -1
def sl (f : Nat) : Nat := if f < 128 then 1 else 2
theorem find_some {n j : Nat} {p : Nat → Bool} (hj : j < n) (h1 : p j = true) (h2 : ∀ i, i < j → p i = false) : (List.range n).find? p = some j := by
  rw [List.find?_range_eq_some]
  exact ⟨h1, List.mem_range.mpr hj, fun i hi => by rw [h2 i hi]; rfl⟩
theorem find_none {n : Nat} {p : Nat → Bool} (h2 : ∀ i, i < n → p i = false) : (List.range n).find? p = none := by
  rw [List.find?_eq_none]
  intro i hi
  rw [h2 i (List.mem_range.mp hi)]
  exact fun z => by cases z
theorem fm_lt {c f : Nat} (h : fm c = some f) : f < 256 := by
  unfold fm at h
  cases h1 : (List.range 128).find? (fun j => decide (tabC.getD j 0 = nI c)) with
  | some j =>
    rw [h1] at h
    have := List.mem_range.mp (List.mem_of_find?_eq_some h1)
    cases h
    omega
  | none =>
    rw [h1] at h
    cases h2 : (List.range 10).find? (fun j => decide (tabE.getD j 0 = nI c)) with
    | some j =>
      rw [h2] at h
      have h3 := List.mem_range.mp (List.mem_of_find?_eq_some h2)
      cases h
      have : ∀ i : Fin 10, tabDn.getD i.val 0 < 128 := by decide
      have h4 : tabDn.getD j 0 < 128 := this ⟨j, h3⟩
      show 128 + tabDn.getD j 0 < 256
      omega
    | none => rw [h2] at h; cases h
section D1
variable {G : Gx} {l : Launch} {d w : Nat} {h : Hp} {a b : Nat}
theorem c_Al_formOf {c : Nat} : Ci G l M_Al_formOf (d + 0) (w + 0) [.int (nI c)] h 0 0 (Xi (fI (fm c)) h) := by
  refine ok_Al_formOf ?_
  unfold wp_Al_formOf wL_Al_formOf_2
  refine ⟨fun x h' => h = h' ∧ ∃ k, x = nI k ∧ k ≤ 128 ∧ ∀ i, i < k → decide (tabC.getD i 0 = nI c) = false, fun x _ => 128 - x.toNatClampNeg, ⟨rfl, 0, rfl, by omega, fun i hi => absurd hi (Nat.not_lt_zero _)⟩, ?_⟩
  rintro _ _ ⟨rfl, k, rfl, hk, hn⟩
  unfold wB_Al_formOf_2
  have k1 : kLen G 1 = 128 := rfl
  have k2 : kLen G 2 = 10 := rfl
  have k3 : kLen G 3 = 10 := rfl
  rw [k1]
  refine ⟨fun c1 => ?_, fun c1 => ?_⟩
  · have hk2 : 128 ≤ k := (nI_leI (by omega) (by omega)).mp c1
    have hn1 : (List.range 128).find? (fun j => decide (tabC.getD j 0 = nI c)) = none := find_none (fun i hi => hn i (by omega))
    unfold wL_Al_formOf_29
    refine ⟨fun x h' => h = h' ∧ ∃ k, x = nI k ∧ k ≤ 10 ∧ ∀ i, i < k → decide (tabE.getD i 0 = nI c) = false, fun x _ => 10 - x.toNatClampNeg, ⟨rfl, 0, rfl, by omega, fun i hi => absurd hi (Nat.not_lt_zero _)⟩, ?_⟩
    rintro _ _ ⟨rfl, j, rfl, hj, hm⟩
    unfold wB_Al_formOf_29
    rw [k2, k3]
    refine ⟨fun c2 => ?_, fun c2 => ?_⟩
    · have : 10 ≤ j := (nI_leI (by omega) (by omega)).mp c2
      refine ⟨?_, rfl⟩
      unfold fm
      rw [hn1, find_none (fun i hi => hm i (by omega))]
      rfl
    · have hlt : j < 10 := by
        rcases Nat.lt_or_ge j 10 with z | z
        · exact z
        · exact absurd (nI_le z (by omega)) c2
      refine ⟨j, ⟨rfl, hlt, by omega⟩, fun c3 => ?_, fun c3 => ⟨j, ⟨rfl, hlt, by omega⟩, ?_, rfl⟩⟩
      · rintro _ rfl
        refine ⟨⟨rfl, j + 1, nI_1 j, by omega, fun i hi => ?_⟩, ?_⟩
        · rcases (show i < j ∨ i = j by omega) with z | z
          · exact hm i z
          · rw [z]; exact decide_eq_false c3
        · show 10 - (nI j + 1).toNatClampNeg < 10 - (nI j).toNatClampNeg
          rw [nI_1, nI_clamp (by omega), nI_clamp (by omega)]
          omega
      · unfold fm
        rw [hn1, find_some hlt (decide_eq_true c3) hm]
        show 128 + tabD.getD j 0 = nI (128 + tabDn.getD j 0)
        have : ∀ i : Fin 10, 128 + tabD.getD i.val 0 = nI (128 + tabDn.getD i.val 0) := by decide
        exact this ⟨j, hlt⟩
  · have hlt : k < 128 := by
      rcases Nat.lt_or_ge k 128 with z | z
      · exact z
      · exact absurd (nI_le z (by omega)) c1
    refine ⟨k, ⟨rfl, hlt, by omega⟩, fun c3 => ?_, fun c3 => ⟨?_, rfl⟩⟩
    · rintro _ rfl
      refine ⟨⟨rfl, k + 1, nI_1 k, by omega, fun i hi => ?_⟩, ?_⟩
      · rcases (show i < k ∨ i = k by omega) with z | z
        · exact hn i z
        · rw [z]; exact decide_eq_false c3
      · show 128 - (nI k + 1).toNatClampNeg < 128 - (nI k).toNatClampNeg
        rw [nI_1, nI_clamp (by omega), nI_clamp (by omega)]
        omega
    · unfold fm
      rw [find_some hlt (decide_eq_true c3) hn]
      rfl
theorem c_Al_second {c : Nat} : Ci G l M_Al_second (d + 0) (w + 0) [.int (nI c)] h 0 0 (Xi (secN c) h) := by
  refine ok_Al_second ?_
  unfold wp_Al_second wL_Al_second_2
  refine ⟨fun x h' => h = h' ∧ ∃ k, x = nI k ∧ k ≤ 10 ∧ ∀ i, i < k → decide (tabD.getD i 0 = nI c) = false, fun x _ => 10 - x.toNatClampNeg, ⟨rfl, 0, rfl, by omega, fun i hi => absurd hi (Nat.not_lt_zero _)⟩, ?_⟩
  rintro _ _ ⟨rfl, k, rfl, hk, hn⟩
  unfold wB_Al_second_2
  have k2 : kLen G 2 = 10 := rfl
  have k3 : kLen G 3 = 10 := rfl
  rw [k2, k3]
  refine ⟨fun c2 => ?_, fun c2 => ?_⟩
  · have : 10 ≤ k := (nI_leI (by omega) (by omega)).mp c2
    refine ⟨?_, rfl⟩
    unfold secN
    rw [find_none (fun i hi => hn i (by omega))]
  · have hlt : k < 10 := by
      rcases Nat.lt_or_ge k 10 with z | z
      · exact z
      · exact absurd (nI_le z (by omega)) c2
    refine ⟨k, ⟨rfl, hlt, by omega⟩, fun c3 => ?_, fun c3 => ⟨k, ⟨rfl, hlt, by omega⟩, ?_, rfl⟩⟩
    · rintro _ rfl
      refine ⟨⟨rfl, k + 1, nI_1 k, by omega, fun i hi => ?_⟩, ?_⟩
      · rcases (show i < k ∨ i = k by omega) with z | z
        · exact hn i z
        · rw [z]; exact decide_eq_false c3
      · show 10 - (nI k + 1).toNatClampNeg < 10 - (nI k).toNatClampNeg
        rw [nI_1, nI_clamp (by omega), nI_clamp (by omega)]
        omega
    · unfold secN
      rw [find_some hlt (decide_eq_true c3) hn]
      rfl
theorem c_Al_plain {c : Nat} (hc : c < 128) : Ci G l M_Al_plain (d + 0) (w + 0) [.int (nI c)] h 0 0 (Xi (tabC.getD c 0) h) := by
  refine ok_Al_plain ?_
  unfold wp_Al_plain wJ_Al_plain_12 wJ_Al_plain_21
  have k1 : kLen G 1 = 128 := rfl
  rw [k1]
  exact ⟨fun z => absurd z (nI_pos (by omega)), fun _ => ⟨fun _ => ⟨c, ⟨rfl, hc, by omega⟩, rfl, rfl⟩, fun z => absurd (nI_lt hc (by omega)) z⟩⟩
theorem c_Al_septetsOf {f : Nat} (hf : f < 1000) : Ci G l M_Al_septetsOf (d + 0) (w + 0) [.int (nI f)] h 0 0 (Xi (nI (sl f)) h) := by
  refine ok_Al_septetsOf ?_
  unfold wp_Al_septetsOf wJ_Al_septetsOf_12 sl
  refine ⟨fun z => ⟨?_, rfl⟩, fun z => ⟨?_, rfl⟩⟩
  · have : f < 128 := (nI_ltI (b := 128) (by omega) (by decide)).mp z
    rw [if_pos this]; rfl
  · have : ¬ f < 128 := fun y => z (nI_lt (b := 128) y (by decide))
    rw [if_neg this]; rfl
/-- the draft: its object, its row, the forms in it -/
def DrA (h : Hp) (a b : Nat) (fs : List (Option Nat)) : Prop := hS h a = some (13, 0) ∧ hR h a 0 = some b ∧ hS h b = some (0, 480) ∧ hI h a 1 = nI fs.length ∧ fs.length ≤ 480 ∧ ∀ j, j < fs.length → hI h b j = fI (fs.getD j none)
theorem c_Dr_room {fs : List (Option Nat)} (A : DrA h a b fs) : Ci G l M_Dr_room (d + 0) (w + 0) [.ref a] h 0 0 (Xi (nI (480 - fs.length)) h) := by
  refine ok_Dr_room ⟨A.1, ?_, rfl⟩
  rw [A.2.2.2.1, show (480 : Int32) = nI 480 from rfl, pk_sub A.2.2.2.2.1]
theorem c_Dr_append {fs : List (Option Nat)} {n : Nat} {o : Option Nat} (A : DrA h a b fs) (hn : fs.length + n ≤ 480) : Cv G l M_Dr_append (d + 0) (w + 0) [.ref a, .int (fI o), .int (nI n)] h 0 0 (fun h' => DrA h' a b (fs ++ List.replicate n o) ∧ Wr h h' a b) := by
  refine ok_Dr_append ?_
  unfold wp_Dr_append wL_Dr_append_2
  refine ⟨fun x h' => ∃ k, x = nI k ∧ k ≤ n ∧ DrA h' a b (fs ++ List.replicate k o) ∧ Wr h h' a b, fun x _ => n - x.toNatClampNeg, ⟨0, rfl, by omega, by simpa using A, Wr.rfl⟩, ?_⟩
  rintro _ h1 ⟨k, rfl, hk, A1, W1⟩
  obtain ⟨a1, a2, a3, a4, a5, a6⟩ := id A1
  have hl : (fs ++ List.replicate k o).length = fs.length + k := by simp
  rw [hl] at a4 a5 a6
  unfold wB_Dr_append_2 wJ_Dr_append_43
  refine ⟨fun c => ?_, fun c => ⟨a1, fun c2 => ?_, fun c2 => ⟨b, a2, 480, fs.length + k, ⟨a3, a4, ?_, by omega⟩, ?_⟩⟩⟩
  · have : n ≤ k := (nI_leI (by omega) (by omega)).mp c
    rw [show n = k by omega]
    exact ⟨A1, W1⟩
  · rw [a4] at c2
    have h4 : 480 ≤ fs.length + k := (nI_leI (a := 480) (by decide) (by omega)).mp c2
    rw [show n = k by omega]
    exact ⟨A1, W1⟩
  · rw [a4] at c2
    rcases Nat.lt_or_ge (fs.length + k) 480 with z | z
    · exact z
    · exact absurd (nI_le (a := 480) z (by omega)) c2
  · have hlt : k < n := by
      rcases Nat.lt_or_ge k n with z | z
      · exact z
      · exact absurd (nI_le z (by omega)) c
    have hne : a ≠ b := fun z => by rw [z, a3] at a1; cases a1
    rintro _ rfl
    refine ⟨⟨k + 1, nI_1 k, hlt, ⟨a1, a2, a3, ?_, by simp; omega, fun j hj => ?_⟩, W1.trans (wr_b.trans wr_a)⟩, ?_⟩
    · rw [hI_pI_eq, hI_pI_ne (fun z => hne z.1), a4, nI_1]
      congr 1
      simp
      omega
    · rw [hI_pI_ne (fun z => hne z.1.symm)]
      have e : fs ++ List.replicate (k + 1) o = (fs ++ List.replicate k o) ++ [o] := by rw [List.replicate_succ', List.append_assoc]
      rw [e] at hj ⊢
      rw [List.length_append, hl] at hj
      simp only [List.length_singleton] at hj
      by_cases ej : j = fs.length + k
      · subst ej
        rw [hI_pI_eq, List.getD_eq_getElem?_getD, List.getElem?_append_right (by omega), hl, Nat.sub_self]
        rfl
      · rw [hI_pI_ne (fun z => ej z.2), a6 j (by omega)]
        simp only [List.getD_eq_getElem?_getD]
        rw [List.getElem?_append_left (l₁ := fs ++ List.replicate k o) (by omega)]
    · show n - (nI k + 1).toNatClampNeg < n - (nI k).toNatClampNeg
      rw [nI_1, nI_clamp (by omega), nI_clamp (by omega)]
      omega
theorem fI_alien {o : Option Nat} (h : ∀ f, o = some f → f < 256) : fI o = -1 ↔ o = none := by
  cases o with
  | none => exact ⟨fun _ => rfl, fun _ => rfl⟩
  | some f =>
    have hf := h f rfl
    constructor
    · intro z
      exact absurd (show nI f ≤ (-1 : Int32) from by rw [show nI f = -1 from z]; decide) (m1_lt (by omega))
    · intro z; cases z
theorem c_Dr_hasAlien {fs : List (Option Nat)} (A : DrA h a b fs) (hf : ∀ o ∈ fs, ∀ f, o = some f → f < 256) : Ci G l M_Dr_hasAlien (d + 0) (w + 0) [.ref a] h 0 0 (Xi (if none ∈ fs then 1 else 0) h) := by
  obtain ⟨a1, a2, a3, a4, a5, a6⟩ := id A
  have hg : ∀ {k}, k < fs.length → fs.getD k none ∈ fs := fun {k} hk => by rw [List.getD_eq_getElem?_getD, List.getElem?_eq_getElem hk]; exact List.getElem_mem _
  refine ok_Dr_hasAlien ?_
  unfold wp_Dr_hasAlien wL_Dr_hasAlien_2
  refine ⟨fun x h' => h = h' ∧ ∃ k, x = nI k ∧ k ≤ fs.length ∧ ∀ i, i < k → fs.getD i none ≠ none, fun x _ => fs.length - x.toNatClampNeg, ⟨rfl, 0, rfl, by omega, fun i hi => absurd hi (Nat.not_lt_zero _)⟩, ?_⟩
  rintro _ _ ⟨rfl, k, rfl, hk, hn⟩
  unfold wB_Dr_hasAlien_2
  rw [a4]
  refine ⟨a1, fun c => ?_, fun c => ?_⟩
  · have : fs.length ≤ k := (nI_leI (by omega) (by omega)).mp c
    refine ⟨?_, rfl⟩
    rw [if_neg]
    intro z
    obtain ⟨i, hi, e⟩ := List.getElem_of_mem z
    exact hn i (by omega) (by rw [List.getD_eq_getElem?_getD, List.getElem?_eq_getElem hi, e]; rfl)
  · have hlt : k < fs.length := by
      rcases Nat.lt_or_ge k fs.length with z | z
      · exact z
      · exact absurd (nI_le z (by omega)) c
    refine ⟨b, a2, 480, k, ⟨a3, rfl, by omega, by omega⟩, ?_⟩
    rw [a6 k hlt]
    have hfa := fI_alien (hf _ (hg hlt))
    refine ⟨fun c2 => ?_, fun c2 => ⟨?_, rfl⟩⟩
    · rintro _ rfl
      refine ⟨⟨rfl, k + 1, nI_1 k, hlt, fun i hi => ?_⟩, ?_⟩
      · rcases (show i < k ∨ i = k by omega) with z | z
        · exact hn i z
        · rw [z]; exact fun y => c2 (hfa.mpr y)
      · show fs.length - (nI k + 1).toNatClampNeg < fs.length - (nI k).toNatClampNeg
        rw [nI_1, nI_clamp (by omega), nI_clamp (by omega)]
        omega
    · have := hfa.mp c2
      rw [if_pos]
      rw [← this]
      exact hg hlt
end D1
