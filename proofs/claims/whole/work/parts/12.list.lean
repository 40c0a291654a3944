/-! the lists -/
def Xi (v : Int32) (h : Hp) : Int32 → Hp → Prop := fun x h' => x = v ∧ h = h'
def Xl (v : Int64) (h : Hp) : Int64 → Hp → Prop := fun x h' => x = v ∧ h = h'
def Xq (v : Option Nat) (h : Hp) : Option Nat → Hp → Prop := fun x h' => x = v ∧ h = h'
def Xv (h : Hp) : Hp → Prop := fun h' => h = h'
/-- a cell stays as it was -/
def Same (h h' : Hp) (x : Nat) : Prop := hS h' x = hS h x ∧ hI h' x = hI h x ∧ hL h' x = hL h x ∧ hR h' x = hR h x
/-- all that was there stays, but for F -/
def Fr (h h' : Hp) (F : Nat → Prop) : Prop := (∀ x, hS h x ≠ none → hS h' x = hS h x) ∧ ∀ x, hS h x ≠ none → ¬ F x → Same h h' x
theorem Same.rfl {h : Hp} {x : Nat} : Same h h x := ⟨Eq.refl _, Eq.refl _, Eq.refl _, Eq.refl _⟩
theorem Same.trans {h h1 h2 : Hp} {x : Nat} (a : Same h h1 x) (b : Same h1 h2 x) : Same h h2 x := ⟨b.1.trans a.1, b.2.1.trans a.2.1, b.2.2.1.trans a.2.2.1, b.2.2.2.trans a.2.2.2⟩
theorem same_pI {h : Hp} {a k x : Nat} {v : Int32} (n : x ≠ a) : Same h (pI h a k v) x := ⟨Eq.refl _, up2_off _ _ _ n, Eq.refl _, Eq.refl _⟩
theorem same_pL {h : Hp} {a k x : Nat} {v : Int64} (n : x ≠ a) : Same h (pL h a k v) x := ⟨Eq.refl _, Eq.refl _, up2_off _ _ _ n, Eq.refl _⟩
theorem same_pR {h : Hp} {a k x : Nat} {v : Option Nat} (n : x ≠ a) : Same h (pR h a k v) x := ⟨Eq.refl _, Eq.refl _, Eq.refl _, up2_off _ _ _ n⟩
theorem same_pA {h : Hp} {a x : Nat} {f : Nat → Option Nat} (n : x ≠ a) : Same h (pA h a f) x := ⟨Eq.refl _, Eq.refl _, Eq.refl _, by funext y; simp [hR, pA, n]⟩
theorem same_pN {h : Hp} {a x : Nat} {kd : Nat × Nat} (n : x ≠ a) : Same h (pN h a kd) x := ⟨by simp [hS, pN, n], Eq.refl _, Eq.refl _, Eq.refl _⟩
theorem Fr.rfl {h : Hp} {F : Nat → Prop} : Fr h h F := ⟨fun _ _ => Eq.refl _, fun _ _ _ => Same.rfl⟩
theorem Fr.trans {h h1 h2 : Hp} {F F' : Nat → Prop} (a : Fr h h1 F) (b : Fr h1 h2 F') (c : ∀ x, hS h x ≠ none → F' x → F x) : Fr h h2 F := ⟨fun x hx => (b.1 x (by rw [a.1 x hx]; exact hx)).trans (a.1 x hx), fun x hx n => (a.2 x hx n).trans (b.2 x (by rw [a.1 x hx]; exact hx) (fun z => n (c x hx z)))⟩
theorem Fr.mono {h h1 : Hp} {F F' : Nat → Prop} (a : Fr h h1 F) (c : ∀ x, F x → F' x) : Fr h h1 F' := ⟨a.1, fun x hx n => a.2 x hx (fun z => n (c x z))⟩
theorem fr_pI {h : Hp} {a k : Nat} {v : Int32} : Fr h (pI h a k v) (fun x => x = a) := ⟨fun _ _ => Eq.refl _, fun _ _ n => same_pI n⟩
theorem fr_pL {h : Hp} {a k : Nat} {v : Int64} : Fr h (pL h a k v) (fun x => x = a) := ⟨fun _ _ => Eq.refl _, fun _ _ n => same_pL n⟩
theorem fr_pR {h : Hp} {a k : Nat} {v : Option Nat} : Fr h (pR h a k v) (fun x => x = a) := ⟨fun _ _ => Eq.refl _, fun _ _ n => same_pR n⟩
theorem fr_pA {h : Hp} {a : Nat} {f : Nat → Option Nat} : Fr h (pA h a f) (fun x => x = a) := ⟨fun _ _ => Eq.refl _, fun _ _ n => same_pA n⟩
theorem fr_pN {h : Hp} {a : Nat} {kd : Nat × Nat} {F : Nat → Prop} (f : hS h a = none) : Fr h (pN h a kd) F := ⟨fun x hx => (same_pN (fun e => hx (by rw [e]; exact f))).1, fun x hx _ => same_pN (fun e => hx (by rw [e]; exact f))⟩
theorem hI_pI_eq {h : Hp} {a k : Nat} {v : Int32} : hI (pI h a k v) a k = v := by simp [hI, pI, up2]
theorem hI_pI_ne {h : Hp} {a k x y : Nat} {v : Int32} (n : ¬ (x = a ∧ y = k)) : hI (pI h a k v) x y = hI h x y := by simp [hI, pI, up2, n]
theorem hR_pR_eq {h : Hp} {a k : Nat} {v : Option Nat} : hR (pR h a k v) a k = v := by simp [hR, pR, up2]
theorem hR_pR_ne {h : Hp} {a k x y : Nat} {v : Option Nat} (n : ¬ (x = a ∧ y = k)) : hR (pR h a k v) x y = hR h x y := by simp [hR, pR, up2, n]
theorem hL_pL_eq {h : Hp} {a k : Nat} {v : Int64} : hL (pL h a k v) a k = v := by simp [hL, pL, up2]
theorem hL_pL_ne {h : Hp} {a k x y : Nat} {v : Int64} (n : ¬ (x = a ∧ y = k)) : hL (pL h a k v) x y = hL h x y := by simp [hL, pL, up2, n]
theorem hR_pA_eq {h : Hp} {a : Nat} {f : Nat → Option Nat} : hR (pA h a f) a = f := by funext y; simp [hR, pA]
/-- a list: its object a, its row e with room for cap, what it holds -/
def ALe (G : Gx) (h : Hp) (a e cap : Nat) (xs : List Nat) : Prop := hS h a = some (12, 0) ∧ hI h a 1 = nI xs.length ∧ xs.length ≤ 120 ∧ hR h a 0 = some e ∧ ((e = gK G 0 ∧ xs = [] ∧ cap = 0) ∨ (hS h e = some (3, cap) ∧ xs.length ≤ cap ∧ 1 ≤ cap ∧ cap ≤ 200 ∧ ∀ j, j < xs.length → hR h e j = some (xs.getD j 0)))
theorem ALe.kept {G : Gx} {h h' : Hp} {a e cap : Nat} {xs : List Nat} (A : ALe G h a e cap xs) (s1 : Same h h' a) (s2 : hS h e ≠ none → Same h h' e) : ALe G h' a e cap xs := by
  obtain ⟨a1, a2, a3, a4, a5⟩ := A
  refine ⟨by rw [s1.1]; exact a1, by rw [s1.2.1]; exact a2, a3, by rw [s1.2.2.2]; exact a4, ?_⟩
  rcases a5 with a5 | ⟨b1, b2, b3, b4, b5⟩
  · exact Or.inl a5
  · have s2 := s2 (by rw [b1]; exact fun z => by cases z)
    exact Or.inr ⟨by rw [s2.1]; exact b1, b2, b3, b4, fun j hj => by rw [s2.2.2.2]; exact b5 j hj⟩
theorem getD_app_l {xs ys : List Nat} {j : Nat} (h : j < xs.length) : (xs ++ ys).getD j 0 = xs.getD j 0 := by simp [List.getD_eq_getElem?_getD, List.getElem?_append_left h]
theorem getD_app_r {xs : List Nat} {v : Nat} : (xs ++ [v]).getD xs.length 0 = v := by simp [List.getD_eq_getElem?_getD]
section LS
variable {G : Gx} {l : Launch} {d w : Nat} {h : Hp} {a e cap : Nat} {xs : List Nat}
theorem c_checkIndex {j n : Nat} (hj : j < n) (hn : n < 2147483648) : Ci G l M_Ob_checkIndex (d + 2) (w + 52) [.int (nI j), .int (nI n)] h 0 0 (Xi (nI j) h) := by
  refine ok_Ob_checkIndex ?_
  unfold wp_Ob_checkIndex
  refine ⟨_, ok_Pre_checkIndex (o2 := none) (P := Xi (nI j) h) ?_, fun x h' q => q⟩
  unfold wp_Pre_checkIndex
  exact ⟨fun c => absurd c (nI_pos (by omega)), fun _ => ⟨fun _ => ⟨rfl, rfl⟩, fun c => absurd (nI_lt hj hn) c⟩⟩
theorem c_AL_size (A : ALe G h a e cap xs) : Ci G l M_AL_size (d + 0) (w + 0) [.ref a] h 0 0 (Xi (nI xs.length) h) := ok_AL_size ⟨A.1, A.2.1, rfl⟩
theorem c_AL_isEmpty (A : ALe G h a e cap xs) : Ci G l M_AL_isEmpty (d + 0) (w + 0) [.ref a] h 0 0 (Xi (if xs.length = 0 then 1 else 0) h) := by
  refine ok_AL_isEmpty ?_
  unfold wp_AL_isEmpty wJ_AL_isEmpty_12
  have h3 := A.2.2.1
  refine ⟨A.1, fun c => ⟨by decide, ?_, rfl⟩, fun c => ⟨by decide, ?_, rfl⟩⟩
  · rw [if_neg]
    intro z
    apply c
    rw [A.2.1, z]
    rfl
  · rw [A.2.1] at c
    rw [if_pos ((nI_eq (b := 0) (by omega) (by decide)).mp c)]
theorem c_AL_elementData {j : Nat} (A : ALe G h a e cap xs) (hj : j < xs.length) : Cr G l M_AL_elementData (d + 0) (w + 0) [.ref a, .int (nI j)] h 0 0 (Xq (some (xs.getD j 0)) h) := by
  refine ok_AL_elementData ?_
  obtain ⟨a1, a2, a3, a4, a5⟩ := A
  rcases a5 with ⟨-, b, -⟩ | ⟨b1, b2, b3, b4, b5⟩
  · rw [b] at hj; exact absurd hj (Nat.not_lt_zero _)
  · exact ⟨a1, e, a4, cap, j, ⟨b1, rfl, by omega, by omega⟩, b5 j hj, rfl⟩
theorem c_AL_get {j : Nat} (A : ALe G h a e cap xs) (hj : j < xs.length) : Cr G l M_AL_get (d + 3) (w + 73) [.ref a, .int (nI j)] h 0 0 (Xq (some (xs.getD j 0)) h) := by
  refine ok_AL_get ?_
  have h3 := A.2.2.1
  refine ⟨A.1, Xi (nI j) h, by rw [A.2.1]; exact c_checkIndex hj (by omega), ?_⟩
  rintro _ _ ⟨rfl, rfl⟩
  exact ⟨A.1, _, c_AL_elementData A hj, fun o h' q => q⟩
theorem c_AL_set {j v : Nat} (A : ALe G h a e cap xs) (hj : j < xs.length) (hv : ObjA G h v 3) : Cr G l M_AL_set (d + 3) (w + 73) [.ref a, .int (nI j), .ref v] h 0 0 (fun _ h' => h' = pR h e j (some v)) := by
  refine ok_AL_set ?_
  have h3 := A.2.2.1
  refine ⟨A.1, Xi (nI j) h, by rw [A.2.1]; exact c_checkIndex hj (by omega), ?_⟩
  rintro _ _ ⟨rfl, rfl⟩
  refine ⟨A.1, _, c_AL_elementData A hj, ?_⟩
  rintro o _ ⟨-, rfl⟩
  obtain ⟨a1, a2, a3, a4, a5⟩ := A
  rcases a5 with ⟨-, b, -⟩ | ⟨b1, b2, b3, b4, b5⟩
  · rw [b] at hj; exact absurd hj (Nat.not_lt_zero _)
  · exact ⟨a1, e, a4, cap, j, ⟨b1, rfl, by omega, by omega⟩, hv, rfl⟩
theorem ALe.setat {j v : Nat} (A : ALe G h a e cap xs) (hj : j < xs.length) : ALe G (pR h e j (some v)) a e cap (xs.set j v) := by
  obtain ⟨a1, a2, a3, a4, a5⟩ := A
  rcases a5 with ⟨-, b, -⟩ | ⟨b1, b2, b3, b4, b5⟩
  · rw [b] at hj; exact absurd hj (Nat.not_lt_zero _)
  · have hne : a ≠ e := fun z => by rw [z, b1] at a1; cases a1
    refine ⟨a1, by rw [List.length_set]; exact a2, by rw [List.length_set]; exact a3, by rw [hR_pR_ne (fun z => hne z.1)]; exact a4, Or.inr ⟨b1, by rw [List.length_set]; exact b2, b3, b4, fun i hi => ?_⟩⟩
    rw [List.length_set] at hi
    by_cases e1 : i = j
    · subst e1
      rw [hR_pR_eq]
      simp [List.getD_eq_getElem?_getD, hi]
    · rw [hR_pR_ne (fun z => e1 z.2), b5 i hi]
      simp [List.getD_eq_getElem?_getD, List.getElem?_set_ne (Ne.symm e1)]
/-- a new list -/
theorem c_AL_init (hs : hS h a = some (12, 0)) : Cv G l M_AL_init (d + 3) (w + 60) [.ref a] h 0 0 (Xv (pR (pI h a 2 0) a 0 (some (gK G 0)))) := by
  refine ok_AL_init ⟨Xv (pI h a 2 0), ok_AbL_init ⟨Xv h, ok_AbC_init (show wp_AbC_init G l d w (Xv h) a h from rfl), ?_⟩, ?_⟩
  · rintro _ rfl
    exact ⟨hs, rfl⟩
  · rintro _ rfl
    exact ⟨hs, rfl⟩
/-- the row is full, or is none: a new one -/
theorem c_newLength {n : Nat} (h1 : 1 ≤ n) (h2 : n ≤ 200) : Ci G l M_AS_newLength (d + 2) (w + 52) [.int (nI n), .int (nI (n + 1) - nI n), .int (nI n >>> (1 &&& 31))] h 0 0 (fun x h' => h = h' ∧ ∃ m, x = nI m ∧ n < m ∧ m ≤ n + n / 2 + 1) := by
  refine ok_AS_newLength ?_
  unfold wp_AS_newLength
  have e1 : nI (n + 1) - nI n = nI 1 := by rw [pk_sub (by omega)]; congr 1; omega
  have e2 : nI n >>> ((1 : Int32) &&& 31) = nI (n / 2) := by
    have := pk_shrN (n := n) (by omega) ((1 : Int32) &&& 31) 1 (by decide)
    rw [this]
  rw [e1, e2]
  rintro x9 rfl
  have e3 : ∃ m, nI n + (if nI 1 < nI (n / 2) then nI (n / 2) else nI 1) = nI m ∧ n < m ∧ m ≤ n + n / 2 + 1 := by
    by_cases c : nI 1 < nI (n / 2)
    · rw [if_pos c, nI_add]
      have := (nI_ltI (by omega) (by omega)).mp c
      exact ⟨_, rfl, by omega, by omega⟩
    · rw [if_neg c, nI_add]
      exact ⟨_, rfl, by omega, by omega⟩
  obtain ⟨m, e4, m1, m2⟩ := e3
  rw [e4]
  refine ⟨fun c => ?_, fun _ => ⟨fun c => ?_, fun _ => ⟨rfl, m, rfl, m1, m2⟩⟩⟩
  · exact absurd c (nI_nle (by omega) (by omega))
  · have : (2147483639 : Int32) = nI 2147483639 := by decide
    rw [this] at c
    have := (nI_ltI (by omega) (by omega)).mp c
    omega
theorem c_copyOf {n m : Nat} (hs : hS h e = some (3, n)) (h1 : n ≤ m) (h2 : m ≤ 400) (hO : ∀ i, i < n → ∀ y, hR h e i = some y → ObjA G h y 3) : Cr G l M_Ar_copyOf (d + 2) (w + 53) [.ref e, .int (nI m)] h 1 400 (fun x h' => ∃ q, x = some q ∧ Fre h q ∧ h' = pA (pN h q (3, m)) q (va_cpy (hR h e) (fun _ => none) 0 0 n)) := by
  refine ok_Ar_copyOf ?_
  unfold wp_Ar_copyOf
  refine ⟨n, hs, 1, 400, _, ok_Ar_copyOf1 (P := fun x h' => ∃ q, x = some q ∧ Fre h q ∧ h' = pA (pN h q (3, m)) q (va_cpy (hR h e) (fun _ => none) 0 0 n)) ?_, by omega, fun o h' q => ⟨by omega, q⟩⟩
  unfold wp_Ar_copyOf1
  refine ⟨fun c => absurd rfl c, fun _ => ⟨m, ⟨rfl, by omega⟩, ⟨by omega, by omega⟩, fun q F => ?_⟩⟩
  unfold wJ_Ar_copyOf1_24
  have hs2 : hS (pN h q (3, m)) e = some (3, n) := Fre.old F hs
  have hm : (if nI m < nI n then nI m else nI n) = nI n := if_neg (nI_nlt h1 (by omega))
  refine ⟨n, Or.inl hs2, ⟨by omega, by omega⟩, n, m, 0, 0, n, ⟨hs2, Fre.new, rfl, rfl, hm, by omega, by omega, by omega, by omega, fun i hi y hy => ?_⟩, ⟨by omega, by omega⟩, q, rfl, F, ?_⟩
  · rw [Nat.zero_add] at hy
    obtain ⟨ci, z, o1, o2, o3⟩ := hO i hi y hy
    exact ⟨ci, z, Fre.old F o1, o2, o3⟩
  · have e1 : hR (pN h q (3, m)) e = hR h e := rfl
    have e2 : hR (pN h q (3, m)) q = fun _ => none := funext F.2.2.2
    rw [e1, e2]
theorem ObjA.kept {h h' : Hp} {y t : Nat} (o : ObjA G h y t) (s : hS h' y = hS h y) : ObjA G h' y t := by
  obtain ⟨ci, z, o1, o2, o3⟩ := o
  exact ⟨ci, z, by rw [s]; exact o1, o2, o3⟩
/-- what a call that grows leaves: a new row of a, that holds the same -/
theorem c_AL_grow (A : ALe G h a e cap xs) (hf : xs.length = cap) (hO : ∀ x ∈ xs, ObjA G h x 3) : Cr G l M_AL_grow (d + 4) (w + 98) [.ref a] h 1 400 (fun x h' => ∃ q c', x = some q ∧ hS h q = none ∧ ALe G h' a q c' xs ∧ xs.length < c' ∧ hI h' a = hI h a ∧ Fr h h' (fun x => x = a)) := by
  refine ok_AL_grow ?_
  unfold wp_AL_grow
  obtain ⟨a1, a2, a3, a4, a5⟩ := id A
  refine ⟨a1, 1, 400, _, ok_AL_grow1 (P := fun x h' => ∃ q c', x = some q ∧ hS h q = none ∧ ALe G h' a q c' xs ∧ xs.length < c' ∧ hI h' a = hI h a ∧ Fr h h' (fun x => x = a)) ?_, by omega, fun o h' q => ⟨by omega, q⟩⟩
  unfold wp_AL_grow1
  rw [a2, nI_1]
  refine ⟨a1, e, a4, cap, ?_, ?_⟩
  · rcases a5 with ⟨b1, -, b3⟩ | ⟨b1, -⟩
    · exact Or.inr ⟨b1, b3⟩
    · exact Or.inl b1
  rintro _ rfl
  rcases a5 with ⟨b1, b2, b3⟩ | ⟨b1, b2, b3, b4, b5⟩
  · subst b3 b2
    refine ⟨fun c => absurd c (by decide), fun _ => ⟨fun _ => ⟨⟨by omega, by omega⟩, 10, ⟨by decide, by decide⟩, ⟨by omega, by omega⟩, fun q F => ⟨⟨by omega, by omega⟩, q, 10, rfl, F.1, ?_, by simp, rfl, ?_⟩⟩, fun c => absurd (by rw [a4, b1]) c⟩⟩
    · have hne : a ≠ q := F.ne a1
      exact ⟨Fre.old F a1, a2, by simp, hR_pR_eq, Or.inr ⟨Fre.new, by simp, by decide, by decide, fun j hj => absurd hj (Nat.not_lt_zero _)⟩⟩
    · exact (fr_pN F.1).trans fr_pR (fun x _ z => z)
  · have key : wJ_AL_grow1_20 G l d w 1 400 (fun x h' => ∃ q c', x = some q ∧ hS h q = none ∧ ALe G h' a q c' xs ∧ xs.length < c' ∧ hI h' a = hI h a ∧ Fr h h' (fun x => x = a)) a (nI (xs.length + 1)) (nI cap) h 0 0 := by
      unfold wJ_AL_grow1_20
      rw [hf]
      refine ⟨_, c_newLength b3 b4, by omega, ?_⟩
      rintro _ _ ⟨rfl, m, rfl, m1, m2⟩
      refine ⟨a1, e, a4, 1, 400, _, c_copyOf b1 (Nat.le_of_lt m1) (by omega) (fun i hi y hy => ?_), by omega, ?_⟩
      · rw [b5 i (by omega)] at hy
        cases hy
        exact hO _ (by rw [List.getD_eq_getElem?_getD, List.getElem?_eq_getElem (by omega)]; exact List.getElem_mem _)
      rintro _ _ ⟨q, rfl, F, rfl⟩
      have hne : a ≠ q := F.ne a1
      refine ⟨Fre.old F a1, ⟨by omega, by omega⟩, q, m, rfl, F.1, ⟨Fre.old F a1, a2, a3, hR_pR_eq, Or.inr ⟨Fre.new, by omega, by omega, by omega, fun j hj => ?_⟩⟩, by omega, rfl, ?_⟩
      · rw [hR_pR_ne (fun z => hne z.1.symm), hR_pA_eq]
        simp only [va_cpy, Nat.zero_add, Nat.sub_zero]
        rw [if_pos ⟨Nat.zero_le _, by omega⟩]
        exact b5 j hj
      · refine ((fr_pN (F := fun x => x = a) F.1).trans fr_pA (fun x hx z => ?_)).trans fr_pR (fun x _ z => z)
        exact absurd F.1 (by rw [← z]; exact hx)
    have hc : 0 < nI cap := nI_lt (a := 0) (by omega) (by omega)
    exact ⟨fun _ => key, fun c => absurd hc c⟩
/-- add: one more at the end -/
theorem c_AL_add {v : Nat} (A : ALe G h a e cap xs) (hn : xs.length < 120) (hv : ObjA G h v 3) (hva : v ≠ a) (hO : ∀ x ∈ xs, ObjA G h x 3) : Ci G l M_AL_add (d + 6) (w + 141) [.ref a, .ref v] h 1 400 (fun _ h' => ∃ e' c', ALe G h' a e' c' (xs ++ [v]) ∧ (e' = e ∨ hS h e' = none) ∧ Fr h h' (fun x => x = a ∨ x = e)) := by
  refine ok_AL_add ?_
  unfold wp_AL_add
  obtain ⟨a1, a2, a3, a4, a5⟩ := id A
  have hne : e = gK G 0 ∧ cap = 0 ∨ a ≠ e := by
    rcases a5 with ⟨b1, -, b3⟩ | ⟨b1, -⟩
    · exact Or.inl ⟨b1, b3⟩
    · exact Or.inr (fun z => by rw [z, b1] at a1; cases a1)
  have e0 : hI (pI h a 2 (hI h a 2 + 1)) a 1 = nI xs.length := by rw [hI_pI_ne (by omega)]; exact a2
  have A1 : ALe G (pI h a 2 (hI h a 2 + 1)) a e cap xs := ⟨a1, e0, a3, a4, a5⟩
  rw [e0]
  refine ⟨a1, e, a4, 1, 400, _, ok_AL_add1 (P := fun h' => ∃ e' c', ALe G h' a e' c' (xs ++ [v]) ∧ (e' = e ∨ hS h e' = none) ∧ Fr h h' (fun x => x = a ∨ x = e)) ?_, by omega, fun h' q => ⟨by omega, q⟩⟩
  unfold wp_AL_add1
  refine ⟨cap, ?_, ?_, ?_⟩
  · rcases a5 with ⟨b1, -, b3⟩ | ⟨b1, -⟩
    · exact Or.inr ⟨b1, b3⟩
    · exact Or.inl b1
  · intro c
    unfold wJ_AL_add1_11
    rcases a5 with ⟨b1, b2, b3⟩ | ⟨b1, b2, b3, b4, b5⟩
    · subst b2 b3
      exact absurd rfl c
    · have hlt : xs.length < cap := by
        rcases Nat.lt_or_ge xs.length cap with z | z
        · exact z
        · exact absurd (congrArg nI (show xs.length = cap by omega)) c
      have hne : a ≠ e := fun z => by rw [z, b1] at a1; cases a1
      refine ⟨e, rfl, cap, xs.length, ⟨b1, rfl, hlt, by omega⟩, hv, a1, by omega, e, cap, ⟨a1, ?_, by simp; omega, ?_, Or.inr ⟨b1, by simp; omega, b3, b4, fun j hj => ?_⟩⟩, Or.inl rfl, ?_⟩
      · rw [hI_pI_eq, nI_1]; simp
      · show hR (pR _ e xs.length (some v)) a 0 = some e
        rw [hR_pR_ne (fun z => hne z.1)]
        exact a4
      · show hR (pR _ e xs.length (some v)) e j = _
        by_cases ej : j = xs.length
        · subst ej
          rw [hR_pR_eq, getD_app_r]
        · have hj' : j < xs.length := by simp at hj; omega
          rw [hR_pR_ne (fun z => ej z.2), getD_app_l hj']
          exact b5 j hj'
      · exact ((fr_pI.mono (fun x z => Or.inl z)).trans fr_pR (fun x _ z => Or.inr z)).trans fr_pI (fun x _ z => Or.inl z)
  · intro c
    have hf : xs.length = cap := (nI_eq (by omega) (by rcases a5 with ⟨-, -, b3⟩ | ⟨-, -, -, b4, -⟩ <;> omega)).mp c
    refine ⟨a1, 1, 400, _, c_AL_grow A1 hf (fun x hx => (hO x hx).kept rfl), by omega, ?_⟩
    rintro _ h2 ⟨q, c', rfl, hq, A2, hlt, hI2, F2⟩
    obtain ⟨d1, d2, d3, d4, d5⟩ := id A2
    unfold wJ_AL_add1_11
    have hqa : a ≠ q := fun z => by
      have : hS h q = none := hq
      rw [← z, a1] at this
      cases this
    rcases d5 with ⟨b1, b2, b3⟩ | ⟨b1, b2, b3, b4, b5⟩
    · omega
    · have hvs : hS h2 v = hS h v := by
        obtain ⟨ci, z, o1, -⟩ := hv
        exact (F2.2 v (by show hS h v ≠ none; rw [o1]; exact fun z => by cases z) hva).1
      refine ⟨q, rfl, c', xs.length, ⟨b1, rfl, hlt, by omega⟩, hv.kept hvs, d1, by omega, q, c', ⟨d1, ?_, by simp; omega, ?_, Or.inr ⟨b1, by simp; omega, b3, b4, fun j hj => ?_⟩⟩, Or.inr hq, ?_⟩
      · rw [hI_pI_eq, nI_1]; simp
      · show hR (pR _ q xs.length (some v)) a 0 = some q
        rw [hR_pR_ne (fun z => hqa z.1)]
        exact d4
      · show hR (pR _ q xs.length (some v)) q j = _
        by_cases ej : j = xs.length
        · subst ej
          rw [hR_pR_eq, getD_app_r]
        · have hj' : j < xs.length := by simp at hj; omega
          rw [hR_pR_ne (fun z => ej z.2), getD_app_l hj']
          exact b5 j hj'
      · refine (((fr_pI.mono (fun x z => Or.inl z)).trans F2 (fun x _ z => Or.inl z)).trans fr_pR (fun x hx z => ?_)).trans fr_pI (fun x _ z => Or.inl z)
        exact absurd hq (by rw [← z]; exact hx)
/-- remove: what stood at j; the rest moves up -/
theorem c_AL_remove {j : Nat} (A : ALe G h a e cap xs) (hj : j < xs.length) (hO : ∀ x ∈ xs, ObjA G h x 3) : Cr G l M_AL_remove (d + 3) (w + 73) [.ref a, .int (nI j)] h 0 0 (fun x h' => x = some (xs.getD j 0) ∧ ALe G h' a e cap (xs.eraseIdx j) ∧ Fr h h' (fun x => x = a ∨ x = e)) := by
  refine ok_AL_remove ?_
  unfold wp_AL_remove
  obtain ⟨a1, a2, a3, a4, a5⟩ := id A
  rcases a5 with ⟨-, b, -⟩ | ⟨b1, b2, b3, b4, b5⟩
  · rw [b] at hj; exact absurd hj (Nat.not_lt_zero _)
  have hne : a ≠ e := fun z => by rw [z, b1] at a1; cases a1
  refine ⟨a1, Xi (nI j) h, by rw [a2]; exact c_checkIndex hj (by omega), ?_⟩
  rintro _ _ ⟨rfl, rfl⟩
  refine ⟨a1, e, a4, cap, j, ⟨b1, rfl, by omega, by omega⟩, _, ok_AL_fastRemove (P := fun h' => ALe G h' a e cap (xs.eraseIdx j) ∧ Fr h h' (fun x => x = a ∨ x = e)) ?_, fun h' q => ⟨b5 j hj, q⟩⟩
  unfold wp_AL_fastRemove
  have e0 : hI (pI h a 2 (hI h a 2 + 1)) a 1 - 1 = nI (xs.length - 1) := by
    rw [hI_pI_ne (by omega), a2, show (1 : Int32) = nI 1 from rfl, pk_sub (by omega)]
  rw [e0]
  refine ⟨a1, ?_⟩
  rintro _ rfl
  have hlen : (xs.eraseIdx j).length = xs.length - 1 := by rw [List.length_eraseIdx]; simp [hj]
  have fin : ∀ f : Nat → Option Nat, (∀ i, i < xs.length - 1 → f i = some ((xs.eraseIdx j).getD i 0)) → wJ_AL_fastRemove_34 G l d w (fun h' => ALe G h' a e cap (xs.eraseIdx j) ∧ Fr h h' (fun x => x = a ∨ x = e)) a e (nI j) (nI (xs.length - 1)) (pA (pI h a 2 (hI h a 2 + 1)) e f) := by
    intro f hf
    unfold wJ_AL_fastRemove_34
    refine ⟨a1, cap, xs.length - 1, ⟨b1, rfl, by omega, by omega⟩, ⟨a1, ?_, by omega, ?_, Or.inr ⟨b1, by omega, b3, b4, fun i hi => ?_⟩⟩, ?_⟩
    · show hI (pI _ a 1 _) a 1 = _
      rw [hI_pI_eq, hlen]
    · rw [hR_pR_ne (fun z => hne z.1)]
      show hR (pA _ e f) a 0 = some e
      rw [(same_pA hne).2.2.2]
      exact a4
    · rw [hR_pR_ne (fun z => by omega)]
      show hR (pA _ e f) e i = _
      rw [hR_pA_eq]
      exact hf i (by omega)
    · exact (((fr_pI.mono (fun x z => Or.inl z)).trans fr_pA (fun x _ z => Or.inr z)).trans fr_pI (fun x _ z => Or.inl z)).trans fr_pR (fun x _ z => Or.inr z)
  have hg : ∀ i, i < xs.length - 1 → (xs.eraseIdx j).getD i 0 = if i < j then xs.getD i 0 else xs.getD (i + 1) 0 := by
    intro i hi
    simp only [List.getD_eq_getElem?_getD, List.getElem?_eraseIdx]
    split <;> rfl
  refine ⟨fun c => ?_, fun c => ?_⟩
  · have hjl : xs.length - 1 ≤ j := (nI_leI (by omega) (by omega)).mp c
    have := fin (hR h e) (fun i hi => by rw [hg i hi, if_pos (by omega)]; exact b5 i (by omega))
    have e1 : pA (pI h a 2 (hI h a 2 + 1)) e (hR h e) = pI h a 2 (hI h a 2 + 1) := by
      have : (fun x y => if x = e then hR h e y else h.2.2.2 x y) = h.2.2.2 := by
        funext x y
        by_cases z : x = e
        · rw [if_pos z, z]; rfl
        · rw [if_neg z]
      simp only [pA, pI, this]
    rw [e1] at this
    exact this
  · have hjl : j < xs.length - 1 := by
      rcases Nat.lt_or_ge j (xs.length - 1) with z | z
      · exact z
      · exact absurd (nI_le z (by omega)) c
    refine ⟨cap, cap, j + 1, j, xs.length - 1 - j, ⟨b1, b1, nI_1 j, rfl, pk_sub (by omega), by omega, by omega, by omega, by omega, fun i hi y hy => ?_⟩, fin _ (fun i hi => ?_)⟩
    · rw [b5 (j + 1 + i) (by omega)] at hy
      cases hy
      exact hO _ (by rw [List.getD_eq_getElem?_getD, List.getElem?_eq_getElem (by omega)]; exact List.getElem_mem _)
    · rw [hg i hi]
      simp only [va_cpy]
      by_cases z : i < j
      · rw [if_pos z, if_neg (by omega)]
        exact b5 i (by omega)
      · rw [if_neg z, if_pos (by omega), b5 _ (by omega)]
        congr 2
        omega
end LS
