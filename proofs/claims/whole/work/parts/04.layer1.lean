/-! the heap as the proofs see it: kinds, ints, longs, references -/
abbrev Hp : Type := (Nat → Option (Nat × Nat)) × (Nat → Nat → Int32) × (Nat → Nat → Int64) × (Nat → Nat → Option Nat)
def hS (h : Hp) : Nat → Option (Nat × Nat) := h.1
def hI (h : Hp) : Nat → Nat → Int32 := h.2.1
def hL (h : Hp) : Nat → Nat → Int64 := h.2.2.1
def hR (h : Hp) : Nat → Nat → Option Nat := h.2.2.2
def up2 {α : Type} (f : Nat → Nat → α) (a k : Nat) (v : α) : Nat → Nat → α := fun x y => if x = a ∧ y = k then v else f x y
def pI (h : Hp) (a k : Nat) (v : Int32) : Hp := (h.1, up2 h.2.1 a k v, h.2.2)
def pL (h : Hp) (a k : Nat) (v : Int64) : Hp := (h.1, h.2.1, up2 h.2.2.1 a k v, h.2.2.2)
def pR (h : Hp) (a k : Nat) (v : Option Nat) : Hp := (h.1, h.2.1, h.2.2.1, up2 h.2.2.2 a k v)
def pA (h : Hp) (a : Nat) (f : Nat → Option Nat) : Hp := (h.1, h.2.1, h.2.2.1, fun x y => if x = a then f y else h.2.2.2 x y)
def pN (h : Hp) (a : Nat) (kd : Nat × Nat) : Hp := (fun x => if x = a then some kd else h.1 x, h.2)
theorem up2_same {α : Type} (f : Nat → Nat → α) (a k : Nat) (v : α) : up2 f a k v a = va_up (f a) k v := by
  funext y; simp [up2, va_up]
theorem up2_off {α : Type} (f : Nat → Nat → α) {a b : Nat} (k : Nat) (v : α) (h : b ≠ a) : up2 f a k v b = f b := by
  funext y; simp [up2, h]
abbrev Gx : Type := State × va_G × (Nat → Nat) × Nat × (Nat → Int32)
/-- the constants' cells: 0 the lists' empty row, 1 to 3 the alphabet's rows, 4 to 7 the fates (waits, taken, too old, unknown), 8 the row class's mirror, 9 the script -/
def gK (G : Gx) (t : Nat) : Nat := G.2.2.1 t
def tabC : List Int32 := [64, 163, 36, 165, 232, 233, 249, 236, 242, 199, 10, 216, 248, 13, 197, 229, 916, 95, 934, 915, 923, 937, 928, 936, 931, 920, 926, -1, 198, 230, 223, 201, 32, 33, 34, 35, 164, 37, 38, 39, 40, 41, 42, 43, 44, 45, 46, 47, 48, 49, 50, 51, 52, 53, 54, 55, 56, 57, 58, 59, 60, 61, 62, 63, 161, 65, 66, 67, 68, 69, 70, 71, 72, 73, 74, 75, 76, 77, 78, 79, 80, 81, 82, 83, 84, 85, 86, 87, 88, 89, 90, 196, 214, 209, 220, 167, 191, 97, 98, 99, 100, 101, 102, 103, 104, 105, 106, 107, 108, 109, 110, 111, 112, 113, 114, 115, 116, 117, 118, 119, 120, 121, 122, 228, 246, 241, 252, 224]
def tabD : List Int32 := [10, 20, 40, 41, 47, 60, 61, 62, 64, 101]
def tabE : List Int32 := [12, 94, 123, 125, 92, 91, 126, 93, 124, 8364]
def kLen (G : Gx) (t : Nat) : Nat := if t = 1 then 128 else if t = 2 then 10 else if t = 3 then 10 else G.2.2.2.1
def kTab (G : Gx) (t j : Nat) : Int32 := if t = 1 then tabC.getD j 0 else if t = 2 then tabD.getD j 0 else if t = 3 then tabE.getD j 0 else G.2.2.2.2 j
def fateA (t : Nat) : Int32 := if t = 4 then 0 else if t = 5 then 1 else if t = 6 then 2 else 3
def fateR (t : Nat) : Int32 := if t = 4 then 0 else if t = 5 then 0 else if t = 6 then 70 else 73
def rcn (t : Nat) : String := if t = 3 then "java/lang/Object" else if t = 4 then "SeptetCentre$Row" else "SeptetCentre$Device"
def okA (s0 : State) (ty : FieldType) (n : Nat) (f : Nat → Value) (c : Cell) : Prop := c.vm ≠ .unknown ∧ s0.isArrayOf c ty ∧ c.slots.size = n ∧ ∀ j, j < n → c.slots[j]? = some (f j)
def okQ (s0 : State) (E : String) (n : Nat) (r : Nat → Option Nat) (c : Cell) : Prop := c = arrV c.cls n (fun j => va_rf (r j)) ∧ ∃ (kA : Class) (comp : ClassId), s0.vm.classes[c.cls]? = some kA ∧ kA.kind = .array comp (.object E) ∧ s0.vm.findClass E = some comp ∧ s0.vm.findClass ("[" ++ (FieldType.object E).toString) = some c.cls
theorem okQ.A {s0 : State} {E : String} {n : Nat} {r : Nat → Option Nat} {c : Cell} (h : okQ s0 E n r c) : okA s0 (.object E) n (fun j => va_rf (r j)) c := by
  obtain ⟨h1, kA, comp, h2, h3, -⟩ := h
  generalize c.cls = d at h1 h2
  subst h1
  exact ⟨fun z => (by cases z), ⟨fun k z => (by cases z), kA, h2, comp, h3⟩, arrV_size _ _ _, fun j hj => arrV_read _ _ hj⟩
theorem okQ.set {s0 : State} {E : String} {n : Nat} {r g : Nat → Option Nat} {c : Cell} (h : okQ s0 E n r c) {j : Nat} {x : Option Nat} (hg : g = va_up r j x) : okQ s0 E n g (c.setSlot j (va_rf x)) := by
  obtain ⟨h1, h2⟩ := h
  refine ⟨?_, h2⟩
  have e : (arrV c.cls n (fun j => va_rf (r j))).setSlot j (va_rf x) = arrV c.cls n (fun j => va_rf (g j)) := by
    rw [arrV_store, hg]
    congr 1
    funext q
    by_cases e : q = j <;> simp [updV, va_up, e]
  rw [← h1] at e
  exact e
def fv (i : Nat → Int32) (l : Nat → Int64) (r : Nat → Option Nat) (k : Nat) (d : String) : Value := if d = "J" then .long (l k) else if d = "I" ∨ d = "Z" then .int (i k) else va_rf (r k)
def okO (G : Gx) (i : Nat → Int32) (l : Nat → Int64) (r : Nat → Option Nat) (ci : Nat) (c : Cell) : Prop := ∃ (q : vw_C), zCL[ci]? = some q ∧ c.cls = G.2.1.1 ci ∧ c.vm = .none ∧ ∀ k, k < q.2.2 → c.slots[G.2.1.2 ci k]? = some (fv i l r k (q.2.1 k).2.2.1)
/-- a fate: a constant object, its two numbers -/
def okF (G : Gx) (t : Nat) : Prop := ∃ c : Cell, G.1.heap[gK G t]? = some c ∧ c.vm.isStatics = false ∧ c.vm ≠ .unknown ∧ (∃ cf k x f, G.1.fieldFound? "SeptetCentre$Fate" "answer" "I" = some (cf, k, x, f) ∧ f.isStatic = false ∧ c.slots[f.slot]? = some (.int (fateA t))) ∧ ∃ cf k x f, G.1.fieldFound? "SeptetCentre$Fate" "reported" "I" = some (cf, k, x, f) ∧ f.isStatic = false ∧ c.slots[f.slot]? = some (.int (fateR t))
def okZ (G : Gx) (C n d : String) (t : Nat) : Prop := va_Z C n d (.ref (gK G t)) (fun q => G.1.heap.size ≤ q) G.1 G.1.heap
def zSt (G : Gx) : Prop :=
  (okZ G "java/util/ArrayList" "DEFAULTCAPACITY_EMPTY_ELEMENTDATA" "[Ljava/lang/Object;" 0 ∧ okZ G "SeptetCentre$Alphabet" "CHARACTERS" "[I" 1 ∧ okZ G "SeptetCentre$Alphabet" "SECOND_CODES" "[I" 2 ∧ okZ G "SeptetCentre$Alphabet" "SECOND_CHARACTERS" "[I" 3) ∧
  (okZ G "SeptetCentre$Fate" "WAITS" "LSeptetCentre$Fate;" 4 ∧ okZ G "SeptetCentre$Fate" "TAKEN" "LSeptetCentre$Fate;" 5 ∧ okZ G "SeptetCentre$Fate" "TOO_OLD" "LSeptetCentre$Fate;" 6 ∧ okZ G "SeptetCentre$Fate" "UNKNOWN" "LSeptetCentre$Fate;" 7) ∧
  (∀ t, 4 ≤ t → t ≤ 7 → okF G t) ∧ (∀ i j, 4 ≤ i → i ≤ 7 → 4 ≤ j → j ≤ 7 → gK G i = gK G j → i = j) ∧
  (∀ t, (1 ≤ t ∧ t ≤ 3) ∨ t = 9 → ∃ c : Cell, G.1.heap[gK G t]? = some c ∧ okA G.1 .int (kLen G t) (fun j => .int (kTab G t j)) c) ∧
  (∃ c : Cell, G.1.heap[gK G 0]? = some c ∧ okA G.1 (.object "java/lang/Object") 0 (fun _ => .null) c) ∧
  va_Mi "[Ljava/lang/Object;" (gK G 8) G.1 ∧ G.2.2.2.1 ≤ 3072
def okC (G : Gx) (i : Nat → Int32) (l : Nat → Int64) (r : Nat → Option Nat) (kd : Nat × Nat) (c : Cell) : Prop :=
  (kd.1 = 0 → okA G.1 .int kd.2 (fun j => .int (i j)) c) ∧
  (kd.1 = 1 → okA G.1 .long kd.2 (fun j => .long (l j)) c) ∧
  (kd.1 = 2 → okA G.1 .boolean kd.2 (fun j => .int (i j)) c) ∧
  (3 ≤ kd.1 → kd.1 ≤ 5 → okQ G.1 (rcn kd.1) kd.2 r c) ∧
  (∀ ci, kd.1 = ci + 10 → okO G i l r ci c)
def Rf (G : Gx) (h : Hp) (H : Heap) : Prop :=
  (∀ a kd, hS h a = some kd → ∃ c : Cell, H[a]? = some c ∧ okC G (hI h a) (hL h a) (hR h a) kd c ∧ G.1.heap.size ≤ a) ∧
  (∀ a, H.size ≤ a → (∀ k, hI h a k = 0) ∧ (∀ k, hL h a k = 0) ∧ (∀ k, hR h a k = none)) ∧
  (∀ q : Nat, q < G.1.heap.size → H[q]? = G.1.heap[q]?) ∧ G.1.heap.size ≤ H.size
/-- a class, as the tables have it at the start -/
def clO (G : Gx) (A0 : Array Value) (ci : Nat) (q : vw_C) : Prop :=
  u_Kn G.1 q.1 q.2.1 q.2.2 (G.2.1.1 ci) (G.2.1.2 ci) ∧ (∀ w ∈ u_ws q.1 q.2.1 q.2.2, w ∈ lw_tbl) ∧ (∀ k, k < q.2.2 → ∃ ty, parseFieldDescriptor (q.2.1 k).2.2.1 = some ty ∧ defaultValue ty = fv (fun _ => 0) (fun _ => 0) (fun _ => none) k (q.2.1 k).2.2.1) ∧ (∀ x y, x < q.2.2 → y < q.2.2 → x ≠ y → G.2.1.2 ci x ≠ G.2.1.2 ci y)
def SysF (G : Gx) : Prop := ∃ A0 : Array Value, (∀ w ∈ lw_tbl, w.before A0 G.1 = true) ∧ (∀ ci q, zCL[ci]? = some q → clO G A0 ci q) ∧ zSt G
/-- a method: own, code, its locals, its answer, its name -/
def mB (M : MM) : ByteArray := M.1
def mL (M : MM) : Nat := M.2.1
def mT (M : MM) : Option FieldType := M.2.2.1
def mY (M : MM) : MethodName := M.2.2.2
def mO (M : MM) : String := M.2.2.2.cls
abbrev Rr : Type := Program × Launch × Env × Room × State × MethodId × Array Value × List Frame × Method × Code
abbrev Xr : Type := Gx × Rr × (State → Prop)
def xR (X : Xr) : Room := X.2.1.2.2.2.1
def xl (X : Xr) : Launch := X.2.1.2.1
def OKx (M : MM) (X : Xr) : Prop := match X with
  | (G, (p, _, _, _, s, m, _, _, meth, c), _) => p.tables.exec = Jvm.exec ∧ c.code = mB M ∧ c.maxLocals = mL M ∧ s.vm.findClass (mO M) = some m.cls ∧ meth.locks = false ∧ meth.sig.returnType = mT M ∧ meth.name = (mY M).name ∧ G.1.WarmedH s.vm ∧ SysF G
def Lv (ls : Array Slot) (n : Nat) (lv : List (Option Value)) : Prop := ls.size = n ∧ lv_wf ls ∧ ∀ (i : Nat) (v : Value), lv[i]? = some (some v) → ls[i]? = some (.val v)
/-- from here the machine comes to its end -/
def Go (M : MM) (X : Xr) (pc : Nat) (lv : List (Option Value)) (st : List Value) (h : Hp) (k n : Nat) : Prop := match X with
  | (G, (p, l, e, R, s, m, args, below, meth, c), Q) => OKx M (G, (p, l, e, R, s, m, args, below, meth, c), Q) → ∀ (ls : Array Slot) (H : Heap) (locs : List Loc), Lv ls (mL M) lv → Rf G h H → (∀ q ∈ locs, G.1.heap.size ≤ q.base) → W p l e R s m args below meth c H locs k n Q (F0 m pc ls st)
theorem Lv.ld {ls : Array Slot} {n : Nat} {lv : List (Option Value)} (h : Lv ls n lv) {i : Nat} {v : Value} (hi : lv[i]? = some (some v)) : ls[i]? = some (.val v) := h.2.2 i v hi
/-- what a store leaves of the locals -/
def lvK (lv : List (Option Value)) (i : Nat) : List (Option Value) := match i with
  | 0 => lv
  | j + 1 => match lv[j]? with
    | some (some v) => if v.category = 2 then lv.set j none else lv
    | _ => lv
def st1 (lv : List (Option Value)) (i : Nat) (v : Value) : List (Option Value) := (lvK lv i).set i (some v)
def st2 (lv : List (Option Value)) (i : Nat) (v : Value) : List (Option Value) := ((lvK lv i).set (i + 1) none).set i (some v)
theorem lvK_of {lv : List (Option Value)} {i j : Nat} {v : Value} (h : (lvK lv i)[j]? = some (some v)) : lv[j]? = some (some v) ∧ ¬ (j + 1 = i ∧ v.category = 2) := by
  unfold lvK at h
  cases i with
  | zero => exact ⟨h, fun q => by omega⟩
  | succ i =>
    simp only at h
    cases hx : lv[i]? with
    | none =>
      rw [hx] at h
      refine ⟨h, fun q => ?_⟩
      obtain ⟨q1, q2⟩ := q
      have e : j = i := by omega
      subst e
      simp only at h
      rw [hx] at h
      cases h
    | some o =>
      rw [hx] at h
      cases o with
      | none =>
        refine ⟨h, fun q => ?_⟩
        obtain ⟨q1, q2⟩ := q
        have e : j = i := by omega
        subst e
        simp only at h
        rw [hx] at h
        cases h
      | some w =>
        simp only at h
        by_cases hw : w.category = 2
        · rw [if_pos hw] at h
          by_cases hj : j = i
          · subst hj
            have hlt : j < lv.length := (List.getElem?_eq_some_iff.mp hx).1
            rw [List.getElem?_set_self hlt] at h
            cases h
          · rw [List.getElem?_set_ne (Ne.symm hj)] at h
            exact ⟨h, fun q => by omega⟩
        · rw [if_neg hw] at h
          refine ⟨h, fun q => ?_⟩
          have : j = i := by omega
          subst this
          rw [hx] at h
          cases h
          exact hw q.2
theorem Lv.s1 {ls : Array Slot} {n : Nat} {lv : List (Option Value)} (h : Lv ls n lv) {i : Nat} {v : Value} (hi : i < n) (hc : v.category = 1) : ∃ ls', storeLocals ls i v = some ls' ∧ Lv ls' n (st1 lv i v) := by
  obtain ⟨ls', e1, e2⟩ := lv_store1 (l := []) ⟨h.1, h.2.1, fun _ q => by cases q⟩ hi hc
  refine ⟨ls', e1, e2.1, e2.2.1, fun j w hj => ?_⟩
  unfold st1 at hj
  by_cases hji : j = i
  · subst hji
    by_cases hlt : j < (lvK lv j).length
    · rw [List.getElem?_set_self hlt] at hj
      cases hj
      exact e2.2.2 (j, v) List.mem_cons_self
    · rw [List.getElem?_eq_none (by simpa using hlt)] at hj
      cases hj
  · rw [List.getElem?_set_ne (Ne.symm hji)] at hj
    obtain ⟨h1, h2⟩ := lvK_of hj
    obtain ⟨ls2, f1, f2⟩ := lv_store1 (l := [(j, w)]) ⟨h.1, h.2.1, fun q hq => by
      rcases List.mem_singleton.mp hq with rfl
      exact h.2.2 j w h1⟩ hi hc
    cases e1.symm.trans f1
    refine f2.2.2 (j, w) (List.mem_cons_of_mem _ (List.mem_filter.mpr ⟨List.mem_singleton.mpr rfl, ?_⟩))
    have a1 : (j == i) = false := by simpa using hji
    simp only [a1, Bool.not_false, Bool.true_and, Bool.not_eq_true', Bool.and_eq_false_iff, beq_eq_false_iff_ne, ne_eq]
    by_cases q1 : j + 1 = i
    · exact Or.inr (fun q2 => h2 ⟨q1, q2⟩)
    · exact Or.inl q1
theorem Lv.s2 {ls : Array Slot} {n : Nat} {lv : List (Option Value)} (h : Lv ls n lv) {i : Nat} {v : Value} (hi : i + 1 < n) (hc : v.category = 2) : ∃ ls', storeLocals ls i v = some ls' ∧ Lv ls' n (st2 lv i v) := by
  obtain ⟨ls', e1, e2⟩ := lv_store2 (l := []) ⟨h.1, h.2.1, fun _ q => by cases q⟩ hi hc
  refine ⟨ls', e1, e2.1, e2.2.1, fun j w hj => ?_⟩
  unfold st2 at hj
  by_cases hji : j = i
  · subst hji
    by_cases hlt : j < ((lvK lv j).set (j + 1) none).length
    · rw [List.getElem?_set_self hlt] at hj
      cases hj
      exact e2.2.2 (j, v) List.mem_cons_self
    · rw [List.getElem?_eq_none (by simpa using hlt)] at hj
      cases hj
  · rw [List.getElem?_set_ne (Ne.symm hji)] at hj
    have hj1 : j ≠ i + 1 := by
      intro q
      subst q
      by_cases hlt : i + 1 < (lvK lv i).length
      · rw [List.getElem?_set_self hlt] at hj
        cases hj
      · rw [List.getElem?_eq_none (by simpa using hlt)] at hj
        cases hj
    rw [List.getElem?_set_ne (Ne.symm hj1)] at hj
    obtain ⟨h1, h2⟩ := lvK_of hj
    obtain ⟨ls2, f1, f2⟩ := lv_store2 (l := [(j, w)]) ⟨h.1, h.2.1, fun q hq => by
      rcases List.mem_singleton.mp hq with rfl
      exact h.2.2 j w h1⟩ hi hc
    cases e1.symm.trans f1
    refine f2.2.2 (j, w) (List.mem_cons_of_mem _ (List.mem_filter.mpr ⟨List.mem_singleton.mpr rfl, ?_⟩))
    have a1 : (j == i) = false := by simpa using hji
    have a2 : (j == i + 1) = false := by simpa using hj1
    simp only [a1, a2, Bool.not_false, Bool.true_and, Bool.not_eq_true', Bool.and_eq_false_iff, beq_eq_false_iff_ne, ne_eq]
    by_cases q1 : j + 1 = i
    · exact Or.inr (fun q2 => h2 ⟨q1, q2⟩)
    · exact Or.inl q1

theorem g_iconst {M : MM} {X : Xr} {pc : Nat} {lv : List (Option Value)} {st : List Value} {h : Hp} {k n : Nat} {i : Int} {v : Int32} (hd : decode (mB M) pc = .ok (.iconst i, 1)) (hv : Int32.ofInt i = v) (K : Go M X (pc + 1) lv (.int v :: st) h k n) : Go M X pc lv st h k n := by
  obtain ⟨G, ⟨p, l, e, R, s, m, args, below, meth, c⟩, Q⟩ := X
  intro ok ls H locs hl hR hq
  exact lv_iconst ok.1 ok.2.1 hd hv (K ok ls H locs hl hR hq)
theorem g_bipush {M : MM} {X : Xr} {pc : Nat} {lv : List (Option Value)} {st : List Value} {h : Hp} {k n : Nat} {i : Int} {v : Int32} (hd : decode (mB M) pc = .ok (.bipush i, 2)) (hv : (Int8.ofInt i).toInt32 = v) (K : Go M X (pc + 2) lv (.int v :: st) h k n) : Go M X pc lv st h k n := by
  obtain ⟨G, ⟨p, l, e, R, s, m, args, below, meth, c⟩, Q⟩ := X
  intro ok ls H locs hl hR hq
  exact lv_bipush ok.1 ok.2.1 hd hv (K ok ls H locs hl hR hq)
theorem g_sipush {M : MM} {X : Xr} {pc : Nat} {lv : List (Option Value)} {st : List Value} {h : Hp} {k n : Nat} {i : Int} {v : Int32} (hd : decode (mB M) pc = .ok (.sipush i, 3)) (hv : (Int16.ofInt i).toInt32 = v) (K : Go M X (pc + 3) lv (.int v :: st) h k n) : Go M X pc lv st h k n := by
  obtain ⟨G, ⟨p, l, e, R, s, m, args, below, meth, c⟩, Q⟩ := X
  intro ok ls H locs hl hR hq
  exact lv_sipush ok.1 ok.2.1 hd hv (K ok ls H locs hl hR hq)
theorem g_lconst {M : MM} {X : Xr} {pc : Nat} {lv : List (Option Value)} {st : List Value} {h : Hp} {k n : Nat} {i : Fin 2} {v : Int64} (hd : decode (mB M) pc = .ok (.lconst i, 1)) (hv : Int64.ofNat (i : Nat) = v) (K : Go M X (pc + 1) lv (.long v :: st) h k n) : Go M X pc lv st h k n := by
  obtain ⟨G, ⟨p, l, e, R, s, m, args, below, meth, c⟩, Q⟩ := X
  intro ok ls H locs hl hR hq
  exact lv_lconst ok.1 ok.2.1 hd hv (K ok ls H locs hl hR hq)
theorem g_null {M : MM} {X : Xr} {pc : Nat} {lv : List (Option Value)} {st : List Value} {h : Hp} {k n : Nat}  (hd : decode (mB M) pc = .ok (.aconst_null, 1)) (K : Go M X (pc + 1) lv (.null :: st) h k n) : Go M X pc lv st h k n := by
  obtain ⟨G, ⟨p, l, e, R, s, m, args, below, meth, c⟩, Q⟩ := X
  intro ok ls H locs hl hR hq
  exact lv_null ok.1 ok.2.1 hd (K ok ls H locs hl hR hq)
theorem g_iload_n {M : MM} {X : Xr} {pc : Nat} {lv : List (Option Value)} {st : List Value} {h : Hp} {k n : Nat} {j : Fin 4} {x : Int32} (hd : decode (mB M) pc = .ok (.iload_n j, 1)) (hx : lv[(j : Nat)]? = some (some (.int x))) (K : Go M X (pc + 1) lv (.int x :: st) h k n) : Go M X pc lv st h k n := by
  obtain ⟨G, ⟨p, l, e, R, s, m, args, below, meth, c⟩, Q⟩ := X
  intro ok ls H locs hl hR hq
  exact lv_iload_n ok.1 ok.2.1 hd rfl (hl.ld hx) (K ok ls H locs hl hR hq)
theorem g_iload {M : MM} {X : Xr} {pc : Nat} {lv : List (Option Value)} {st : List Value} {h : Hp} {k n : Nat} {j : Nat} {x : Int32} (hd : decode (mB M) pc = .ok (.iload j, 2)) (hx : lv[j]? = some (some (.int x))) (K : Go M X (pc + 2) lv (.int x :: st) h k n) : Go M X pc lv st h k n := by
  obtain ⟨G, ⟨p, l, e, R, s, m, args, below, meth, c⟩, Q⟩ := X
  intro ok ls H locs hl hR hq
  exact lv_iload ok.1 ok.2.1 hd (hl.ld hx) (K ok ls H locs hl hR hq)
theorem g_lload_n {M : MM} {X : Xr} {pc : Nat} {lv : List (Option Value)} {st : List Value} {h : Hp} {k n : Nat} {j : Fin 4} {x : Int64} (hd : decode (mB M) pc = .ok (.lload_n j, 1)) (hx : lv[(j : Nat)]? = some (some (.long x))) (K : Go M X (pc + 1) lv (.long x :: st) h k n) : Go M X pc lv st h k n := by
  obtain ⟨G, ⟨p, l, e, R, s, m, args, below, meth, c⟩, Q⟩ := X
  intro ok ls H locs hl hR hq
  exact lv_lload_n ok.1 ok.2.1 hd rfl (hl.ld hx) (K ok ls H locs hl hR hq)
theorem g_lload {M : MM} {X : Xr} {pc : Nat} {lv : List (Option Value)} {st : List Value} {h : Hp} {k n : Nat} {j : Nat} {x : Int64} (hd : decode (mB M) pc = .ok (.lload j, 2)) (hx : lv[j]? = some (some (.long x))) (K : Go M X (pc + 2) lv (.long x :: st) h k n) : Go M X pc lv st h k n := by
  obtain ⟨G, ⟨p, l, e, R, s, m, args, below, meth, c⟩, Q⟩ := X
  intro ok ls H locs hl hR hq
  exact lv_lload ok.1 ok.2.1 hd (hl.ld hx) (K ok ls H locs hl hR hq)
theorem g_aload_n {M : MM} {X : Xr} {pc : Nat} {lv : List (Option Value)} {st : List Value} {h : Hp} {k n : Nat} {j : Fin 4} {x : Nat} (hd : decode (mB M) pc = .ok (.aload_n j, 1)) (hx : lv[(j : Nat)]? = some (some (.ref x))) (K : Go M X (pc + 1) lv (.ref x :: st) h k n) : Go M X pc lv st h k n := by
  obtain ⟨G, ⟨p, l, e, R, s, m, args, below, meth, c⟩, Q⟩ := X
  intro ok ls H locs hl hR hq
  exact lv_aload_n ok.1 ok.2.1 hd rfl (hl.ld hx) (K ok ls H locs hl hR hq)
theorem g_aload {M : MM} {X : Xr} {pc : Nat} {lv : List (Option Value)} {st : List Value} {h : Hp} {k n : Nat} {j : Nat} {x : Nat} (hd : decode (mB M) pc = .ok (.aload j, 2)) (hx : lv[j]? = some (some (.ref x))) (K : Go M X (pc + 2) lv (.ref x :: st) h k n) : Go M X pc lv st h k n := by
  obtain ⟨G, ⟨p, l, e, R, s, m, args, below, meth, c⟩, Q⟩ := X
  intro ok ls H locs hl hR hq
  exact lv_aload ok.1 ok.2.1 hd (hl.ld hx) (K ok ls H locs hl hR hq)
theorem g_aload_nN {M : MM} {X : Xr} {pc : Nat} {lv : List (Option Value)} {st : List Value} {h : Hp} {k n : Nat} {j : Fin 4} (hd : decode (mB M) pc = .ok (.aload_n j, 1)) (hx : lv[(j : Nat)]? = some (some .null)) (K : Go M X (pc + 1) lv (.null :: st) h k n) : Go M X pc lv st h k n := by
  obtain ⟨G, ⟨p, l, e, R, s, m, args, below, meth, c⟩, Q⟩ := X
  intro ok ls H locs hl hR hq
  exact lv_aload_nN ok.1 ok.2.1 hd rfl (hl.ld hx) (K ok ls H locs hl hR hq)
theorem g_aloadN {M : MM} {X : Xr} {pc : Nat} {lv : List (Option Value)} {st : List Value} {h : Hp} {k n : Nat} {j : Nat} (hd : decode (mB M) pc = .ok (.aload j, 2)) (hx : lv[j]? = some (some .null)) (K : Go M X (pc + 2) lv (.null :: st) h k n) : Go M X pc lv st h k n := by
  obtain ⟨G, ⟨p, l, e, R, s, m, args, below, meth, c⟩, Q⟩ := X
  intro ok ls H locs hl hR hq
  exact lv_aloadN ok.1 ok.2.1 hd (hl.ld hx) (K ok ls H locs hl hR hq)
theorem g_istore_n {M : MM} {X : Xr} {pc : Nat} {lv : List (Option Value)} {st : List Value} {h : Hp} {k n : Nat} {j : Fin 4} {x : Int32} {lv' : List (Option Value)} (hd : decode (mB M) pc = .ok (.istore_n j, 1)) (hn : (j : Nat) < mL M) (hv : st1 lv (j : Nat) (.int x) = lv') (K : Go M X (pc + 1) lv' st h k n) : Go M X pc lv (.int x :: st) h k n := by
  obtain ⟨G, ⟨p, l, e, R, s, m, args, below, meth, c⟩, Q⟩ := X
  intro ok ls H locs hl hR hq
  obtain ⟨ls', e1, e2⟩ := hl.s1 (v := .int x) hn rfl
  subst hv
  intro T hT Y
  obtain ⟨t, a, b⟩ := K ok ls' H locs e2 hR hq T hT Y
  refine ⟨t, ?_, b⟩
  jvm_step Y.here [Y.here.top, ↓top_set Y.here.top, ok.1, ok.2.1, hd, e1]
  exact a
theorem g_istore {M : MM} {X : Xr} {pc : Nat} {lv : List (Option Value)} {st : List Value} {h : Hp} {k n : Nat} {j : Nat} {x : Int32} {lv' : List (Option Value)} (hd : decode (mB M) pc = .ok (.istore j, 2)) (hn : j < mL M) (hv : st1 lv j (.int x) = lv') (K : Go M X (pc + 2) lv' st h k n) : Go M X pc lv (.int x :: st) h k n := by
  obtain ⟨G, ⟨p, l, e, R, s, m, args, below, meth, c⟩, Q⟩ := X
  intro ok ls H locs hl hR hq
  obtain ⟨ls', e1, e2⟩ := hl.s1 (v := .int x) hn rfl
  subst hv
  intro T hT Y
  obtain ⟨t, a, b⟩ := K ok ls' H locs e2 hR hq T hT Y
  refine ⟨t, ?_, b⟩
  jvm_step Y.here [Y.here.top, ↓top_set Y.here.top, ok.1, ok.2.1, hd, e1]
  exact a
theorem g_lstore_n {M : MM} {X : Xr} {pc : Nat} {lv : List (Option Value)} {st : List Value} {h : Hp} {k n : Nat} {j : Fin 4} {x : Int64} {lv' : List (Option Value)} (hd : decode (mB M) pc = .ok (.lstore_n j, 1)) (hn : (j : Nat) + 1 < mL M) (hv : st2 lv (j : Nat) (.long x) = lv') (K : Go M X (pc + 1) lv' st h k n) : Go M X pc lv (.long x :: st) h k n := by
  obtain ⟨G, ⟨p, l, e, R, s, m, args, below, meth, c⟩, Q⟩ := X
  intro ok ls H locs hl hR hq
  obtain ⟨ls', e1, e2⟩ := hl.s2 (v := .long x) hn rfl
  subst hv
  intro T hT Y
  obtain ⟨t, a, b⟩ := K ok ls' H locs e2 hR hq T hT Y
  refine ⟨t, ?_, b⟩
  jvm_step Y.here [Y.here.top, ↓top_set Y.here.top, ok.1, ok.2.1, hd, e1]
  exact a
theorem g_lstore {M : MM} {X : Xr} {pc : Nat} {lv : List (Option Value)} {st : List Value} {h : Hp} {k n : Nat} {j : Nat} {x : Int64} {lv' : List (Option Value)} (hd : decode (mB M) pc = .ok (.lstore j, 2)) (hn : j + 1 < mL M) (hv : st2 lv j (.long x) = lv') (K : Go M X (pc + 2) lv' st h k n) : Go M X pc lv (.long x :: st) h k n := by
  obtain ⟨G, ⟨p, l, e, R, s, m, args, below, meth, c⟩, Q⟩ := X
  intro ok ls H locs hl hR hq
  obtain ⟨ls', e1, e2⟩ := hl.s2 (v := .long x) hn rfl
  subst hv
  intro T hT Y
  obtain ⟨t, a, b⟩ := K ok ls' H locs e2 hR hq T hT Y
  refine ⟨t, ?_, b⟩
  jvm_step Y.here [Y.here.top, ↓top_set Y.here.top, ok.1, ok.2.1, hd, e1]
  exact a
theorem g_astore_n {M : MM} {X : Xr} {pc : Nat} {lv : List (Option Value)} {st : List Value} {h : Hp} {k n : Nat} {j : Fin 4} {x : Nat} {lv' : List (Option Value)} (hd : decode (mB M) pc = .ok (.astore_n j, 1)) (hn : (j : Nat) < mL M) (hv : st1 lv (j : Nat) (.ref x) = lv') (K : Go M X (pc + 1) lv' st h k n) : Go M X pc lv (.ref x :: st) h k n := by
  obtain ⟨G, ⟨p, l, e, R, s, m, args, below, meth, c⟩, Q⟩ := X
  intro ok ls H locs hl hR hq
  obtain ⟨ls', e1, e2⟩ := hl.s1 (v := .ref x) hn rfl
  subst hv
  intro T hT Y
  obtain ⟨t, a, b⟩ := K ok ls' H locs e2 hR hq T hT Y
  refine ⟨t, ?_, b⟩
  jvm_step Y.here [Y.here.top, ↓top_set Y.here.top, ok.1, ok.2.1, hd, e1, Value.isRef]
  exact a
theorem g_astore {M : MM} {X : Xr} {pc : Nat} {lv : List (Option Value)} {st : List Value} {h : Hp} {k n : Nat} {j : Nat} {x : Nat} {lv' : List (Option Value)} (hd : decode (mB M) pc = .ok (.astore j, 2)) (hn : j < mL M) (hv : st1 lv j (.ref x) = lv') (K : Go M X (pc + 2) lv' st h k n) : Go M X pc lv (.ref x :: st) h k n := by
  obtain ⟨G, ⟨p, l, e, R, s, m, args, below, meth, c⟩, Q⟩ := X
  intro ok ls H locs hl hR hq
  obtain ⟨ls', e1, e2⟩ := hl.s1 (v := .ref x) hn rfl
  subst hv
  intro T hT Y
  obtain ⟨t, a, b⟩ := K ok ls' H locs e2 hR hq T hT Y
  refine ⟨t, ?_, b⟩
  jvm_step Y.here [Y.here.top, ↓top_set Y.here.top, ok.1, ok.2.1, hd, e1, Value.isRef]
  exact a
theorem g_astore_nN {M : MM} {X : Xr} {pc : Nat} {lv : List (Option Value)} {st : List Value} {h : Hp} {k n : Nat} {j : Fin 4} {lv' : List (Option Value)} (hd : decode (mB M) pc = .ok (.astore_n j, 1)) (hn : (j : Nat) < mL M) (hv : st1 lv (j : Nat) .null = lv') (K : Go M X (pc + 1) lv' st h k n) : Go M X pc lv (.null :: st) h k n := by
  obtain ⟨G, ⟨p, l, e, R, s, m, args, below, meth, c⟩, Q⟩ := X
  intro ok ls H locs hl hR hq
  obtain ⟨ls', e1, e2⟩ := hl.s1 (v := .null) hn rfl
  subst hv
  intro T hT Y
  obtain ⟨t, a, b⟩ := K ok ls' H locs e2 hR hq T hT Y
  refine ⟨t, ?_, b⟩
  jvm_step Y.here [Y.here.top, ↓top_set Y.here.top, ok.1, ok.2.1, hd, e1, Value.isRef]
  exact a
theorem g_astoreN {M : MM} {X : Xr} {pc : Nat} {lv : List (Option Value)} {st : List Value} {h : Hp} {k n : Nat} {j : Nat} {lv' : List (Option Value)} (hd : decode (mB M) pc = .ok (.astore j, 2)) (hn : j < mL M) (hv : st1 lv j .null = lv') (K : Go M X (pc + 2) lv' st h k n) : Go M X pc lv (.null :: st) h k n := by
  obtain ⟨G, ⟨p, l, e, R, s, m, args, below, meth, c⟩, Q⟩ := X
  intro ok ls H locs hl hR hq
  obtain ⟨ls', e1, e2⟩ := hl.s1 (v := .null) hn rfl
  subst hv
  intro T hT Y
  obtain ⟨t, a, b⟩ := K ok ls' H locs e2 hR hq T hT Y
  refine ⟨t, ?_, b⟩
  jvm_step Y.here [Y.here.top, ↓top_set Y.here.top, ok.1, ok.2.1, hd, e1, Value.isRef]
  exact a
theorem g_iinc {M : MM} {X : Xr} {pc : Nat} {lv : List (Option Value)} {st : List Value} {h : Hp} {k n : Nat} {j : Nat} {i : Int} {x v : Int32} {lv' : List (Option Value)} (hd : decode (mB M) pc = .ok (.iinc j i, 3)) (hx : lv[j]? = some (some (.int x))) (hn : j < mL M) (hv : x + Int32.ofInt i = v) (he : st1 lv j (.int v) = lv') (K : Go M X (pc + 3) lv' st h k n) : Go M X pc lv st h k n := by
  obtain ⟨G, ⟨p, l, e, R, s, m, args, below, meth, c⟩, Q⟩ := X
  intro ok ls H locs hl hR hq
  have hg := hl.ld hx
  subst hv
  obtain ⟨ls', e1, e2⟩ := hl.s1 (v := .int (x + Int32.ofInt i)) hn rfl
  subst he
  intro T hT Y
  obtain ⟨t, a, b⟩ := K ok ls' H locs e2 hR hq T hT Y
  refine ⟨t, ?_, b⟩
  jvm_step Y.here [Y.here.top, ↓top_set Y.here.top, ok.1, ok.2.1, hd, hg, e1]
  exact a
theorem g_iadd {M : MM} {X : Xr} {pc : Nat} {lv : List (Option Value)} {st : List Value} {h : Hp} {k n : Nat} {x y : Int32} (hd : decode (mB M) pc = .ok (.iadd, 1))  (K : Go M X (pc + 1) lv (.int (x + y) :: st) h k n) : Go M X pc lv (.int y :: .int x :: st) h k n := by
  obtain ⟨G, ⟨p, l, e, R, s, m, args, below, meth, c⟩, Q⟩ := X
  intro ok ls H locs hl hR hq
  exact lv_iadd ok.1 ok.2.1 hd (K ok ls H locs hl hR hq)
theorem g_isub {M : MM} {X : Xr} {pc : Nat} {lv : List (Option Value)} {st : List Value} {h : Hp} {k n : Nat} {x y : Int32} (hd : decode (mB M) pc = .ok (.isub, 1))  (K : Go M X (pc + 1) lv (.int (x - y) :: st) h k n) : Go M X pc lv (.int y :: .int x :: st) h k n := by
  obtain ⟨G, ⟨p, l, e, R, s, m, args, below, meth, c⟩, Q⟩ := X
  intro ok ls H locs hl hR hq
  exact lv_isub ok.1 ok.2.1 hd (K ok ls H locs hl hR hq)
theorem g_imul {M : MM} {X : Xr} {pc : Nat} {lv : List (Option Value)} {st : List Value} {h : Hp} {k n : Nat} {x y : Int32} (hd : decode (mB M) pc = .ok (.imul, 1))  (K : Go M X (pc + 1) lv (.int (x * y) :: st) h k n) : Go M X pc lv (.int y :: .int x :: st) h k n := by
  obtain ⟨G, ⟨p, l, e, R, s, m, args, below, meth, c⟩, Q⟩ := X
  intro ok ls H locs hl hR hq
  exact lv_imul ok.1 ok.2.1 hd (K ok ls H locs hl hR hq)
theorem g_iand {M : MM} {X : Xr} {pc : Nat} {lv : List (Option Value)} {st : List Value} {h : Hp} {k n : Nat} {x y : Int32} (hd : decode (mB M) pc = .ok (.iand, 1))  (K : Go M X (pc + 1) lv (.int (x &&& y) :: st) h k n) : Go M X pc lv (.int y :: .int x :: st) h k n := by
  obtain ⟨G, ⟨p, l, e, R, s, m, args, below, meth, c⟩, Q⟩ := X
  intro ok ls H locs hl hR hq
  exact lv_iand ok.1 ok.2.1 hd (K ok ls H locs hl hR hq)
theorem g_ior {M : MM} {X : Xr} {pc : Nat} {lv : List (Option Value)} {st : List Value} {h : Hp} {k n : Nat} {x y : Int32} (hd : decode (mB M) pc = .ok (.ior, 1))  (K : Go M X (pc + 1) lv (.int (x ||| y) :: st) h k n) : Go M X pc lv (.int y :: .int x :: st) h k n := by
  obtain ⟨G, ⟨p, l, e, R, s, m, args, below, meth, c⟩, Q⟩ := X
  intro ok ls H locs hl hR hq
  exact lv_ior ok.1 ok.2.1 hd (K ok ls H locs hl hR hq)
theorem g_ixor {M : MM} {X : Xr} {pc : Nat} {lv : List (Option Value)} {st : List Value} {h : Hp} {k n : Nat} {x y : Int32} (hd : decode (mB M) pc = .ok (.ixor, 1))  (K : Go M X (pc + 1) lv (.int (x ^^^ y) :: st) h k n) : Go M X pc lv (.int y :: .int x :: st) h k n := by
  obtain ⟨G, ⟨p, l, e, R, s, m, args, below, meth, c⟩, Q⟩ := X
  intro ok ls H locs hl hR hq
  exact lv_ixor ok.1 ok.2.1 hd (K ok ls H locs hl hR hq)
theorem g_idiv {M : MM} {X : Xr} {pc : Nat} {lv : List (Option Value)} {st : List Value} {h : Hp} {k n : Nat} {x y : Int32} (hd : decode (mB M) pc = .ok (.idiv, 1)) (hne : ¬ y = 0) (K : Go M X (pc + 1) lv (.int (x / y) :: st) h k n) : Go M X pc lv (.int y :: .int x :: st) h k n := by
  obtain ⟨G, ⟨p, l, e, R, s, m, args, below, meth, c⟩, Q⟩ := X
  intro ok ls H locs hl hR hq
  exact lv_idiv ok.1 ok.2.1 hd hne (K ok ls H locs hl hR hq)
theorem g_irem {M : MM} {X : Xr} {pc : Nat} {lv : List (Option Value)} {st : List Value} {h : Hp} {k n : Nat} {x y : Int32} (hd : decode (mB M) pc = .ok (.irem, 1)) (hne : ¬ y = 0) (K : Go M X (pc + 1) lv (.int (x - x / y * y) :: st) h k n) : Go M X pc lv (.int y :: .int x :: st) h k n := by
  obtain ⟨G, ⟨p, l, e, R, s, m, args, below, meth, c⟩, Q⟩ := X
  intro ok ls H locs hl hR hq
  exact lv_irem ok.1 ok.2.1 hd hne (K ok ls H locs hl hR hq)
theorem g_ishl {M : MM} {X : Xr} {pc : Nat} {lv : List (Option Value)} {st : List Value} {h : Hp} {k n : Nat} {x y : Int32} (hd : decode (mB M) pc = .ok (.ishl, 1))  (K : Go M X (pc + 1) lv (.int (x <<< (y &&& 31)) :: st) h k n) : Go M X pc lv (.int y :: .int x :: st) h k n := by
  obtain ⟨G, ⟨p, l, e, R, s, m, args, below, meth, c⟩, Q⟩ := X
  intro ok ls H locs hl hR hq
  exact lv_ishl ok.1 ok.2.1 hd (K ok ls H locs hl hR hq)
theorem g_ishr {M : MM} {X : Xr} {pc : Nat} {lv : List (Option Value)} {st : List Value} {h : Hp} {k n : Nat} {x y : Int32} (hd : decode (mB M) pc = .ok (.ishr, 1))  (K : Go M X (pc + 1) lv (.int (x >>> (y &&& 31)) :: st) h k n) : Go M X pc lv (.int y :: .int x :: st) h k n := by
  obtain ⟨G, ⟨p, l, e, R, s, m, args, below, meth, c⟩, Q⟩ := X
  intro ok ls H locs hl hR hq
  exact lv_ishr ok.1 ok.2.1 hd (K ok ls H locs hl hR hq)
theorem g_ladd {M : MM} {X : Xr} {pc : Nat} {lv : List (Option Value)} {st : List Value} {h : Hp} {k n : Nat} {x y : Int64} (hd : decode (mB M) pc = .ok (.ladd, 1))  (K : Go M X (pc + 1) lv (.long (x + y) :: st) h k n) : Go M X pc lv (.long y :: .long x :: st) h k n := by
  obtain ⟨G, ⟨p, l, e, R, s, m, args, below, meth, c⟩, Q⟩ := X
  intro ok ls H locs hl hR hq
  exact lv_ladd ok.1 ok.2.1 hd (K ok ls H locs hl hR hq)
theorem g_lsub {M : MM} {X : Xr} {pc : Nat} {lv : List (Option Value)} {st : List Value} {h : Hp} {k n : Nat} {x y : Int64} (hd : decode (mB M) pc = .ok (.lsub, 1))  (K : Go M X (pc + 1) lv (.long (x - y) :: st) h k n) : Go M X pc lv (.long y :: .long x :: st) h k n := by
  obtain ⟨G, ⟨p, l, e, R, s, m, args, below, meth, c⟩, Q⟩ := X
  intro ok ls H locs hl hR hq
  exact lv_lsub ok.1 ok.2.1 hd (K ok ls H locs hl hR hq)
theorem g_lmul {M : MM} {X : Xr} {pc : Nat} {lv : List (Option Value)} {st : List Value} {h : Hp} {k n : Nat} {x y : Int64} (hd : decode (mB M) pc = .ok (.lmul, 1))  (K : Go M X (pc + 1) lv (.long (x * y) :: st) h k n) : Go M X pc lv (.long y :: .long x :: st) h k n := by
  obtain ⟨G, ⟨p, l, e, R, s, m, args, below, meth, c⟩, Q⟩ := X
  intro ok ls H locs hl hR hq
  exact lv_lmul ok.1 ok.2.1 hd (K ok ls H locs hl hR hq)
theorem g_land {M : MM} {X : Xr} {pc : Nat} {lv : List (Option Value)} {st : List Value} {h : Hp} {k n : Nat} {x y : Int64} (hd : decode (mB M) pc = .ok (.land, 1))  (K : Go M X (pc + 1) lv (.long (x &&& y) :: st) h k n) : Go M X pc lv (.long y :: .long x :: st) h k n := by
  obtain ⟨G, ⟨p, l, e, R, s, m, args, below, meth, c⟩, Q⟩ := X
  intro ok ls H locs hl hR hq
  exact lv_land ok.1 ok.2.1 hd (K ok ls H locs hl hR hq)
theorem g_lor {M : MM} {X : Xr} {pc : Nat} {lv : List (Option Value)} {st : List Value} {h : Hp} {k n : Nat} {x y : Int64} (hd : decode (mB M) pc = .ok (.lor, 1))  (K : Go M X (pc + 1) lv (.long (x ||| y) :: st) h k n) : Go M X pc lv (.long y :: .long x :: st) h k n := by
  obtain ⟨G, ⟨p, l, e, R, s, m, args, below, meth, c⟩, Q⟩ := X
  intro ok ls H locs hl hR hq
  exact lv_lor ok.1 ok.2.1 hd (K ok ls H locs hl hR hq)
theorem g_ldiv {M : MM} {X : Xr} {pc : Nat} {lv : List (Option Value)} {st : List Value} {h : Hp} {k n : Nat} {x y : Int64} (hd : decode (mB M) pc = .ok (.ldiv, 1)) (hne : ¬ y = 0) (K : Go M X (pc + 1) lv (.long (x / y) :: st) h k n) : Go M X pc lv (.long y :: .long x :: st) h k n := by
  obtain ⟨G, ⟨p, l, e, R, s, m, args, below, meth, c⟩, Q⟩ := X
  intro ok ls H locs hl hR hq
  exact lv_ldiv ok.1 ok.2.1 hd hne (K ok ls H locs hl hR hq)
theorem g_lrem {M : MM} {X : Xr} {pc : Nat} {lv : List (Option Value)} {st : List Value} {h : Hp} {k n : Nat} {x y : Int64} (hd : decode (mB M) pc = .ok (.lrem, 1)) (hne : ¬ y = 0) (K : Go M X (pc + 1) lv (.long (x - x / y * y) :: st) h k n) : Go M X pc lv (.long y :: .long x :: st) h k n := by
  obtain ⟨G, ⟨p, l, e, R, s, m, args, below, meth, c⟩, Q⟩ := X
  intro ok ls H locs hl hR hq
  exact lv_lrem ok.1 ok.2.1 hd hne (K ok ls H locs hl hR hq)
theorem g_iushr {M : MM} {X : Xr} {pc : Nat} {lv : List (Option Value)} {st : List Value} {h : Hp} {k n : Nat} {x y v : Int32} (hd : decode (mB M) pc = .ok (.iushr, 1)) (hv : (x.toUInt32 >>> (y.toUInt32 &&& Int32.toUInt32 31)).toInt32 = v) (K : Go M X (pc + 1) lv (.int v :: st) h k n) : Go M X pc lv (.int y :: .int x :: st) h k n := by
  obtain ⟨G, ⟨p, l, e, R, s, m, args, below, meth, c⟩, Q⟩ := X
  intro ok ls H locs hl hR hq
  exact lv_iushr ok.1 ok.2.1 hd hv (K ok ls H locs hl hR hq)
theorem g_ineg {M : MM} {X : Xr} {pc : Nat} {lv : List (Option Value)} {st : List Value} {h : Hp} {k n : Nat} {x : Int32} (hd : decode (mB M) pc = .ok (.ineg, 1)) (K : Go M X (pc + 1) lv (.int (-x) :: st) h k n) : Go M X pc lv (.int x :: st) h k n := by
  obtain ⟨G, ⟨p, l, e, R, s, m, args, below, meth, c⟩, Q⟩ := X
  intro ok ls H locs hl hR hq
  exact lv_ineg ok.1 ok.2.1 hd (K ok ls H locs hl hR hq)
theorem g_lshl {M : MM} {X : Xr} {pc : Nat} {lv : List (Option Value)} {st : List Value} {h : Hp} {k n : Nat} {x v : Int64} {y : Int32} (hd : decode (mB M) pc = .ok (.lshl, 1)) (hv : x <<< (y.toInt64 &&& 63) = v) (K : Go M X (pc + 1) lv (.long v :: st) h k n) : Go M X pc lv (.int y :: .long x :: st) h k n := by
  obtain ⟨G, ⟨p, l, e, R, s, m, args, below, meth, c⟩, Q⟩ := X
  intro ok ls H locs hl hR hq
  exact lv_lshl ok.1 ok.2.1 hd hv (K ok ls H locs hl hR hq)
theorem g_i2l {M : MM} {X : Xr} {pc : Nat} {lv : List (Option Value)} {st : List Value} {h : Hp} {k n : Nat} {x : Int32} (hd : decode (mB M) pc = .ok (.i2l, 1)) (K : Go M X (pc + 1) lv (.long x.toInt64 :: st) h k n) : Go M X pc lv (.int x :: st) h k n := by
  obtain ⟨G, ⟨p, l, e, R, s, m, args, below, meth, c⟩, Q⟩ := X
  intro ok ls H locs hl hR hq
  exact lv_i2l ok.1 ok.2.1 hd rfl (K ok ls H locs hl hR hq)
theorem g_l2i {M : MM} {X : Xr} {pc : Nat} {lv : List (Option Value)} {st : List Value} {h : Hp} {k n : Nat} {x : Int64} (hd : decode (mB M) pc = .ok (.l2i, 1)) (K : Go M X (pc + 1) lv (.int x.toInt32 :: st) h k n) : Go M X pc lv (.long x :: st) h k n := by
  obtain ⟨G, ⟨p, l, e, R, s, m, args, below, meth, c⟩, Q⟩ := X
  intro ok ls H locs hl hR hq
  exact lv_l2i ok.1 ok.2.1 hd rfl (K ok ls H locs hl hR hq)
theorem g_i2c {M : MM} {X : Xr} {pc : Nat} {lv : List (Option Value)} {st : List Value} {h : Hp} {k n : Nat} {x : Int32} (hd : decode (mB M) pc = .ok (.i2c, 1)) (K : Go M X (pc + 1) lv (.int (x.toUInt32 % 65536).toInt32 :: st) h k n) : Go M X pc lv (.int x :: st) h k n := by
  obtain ⟨G, ⟨p, l, e, R, s, m, args, below, meth, c⟩, Q⟩ := X
  intro ok ls H locs hl hR hq
  exact lv_i2c ok.1 ok.2.1 hd rfl (K ok ls H locs hl hR hq)
theorem g_dup {M : MM} {X : Xr} {pc : Nat} {lv : List (Option Value)} {st : List Value} {h : Hp} {k n : Nat} {u : Value} (hd : decode (mB M) pc = .ok (.dup, 1)) (hu : u.category = 1) (K : Go M X (pc + 1) lv (u :: u :: st) h k n) : Go M X pc lv (u :: st) h k n := by
  obtain ⟨G, ⟨p, l, e, R, s, m, args, below, meth, c⟩, Q⟩ := X
  intro ok ls H locs hl hR hq
  exact lv_dup ok.1 ok.2.1 hd hu (K ok ls H locs hl hR hq)
theorem g_pop {M : MM} {X : Xr} {pc : Nat} {lv : List (Option Value)} {st : List Value} {h : Hp} {k n : Nat} {u : Value} (hd : decode (mB M) pc = .ok (.pop, 1)) (hu : u.category = 1) (K : Go M X (pc + 1) lv st h k n) : Go M X pc lv (u :: st) h k n := by
  obtain ⟨G, ⟨p, l, e, R, s, m, args, below, meth, c⟩, Q⟩ := X
  intro ok ls H locs hl hR hq
  exact lv_pop ok.1 ok.2.1 hd hu (K ok ls H locs hl hR hq)
theorem g_pop2 {M : MM} {X : Xr} {pc : Nat} {lv : List (Option Value)} {st : List Value} {h : Hp} {k n : Nat} {u : Value} (hd : decode (mB M) pc = .ok (.pop2, 1)) (hu : u.category = 2) (K : Go M X (pc + 1) lv st h k n) : Go M X pc lv (u :: st) h k n := by
  obtain ⟨G, ⟨p, l, e, R, s, m, args, below, meth, c⟩, Q⟩ := X
  intro ok ls H locs hl hR hq
  exact lv_pop2_2 ok.1 ok.2.1 hd hu (K ok ls H locs hl hR hq)
theorem g_dup_x1 {M : MM} {X : Xr} {pc : Nat} {lv : List (Option Value)} {st : List Value} {h : Hp} {k n : Nat} {u v : Value} (hd : decode (mB M) pc = .ok (.dup_x1, 1)) (hu : u.category = 1) (hv : v.category = 1) (K : Go M X (pc + 1) lv (u :: v :: u :: st) h k n) : Go M X pc lv (u :: v :: st) h k n := by
  obtain ⟨G, ⟨p, l, e, R, s, m, args, below, meth, c⟩, Q⟩ := X
  intro ok ls H locs hl hR hq
  exact lv_dup_x1 ok.1 ok.2.1 hd hu hv (K ok ls H locs hl hR hq)
theorem g_dup2 {M : MM} {X : Xr} {pc : Nat} {lv : List (Option Value)} {st : List Value} {h : Hp} {k n : Nat} {u v : Value} (hd : decode (mB M) pc = .ok (.dup2, 1)) (hu : u.category = 1) (hv : v.category = 1) (K : Go M X (pc + 1) lv (u :: v :: u :: v :: st) h k n) : Go M X pc lv (u :: v :: st) h k n := by
  obtain ⟨G, ⟨p, l, e, R, s, m, args, below, meth, c⟩, Q⟩ := X
  intro ok ls H locs hl hR hq
  exact lv_dup2_11 ok.1 ok.2.1 hd hu hv (K ok ls H locs hl hR hq)
theorem g_if_eq {M : MM} {X : Xr} {pc : Nat} {lv : List (Option Value)} {st : List Value} {h : Hp} {k n : Nat} {x : Int32} {off : Int} {tgt : Nat} (hd : decode (mB M) pc = .ok (.ifCond .eq off, 3)) (ht : (pc : Int) + off = (tgt : Int)) (K1 : x = 0 → Go M X tgt lv st h k n) (K2 : ¬ x = 0 → Go M X (pc + 3) lv st h k n) : Go M X pc lv (.int x :: st) h k n := by
  obtain ⟨G, ⟨p, l, e, R, s, m, args, below, meth, c⟩, Q⟩ := X
  intro ok ls H locs hl hR hq
  exact lv_if_eq ok.1 ok.2.1 hd ht (fun z => K1 z ok ls H locs hl hR hq) (fun z => K2 z ok ls H locs hl hR hq)
theorem g_if_ne {M : MM} {X : Xr} {pc : Nat} {lv : List (Option Value)} {st : List Value} {h : Hp} {k n : Nat} {x : Int32} {off : Int} {tgt : Nat} (hd : decode (mB M) pc = .ok (.ifCond .ne off, 3)) (ht : (pc : Int) + off = (tgt : Int)) (K1 : ¬ x = 0 → Go M X tgt lv st h k n) (K2 : x = 0 → Go M X (pc + 3) lv st h k n) : Go M X pc lv (.int x :: st) h k n := by
  obtain ⟨G, ⟨p, l, e, R, s, m, args, below, meth, c⟩, Q⟩ := X
  intro ok ls H locs hl hR hq
  exact lv_if_ne ok.1 ok.2.1 hd ht (fun z => K1 z ok ls H locs hl hR hq) (fun z => K2 z ok ls H locs hl hR hq)
theorem g_if_lt {M : MM} {X : Xr} {pc : Nat} {lv : List (Option Value)} {st : List Value} {h : Hp} {k n : Nat} {x : Int32} {off : Int} {tgt : Nat} (hd : decode (mB M) pc = .ok (.ifCond .lt off, 3)) (ht : (pc : Int) + off = (tgt : Int)) (K1 : x < 0 → Go M X tgt lv st h k n) (K2 : ¬ x < 0 → Go M X (pc + 3) lv st h k n) : Go M X pc lv (.int x :: st) h k n := by
  obtain ⟨G, ⟨p, l, e, R, s, m, args, below, meth, c⟩, Q⟩ := X
  intro ok ls H locs hl hR hq
  exact lv_if_lt ok.1 ok.2.1 hd ht (fun z => K1 z ok ls H locs hl hR hq) (fun z => K2 z ok ls H locs hl hR hq)
theorem g_if_ge {M : MM} {X : Xr} {pc : Nat} {lv : List (Option Value)} {st : List Value} {h : Hp} {k n : Nat} {x : Int32} {off : Int} {tgt : Nat} (hd : decode (mB M) pc = .ok (.ifCond .ge off, 3)) (ht : (pc : Int) + off = (tgt : Int)) (K1 : 0 ≤ x → Go M X tgt lv st h k n) (K2 : ¬ 0 ≤ x → Go M X (pc + 3) lv st h k n) : Go M X pc lv (.int x :: st) h k n := by
  obtain ⟨G, ⟨p, l, e, R, s, m, args, below, meth, c⟩, Q⟩ := X
  intro ok ls H locs hl hR hq
  exact lv_if_ge ok.1 ok.2.1 hd ht (fun z => K1 z ok ls H locs hl hR hq) (fun z => K2 z ok ls H locs hl hR hq)
theorem g_if_gt {M : MM} {X : Xr} {pc : Nat} {lv : List (Option Value)} {st : List Value} {h : Hp} {k n : Nat} {x : Int32} {off : Int} {tgt : Nat} (hd : decode (mB M) pc = .ok (.ifCond .gt off, 3)) (ht : (pc : Int) + off = (tgt : Int)) (K1 : 0 < x → Go M X tgt lv st h k n) (K2 : ¬ 0 < x → Go M X (pc + 3) lv st h k n) : Go M X pc lv (.int x :: st) h k n := by
  obtain ⟨G, ⟨p, l, e, R, s, m, args, below, meth, c⟩, Q⟩ := X
  intro ok ls H locs hl hR hq
  exact lv_if_gt ok.1 ok.2.1 hd ht (fun z => K1 z ok ls H locs hl hR hq) (fun z => K2 z ok ls H locs hl hR hq)
theorem g_if_le {M : MM} {X : Xr} {pc : Nat} {lv : List (Option Value)} {st : List Value} {h : Hp} {k n : Nat} {x : Int32} {off : Int} {tgt : Nat} (hd : decode (mB M) pc = .ok (.ifCond .le off, 3)) (ht : (pc : Int) + off = (tgt : Int)) (K1 : x ≤ 0 → Go M X tgt lv st h k n) (K2 : ¬ x ≤ 0 → Go M X (pc + 3) lv st h k n) : Go M X pc lv (.int x :: st) h k n := by
  obtain ⟨G, ⟨p, l, e, R, s, m, args, below, meth, c⟩, Q⟩ := X
  intro ok ls H locs hl hR hq
  exact lv_if_le ok.1 ok.2.1 hd ht (fun z => K1 z ok ls H locs hl hR hq) (fun z => K2 z ok ls H locs hl hR hq)
theorem g_icmp_eq {M : MM} {X : Xr} {pc : Nat} {lv : List (Option Value)} {st : List Value} {h : Hp} {k n : Nat} {x y : Int32} {off : Int} {tgt : Nat} (hd : decode (mB M) pc = .ok (.if_icmp .eq off, 3)) (ht : (pc : Int) + off = (tgt : Int)) (K1 : x = y → Go M X tgt lv st h k n) (K2 : ¬ x = y → Go M X (pc + 3) lv st h k n) : Go M X pc lv (.int y :: .int x :: st) h k n := by
  obtain ⟨G, ⟨p, l, e, R, s, m, args, below, meth, c⟩, Q⟩ := X
  intro ok ls H locs hl hR hq
  exact lv_icmp_eq ok.1 ok.2.1 hd ht (fun z => K1 z ok ls H locs hl hR hq) (fun z => K2 z ok ls H locs hl hR hq)
theorem g_icmp_ne {M : MM} {X : Xr} {pc : Nat} {lv : List (Option Value)} {st : List Value} {h : Hp} {k n : Nat} {x y : Int32} {off : Int} {tgt : Nat} (hd : decode (mB M) pc = .ok (.if_icmp .ne off, 3)) (ht : (pc : Int) + off = (tgt : Int)) (K1 : ¬ x = y → Go M X tgt lv st h k n) (K2 : x = y → Go M X (pc + 3) lv st h k n) : Go M X pc lv (.int y :: .int x :: st) h k n := by
  obtain ⟨G, ⟨p, l, e, R, s, m, args, below, meth, c⟩, Q⟩ := X
  intro ok ls H locs hl hR hq
  exact lv_icmp_ne ok.1 ok.2.1 hd ht (fun z => K1 z ok ls H locs hl hR hq) (fun z => K2 z ok ls H locs hl hR hq)
theorem g_icmp_lt {M : MM} {X : Xr} {pc : Nat} {lv : List (Option Value)} {st : List Value} {h : Hp} {k n : Nat} {x y : Int32} {off : Int} {tgt : Nat} (hd : decode (mB M) pc = .ok (.if_icmp .lt off, 3)) (ht : (pc : Int) + off = (tgt : Int)) (K1 : x < y → Go M X tgt lv st h k n) (K2 : ¬ x < y → Go M X (pc + 3) lv st h k n) : Go M X pc lv (.int y :: .int x :: st) h k n := by
  obtain ⟨G, ⟨p, l, e, R, s, m, args, below, meth, c⟩, Q⟩ := X
  intro ok ls H locs hl hR hq
  exact lv_icmp_lt ok.1 ok.2.1 hd ht (fun z => K1 z ok ls H locs hl hR hq) (fun z => K2 z ok ls H locs hl hR hq)
theorem g_icmp_ge {M : MM} {X : Xr} {pc : Nat} {lv : List (Option Value)} {st : List Value} {h : Hp} {k n : Nat} {x y : Int32} {off : Int} {tgt : Nat} (hd : decode (mB M) pc = .ok (.if_icmp .ge off, 3)) (ht : (pc : Int) + off = (tgt : Int)) (K1 : y ≤ x → Go M X tgt lv st h k n) (K2 : ¬ y ≤ x → Go M X (pc + 3) lv st h k n) : Go M X pc lv (.int y :: .int x :: st) h k n := by
  obtain ⟨G, ⟨p, l, e, R, s, m, args, below, meth, c⟩, Q⟩ := X
  intro ok ls H locs hl hR hq
  exact lv_icmp_ge ok.1 ok.2.1 hd ht (fun z => K1 z ok ls H locs hl hR hq) (fun z => K2 z ok ls H locs hl hR hq)
theorem g_icmp_gt {M : MM} {X : Xr} {pc : Nat} {lv : List (Option Value)} {st : List Value} {h : Hp} {k n : Nat} {x y : Int32} {off : Int} {tgt : Nat} (hd : decode (mB M) pc = .ok (.if_icmp .gt off, 3)) (ht : (pc : Int) + off = (tgt : Int)) (K1 : y < x → Go M X tgt lv st h k n) (K2 : ¬ y < x → Go M X (pc + 3) lv st h k n) : Go M X pc lv (.int y :: .int x :: st) h k n := by
  obtain ⟨G, ⟨p, l, e, R, s, m, args, below, meth, c⟩, Q⟩ := X
  intro ok ls H locs hl hR hq
  exact lv_icmp_gt ok.1 ok.2.1 hd ht (fun z => K1 z ok ls H locs hl hR hq) (fun z => K2 z ok ls H locs hl hR hq)
theorem g_icmp_le {M : MM} {X : Xr} {pc : Nat} {lv : List (Option Value)} {st : List Value} {h : Hp} {k n : Nat} {x y : Int32} {off : Int} {tgt : Nat} (hd : decode (mB M) pc = .ok (.if_icmp .le off, 3)) (ht : (pc : Int) + off = (tgt : Int)) (K1 : x ≤ y → Go M X tgt lv st h k n) (K2 : ¬ x ≤ y → Go M X (pc + 3) lv st h k n) : Go M X pc lv (.int y :: .int x :: st) h k n := by
  obtain ⟨G, ⟨p, l, e, R, s, m, args, below, meth, c⟩, Q⟩ := X
  intro ok ls H locs hl hR hq
  exact lv_icmp_le ok.1 ok.2.1 hd ht (fun z => K1 z ok ls H locs hl hR hq) (fun z => K2 z ok ls H locs hl hR hq)
theorem g_acmp_eq {M : MM} {X : Xr} {pc : Nat} {lv : List (Option Value)} {st : List Value} {h : Hp} {k n : Nat} {x y : Option Nat} {off : Int} {tgt : Nat} (hd : decode (mB M) pc = .ok (.if_acmp .eq off, 3)) (ht : (pc : Int) + off = (tgt : Int)) (K1 : x = y → Go M X tgt lv st h k n) (K2 : ¬ x = y → Go M X (pc + 3) lv st h k n) : Go M X pc lv (va_rf y :: va_rf x :: st) h k n := by
  obtain ⟨G, ⟨p, l, e, R, s, m, args, below, meth, c⟩, Q⟩ := X
  intro ok ls H locs hl hR hq
  exact lv_acmp_eq ok.1 ok.2.1 hd ht (fun z => K1 z ok ls H locs hl hR hq) (fun z => K2 z ok ls H locs hl hR hq)
theorem g_acmp_ne {M : MM} {X : Xr} {pc : Nat} {lv : List (Option Value)} {st : List Value} {h : Hp} {k n : Nat} {x y : Option Nat} {off : Int} {tgt : Nat} (hd : decode (mB M) pc = .ok (.if_acmp .ne off, 3)) (ht : (pc : Int) + off = (tgt : Int)) (K1 : ¬ x = y → Go M X tgt lv st h k n) (K2 : x = y → Go M X (pc + 3) lv st h k n) : Go M X pc lv (va_rf y :: va_rf x :: st) h k n := by
  obtain ⟨G, ⟨p, l, e, R, s, m, args, below, meth, c⟩, Q⟩ := X
  intro ok ls H locs hl hR hq
  exact lv_acmp_ne ok.1 ok.2.1 hd ht (fun z => K1 z ok ls H locs hl hR hq) (fun z => K2 z ok ls H locs hl hR hq)
theorem g_goto {M : MM} {X : Xr} {pc : Nat} {lv : List (Option Value)} {st : List Value} {h : Hp} {k n : Nat} {off : Int} {tgt : Nat} (hd : decode (mB M) pc = .ok (.goto off, 3)) (ht : (pc : Int) + off = (tgt : Int)) (K : Go M X tgt lv st h k n) : Go M X pc lv st h k n := by
  obtain ⟨G, ⟨p, l, e, R, s, m, args, below, meth, c⟩, Q⟩ := X
  intro ok ls H locs hl hR hq
  exact lv_goto ok.1 ok.2.1 hd ht (K ok ls H locs hl hR hq)
theorem g_ifnull {M : MM} {X : Xr} {pc : Nat} {lv : List (Option Value)} {st : List Value} {h : Hp} {k n : Nat} {off : Int} {tgt : Nat} {x : Option Nat} (hd : decode (mB M) pc = .ok (.ifnull off, 3)) (ht : (pc : Int) + off = (tgt : Int)) (K1 : x = none → Go M X tgt lv st h k n) (K2 : ∀ a, x = some a → Go M X (pc + 3) lv st h k n) : Go M X pc lv (va_rf x :: st) h k n := by
  obtain ⟨G, ⟨p, l, e, R, s, m, args, below, meth, c⟩, Q⟩ := X
  intro ok ls H locs hl hR hq
  cases x with
  | none => exact lv_ifnullN ok.1 ok.2.1 hd ht (K1 rfl ok ls H locs hl hR hq)
  | some a => exact lv_ifnull ok.1 ok.2.1 hd (K2 a rfl ok ls H locs hl hR hq)
theorem g_ifnonnull {M : MM} {X : Xr} {pc : Nat} {lv : List (Option Value)} {st : List Value} {h : Hp} {k n : Nat} {off : Int} {tgt : Nat} {x : Option Nat} (hd : decode (mB M) pc = .ok (.ifnonnull off, 3)) (ht : (pc : Int) + off = (tgt : Int)) (K1 : ∀ a, x = some a → Go M X tgt lv st h k n) (K2 : x = none → Go M X (pc + 3) lv st h k n) : Go M X pc lv (va_rf x :: st) h k n := by
  obtain ⟨G, ⟨p, l, e, R, s, m, args, below, meth, c⟩, Q⟩ := X
  intro ok ls H locs hl hR hq
  cases x with
  | none => exact lv_ifnonnullN ok.1 ok.2.1 hd (K2 rfl ok ls H locs hl hR hq)
  | some a => exact lv_ifnonnull ok.1 ok.2.1 hd ht (K1 a rfl ok ls H locs hl hR hq)
theorem g_lcmp {M : MM} {X : Xr} {pc : Nat} {lv : List (Option Value)} {st : List Value} {h : Hp} {k n : Nat} {x y : Int64} (hd : decode (mB M) pc = .ok (.lcmp, 1)) (K : Go M X (pc + 1) lv (.int (lg_cmp x y) :: st) h k n) : Go M X pc lv (.long y :: .long x :: st) h k n := by
  obtain ⟨G, ⟨p, l, e, R, s, m, args, below, meth, c⟩, Q⟩ := X
  intro ok ls H locs hl hR hq
  exact W.lcmp ok.1 ok.2.1 hd (K ok ls H locs hl hR hq)
theorem g_tabOut {M : MM} {X : Xr} {pc : Nat} {lv : List (Option Value)} {st : List Value} {h : Hp} {k n : Nat} {d lo hi : Int} {offs : Array Int} {len : Nat} {x : Int32} {tgt : Nat} (hd : decode (mB M) pc = .ok (.tableswitch d lo hi offs, len)) (hx : x.toInt < lo ∨ hi < x.toInt) (ht : (pc : Int) + d = (tgt : Int)) (K : Go M X tgt lv st h k n) : Go M X pc lv (.int x :: st) h k n := by
  obtain ⟨G, ⟨p, l, e, R, s, m, args, below, meth, c⟩, Q⟩ := X
  intro ok ls H locs hl hR hq
  exact lv_tableOut ok.1 ok.2.1 hd hx ht (K ok ls H locs hl hR hq)
theorem g_tabIn {M : MM} {X : Xr} {pc : Nat} {lv : List (Option Value)} {st : List Value} {h : Hp} {k n : Nat} {d lo hi : Int} {offs : Array Int} {len : Nat} {x : Int32} {off : Int} {tgt : Nat} (hd : decode (mB M) pc = .ok (.tableswitch d lo hi offs, len)) (h1 : ¬ x.toInt < lo) (h2 : ¬ hi < x.toInt) (ho : offs[(x.toInt - lo).toNat]? = some off) (ht : (pc : Int) + off = (tgt : Int)) (K : Go M X tgt lv st h k n) : Go M X pc lv (.int x :: st) h k n := by
  obtain ⟨G, ⟨p, l, e, R, s, m, args, below, meth, c⟩, Q⟩ := X
  intro ok ls H locs hl hR hq
  exact lv_tableIn ok.1 ok.2.1 hd h1 h2 ho ht (K ok ls H locs hl hR hq)
theorem g_lookup {M : MM} {X : Xr} {pc : Nat} {lv : List (Option Value)} {st : List Value} {h : Hp} {k n : Nat} {d : Int} {ps : Array (Int × Int)} {len : Nat} {x : Int32} {off : Int} {tgt : Nat} (hd : decode (mB M) pc = .ok (.lookupswitch d ps, len)) (hp : (ps.toList.zip (ps.toList.drop 1)).all (fun (a, next) => a.1 < next.1) = true) (ho : Op.lookupswitch.offset ps.toList d x.toInt = off) (ht : (pc : Int) + off = (tgt : Int)) (K : Go M X tgt lv st h k n) : Go M X pc lv (.int x :: st) h k n := by
  obtain ⟨G, ⟨p, l, e, R, s, m, args, below, meth, c⟩, Q⟩ := X
  intro ok ls H locs hl hR hq
  exact lv_lookup ok.1 ok.2.1 hd hp ho ht (K ok ls H locs hl hR hq)
/-- a name for what lies on top -/
theorem g_topi {M : MM} {X : Xr} {pc : Nat} {lv : List (Option Value)} {st : List Value} {h : Hp} {k n : Nat} {x : Int32} (K : ∀ y : Int32, y = x → Go M X pc lv (.int y :: st) h k n) : Go M X pc lv (.int x :: st) h k n := K x rfl
theorem g_topl {M : MM} {X : Xr} {pc : Nat} {lv : List (Option Value)} {st : List Value} {h : Hp} {k n : Nat} {x : Int64} (K : ∀ y : Int64, y = x → Go M X pc lv (.long y :: st) h k n) : Go M X pc lv (.long x :: st) h k n := K x rfl
theorem g_eqi {M : MM} {X : Xr} {pc : Nat} {lv : List (Option Value)} {st : List Value} {h : Hp} {k n : Nat} {x y : Int32} (e : x = y) (K : Go M X pc lv (.int y :: st) h k n) : Go M X pc lv (.int x :: st) h k n := e ▸ K
theorem g_eql {M : MM} {X : Xr} {pc : Nat} {lv : List (Option Value)} {st : List Value} {h : Hp} {k n : Nat} {x y : Int64} (e : x = y) (K : Go M X pc lv (.long y :: st) h k n) : Go M X pc lv (.long x :: st) h k n := e ▸ K
theorem g_eqr {M : MM} {X : Xr} {pc : Nat} {lv : List (Option Value)} {st : List Value} {h : Hp} {k n : Nat} {x : Option Nat} {a : Nat} (e : x = some a) (K : Go M X pc lv (.ref a :: st) h k n) : Go M X pc lv (va_rf x :: st) h k n := by subst e; exact K
theorem g_eqn {M : MM} {X : Xr} {pc : Nat} {lv : List (Option Value)} {st : List Value} {h : Hp} {k n : Nat} {x : Option Nat} (e : x = none) (K : Go M X pc lv (.null :: st) h k n) : Go M X pc lv (va_rf x :: st) h k n := by subst e; exact K
theorem g_wide {M : MM} {X : Xr} {pc : Nat} {lv : List (Option Value)} {st : List Value} {h : Hp} {k n : Nat} {k' n' : Nat} (h1 : k ≤ k') (h2 : n ≤ n') (K : Go M X pc lv st h k' n') : Go M X pc lv st h k n := by
  obtain ⟨G, ⟨p, l, e, R, s, m, args, below, meth, c⟩, Q⟩ := X
  intro ok ls H locs hl hR hq
  exact W.widen h1 h2 (K ok ls H locs hl hR hq)
