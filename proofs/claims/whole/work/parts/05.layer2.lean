/-! cells -/
theorem Rf.set {G : Gx} {h h' : Hp} {H H' : Heap} {a : Nat} {kd : Nat × Nat} (R : Rf G h H) (hs : hS h a = some kd) (hS' : hS h' = hS h) (hoff : ∀ b, b ≠ a → hI h' b = hI h b ∧ hL h' b = hL h b ∧ hR h' b = hR h b) {c' : Cell} (hc' : H'[a]? = some c') (hok : okC G (hI h' a) (hL h' a) (hR h' a) kd c') (hsz : H'.size = H.size) (ho : ∀ q, q ≠ a → H'[q]? = H[q]?) : Rf G h' H' ∧ G.1.heap.size ≤ a := by
  obtain ⟨c, hc, -, hB⟩ := R.1 a kd hs
  have hlt : a < H.size := (Array.getElem?_eq_some_iff.mp hc).1
  refine ⟨⟨fun b kd' hb => ?_, fun b hb => ?_, fun q hq => ?_, by rw [hsz]; exact R.2.2.2⟩, hB⟩
  · by_cases e : b = a
    · subst e
      rw [hS', hs] at hb
      cases hb
      exact ⟨c', hc', hok, hB⟩
    · obtain ⟨c2, e1, e2, e3⟩ := R.1 b kd' (by rw [← hS']; exact hb)
      obtain ⟨f1, f2, f3⟩ := hoff b e
      exact ⟨c2, (ho b e).trans e1, by rw [f1, f2, f3]; exact e2, e3⟩
  · have e : b ≠ a := by omega
    obtain ⟨f1, f2, f3⟩ := hoff b e
    rw [f1, f2, f3]
    exact R.2.1 b (by omega)
  · rw [ho q (by omega)]
    exact R.2.2.1 q hq
theorem Rf.push {G : Gx} {h : Hp} {H H' : Heap} {kd : Nat × Nat} (R : Rf G h H) {c' : Cell} (hc' : H'[H.size]? = some c') (hok : okC G (fun _ => 0) (fun _ => 0) (fun _ => none) kd c') (hsz : H'.size = H.size + 1) (ho : ∀ q, q < H.size → H'[q]? = H[q]?) :
    Rf G (pN h H.size kd) H' ∧ hS h H.size = none ∧ (∀ j, hI h H.size j = 0) ∧ (∀ j, hL h H.size j = 0) ∧ (∀ j, hR h H.size j = none) := by
  obtain ⟨z1, z2, z3⟩ := R.2.1 H.size (Nat.le_refl _)
  have hn : hS h H.size = none := by
    cases hx : hS h H.size with
    | none => rfl
    | some kd =>
      obtain ⟨c, hc, -⟩ := R.1 _ _ hx
      have := (Array.getElem?_eq_some_iff.mp hc).1
      omega
  refine ⟨⟨fun b kd' hb => ?_, fun b hb => R.2.1 b (by omega), fun q hq => ?_, by have := R.2.2.2; omega⟩, hn, z1, z2, z3⟩
  · by_cases e : b = H.size
    · subst e
      have hb2 : some kd = some kd' := by
        have := hb
        simp only [hS, pN, if_pos] at this
        exact this
      cases hb2
      refine ⟨c', hc', ?_, R.2.2.2⟩
      have e1 : hI (pN h H.size kd) H.size = fun _ => 0 := funext z1
      have e2 : hL (pN h H.size kd) H.size = fun _ => 0 := funext z2
      have e3 : hR (pN h H.size kd) H.size = fun _ => none := funext z3
      rw [e1, e2, e3]
      exact hok
    · have hb2 : hS h b = some kd' := by
        have := hb
        simp only [hS, pN, if_neg e] at this
        exact this
      obtain ⟨c2, e1, e2, e3⟩ := R.1 b kd' hb2
      have hlt : b < H.size := (Array.getElem?_eq_some_iff.mp e1).1
      exact ⟨c2, (ho b hlt).trans e1, e2, e3⟩
  · rw [ho q (by have := R.2.2.2; omega)]
    exact R.2.2.1 q hq
theorem fvI {i : Nat → Int32} {l : Nat → Int64} {r : Nat → Option Nat} {k : Nat} (d : Nat → String) (hd : d k = "I" ∨ d k = "Z") (x : Int32) (j : Nat) : fv (va_up i k x) l r j (d j) = updV (fun j => fv i l r j (d j)) k (.int x) j := by
  by_cases e : j = k
  · subst e
    have h1 : d j ≠ "J" := by rcases hd with q | q <;> rw [q] <;> decide
    simp [fv, updV, va_up, h1, hd]
  · simp [fv, updV, va_up, e]
theorem fvL {i : Nat → Int32} {l : Nat → Int64} {r : Nat → Option Nat} {k : Nat} (d : Nat → String) (hd : d k = "J") (x : Int64) (j : Nat) : fv i (va_up l k x) r j (d j) = updV (fun j => fv i l r j (d j)) k (.long x) j := by
  by_cases e : j = k
  · subst e
    simp [fv, updV, va_up, hd]
  · simp [fv, updV, va_up, e]
theorem fvR {i : Nat → Int32} {l : Nat → Int64} {r : Nat → Option Nat} {k : Nat} (d : Nat → String) (hd : ¬ d k = "J" ∧ ¬ (d k = "I" ∨ d k = "Z")) (x : Option Nat) (j : Nat) : fv i l (va_up r k x) j (d j) = updV (fun j => fv i l r j (d j)) k (va_rf x) j := by
  by_cases e : j = k
  · subst e
    simp [fv, updV, va_up, hd.1, hd.2]
  · simp [fv, updV, va_up, e]
/-- a field's entry in the pool of M's class -/
def FL (own : String) (idx ci k : Nat) (t : String) : Prop := ∃ (q : vw_C) (ref : String), zCL[ci]? = some q ∧ k < q.2.2 ∧ (q.2.1 k).2.2.1 = t ∧ (ref = (q.2.1 k).1 ∨ Cond.sameField ref (q.2.1 k).1 (q.2.1 k).2.1 (q.2.1 k).2.2.1 ∈ lw_tbl) ∧ (Cond.fieldLink own idx ref (q.2.1 k).2.1 (q.2.1 k).2.2.1 ∈ lw_tbl ∨ ∃ host, Cond.fieldLinkNest own idx ref (q.2.1 k).2.1 (q.2.1 k).2.2.1 host ∈ lw_tbl)
theorem ok_w {G : Gx} {s : State} {A0 args : Array Value} (hw : ∀ w ∈ lw_tbl, w.before A0 G.1 = true) (hW : G.1.WarmedH s.vm) {w : Cond} (hin : w ∈ lw_tbl) (hg : goodWord w = true) : w.before args s = true := word_at hW (good_of_word hg) (hw w hin)
theorem ok_fn {G : Gx} {s : State} {A0 args : Array Value} (hw : ∀ w ∈ lw_tbl, w.before A0 G.1 = true) (hW : G.1.WarmedH s.vm) {a : String} {i : Nat} {b n d h : String} (hin : Cond.fieldLinkNest a i b n d h ∈ lw_tbl) : (Cond.fieldLinkNest a i b n d h).before args s = true := va_Nw.use rfl (va_Nw.warmF hW (va_Nw.of rfl (hw _ hin)))
theorem ok_mn {G : Gx} {s : State} {A0 args : Array Value} (hw : ∀ w ∈ lw_tbl, w.before A0 G.1 = true) (hW : G.1.WarmedH s.vm) {a : String} {i : Nat} {x : MethodName} {h : String} (hin : Cond.methodLinkNest a i x h ∈ lw_tbl) : (Cond.methodLinkNest a i x h).before args s = true := va_Nw.use rfl (va_Nw.warmM hW (va_Nw.of rfl (hw _ hin)))
theorem okO_c {G : Gx} {h : Hp} {H : Heap} {a ci z : Nat} (R : Rf G h H) (hs : hS h a = some (ci + 10, z)) {q : vw_C} (hq : zCL[ci]? = some q) : ∃ c : Cell, H[a]? = some c ∧ c.cls = G.2.1.1 ci ∧ c.vm = .none ∧ ∀ k, k < q.2.2 → c.slots[G.2.1.2 ci k]? = some (fv (hI h a) (hL h a) (hR h a) k (q.2.1 k).2.2.1) := by
  obtain ⟨c, hc, hok, -⟩ := R.1 a _ hs
  obtain ⟨q', hq', e1, e2, e3⟩ := hok.2.2.2.2 ci rfl
  cases hq.symm.trans hq'
  exact ⟨c, hc, e1, e2, e3⟩
section HR
variable {M : MM} {X : Xr} {pc : Nat} {lv : List (Option Value)} {st : List Value} {h : Hp} {k n : Nat}
theorem g_get {idx ci kf a z : Nat} {t : String} (hd : decode (mB M) pc = .ok (.getfield idx, 3)) (hf : FL (mO M) idx ci kf t) (hs : hS h a = some (ci + 10, z)) (K : Go M X (pc + 3) lv (fv (hI h a) (hL h a) (hR h a) kf t :: st) h k n) : Go M X pc lv (.ref a :: st) h k n := by
  obtain ⟨G, ⟨p, l, e, R, s, m, args, below, meth, c⟩, Q⟩ := X
  intro ok ls H locs hl hRf hq
  obtain ⟨q, ref, hq1, hk, rfl, hsm, hlk⟩ := hf
  obtain ⟨cc, hc, e1, e2, e3⟩ := okO_c hRf hs hq1
  obtain ⟨o1, o2, o3, o4, o5, o6, o7, hW, A0, hw, hcl, hst⟩ := id ok
  obtain ⟨hKn, hin, -, -⟩ := hcl ci q hq1
  obtain ⟨hSl, hfc, kC, hkC, hkind⟩ := u_Kn_moved hW.alike hKn
  obtain ⟨cf, kf', fi, f, hi, hsl⟩ := hSl kf hk
  have hlay := (u_lays hw hin hk).imp (word_at (a' := args) (U := s) hW (Or.inl rfl)) (word_at (a' := args) (U := s) hW (Or.inl rfl))
  have hsta := (u_facts hfc hkC hlay hi).1
  have hi2 : s.fieldFound? ref (q.2.1 kf).2.1 (q.2.1 kf).2.2.1 = some (cf, kf', fi, f) := by
    rcases hsm with rfl | hsm
    · exact hi
    · exact u_same (ok_w (args := args) hw hW hsm rfl) _ hi
  have hsv : cc.slots[f.slot]? = some (fv (hI h a) (hL h a) (hR h a) kf (q.2.1 kf).2.2.1) := by rw [hsl]; exact e3 kf hk
  rcases hlk with hlk | ⟨host, hlk⟩
  · exact W.getf o1 o2 o4 (ok_w hw hW hlk rfl) hi2 hsta hc (by rw [e2]; exact fun z => by cases z) hsv rfl rfl hd (K ok ls H locs hl hRf hq)
  · exact va_Wgetf o1 o2 o4 (ok_fn hw hW hlk) hi2 hsta hc (by rw [e2]; exact fun z => by cases z) hsv rfl rfl hd (K ok ls H locs hl hRf hq)
theorem g_getI {idx ci kf a z : Nat} (hd : decode (mB M) pc = .ok (.getfield idx, 3)) (hf : FL (mO M) idx ci kf "I") (hs : hS h a = some (ci + 10, z)) (K : Go M X (pc + 3) lv (.int (hI h a kf) :: st) h k n) : Go M X pc lv (.ref a :: st) h k n := g_get hd hf hs K
theorem g_getZ {idx ci kf a z : Nat} (hd : decode (mB M) pc = .ok (.getfield idx, 3)) (hf : FL (mO M) idx ci kf "Z") (hs : hS h a = some (ci + 10, z)) (K : Go M X (pc + 3) lv (.int (hI h a kf) :: st) h k n) : Go M X pc lv (.ref a :: st) h k n := g_get hd hf hs K
theorem g_getJ {idx ci kf a z : Nat} (hd : decode (mB M) pc = .ok (.getfield idx, 3)) (hf : FL (mO M) idx ci kf "J") (hs : hS h a = some (ci + 10, z)) (K : Go M X (pc + 3) lv (.long (hL h a kf) :: st) h k n) : Go M X pc lv (.ref a :: st) h k n := g_get hd hf hs K
theorem g_getR {idx ci kf a z : Nat} {t : String} (hd : decode (mB M) pc = .ok (.getfield idx, 3)) (hf : FL (mO M) idx ci kf t) (hs : hS h a = some (ci + 10, z)) (ht : ¬ t = "J" ∧ ¬ (t = "I" ∨ t = "Z")) (K : Go M X (pc + 3) lv (va_rf (hR h a kf) :: st) h k n) : Go M X pc lv (.ref a :: st) h k n := g_get hd hf hs (by simp only [fv, if_neg ht.1, if_neg ht.2]; exact K)
/-- a store into a field; fin: of a final one, in its constructor -/
def FinOk (M : MM) (ci kf : Nat) : Prop := ∃ q : vw_C, zCL[ci]? = some q ∧ ((q.2.1 kf).2.2.2 = false ∨ ((q.2.1 kf).2.2.2 = true ∧ (mY M).name = "<init>" ∧ (q.2.1 kf).1 = mO M))
theorem g_put {idx ci kf a z : Nat} {t : String} {v : Value} {h' : Hp} (hd : decode (mB M) pc = .ok (.putfield idx, 3)) (hf : FL (mO M) idx ci kf t) (hfin : FinOk M ci kf) (hs : hS h a = some (ci + 10, z)) {ty : FieldType} (hty : parseFieldDescriptor t = some ty) (hn : narrow ty v = v) (hfit : fits ty v = true)
    (hS' : hS h' = hS h) (hoff : ∀ b, b ≠ a → hI h' b = hI h b ∧ hL h' b = hL h b ∧ hR h' b = hR h b) (hnew : ∀ (d : Nat → String), d kf = t → ∀ j, fv (hI h' a) (hL h' a) (hR h' a) j (d j) = updV (fun j => fv (hI h a) (hL h a) (hR h a) j (d j)) kf v j) (K : Go M X (pc + 3) lv st h' k n) : Go M X pc lv (v :: .ref a :: st) h k n := by
  obtain ⟨G, ⟨p, l, e, R, s, m, args, below, meth, c⟩, Q⟩ := X
  intro ok ls H locs hl hRf hq
  obtain ⟨q, ref, hq1, hk, rfl, hsm, hlk⟩ := hf
  obtain ⟨cc, hc, e1, e2, e3⟩ := okO_c hRf hs hq1
  obtain ⟨o1, o2, o3, o4, o5, o6, o7, hW, A0, hw, hcl, hst⟩ := id ok
  obtain ⟨hKn, hin, -, hap⟩ := hcl ci q hq1
  obtain ⟨hSl, hfc, kC, hkC, hkind⟩ := u_Kn_moved hW.alike hKn
  obtain ⟨cf, kf', fi, f, hi, hsl⟩ := hSl kf hk
  have hlay := (u_lays hw hin hk).imp (word_at (a' := args) (U := s) hW (Or.inl rfl)) (word_at (a' := args) (U := s) hW (Or.inl rfl))
  have hsta := (u_facts hfc hkC hlay hi).1
  have hfits := u_fits hfc hkC hkind hlay hi hty hn hfit
  have hi2 : s.fieldFound? ref (q.2.1 kf).2.1 (q.2.1 kf).2.2.1 = some (cf, kf', fi, f) := by
    rcases hsm with rfl | hsm
    · exact hi
    · exact u_same (ok_w (args := args) hw hW hsm rfl) _ hi
  have hfx : hasFlag f.accessFlags Acc.final = false ∨ (m.cls = cf ∧ meth.name = "<init>") := by
    obtain ⟨q2, hq2, hfin⟩ := hfin
    cases hq1.symm.trans hq2
    rcases hfin with hfin | ⟨hf0, hi1, hdecl⟩
    · left
      have hl2 := hw _ (hin _ (u_in_lay hk))
      unfold u_lay at hl2
      rw [if_neg (by rw [hfin]; decide)] at hl2
      exact (u_store hfc hkC hkind (word_at (a' := args) (U := s) hW (Or.inl rfl) hl2) hi hty hn hfit).1
    · right
      refine ⟨?_, by rw [o7]; exact hi1⟩
      have hl2 := hw _ (hin _ (u_in_lay hk))
      unfold u_lay at hl2
      rw [if_pos hf0] at hl2
      obtain ⟨_, _, c', _, _, _, -, -, hf', -, -, -, hown2, -⟩ := Cond.laysFinal_spec (word_at (a' := args) (U := s) hW (Or.inl rfl) hl2)
      have e1 : c' = cf := by have := hi.symm.trans hf'; simp at this; exact this.1.symm
      rw [hdecl] at hown2
      rw [← e1]; exact Option.some.inj (o4.symm.trans hown2)
  have hlt : f.slot < cc.slots.size := by rw [hsl]; exact k2_hasslot (e3 kf hk)
  have ha : a < H.size := (Array.getElem?_eq_some_iff.mp hc).1
  have hc' : (H.setIfInBounds a (cc.setSlot f.slot v))[a]? = some (cc.setSlot f.slot v) := by simp [Array.getElem?_setIfInBounds, ha]
  have ho : ∀ q, q ≠ a → (H.setIfInBounds a (cc.setSlot f.slot v))[q]? = H[q]? := fun q hq => by simp [Array.getElem?_setIfInBounds, Ne.symm hq]
  have hR2 := hRf.set (H' := H.setIfInBounds a (cc.setSlot f.slot v)) hs hS' hoff hc' ⟨fun z => by simp at z, fun z => by simp at z, fun z => by simp at z, fun _ z => by simp at z, fun ci' z => by
    have : ci' = ci := by simp at z; omega
    subst this
    refine ⟨q, hq1, e1, e2, fun j hj => ?_⟩
    rw [hnew (fun j => (q.2.1 j).2.2.1) rfl j, hsl]
    exact t_set e3 (fun x y hx hy => hap x y hx hy) hk v j hj⟩ (by simp) ho
  have hfitS : s.fitsSlot cc.cls cc.vm f.slot v = true := by
    have := hfits.2
    rw [e2, e1]
    exact this
  have hlocs : ∀ q ∈ locs ++ [⟨a, f.slot⟩], G.1.heap.size ≤ q.base := by
    intro q hq2
    rcases List.mem_append.mp hq2 with z | z
    · exact hq q z
    · rcases List.mem_singleton.mp z with rfl
      exact hR2.2
  rcases hlk with hlk | ⟨host, hlk⟩
  · exact W.putf o1 o2 o4 (ok_w hw hW hlk rfl) hi2 hsta hfx hc (by rw [e2]; exact fun z => by cases z) hlt hfits.1 hfitS rfl rfl hd (K ok ls _ _ hl hR2.1 hlocs)
  · exact va_Wputf o1 o2 o4 (ok_fn hw hW hlk) hi2 hsta hfx hc (by rw [e2]; exact fun z => by cases z) hlt hfits.1 hfitS rfl rfl hd (K ok ls _ _ hl hR2.1 hlocs)
theorem off_I (h : Hp) (a j : Nat) (x : Int32) : ∀ b, b ≠ a → hI (pI h a j x) b = hI h b ∧ hL (pI h a j x) b = hL h b ∧ hR (pI h a j x) b = hR h b := fun b hb => ⟨up2_off _ _ _ hb, rfl, rfl⟩
theorem off_L (h : Hp) (a j : Nat) (x : Int64) : ∀ b, b ≠ a → hI (pL h a j x) b = hI h b ∧ hL (pL h a j x) b = hL h b ∧ hR (pL h a j x) b = hR h b := fun b hb => ⟨rfl, up2_off _ _ _ hb, rfl⟩
theorem off_R (h : Hp) (a j : Nat) (x : Option Nat) : ∀ b, b ≠ a → hI (pR h a j x) b = hI h b ∧ hL (pR h a j x) b = hL h b ∧ hR (pR h a j x) b = hR h b := fun b hb => ⟨rfl, rfl, up2_off _ _ _ hb⟩
theorem g_putI {idx ci kf a z : Nat} {x : Int32} (hd : decode (mB M) pc = .ok (.putfield idx, 3)) (hf : FL (mO M) idx ci kf "I") (hfin : FinOk M ci kf) (hs : hS h a = some (ci + 10, z)) (K : Go M X (pc + 3) lv st (pI h a kf x) k n) : Go M X pc lv (.int x :: .ref a :: st) h k n :=
  g_put (h' := pI h a kf x) hd hf hfin hs (ty := .int) (by decide +kernel) rfl rfl rfl (off_I h a kf x) (fun d hdk j => by
    show fv (up2 (hI h) a kf x a) _ _ _ _ = _
    rw [up2_same]
    exact fvI d (Or.inl hdk) x j) K
theorem g_putZ {idx ci kf a z : Nat} {x : Int32} (hd : decode (mB M) pc = .ok (.putfield idx, 3)) (hf : FL (mO M) idx ci kf "Z") (hfin : FinOk M ci kf) (hs : hS h a = some (ci + 10, z)) (hx : x = 0 ∨ x = 1) (K : Go M X (pc + 3) lv st (pI h a kf x) k n) : Go M X pc lv (.int x :: .ref a :: st) h k n :=
  g_put (h' := pI h a kf x) hd hf hfin hs (ty := .boolean) (by decide +kernel) (by rcases hx with rfl | rfl <;> rfl) (by rcases hx with rfl | rfl <;> rfl) rfl (off_I h a kf x) (fun d hdk j => by
    show fv (up2 (hI h) a kf x a) _ _ _ _ = _
    rw [up2_same]
    exact fvI d (Or.inr hdk) x j) K
theorem g_putJ {idx ci kf a z : Nat} {x : Int64} (hd : decode (mB M) pc = .ok (.putfield idx, 3)) (hf : FL (mO M) idx ci kf "J") (hfin : FinOk M ci kf) (hs : hS h a = some (ci + 10, z)) (K : Go M X (pc + 3) lv st (pL h a kf x) k n) : Go M X pc lv (.long x :: .ref a :: st) h k n :=
  g_put (h' := pL h a kf x) hd hf hfin hs (ty := .long) (by decide +kernel) rfl rfl rfl (off_L h a kf x) (fun d hdk j => by
    show fv _ (up2 (hL h) a kf x a) _ _ _ = _
    rw [up2_same]
    exact fvL d hdk x j) K
theorem g_putR {idx ci kf a z : Nat} {t : String} {x : Option Nat} (hd : decode (mB M) pc = .ok (.putfield idx, 3)) (hf : FL (mO M) idx ci kf t) (hfin : FinOk M ci kf) (hs : hS h a = some (ci + 10, z)) (ht : ¬ t = "J" ∧ ¬ (t = "I" ∨ t = "Z")) {ty : FieldType} (hty : parseFieldDescriptor t = some ty) (hrt : (∃ n, ty = .object n) ∨ ∃ u, ty = .array u) (K : Go M X (pc + 3) lv st (pR h a kf x) k n) : Go M X pc lv (va_rf x :: .ref a :: st) h k n :=
  g_put (h' := pR h a kf x) hd hf hfin hs hty (by rcases hrt with ⟨_, rfl⟩ | ⟨_, rfl⟩ <;> cases x <;> rfl) (by rcases hrt with ⟨_, rfl⟩ | ⟨_, rfl⟩ <;> cases x <;> rfl) rfl (off_R h a kf x) (fun d hdk j => by
    show fv _ _ (up2 (hR h) a kf x a) _ _ = _
    rw [up2_same]
    exact fvR d (by rw [hdk]; exact ht) x j) K
end HR
