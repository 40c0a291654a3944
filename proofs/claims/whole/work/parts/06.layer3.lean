/-! rows of values -/
section AR
variable {M : MM} {X : Xr} {pc : Nat} {lv : List (Option Value)} {st : List Value} {h : Hp} {k n : Nat}
theorem nI_out {j N : Nat} (hj : j < N) (hb : j < 2147483648) : ¬ (nI j < 0 ∨ N ≤ (nI j).toNatClampNeg) := by
  rw [nI_clamp hb]
  intro z
  rcases z with z | z
  · exact nI_pos hb z
  · omega
theorem g_iald {a j N : Nat} {x : Int32} (hd : decode (mB M) pc = .ok (.iaload, 1)) (hs : hS h a = some (0, N)) (hx : x = nI j) (hj : j < N) (hb : j < 2147483648) (K : Go M X (pc + 1) lv (.int (hI h a j) :: st) h k n) : Go M X pc lv (.int x :: .ref a :: st) h k n := by
  obtain ⟨G, ⟨p, l, e, R, s, m, args, below, meth, c⟩, Q⟩ := X
  intro ok ls H locs hl hRf hq
  obtain ⟨o1, o2, o3, o4, o5, o6, o7, hW, -⟩ := id ok
  obtain ⟨cc, hc, hok, -⟩ := hRf.1 a _ hs
  obtain ⟨a1, a2, a3, a4⟩ := hok.1 rfl
  subst hx
  exact W.iald o1 o2 hc (State.isArrayOf_alike hW.alike a2) a1 (by rw [a3]; exact nI_out hj hb) (by rw [nI_clamp hb]; exact a4 j hj) rfl rfl hd (K ok ls H locs hl hRf hq)
/-- a constant row -/
theorem g_cald {t j : Nat} {x : Int32} (hd : decode (mB M) pc = .ok (.iaload, 1)) (ht : (1 ≤ t ∧ t ≤ 3) ∨ t = 9) (hx : x = nI j) (hj : j < kLen X.1 t) (hb : j < 2147483648) (K : Go M X (pc + 1) lv (.int (kTab X.1 t j) :: st) h k n) : Go M X pc lv (.int x :: .ref (gK X.1 t) :: st) h k n := by
  obtain ⟨G, ⟨p, l, e, R, s, m, args, below, meth, c⟩, Q⟩ := X
  intro ok ls H locs hl hRf hq
  obtain ⟨o1, o2, o3, o4, o5, o6, o7, hW, A0, hw, hcl, hz⟩ := id ok
  obtain ⟨cc, hc, a1, a2, a3, a4⟩ := hz.2.2.2.2.1 t ht
  have hc' : H[gK G t]? = some cc := by rw [hRf.2.2.1 _ (Array.getElem?_eq_some_iff.mp hc).1]; exact hc
  subst hx
  exact W.iald o1 o2 hc' (State.isArrayOf_alike hW.alike a2) a1 (by rw [a3]; exact nI_out hj hb) (by rw [nI_clamp hb]; exact a4 j hj) rfl rfl hd (K ok ls H locs hl hRf hq)
theorem g_clen {t : Nat} (hd : decode (mB M) pc = .ok (.arraylength, 1)) (ht : (1 ≤ t ∧ t ≤ 3) ∨ t = 9) (K : Go M X (pc + 1) lv (.int (nI (kLen X.1 t)) :: st) h k n) : Go M X pc lv (.ref (gK X.1 t) :: st) h k n := by
  obtain ⟨G, ⟨p, l, e, R, s, m, args, below, meth, c⟩, Q⟩ := X
  intro ok ls H locs hl hRf hq
  obtain ⟨o1, o2, o3, o4, o5, o6, o7, hW, A0, hw, hcl, hz⟩ := id ok
  obtain ⟨cc, hc, a1, a2, a3, a4⟩ := hz.2.2.2.2.1 t ht
  have hc' : H[gK G t]? = some cc := by rw [hRf.2.2.1 _ (Array.getElem?_eq_some_iff.mp hc).1]; exact hc
  exact W.alen o1 o2 hc' (State.isArrayOf_alike hW.alike a2) (by rw [a3]; rfl) rfl rfl hd (K ok ls H locs hl hRf hq)
theorem g_elen (hd : decode (mB M) pc = .ok (.arraylength, 1)) (K : Go M X (pc + 1) lv (.int 0 :: st) h k n) : Go M X pc lv (.ref (gK X.1 0) :: st) h k n := by
  obtain ⟨G, ⟨p, l, e, R, s, m, args, below, meth, c⟩, Q⟩ := X
  intro ok ls H locs hl hRf hq
  obtain ⟨o1, o2, o3, o4, o5, o6, o7, hW, A0, hw, hcl, hz⟩ := id ok
  obtain ⟨cc, hc, a1, a2, a3, a4⟩ := hz.2.2.2.2.2.1
  have hc' : H[gK G 0]? = some cc := by rw [hRf.2.2.1 _ (Array.getElem?_eq_some_iff.mp hc).1]; exact hc
  exact W.alen o1 o2 hc' (State.isArrayOf_alike hW.alike a2) (by rw [a3]; rfl) rfl rfl hd (K ok ls H locs hl hRf hq)
theorem g_lald {a j N : Nat} {x : Int32} (hd : decode (mB M) pc = .ok (.laload, 1)) (hs : hS h a = some (1, N)) (hx : x = nI j) (hj : j < N) (hb : j < 2147483648) (K : Go M X (pc + 1) lv (.long (hL h a j) :: st) h k n) : Go M X pc lv (.int x :: .ref a :: st) h k n := by
  obtain ⟨G, ⟨p, l, e, R, s, m, args, below, meth, c⟩, Q⟩ := X
  intro ok ls H locs hl hRf hq
  obtain ⟨o1, o2, o3, o4, o5, o6, o7, hW, -⟩ := id ok
  obtain ⟨cc, hc, hok, -⟩ := hRf.1 a _ hs
  obtain ⟨a1, a2, a3, a4⟩ := hok.2.1 rfl
  subst hx
  exact W.lald o1 o2 hc (State.isArrayOf_alike hW.alike a2) a1 (by rw [a3]; exact nI_out hj hb) (by rw [nI_clamp hb]; exact a4 j hj) rfl rfl hd (K ok ls H locs hl hRf hq)
theorem g_zald {a j N : Nat} {x : Int32} (hd : decode (mB M) pc = .ok (.baload, 1)) (hs : hS h a = some (2, N)) (hx : x = nI j) (hj : j < N) (hb : j < 2147483648) (K : Go M X (pc + 1) lv (.int (hI h a j) :: st) h k n) : Go M X pc lv (.int x :: .ref a :: st) h k n := by
  obtain ⟨G, ⟨p, l, e, R, s, m, args, below, meth, c⟩, Q⟩ := X
  intro ok ls H locs hl hRf hq
  obtain ⟨o1, o2, o3, o4, o5, o6, o7, hW, -⟩ := id ok
  obtain ⟨cc, hc, hok, -⟩ := hRf.1 a _ hs
  obtain ⟨a1, a2, a3, a4⟩ := hok.2.2.1 rfl
  subst hx
  exact W.zald o1 o2 hc (State.isArrayOf_alike hW.alike a2) a1 (by rw [a3]; exact nI_out hj hb) (by rw [nI_clamp hb]; exact a4 j hj) rfl rfl hd (K ok ls H locs hl hRf hq)
theorem g_aald {a j N t : Nat} {x : Int32} (hd : decode (mB M) pc = .ok (.aaload, 1)) (hs : hS h a = some (t, N)) (ht : 3 ≤ t ∧ t ≤ 5) (hx : x = nI j) (hj : j < N) (hb : j < 2147483648) (K : Go M X (pc + 1) lv (va_rf (hR h a j) :: st) h k n) : Go M X pc lv (.int x :: .ref a :: st) h k n := by
  obtain ⟨G, ⟨p, l, e, R, s, m, args, below, meth, c⟩, Q⟩ := X
  intro ok ls H locs hl hRf hq
  obtain ⟨o1, o2, o3, o4, o5, o6, o7, hW, -⟩ := id ok
  obtain ⟨cc, hc, hok, -⟩ := hRf.1 a _ hs
  obtain ⟨a1, a2, a3, a4⟩ := (hok.2.2.2.1 ht.1 ht.2).A
  subst hx
  exact W.aald o1 o2 hc (State.isArrayOf_alike hW.alike a2) rfl a1 (by rw [a3]; exact nI_out hj hb) (by rw [nI_clamp hb]; exact a4 j hj) rfl rfl hd (K ok ls H locs hl hRf hq)
theorem g_alen {a N t : Nat} (hd : decode (mB M) pc = .ok (.arraylength, 1)) (hs : hS h a = some (t, N)) (ht : t ≤ 5) (K : Go M X (pc + 1) lv (.int (nI N) :: st) h k n) : Go M X pc lv (.ref a :: st) h k n := by
  obtain ⟨G, ⟨p, l, e, R, s, m, args, below, meth, c⟩, Q⟩ := X
  intro ok ls H locs hl hRf hq
  obtain ⟨o1, o2, o3, o4, o5, o6, o7, hW, -⟩ := id ok
  obtain ⟨cc, hc, hok, -⟩ := hRf.1 a _ hs
  have key : ∃ ty f, okA G.1 ty N f cc := by
    rcases (show t = 0 ∨ t = 1 ∨ t = 2 ∨ (3 ≤ t ∧ t ≤ 5) by omega) with z | z | z | z
    · exact ⟨_, _, hok.1 z⟩
    · exact ⟨_, _, hok.2.1 z⟩
    · exact ⟨_, _, hok.2.2.1 z⟩
    · exact ⟨_, _, (hok.2.2.2.1 z.1 z.2).A⟩
  obtain ⟨ty, f, a1, a2, a3, a4⟩ := key
  exact W.alen o1 o2 hc (State.isArrayOf_alike hW.alike a2) (by rw [a3]; rfl) rfl rfl hd (K ok ls H locs hl hRf hq)
theorem okA_set {s0 : State} {ty : FieldType} {N j : Nat} {f g : Nat → Value} {c : Cell} {v : Value} (h : okA s0 ty N f c) (hj : j < N) (hg : ∀ i, i < N → g i = updV f j v i) : okA s0 ty N g (c.setSlot j v) := by
  obtain ⟨a1, a2, a3, a4⟩ := h
  refine ⟨a1, a2, by simp [Cell.setSlot, a3], fun i hi => ?_⟩
  rw [hg i hi]
  simp only [Cell.setSlot, Array.getElem?_setIfInBounds, updV]
  by_cases e : i = j
  · subst e
    simp [a3, hi]
  · have e' : ¬ j = i := fun q => e q.symm
    simp [e, e', a4 i hi]
theorem locs_app {locs : List Loc} {B a j : Nat} (h : ∀ q ∈ locs, B ≤ q.base) (ha : B ≤ a) : ∀ q ∈ locs ++ [(⟨a, j⟩ : Loc)], B ≤ q.base := by
  intro q hq2
  rcases List.mem_append.mp hq2 with z | z
  · exact h q z
  · rcases List.mem_singleton.mp z with rfl
    exact ha
theorem g_iast {a j N : Nat} {x v : Int32} (hd : decode (mB M) pc = .ok (.iastore, 1)) (hs : hS h a = some (0, N)) (hx : x = nI j) (hj : j < N) (hb : j < 2147483648) (K : Go M X (pc + 1) lv st (pI h a j v) k n) : Go M X pc lv (.int v :: .int x :: .ref a :: st) h k n := by
  obtain ⟨G, ⟨p, l, e, R, s, m, args, below, meth, c⟩, Q⟩ := X
  intro ok ls H locs hl hRf hq
  obtain ⟨o1, o2, o3, o4, o5, o6, o7, hW, -⟩ := id ok
  obtain ⟨cc, hc, hok, -⟩ := hRf.1 a _ hs
  have hA := hok.1 rfl
  obtain ⟨a1, a2, a3, a4⟩ := id hA
  subst hx
  refine W.iast o1 o2 hc (State.isArrayOf_alike hW.alike a2) a1 (by rw [a3]; exact nI_out hj hb) rfl rfl hd (fun H' e1 e2 e3 => ?_)
  rw [nI_clamp hb] at e1 ⊢
  have hR2 := hRf.set (h' := pI h a j v) (H' := H') hs rfl (off_I h a j v) e1 ⟨fun _ => by
    refine okA_set hA hj (fun i _ => ?_)
    show Value.int (up2 (hI h) a j v a i) = _
    rw [up2_same]
    by_cases e : i = j <;> simp [va_up, updV, e], fun z => by simp at z, fun z => by simp at z, fun z => by simp at z, fun ci z => by simp at z⟩ e2 e3
  exact K ok ls H' _ hl hR2.1 (locs_app hq hR2.2)
theorem g_last {a j N : Nat} {x : Int32} {v : Int64} (hd : decode (mB M) pc = .ok (.lastore, 1)) (hs : hS h a = some (1, N)) (hx : x = nI j) (hj : j < N) (hb : j < 2147483648) (K : Go M X (pc + 1) lv st (pL h a j v) k n) : Go M X pc lv (.long v :: .int x :: .ref a :: st) h k n := by
  obtain ⟨G, ⟨p, l, e, R, s, m, args, below, meth, c⟩, Q⟩ := X
  intro ok ls H locs hl hRf hq
  obtain ⟨o1, o2, o3, o4, o5, o6, o7, hW, -⟩ := id ok
  obtain ⟨cc, hc, hok, -⟩ := hRf.1 a _ hs
  have hA := hok.2.1 rfl
  obtain ⟨a1, a2, a3, a4⟩ := id hA
  subst hx
  refine W.last o1 o2 hc (State.isArrayOf_alike hW.alike a2) a1 (by rw [a3]; exact nI_out hj hb) rfl rfl hd (fun H' e1 e2 e3 => ?_)
  rw [nI_clamp hb] at e1 ⊢
  have hR2 := hRf.set (h' := pL h a j v) (H' := H') hs rfl (off_L h a j v) e1 ⟨fun z => by simp at z, fun _ => by
    refine okA_set hA hj (fun i _ => ?_)
    show Value.long (up2 (hL h) a j v a i) = _
    rw [up2_same]
    by_cases e : i = j <;> simp [va_up, updV, e], fun z => by simp at z, fun z => by simp at z, fun ci z => by simp at z⟩ e2 e3
  exact K ok ls H' _ hl hR2.1 (locs_app hq hR2.2)
theorem g_zast {a j N : Nat} {x v : Int32} (hd : decode (mB M) pc = .ok (.bastore, 1)) (hs : hS h a = some (2, N)) (hx : x = nI j) (hj : j < N) (hb : j < 2147483648) (hv : v = 0 ∨ v = 1) (K : Go M X (pc + 1) lv st (pI h a j v) k n) : Go M X pc lv (.int v :: .int x :: .ref a :: st) h k n := by
  obtain ⟨G, ⟨p, l, e, R, s, m, args, below, meth, c⟩, Q⟩ := X
  intro ok ls H locs hl hRf hq
  obtain ⟨o1, o2, o3, o4, o5, o6, o7, hW, -⟩ := id ok
  obtain ⟨cc, hc, hok, -⟩ := hRf.1 a _ hs
  have hA := hok.2.2.1 rfl
  obtain ⟨a1, a2, a3, a4⟩ := id hA
  subst hx
  have hnv : narrow .boolean (.int v) = .int v := by rcases hv with rfl | rfl <;> rfl
  refine W.zast o1 o2 hc (State.isArrayOf_alike hW.alike a2) a1 (by rw [a3]; exact nI_out hj hb) rfl rfl hd (fun H' e1 e2 e3 => ?_)
  rw [nI_clamp hb, hnv] at e1
  rw [nI_clamp hb]
  have hR2 := hRf.set (h' := pI h a j v) (H' := H') hs rfl (off_I h a j v) e1 ⟨fun z => by simp at z, fun z => by simp at z, fun _ => by
    refine okA_set hA hj (fun i _ => ?_)
    show Value.int (up2 (hI h) a j v a i) = _
    rw [up2_same]
    by_cases e : i = j <;> simp [va_up, updV, e], fun z => by simp at z, fun ci z => by simp at z⟩ e2 e3
  exact K ok ls H' _ hl hR2.1 (locs_app hq hR2.2)
/-- an element of E's rows: an object of class number ci, which may stand there -/
def Asg (G : Gx) (E : String) (ci : Nat) : Prop := ∀ (s : State), G.1.WarmedH s.vm → ∀ comp : ClassId, s.vm.findClass E = some comp → s.vm.assignable (G.2.1.1 ci) comp = true
theorem g_aast {a j N t v ci z : Nat} {x : Int32} (hd : decode (mB M) pc = .ok (.aastore, 1)) (hs : hS h a = some (t, N)) (ht : 3 ≤ t ∧ t ≤ 5) (hv : hS h v = some (ci + 10, z)) (hci : (zCL[ci]?).isSome = true) (hasg : SysF X.1 → Asg X.1 (rcn t) ci) (hx : x = nI j) (hj : j < N) (hb : j < 2147483648) (K : Go M X (pc + 1) lv st (pR h a j (some v)) k n) : Go M X pc lv (.ref v :: .int x :: .ref a :: st) h k n := by
  obtain ⟨G, ⟨p, l, e, R, s, m, args, below, meth, c⟩, Q⟩ := X
  intro ok ls H locs hl hRf hq
  obtain ⟨o1, o2, o3, o4, o5, o6, o7, hW, hSy⟩ := id ok
  obtain ⟨cc, hc, hok, -⟩ := hRf.1 a _ hs
  have hA := hok.2.2.2.1 ht.1 ht.2
  obtain ⟨a1, a2, a3, a4⟩ := hA.A
  obtain ⟨-, kA, comp, c1, c2, c3, -⟩ := id hA
  obtain ⟨q, hq1⟩ := Option.isSome_iff_exists.mp hci
  obtain ⟨cv, hcv, v1, v2, -⟩ := okO_c hRf hv hq1
  obtain ⟨A0, hw, hcl, hst⟩ := id hSy
  obtain ⟨-, hfc, kC, hkC, hkind⟩ := u_Kn_moved hW.alike (hcl ci q hq1).1
  obtain ⟨kA', hkA', heA⟩ := hW.alike.2.2 _ _ c1
  have hcs : s.vm.findClass (rcn t) = some comp := by rw [hW.alike.findClass]; exact c3
  obtain ⟨kE, hkE, -⟩ := Vm.findClass_spec hcs
  subst hx
  refine W.aast o1 o2 hc a2.1 a1 hkA' (by rw [heA]; exact c2) rfl hkE ⟨nI_pos hb, by rw [nI_clamp hb, a3]; exact hj⟩ hcv (fun q z => by rw [v2] at z; cases z) (by rw [v1]; exact hkC) (by rw [v1]; exact hasg hSy s hW comp hcs) rfl rfl hd (fun H' e1 e2 e3 => ?_)
  rw [nI_clamp hb] at e1 ⊢
  have hR2 := hRf.set (h' := pR h a j (some v)) (H' := H') hs rfl (off_R h a j (some v)) e1 ⟨fun z => by simp at z; omega, fun z => by simp at z; omega, fun z => by simp at z; omega, fun _ _ => hA.set (x := some v) (by
    show up2 (hR h) a j (some v) a = _
    rw [up2_same]), fun ci z => by simp at z; omega⟩ e2 e3
  exact K ok ls H' _ hl hR2.1 (locs_app hq hR2.2)
end AR
