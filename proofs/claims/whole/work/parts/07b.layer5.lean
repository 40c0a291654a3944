/-! constants, statics, casts, the JDK's natives -/
section L5
variable {M : MM} {X : Xr} {pc : Nat} {lv : List (Option Value)} {st : List Value} {h : Hp} {k n : Nat}
theorem g_ldc {idx : Nat} {v : Int32} (hd : decode (mB M) pc = .ok (.ldc idx, 2)) (hw1 : Cond.constant (mO M) idx v ∈ lw_tbl) (K : Go M X (pc + 2) lv (.int v :: st) h k n) : Go M X pc lv st h k n := by
  obtain ⟨G, ⟨p, l, e, R, s, m, args, below, meth, c⟩, Q⟩ := X
  intro ok ls H locs hl hRf hq
  obtain ⟨o1, o2, o3, o4, o5, o6, o7, hW, A0, hw, -⟩ := id ok
  exact lv_ldc o1 o2 o4 (ok_w hw hW hw1 rfl) hd (K ok ls H locs hl hRf hq)
theorem g_ldc2 {idx : Nat} {v : Int64} (hd : decode (mB M) pc = .ok (.ldc2_w idx, 3)) (hw1 : Cond.constantLong (mO M) idx v ∈ lw_tbl) (K : Go M X (pc + 3) lv (.long v :: st) h k n) : Go M X pc lv st h k n := by
  obtain ⟨G, ⟨p, l, e, R, s, m, args, below, meth, c⟩, Q⟩ := X
  intro ok ls H locs hl hRf hq
  obtain ⟨o1, o2, o3, o4, o5, o6, o7, hW, A0, hw, -⟩ := id ok
  exact lv_ldc2 o1 o2 o4 (ok_w hw hW hw1 rfl) hd (K ok ls H locs hl hRf hq)
theorem g_gets {idx t : Nat} {C nm ds : String} (hd : decode (mB M) pc = .ok (.getstatic idx, 3)) (hw1 : Cond.fieldLink (mO M) idx C nm ds ∈ lw_tbl) (hz : zSt X.1 → okZ X.1 C nm ds t) (K : Go M X (pc + 3) lv (.ref (gK X.1 t) :: st) h k n) : Go M X pc lv st h k n := by
  obtain ⟨G, ⟨p, l, e, R, s, m, args, below, meth, c⟩, Q⟩ := X
  intro ok ls H locs hl hRf hq
  obtain ⟨o1, o2, o3, o4, o5, o6, o7, hW, A0, hw, hcl, hz0⟩ := id ok
  obtain ⟨cf, kf, fi, f, a, cell, h1, h2, h3, h4, h5, h6, h7, h8⟩ := va_Z.moved hW.alike (hz hz0)
  exact W.gets o1 o2 o4 (ok_w hw hW hw1 rfl) h1 h2 h3 h4 (by rw [hRf.2.2.1 a (Array.getElem?_eq_some_iff.mp h5).1]; exact h5) (fun e => by rw [e] at h6; cases h6) h7 rfl hd (K ok ls H locs hl hRf hq)
/-- a fate's number -/
theorem g_fateA {idx t : Nat} (hd : decode (mB M) pc = .ok (.getfield idx, 3)) (hw1 : Cond.fieldLink (mO M) idx "SeptetCentre$Fate" "answer" "I" ∈ lw_tbl) (ht : 4 ≤ t ∧ t ≤ 7) (K : Go M X (pc + 3) lv (.int (fateA t) :: st) h k n) : Go M X pc lv (.ref (gK X.1 t) :: st) h k n := by
  obtain ⟨G, ⟨p, l, e, R, s, m, args, below, meth, c⟩, Q⟩ := X
  intro ok ls H locs hl hRf hq
  obtain ⟨o1, o2, o3, o4, o5, o6, o7, hW, A0, hw, hcl, hz0⟩ := id ok
  obtain ⟨cc, h1, h2, h3, ⟨cf, kf, x, f, h4, h5, h6⟩, -⟩ := hz0.2.2.1 t ht.1 ht.2
  obtain ⟨kf', hi', -⟩ := State.fieldFound?_setVm hW.alike h4
  exact W.getf o1 o2 o4 (ok_w hw hW hw1 rfl) (show s.fieldFound? _ _ _ = _ from hi') h5 (by rw [hRf.2.2.1 _ (Array.getElem?_eq_some_iff.mp h1).1]; exact h1) h3 h6 rfl rfl hd (K ok ls H locs hl hRf hq)
theorem g_fateR {idx t : Nat} (hd : decode (mB M) pc = .ok (.getfield idx, 3)) (hw1 : Cond.fieldLink (mO M) idx "SeptetCentre$Fate" "reported" "I" ∈ lw_tbl) (ht : 4 ≤ t ∧ t ≤ 7) (K : Go M X (pc + 3) lv (.int (fateR t) :: st) h k n) : Go M X pc lv (.ref (gK X.1 t) :: st) h k n := by
  obtain ⟨G, ⟨p, l, e, R, s, m, args, below, meth, c⟩, Q⟩ := X
  intro ok ls H locs hl hRf hq
  obtain ⟨o1, o2, o3, o4, o5, o6, o7, hW, A0, hw, hcl, hz0⟩ := id ok
  obtain ⟨cc, h1, h2, h3, -, cf, kf, x, f, h4, h5, h6⟩ := hz0.2.2.1 t ht.1 ht.2
  obtain ⟨kf', hi', -⟩ := State.fieldFound?_setVm hW.alike h4
  exact W.getf o1 o2 o4 (ok_w hw hW hw1 rfl) (show s.fieldFound? _ _ _ = _ from hi') h5 (by rw [hRf.2.2.1 _ (Array.getElem?_eq_some_iff.mp h1).1]; exact h1) h3 h6 rfl rfl hd (K ok ls H locs hl hRf hq)
theorem castW {G : Gx} {s : State} {A0 : Array Value} (hw : ∀ w ∈ lw_tbl, w.before A0 G.1 = true) (hW : G.1.WarmedH s.vm) {C D : String} (hin : Cond.castable C D ∈ lw_tbl) : va_Nw (.castable C D) s := va_Nw.warmC hW (va_Nw.of rfl (hw _ hin))
theorem g_cast {idx a ci z : Nat} {C : String} {T : u_T} {N : Nat} (hd : decode (mB M) pc = .ok (.checkcast idx, 3)) (hci : zCL[ci]? = some (C, T, N)) (hw1 : Cond.classLink (mO M) idx C ∈ lw_tbl) (hw2 : Cond.castable C C ∈ lw_tbl) (hs : hS h a = some (ci + 10, z)) (K : Go M X (pc + 3) lv (.ref a :: st) h k n) : Go M X pc lv (.ref a :: st) h k n := by
  obtain ⟨G, ⟨p, l, e, R, s, m, args, below, meth, c⟩, Q⟩ := X
  intro ok ls H locs hl hRf hq
  obtain ⟨o1, o2, o3, o4, o5, o6, o7, hW, A0, hw, hcl, hz0⟩ := id ok
  obtain ⟨cb, hcb, v1, v2, -⟩ := okO_c hRf hs hci
  have hfc := (u_Kn_moved hW.alike (hcl ci _ hci).1).2.1
  exact va_castY o1 o2 o4 (ok_w hw hW hw1 rfl) (castW hw hW hw2) ⟨cb, hcb, by rw [v2]; rfl, by rw [v1]; exact hfc⟩ hd (K ok ls H locs hl hRf hq)
theorem asg_of {G : Gx} (hSy : SysF G) {ci : Nat} {C D : String} {T : u_T} {N : Nat} (hci : zCL[ci]? = some (C, T, N)) (hw2 : Cond.castable C D ∈ lw_tbl) : Asg G D ci := by
  intro s hW comp hcomp
  obtain ⟨A0, hw, hcl, hz0⟩ := hSy
  have hfc := (u_Kn_moved hW.alike (hcl ci _ hci).1).2.1
  obtain ⟨c0, t0, f1, f2, f3⟩ := Cond.castable_spec (va_Nw.use (A := #[]) rfl (castW hw hW hw2))
  cases hfc.symm.trans f1
  cases hcomp.symm.trans f2
  exact f3
theorem g_min {idx : Nat} {x y : Int32} (hd : decode (mB M) pc = .ok (.invokestatic idx, 3)) (hw1 : Cond.methodLink (mO M) idx Lib.Math.min.name ∈ lw_tbl) (h8 : catS st ≤ 8) (hr : 1 ≤ (xR X).frames ∧ 21 ≤ (xR X).locals ∧ k ≤ (xR X).cells ∧ n ≤ (xR X).slots) (hw2 : Cond.static Lib.Math.min.name ∈ lw_tbl) (hw3 : Cond.initialized "java/lang/Math" ∈ lw_tbl) (hw4 : Cond.code Lib.Math.min.name Lib.Math.min.code 2 (some .int) ∈ lw_tbl) (K : Go M X (pc + 3) lv (.int (if y < x then y else x) :: st) h k n) : Go M X pc lv (.int y :: .int x :: st) h k n := by
  obtain ⟨G, ⟨p, l, e, R, s, m, args, below, meth, c⟩, Q⟩ := X
  intro ok ls H locs hl hRf hq
  obtain ⟨o1, o2, o3, o4, o5, o6, o7, hW, A0, hw, hcl, hz0⟩ := id ok
  obtain ⟨r1, r2, r3, r4⟩ := hr
  have r2' : 21 ≤ R.locals := r2
  have h8' : (st.map fun v => v.category).sum ≤ 8 := h8
  exact va_mmin o1 o2 (by rw [o3]; exact hl.1.symm) o4 (ok_w hw hW hw1 rfl) (ok_w hw hW hw2 rfl) (ok_w hw hW hw3 rfl) (ok_w hw hW hw4 rfl) r1 (by omega) r3 r4 hd (K ok ls H locs hl hRf hq)
theorem g_max {idx : Nat} {x y : Int32} (hd : decode (mB M) pc = .ok (.invokestatic idx, 3)) (hw1 : Cond.methodLink (mO M) idx Lib.Math.max.name ∈ lw_tbl) (h8 : catS st ≤ 8) (hr : 1 ≤ (xR X).frames ∧ 21 ≤ (xR X).locals ∧ k ≤ (xR X).cells ∧ n ≤ (xR X).slots) (hw2 : Cond.static Lib.Math.max.name ∈ lw_tbl) (hw3 : Cond.initialized "java/lang/Math" ∈ lw_tbl) (hw4 : Cond.code Lib.Math.max.name Lib.Math.max.code 2 (some .int) ∈ lw_tbl) (K : Go M X (pc + 3) lv (.int (if x < y then y else x) :: st) h k n) : Go M X pc lv (.int y :: .int x :: st) h k n := by
  obtain ⟨G, ⟨p, l, e, R, s, m, args, below, meth, c⟩, Q⟩ := X
  intro ok ls H locs hl hRf hq
  obtain ⟨o1, o2, o3, o4, o5, o6, o7, hW, A0, hw, hcl, hz0⟩ := id ok
  obtain ⟨r1, r2, r3, r4⟩ := hr
  have r2' : 21 ≤ R.locals := r2
  have h8' : (st.map fun v => v.category).sum ≤ 8 := h8
  exact va_mmax o1 o2 (by rw [o3]; exact hl.1.symm) o4 (ok_w hw hW hw1 rfl) (ok_w hw hW hw2 rfl) (ok_w hw hW hw3 rfl) (ok_w hw hW hw4 rfl) r1 (by omega) r3 r4 hd (K ok ls H locs hl hRf hq)
theorem g_ldcM {idx : Nat} (hd : decode (mB M) pc = .ok (.ldc idx, 2)) (hw1 : Cond.classLink (mO M) idx "[Ljava/lang/Object;" ∈ lw_tbl) (K : Go M X (pc + 2) lv (.ref (gK X.1 8) :: st) h k n) : Go M X pc lv st h k n := by
  obtain ⟨G, ⟨p, l, e, R, s, m, args, below, meth, c⟩, Q⟩ := X
  intro ok ls H locs hl hRf hq
  obtain ⟨o1, o2, o3, o4, o5, o6, o7, hW, A0, hw, hcl, hz0⟩ := id ok
  exact va_ldcM o1 o2 o4 (ok_w hw hW hw1 rfl) (va_Mi.moved hW.alike hz0.2.2.2.2.2.2.1) hd (K ok ls H locs hl hRf hq)
def yGetC : MethodName := ⟨"java/lang/Object", "getClass", "()Ljava/lang/Class;"⟩
theorem g_getC {idx a N : Nat} (hd : decode (mB M) pc = .ok (.invokevirtual idx, 3)) (hw1 : Cond.methodLink (mO M) idx yGetC ∈ lw_tbl) (hw2 : Cond.declares yGetC ∈ lw_tbl) (hw3 : Cond.selects "[Ljava/lang/Object;" yGetC yGetC ∈ lw_tbl) (hw4 : Cond.instanceMethod yGetC ∈ lw_tbl) (hw5 : Cond.native yGetC ∈ lw_tbl) (hs : hS h a = some (3, N)) (h8 : catS st ≤ 8) (hr : 1 ≤ (xR X).frames ∧ 22 ≤ (xR X).locals) (K : Go M X (pc + 3) lv (.ref (gK X.1 8) :: st) h k n) : Go M X pc lv (.ref a :: st) h k n := by
  obtain ⟨G, ⟨p, l, e, R, s, m, args, below, meth, c⟩, Q⟩ := X
  intro ok ls H locs hl hRf hq
  obtain ⟨o1, o2, o3, o4, o5, o6, o7, hW, A0, hw, hcl, hz0⟩ := id ok
  obtain ⟨cc, hc, hok, -⟩ := hRf.1 a _ hs
  obtain ⟨f1, kA, comp, f2, f3, f4, f5⟩ := hok.2.2.2.1 (show 3 ≤ 3 by decide) (show 3 ≤ 5 by decide)
  have r2' : 22 ≤ R.locals := hr.2
  have h8' : (st.map fun v => v.category).sum ≤ 8 := h8
  have hvm : cc.vm.isStatics = false := by rw [f1]; rfl
  exact va_getC o1 o2 (by rw [o3]; exact hl.1.symm) o4 (ok_w hw hW hw1 rfl) (va_Nw.use rfl (va_Nw.warmD hW (va_Nw.of rfl (hw _ hw2)))) (ok_w hw hW hw3 rfl) (ok_w hw hW hw4 rfl) (ok_w hw hW hw5 rfl) (va_Mi.moved hW.alike hz0.2.2.2.2.2.2.1) ⟨cc, hc, hvm, by rw [hW.alike.findClass]; exact f5⟩ hr.1 (by omega) hd (K ok ls H locs hl hRf hq)
/-- System.arraycopy between two rows of objects -/
theorem g_acopy {idx a0 a n0 n1 sp dp c0 : Nat} {xs xd xc : Int32} (hd : decode (mB M) pc = .ok (.invokestatic idx, 3)) (hw1 : Cond.methodLink (mO M) idx arraycopyName ∈ lw_tbl) (hw2 : Cond.native arraycopyName ∈ lw_tbl) (hw3 : Cond.static arraycopyName ∈ lw_tbl) (hw4 : Cond.initialized "java/lang/System" ∈ lw_tbl)
    (hs0 : hS h a0 = some (3, n0)) (hs1 : hS h a = some (3, n1)) (e1 : xs = nI sp) (e2 : xd = nI dp) (e3 : xc = nI c0) (h4 : sp + c0 ≤ n0) (h5 : dp + c0 ≤ n1) (hb : n0 < 2147483648 ∧ n1 < 2147483648)
    (hel : ∀ i, i < c0 → ∀ y, hR h a0 (sp + i) = some y → ∃ ci z, hS h y = some (ci + 10, z) ∧ (zCL[ci]?).isSome = true ∧ (SysF X.1 → Asg X.1 "java/lang/Object" ci))
    (h8 : catS st ≤ 8) (hr : 1 ≤ (xR X).frames ∧ 8 + (nativeFrameWords "java/lang/System" "arraycopy" 5 + 11) ≤ (xR X).locals)
    (K : Go M X (pc + 3) lv st (pA h a (va_cpy (hR h a0) (hR h a) sp dp c0)) k n) : Go M X pc lv (.int xc :: .int xd :: .ref a :: .int xs :: .ref a0 :: st) h k n := by
  obtain ⟨G, ⟨p, l, e, R, s, m, args, below, meth, c⟩, Q⟩ := X
  intro ok ls H locs hl hRf hq
  obtain ⟨o1, o2, o3, o4, o5, o6, o7, hW, hSy⟩ := id ok
  obtain ⟨A0, hw, hcl, hz0⟩ := id hSy
  have r2' : 8 + (nativeFrameWords "java/lang/System" "arraycopy" 5 + 11) ≤ R.locals := hr.2
  have h8' : (st.map fun v => v.category).sum ≤ 8 := h8
  obtain ⟨cs, hcs, oks, -⟩ := hRf.1 a0 _ hs0
  obtain ⟨cd, hcd, okd, -⟩ := hRf.1 a _ hs1
  have qs := oks.2.2.2.1 (show 3 ≤ 3 by decide) (show 3 ≤ 5 by decide)
  have qd := okd.2.2.2.1 (show 3 ≤ 3 by decide) (show 3 ≤ 5 by decide)
  obtain ⟨s1, kS, cS, s2, s3, s4, -⟩ := id qs
  obtain ⟨d1, kD, cD, d2, d3, d4, d5⟩ := id qd
  have hal := hW.alike
  obtain ⟨kS', hkS', heS⟩ := hal.2.2 _ _ s2
  obtain ⟨kD', hkD', heD⟩ := hal.2.2 _ _ d2
  have bs : sp < 2147483648 := by omega
  have bd : dp < 2147483648 := by omega
  have bc : c0 < 2147483648 := by omega
  have ti : ∀ j : Nat, j < 2147483648 → (nI j).toInt = (j : Int) := fun j hj => nI_toInt hj
  subst e1 e2 e3
  intro T hT Y
  have szs : cs.slots.size = n0 := by rw [s1]; exact arrV_size _ _ _
  have szd : cd.slots.size = n1 := by rw [d1]; exact arrV_size _ _ _
  have vms : cs.vm = .none := by rw [s1]; rfl
  have vmd : cd.vm = .none := by rw [d1]; rfl
  have rdc : ∀ (cA : ClassId) (N : Nat) (f : Nat → Option Nat) (j : Nat), j < N → (arrV cA N (fun j => va_rf (f j))).slots.getD j .null = va_rf (f j) := fun cA N f j hj => by
    rw [Array.getD_eq_getD_getElem?, arrV_read _ _ hj]
    rfl
  obtain ⟨vm', X', step⟩ := Y.arraycopy o1 o4 (ok_w hw hW hw1 rfl) (ok_w hw hW hw2 rfl) (ok_w hw hW hw3 rfl) (ok_w hw hW hw4 rfl) (src := a0) (dst := a) (cs := cs) (cd := cd) (srcPos := nI sp) (destPos := nI dp) (n := nI c0) (by rw [hT]; exact hcs) (by rw [hT]; exact hcd)
    (fun _ z => by rw [vms] at z; cases z) (fun _ z => by rw [vmd] at z; cases z) (fun z => by rw [vms] at z; cases z) (fun z => by rw [vmd] at z; cases z) hkS' hkD' (by rw [heS]; exact s3) (by rw [heD]; exact d3) rfl (nI_pos bs) (nI_pos bd) (nI_pos bc)
    (by rw [ti _ bs, ti _ bc, szs]; omega)
    (by rw [ti _ bd, ti _ bc, szd]; omega)
    (fun vm₁ hal1 i hi => by
      rw [nI_clamp bc] at hi
      rw [nI_clamp bs]
      have e : cs.slots.getD (sp + i) .null = va_rf (hR h a0 (sp + i)) := by rw [s1]; exact rdc _ _ _ _ (by omega)
      rw [e]
      cases hy : hR h a0 (sp + i) with
      | none => exact ⟨rfl, trivial⟩
      | some y =>
        obtain ⟨ci, z, y1, y2, y3⟩ := hel i hi y hy
        obtain ⟨q, hq1⟩ := Option.isSome_iff_exists.mp y2
        obtain ⟨cv, hcv, v1, v2, -⟩ := okO_c hRf y1 hq1
        obtain ⟨-, hfc, kC, hkC, hkind⟩ := u_Kn_moved hW.alike (hcl ci q hq1).1
        have hcs2 : s.vm.findClass "java/lang/Object" = some cD := by rw [hW.alike.findClass]; exact d4
        obtain ⟨kE, hkE, -⟩ := Vm.findClass_spec hcs2
        obtain ⟨kC', hkC', -⟩ := hal1.2.2 _ _ hkC
        obtain ⟨kE', hkE', -⟩ := hal1.2.2 _ _ hkE
        refine ⟨rfl, cv, (show T.heap[y]? = some cv by rw [hT]; exact hcv), (fun q z => by rw [v2] at z; cases z), ⟨kC', by rw [v1]; exact hkC'⟩, ⟨kE', hkE'⟩, ?_⟩
        show vm₁.assignable _ _ = true
        rw [hal1.assignable, v1]
        exact y3 hSy s hW cD hcs2)
    (g := F0 m pc ls (.int (nI c0) :: .int (nI dp) :: .ref a :: .int (nI sp) :: .ref a0 :: st)) rfl (by rw [o3]; exact hl.1) (rest := st) rfl (by rw [o2]; exact hd) hr.1 (by show 2 * 0 + _ + _ ≤ _; omega)
  have ec : copied cs cd (nI sp) (nI dp) (nI c0) = arrV cd.cls n1 (fun j => va_rf (va_cpy (hR h a0) (hR h a) sp dp c0 j)) := by
    have := va_copied (fun z => va_rf z) cs.cls cd.cls (n0 := n0) (n1 := n1) (sp := (nI sp).toNatClampNeg) (dp := (nI dp).toNatClampNeg) (n := (nI c0).toNatClampNeg) (hR h a0) (hR h a) (by rw [nI_clamp bs, nI_clamp bc]; exact h4)
    rw [nI_clamp bs, nI_clamp bd, nI_clamp bc] at this
    unfold copied
    rw [nI_clamp bs, nI_clamp bd, nI_clamp bc, ← this, ← s1, ← d1]
  rw [ec] at X' step
  have hlt : a < H.size := (Array.getElem?_eq_some_iff.mp hcd).1
  have hheap : ((T.setVm vm').setCell a (arrV cd.cls n1 (fun j => va_rf (va_cpy (hR h a0) (hR h a) sp dp c0 j)))).heap = H.setIfInBounds a (arrV cd.cls n1 (fun j => va_rf (va_cpy (hR h a0) (hR h a) sp dp c0 j))) := by rw [← hT]; rfl
  have hc' : (H.setIfInBounds a (arrV cd.cls n1 (fun j => va_rf (va_cpy (hR h a0) (hR h a) sp dp c0 j))))[a]? = some (arrV cd.cls n1 (fun j => va_rf (va_cpy (hR h a0) (hR h a) sp dp c0 j))) := by simp [Array.getElem?_setIfInBounds, hlt]
  have ho : ∀ q, q ≠ a → (H.setIfInBounds a (arrV cd.cls n1 (fun j => va_rf (va_cpy (hR h a0) (hR h a) sp dp c0 j))))[q]? = H[q]? := fun q hq => by simp [Array.getElem?_setIfInBounds, Ne.symm hq]
  have hR2 := hRf.set (h' := pA h a (va_cpy (hR h a0) (hR h a) sp dp c0)) hs1 rfl (fun b hb => ⟨rfl, rfl, by funext y; simp [hR, pA, hb]⟩) hc' ⟨fun z => by simp at z, fun z => by simp at z, fun z => by simp at z, fun _ _ => by
    refine ⟨?_, kD, cD, d2, d3, d4, d5⟩
    have : hR (pA h a (va_cpy (hR h a0) (hR h a) sp dp c0)) a = va_cpy (hR h a0) (hR h a) sp dp c0 := by funext y; simp [hR, pA]
    rw [this]
    rfl, fun ci z => by simp at z⟩ (by simp) ho
  obtain ⟨t, a1, b1⟩ := K ok ls _ _ hl hR2.1 (fun q hqm => by
    rcases List.mem_append.mp hqm with z | z
    · exact hq q z
    · obtain ⟨z1, -, hz1⟩ := List.mem_map.mp z
      rw [← hz1]
      exact hR2.2) _ hheap X'
  exact ⟨t, step t a1, b1⟩
end L5
