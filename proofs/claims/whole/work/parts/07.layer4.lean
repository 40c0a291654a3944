/-! making cells -/
section NW
variable {M : MM} {X : Xr} {pc : Nat} {lv : List (Option Value)} {st : List Value} {h : Hp} {k n : Nat}
theorem g_aastN {a j N t : Nat} {x : Int32} (hd : decode (mB M) pc = .ok (.aastore, 1)) (hs : hS h a = some (t, N)) (ht : 3 ≤ t ∧ t ≤ 5) (hx : x = nI j) (hj : j < N) (hb : j < 2147483648) (K : Go M X (pc + 1) lv st (pR h a j none) k n) : Go M X pc lv (.null :: .int x :: .ref a :: st) h k n := by
  obtain ⟨G, ⟨p, l, e, R, s, m, args, below, meth, c⟩, Q⟩ := X
  intro ok ls H locs hl hRf hq
  obtain ⟨o1, o2, o3, o4, o5, o6, o7, hW, hSy⟩ := id ok
  obtain ⟨cc, hc, hok, -⟩ := hRf.1 a _ hs
  have hA := hok.2.2.2.1 ht.1 ht.2
  obtain ⟨a1, a2, a3, a4⟩ := hA.A
  subst hx
  refine va_WaastN o1 o2 hc (State.isArrayOf_alike hW.alike a2) a1 (by rw [a3]; exact nI_out hj hb) rfl rfl hd (fun H' e1 e2 e3 => ?_)
  rw [nI_clamp hb] at e1 ⊢
  have hR2 := hRf.set (h' := pR h a j none) (H' := H') hs rfl (off_R h a j none) e1 ⟨fun z => by simp at z; omega, fun z => by simp at z; omega, fun z => by simp at z; omega, fun _ _ => hA.set (x := none) (by
    show up2 (hR h) a j none a = _
    rw [up2_same]), fun ci z => by simp at z; omega⟩ e2 e3
  exact K ok ls H' _ hl hR2.1 (locs_app hq hR2.2)
/-- what is known of a cell that is made here -/
def Fre (h : Hp) (q : Nat) : Prop := hS h q = none ∧ (∀ j, hI h q j = 0) ∧ (∀ j, hL h q j = 0) ∧ (∀ j, hR h q j = none)
theorem okA_new {s0 s : State} {ty : FieldType} {N : Nat} {v : Value} {cA : ClassId} (hal : s.vm.Alike s0.vm) (hAr : ArrOfT s cA ty) : okA s0 ty N (fun _ => v) (arrV cA N (fun _ => v)) :=
  ⟨fun z => (by cases z), State.isArrayOf_alike hal (hAr N _), arrV_size _ _ _, fun j hj => arrV_read _ _ hj⟩
theorem g_newarr {N t : Nat} {x : Int32} {at' : ArrayType} (hd : decode (mB M) pc = .ok (.newarray at', 2)) (hw1 : Cond.arrayClass (newarray.typeOf at') ∈ lw_tbl) (hx : x = nI N) (hN : N < 2147483648) (hb : N * componentBytes (newarray.typeOf at') ≤ 536870912) (hc : k + 1 ≤ (xR X).cells) (hsl : n + N ≤ (xR X).slots)
    (ht : (t = 0 ∧ newarray.typeOf at' = .int) ∨ (t = 1 ∧ newarray.typeOf at' = .long) ∨ (t = 2 ∧ newarray.typeOf at' = .boolean)) (K : ∀ q, Fre h q → Go M X (pc + 2) lv (.ref q :: st) (pN h q (t, N)) (k + 1) (n + N)) : Go M X pc lv (.int x :: st) h k n := by
  obtain ⟨G, ⟨p, l, e, R, s, m, args, below, meth, c⟩, Q⟩ := X
  intro ok ls H locs hl hRf hq
  obtain ⟨o1, o2, o3, o4, o5, o6, o7, hW, hSy⟩ := id ok
  obtain ⟨A0, hw, -⟩ := id hSy
  subst hx
  refine W.newaK o1 o2 (ok_w hw hW hw1 rfl) rfl hd rfl (nI_pos hN) (nI_clamp hN) hb hc hsl rfl (fun H' cA e1 e2 e3 hAr => ?_)
  have hal := hW.alike.symm
  obtain ⟨r1, r2⟩ := hRf.push (H' := H') (kd := (t, N)) e1 (by
    rcases ht with ⟨rfl, e⟩ | ⟨rfl, e⟩ | ⟨rfl, e⟩
    · rw [e] at hAr e1 ⊢
      exact ⟨fun _ => okA_new hal hAr, fun z => by simp at z, fun z => by simp at z, fun z => by simp at z, fun ci z => by simp at z⟩
    · rw [e] at hAr e1 ⊢
      exact ⟨fun z => by simp at z, fun _ => okA_new hal hAr, fun z => by simp at z, fun z => by simp at z, fun ci z => by simp at z⟩
    · rw [e] at hAr e1 ⊢
      exact ⟨fun z => by simp at z, fun z => by simp at z, fun _ => okA_new hal hAr, fun z => by simp at z, fun ci z => by simp at z⟩) e2 e3
  exact K H.size r2 ok ls H' locs hl r1 hq
theorem g_anew {N t idx : Nat} {x : Int32} (hd : decode (mB M) pc = .ok (.anewarray idx, 3)) (ht : 3 ≤ t ∧ t ≤ 5) (hw1 : Cond.classLink (mO M) idx (rcn t) ∈ lw_tbl) (hw2 : Cond.arrayOver (.object (rcn t)) ∈ lw_tbl) (hx : x = nI N) (hN : N * 4 ≤ 536870912) (hc : k + 1 ≤ (xR X).cells) (hsl : n + N ≤ (xR X).slots)
    (K : ∀ q, Fre h q → Go M X (pc + 3) lv (.ref q :: st) (pN h q (t, N)) (k + 1) (n + N)) : Go M X pc lv (.int x :: st) h k n := by
  obtain ⟨G, ⟨p, l, e, R, s, m, args, below, meth, c⟩, Q⟩ := X
  intro ok ls H locs hl hRf hq
  obtain ⟨o1, o2, o3, o4, o5, o6, o7, hW, hSy⟩ := id ok
  obtain ⟨A0, hw, -⟩ := id hSy
  have hN' : N < 2147483648 := by omega
  subst hx
  refine W.anew o1 o2 o4 (ok_w hw hW hw1 rfl) (va_AO.use (va_AO.moved hW.alike (va_AO.of (hw _ hw2)))) rfl hd rfl (nI_pos hN') (by rw [nI_clamp hN']; exact hN) hc (by rw [nI_clamp hN']; exact hsl) (fun cA kA comp f1 f2 f3 f4 => ?_)
  rw [nI_clamp hN']
  generalize hH1 : H.push ({ cls := cA, slots := Array.replicate N .null, vm := .none } : Cell) = H1
  have z1 : H1.size = H.size + 1 := by rw [← hH1, Array.size_push]
  have e1 : H1[H.size]? = some (arrV cA N (fun _ => .null)) := by rw [← hH1, Array.getElem?_push_size, ← arrV_new]
  have o1' : ∀ q : Nat, q < H.size → H1[q]? = H[q]? := fun q hq => by rw [← hH1, Array.getElem?_push, if_neg (Nat.ne_of_lt hq)]
  have hal := hW.alike.symm
  obtain ⟨kA', hkA', heA⟩ := hal.2.2 _ _ f2
  have hAr : ArrOfT s cA (.object (rcn t)) := fun N z => ⟨(fun k h => by cases h), kA, f2, comp, f3⟩
  obtain ⟨r1, r2⟩ := hRf.push (H' := H1) (kd := (t, N)) e1 ⟨fun z => by simp at z; omega, fun z => by simp at z; omega, fun z => by simp at z; omega, fun _ _ => ⟨rfl, kA', comp, hkA', by rw [heA]; exact f3, by rw [hal.findClass]; exact f4, by rw [hal.findClass]; exact f1⟩, fun ci z => by simp at z; omega⟩ z1 o1'
  exact K H.size r2 ok ls H1 locs hl r1 hq
theorem g_new {idx ci N : Nat} {C : String} {T : u_T} (hd : decode (mB M) pc = .ok (.new idx, 3)) (hq1 : zCL[ci]? = some (C, T, N)) (hw1 : Cond.classLink (mO M) idx C ∈ lw_tbl) (hw2 : Cond.instantiable C N ∈ lw_tbl) (hw3 : Cond.initialized C ∈ lw_tbl) (hc : k + 1 ≤ (xR X).cells) (hsl : n + N ≤ (xR X).slots)
    (K : ∀ q, Fre h q → Go M X (pc + 3) lv (.ref q :: st) (pN h q (ci + 10, 0)) (k + 1) (n + N)) : Go M X pc lv st h k n := by
  obtain ⟨G, ⟨p, l, e, R, s, m, args, below, meth, c⟩, Q⟩ := X
  intro ok ls H locs hl hRf hq
  obtain ⟨o1, o2, o3, o4, o5, o6, o7, hW, hSy⟩ := id ok
  obtain ⟨A0, hw, hcl, hst⟩ := id hSy
  obtain ⟨hKn, hin, hty, -⟩ := hcl ci _ hq1
  obtain ⟨hSl0, hfc0, kC0, hkC0, hkind0⟩ := id hKn
  obtain ⟨hSl, hfc, -⟩ := u_Kn_moved hW.alike hKn
  refine W.newcK o1 o2 o4 (ok_w hw hW hw1 rfl) (ok_w hw hW hw2 rfl) (ok_w hw hW hw3 rfl) rfl hd hc hsl hfc rfl (fun H' kC hkC e1 e2 e3 => ?_)
  have hal := hW.alike.symm
  obtain ⟨kC', hkC', heC⟩ := hal.2.2 _ _ hkC
  cases hkC0.symm.trans hkC'
  obtain ⟨r1, r2⟩ := hRf.push (H' := H') (kd := (ci + 10, 0)) e1 ⟨fun z => by simp at z, fun z => by simp at z, fun z => by simp at z, fun _ z => by simp at z, fun ci' z => by
    have : ci' = ci := by simp at z; omega
    subst this
    refine ⟨_, hq1, rfl, rfl, fun j hj => ?_⟩
    obtain ⟨cf, kf, fi, fd, hi, he⟩ := hSl0 j hj
    obtain ⟨ty, hty1, hty2⟩ := hty j hj
    have h3 := (u_facts hfc0 hkC0 (u_lays hw hin hj) hi).2.2
    rw [(State.fieldFound?_type hi hty1).2] at h3
    rw [← he, ← hty2]
    refine k2_blank ?_
    have : kC.instanceTypes = kC0.instanceTypes := by rw [heC]
    rw [this]
    exact h3⟩ e2 e3
  exact K H.size r2 ok ls H' locs hl r1 hq
end NW
/-! contracts -/
def rmD (d w mc ms : Nat) : Room := { frames := d, cells := mc, slots := ms, locals := w }
def QcP (G : Gx) (P : Option Value → Hp → Prop) : Array Value → State → Outcome → State → Prop := fun _ _ o t => ∃ (r : Option Value) (h' : Hp), o = .returned r ∧ G.1.WarmedH t.vm ∧ Rf G h' t.heap ∧ P r h'
def PcP (G : Gx) (av : List Value) (h : Hp) : Array Value → State → Prop := va_Pc av (fun U => SysF G ∧ G.1.WarmedH U.vm ∧ Rf G h U.heap)
def mCode (M : MM) : Cond := Cond.code (mY M) (mB M) (mL M) (mT M)
def Ct (G : Gx) (l : Launch) (M : MM) (d w : Nat) (av : List Value) (h : Hp) (mc ms : Nat) (P : Option Value → Hp → Prop) : Prop :=
  Met l (mY M) [mCode M] (rmD d w mc ms) (PcP G av h) (QcP G P) mc ms (fun q => G.1.heap.size ≤ q)
def mkX (G : Gx) (P : Option Value → Hp → Prop) (d w mc ms : Nat) (p : Program) (l : Launch) (e : Env) (s : State) (m : MethodId) (args : Array Value) (below : List Frame) (meth : Method) (c : Code) : Xr :=
  (G, (p, l, e, rmD d w mc ms, s, m, args, below, meth, c), MQ below (QcP G P) args s mc ms (fun q => G.1.heap.size ≤ q))
def lvO : Slot → Option Value
  | .val v => some v
  | _ => none
def lvE (n : Nat) (av : List Value) : List (Option Value) := (lg_sl av ++ List.replicate (n - (lg_sl av).length) Slot.unset).map lvO
theorem Lv.entry {n : Nat} {av : List Value} (hn : (lg_sl av).length ≤ n) : Lv ((lg_sl av ++ List.replicate (n - (lg_sl av).length) Slot.unset).toArray) n (lvE n av) := by
  have h0 := lv_entry av hn
  refine ⟨h0.1, h0.2.1, fun i v hi => ?_⟩
  unfold lvE at hi
  rw [List.getElem?_map] at hi
  cases hx : (lg_sl av ++ List.replicate (n - (lg_sl av).length) Slot.unset)[i]? with
  | none => rw [hx] at hi; cases hi
  | some z =>
    rw [hx] at hi
    have : lvO z = some v := Option.some.inj hi
    cases z with
    | val w => cases this; simpa using hx
    | _ => cases this
theorem Ct.of {G : Gx} {l : Launch} {M : MM} {d w : Nat} {av : List Value} {h : Hp} {mc ms : Nat} {P : Option Value → Hp → Prop} (hy : plainName (mY M).cls = true) (hn : (lg_sl av).length ≤ mL M) {lv : List (Option Value)} (hlv : lvE (mL M) av = lv)
    (body : ∀ p e s m args below meth c, Go M (mkX G P d w mc ms p l e s m args below meth c) 0 lv [] h 0 0) : Ct G l M d w av h mc ms P := by
  refine Met.ofW (cc := mB M) (maxL := mL M) (ret := mT M) hy rfl ?_
  intro p e s m args below meth c s₁ B hml hv
  obtain ⟨rfl, hSy, hW, hRf⟩ := hv
  rw [lg_entry_eq]
  have hnm : meth.name = (mY M).name := (name_of_methodNamed B.named B.method).1
  have hown : s.vm.findClass (mO M) = some m.cls := findClass_of_methodNamed B.named
  have ok : OKx M (mkX G P d w mc ms p l e s m av.toArray below meth c) := ⟨B.exec, B.bytes, hml, hown, B.notSynchronized, B.returns, hnm, hW, hSy⟩
  subst hlv
  exact body p e s m av.toArray below meth c ok _ s.heap [] (Lv.entry hn) hRf (fun q hq => by cases hq)
section RT
variable {M : MM} {pc : Nat} {lv : List (Option Value)} {h : Hp} {k n : Nat} {G : Gx} {P : Option Value → Hp → Prop} {d w mc ms : Nat} {p : Program} {l : Launch} {e : Env} {s : State} {m : MethodId} {args : Array Value} {below : List Frame} {meth : Method} {c : Code}
theorem g_ireturn {x : Int32} (hd : decode (mB M) pc = .ok (.ireturn, 1)) (ht : mT M = some .int) (hk : k ≤ mc) (hn : n ≤ ms) (hP : P (some (.int x)) h) : Go M (mkX G P d w mc ms p l e s m args below meth c) pc lv [.int x] h k n := by
  intro ok ls H locs hl hRf hq
  obtain ⟨o1, o2, o3, o4, o5, o6, o7, hW, hSy⟩ := id ok
  exact W.widen hk hn (W.iret o1 o2 (by rw [o6, ht]) (fun t htp hWt => ⟨_, h, rfl, hW.trans hWt, by rw [htp]; exact hRf, hP⟩) hq hd o5)
theorem g_zreturn {x : Int32} (hd : decode (mB M) pc = .ok (.ireturn, 1)) (ht : mT M = some .boolean) (hx : x = 0 ∨ x = 1) (hk : k ≤ mc) (hn : n ≤ ms) (hP : P (some (.int x)) h) : Go M (mkX G P d w mc ms p l e s m args below meth c) pc lv [.int x] h k n := by
  intro ok ls H locs hl hRf hq
  obtain ⟨o1, o2, o3, o4, o5, o6, o7, hW, hSy⟩ := id ok
  exact W.widen hk hn (W.zret o1 o2 (by rw [o6, ht]) (by rcases hx with rfl | rfl <;> rfl) (fun t htp hWt => ⟨_, h, rfl, hW.trans hWt, by rw [htp]; exact hRf, hP⟩) hq hd o5)
theorem g_lreturn {x : Int64} (hd : decode (mB M) pc = .ok (.lreturn, 1)) (ht : mT M = some .long) (hk : k ≤ mc) (hn : n ≤ ms) (hP : P (some (.long x)) h) : Go M (mkX G P d w mc ms p l e s m args below meth c) pc lv [.long x] h k n := by
  intro ok ls H locs hl hRf hq
  obtain ⟨o1, o2, o3, o4, o5, o6, o7, hW, hSy⟩ := id ok
  exact W.widen hk hn (W.lret o1 o2 (by rw [o6, ht]) (fun t htp hWt => ⟨_, h, rfl, hW.trans hWt, by rw [htp]; exact hRf, hP⟩) hq hd o5)
theorem g_return (hd : decode (mB M) pc = .ok (.return_, 1)) (ht : mT M = none) (hk : k ≤ mc) (hn : n ≤ ms) (hP : P none h) : Go M (mkX G P d w mc ms p l e s m args below meth c) pc lv [] h k n := by
  intro ok ls H locs hl hRf hq
  obtain ⟨o1, o2, o3, o4, o5, o6, o7, hW, hSy⟩ := id ok
  exact W.widen hk hn (W.vret o1 o2 (by rw [o6, ht]) (fun t htp hWt => ⟨_, h, rfl, hW.trans hWt, by rw [htp]; exact hRf, hP⟩) hq hd o5)
theorem g_areturn {x : Option Nat} {rt : FieldType} (hd : decode (mB M) pc = .ok (.areturn, 1)) (ht : mT M = some rt) (hrt : (∃ n, rt = .object n) ∨ ∃ t, rt = .array t) (hk : k ≤ mc) (hn : n ≤ ms) (hP : P (some (va_rf x)) h) : Go M (mkX G P d w mc ms p l e s m args below meth c) pc lv [va_rf x] h k n := by
  intro ok ls H locs hl hRf hq
  obtain ⟨o1, o2, o3, o4, o5, o6, o7, hW, hSy⟩ := id ok
  exact W.widen hk hn (W.aret o1 o2 (by rw [o6, ht]) hrt (va_rf_or x) (fun t htp hWt => ⟨_, h, rfl, hW.trans hWt, by rw [htp]; exact hRf, hP⟩) hq hd o5)
end RT
theorem PcP_blind (G : Gx) (av : List Value) (h : Hp) : FrameBlind (PcP G av h) := fun a U g mk q => by
  obtain ⟨q0, q1, q2, q3⟩ := q
  exact ⟨q0, q1, q2, q3⟩
/-- how a call's entry is linked: plainly, or to a nest mate -/
def MLn (own : String) (idx : Nat) (Y : MM) : Prop := (Cond.methodLink own idx (mY Y) ∈ lw_tbl ∨ ∃ host, Cond.methodLinkNest own idx (mY Y) host ∈ lw_tbl) ∧ mCode Y ∈ lw_tbl ∧ Cond.initialized (mO Y) ∈ lw_tbl ∧ (mO Y ≠ "java/lang/invoke/MethodHandle" ∧ mO Y ≠ "java/lang/invoke/VarHandle")
def nPar (Y : MM) (n : Nat) : Prop := (parseMethodDescriptor (mY Y).desc).map (fun d => d.parameters.length) = some n
theorem nPar.to {Y : MM} {n : Nat} (h : nPar Y n) : ∀ sig, parseMethodDescriptor (mY Y).desc = some sig → n = sig.parameters.length := fun sig e => by
  unfold nPar at h
  rw [e] at h
  exact (Option.some.inj h).symm
section CL
variable {M : MM} {X : Xr} {pc : Nat} {lv : List (Option Value)} {st : List Value} {h : Hp} {k n : Nat}
/-- behind a call -/
theorem g_back {G : Gx} {p : Program} {l : Launch} {e : Env} {R : Room} {s : State} {m : MethodId} {args : Array Value} {below : List Frame} {meth : Method} {c : Code} {Q : State → Prop} {ls : Array Slot} {H : Heap} {locs : List Loc} {st0 : List Value} {P : Option Value → Hp → Prop} {mc ms : Nat} {a : Array Value}
    (ok : OKx M (G, (p, l, e, R, s, m, args, below, meth, c), Q)) (hl : Lv ls (mL M) lv) (hq : ∀ q ∈ locs, G.1.heap.size ≤ q.base)
    (run : va_Run p l e R s m args below meth c H locs k n mc ms (F0 m pc ls st0) st (QcP G P a) (fun q => G.1.heap.size ≤ q))
    (K : ∀ r h', P r h' → Go M (G, (p, l, e, R, s, m, args, below, meth, c), Q) (pc + 3) lv (r.toList ++ st) h' (k + mc) (n + ms)) : W p l e R s m args below meth c H locs k n Q (F0 m pc ls st0) := by
  intro T hT Y
  obtain ⟨v, st₀, t, T', L, h0, X', hL', e1, e2, ⟨r, h', hv, hWt, hRt, hp⟩, go⟩ := run T hT Y
  cases hv
  obtain ⟨t2, a1, b1⟩ := K v h' hp ok ls T'.heap (locs ++ L) hl (by rw [e1]; exact hRt) (fun q hqm => by
    rcases List.mem_append.mp hqm with z | z
    · exact hq q z
    · exact hL' q z) T' rfl X'
  exact ⟨t2, go t2 a1, b1⟩
def rmOk (X : Xr) (Y : MM) (d w mc ms k n : Nat) : Prop := d + 1 ≤ (xR X).frames ∧ 8 + (mL Y + 11) + w ≤ (xR X).locals ∧ k + mc ≤ (xR X).cells ∧ n + ms ≤ (xR X).slots
def catS (st : List Value) : Nat := (st.map fun v => v.category).sum
theorem code_w {G : Gx} {s : State} {A0 : Array Value} (hw : ∀ w ∈ lw_tbl, w.before A0 G.1 = true) (hW : G.1.WarmedH s.vm) {Y : MM} (hc : mCode Y ∈ lw_tbl) : ∀ w ∈ [mCode Y], ∀ (a' : Array Value) (U : State), s.WarmedH U.vm → w.before a' U = true := by
  intro w hw2 a' U hU
  rcases List.mem_singleton.mp hw2 with rfl
  exact ok_w hw (hW.trans hU) hc rfl
theorem g_callV {idx ci z a d w mc ms : Nat} {Y : MM} {As st0 : List Value} {P : Option Value → Hp → Prop} (hd : decode (mB M) pc = .ok (.invokevirtual idx, 3)) (hm : MLn (mO M) idx Y) (hi : Cond.instanceMethod (mY Y) ∈ lw_tbl) (hsel : Cond.selects (mO Y) (mY Y) (mY Y) ∈ lw_tbl) {T : u_T} {N : Nat} (hci : zCL[ci]? = some (mO Y, T, N)) (hn : nPar Y As.length)
    (C : Ct X.1 (xl X) Y d w (.ref a :: As) h mc ms P) (hs : hS h a = some (ci + 10, z)) (hst : st0 = As.reverse ++ .ref a :: st) (h8 : catS st ≤ 8) (hr : rmOk X Y d w mc ms k n)
    (K : ∀ r h', P r h' → Go M X (pc + 3) lv (r.toList ++ st) h' (k + mc) (n + ms)) : Go M X pc lv st0 h k n := by
  obtain ⟨G, ⟨p, l, e, R, s, m, args, below, meth, c⟩, Q⟩ := X
  intro ok ls H locs hl hRf hq
  obtain ⟨o1, o2, o3, o4, o5, o6, o7, hW, hSy⟩ := id ok
  obtain ⟨A0, hw, hcl, hstt⟩ := id hSy
  obtain ⟨hlk, hcd, hini, hy⟩ := hm
  obtain ⟨r1, r2, r3, r4⟩ := hr
  obtain ⟨cb, hcb, v1, v2, -⟩ := okO_c hRf hs hci
  have hfc := (u_Kn_moved hW.alike (hcl ci _ hci).1).2.1
  have hpre : PreV s H (mO Y) a (PcP G (.ref a :: As) h) As := ⟨PcP_blind _ _ _, ⟨cb, hcb, by rw [v2]; rfl, by rw [v1]; exact hfc⟩, fun U hU hWU => ⟨rfl, hSy, hW.trans hWU, by rw [hU]; exact hRf⟩⟩
  have hsz : (F0 m pc ls st0).locals.size = mL M := hl.1
  rcases hlk with hlk | ⟨host, hlk⟩
  · exact g_back ok hl hq (va_runV (Ts := []) (n := As.length) ⟨o1, o2, o3, o4, fun _ z => by cases z⟩ C ⟨⟨rfl, rfl, r1, r2, code_w hw hW hcd, List.mem_singleton.mpr rfl, ok_w hw hW hcd rfl, ok_w hw hW hini rfl, hy, hn.to, ok_w hw hW hlk rfl⟩, ok_w hw hW hi rfl, ok_w hw hW hsel rfl⟩ hpre rfl rfl hsz hst (lv_room h8) hd ⟨r3, r4⟩) K
  · exact g_back ok hl hq (va_runVN (Ts := []) (n := As.length) ⟨o1, o2, o3, o4, fun _ z => by cases z⟩ C ⟨⟨⟨rfl, rfl, r1, r2, code_w hw hW hcd, List.mem_singleton.mpr rfl⟩, ok_w hw hW hcd rfl, ok_w hw hW hini rfl, hy, hn.to, ok_mn hw hW hlk⟩, ok_w hw hW hi rfl, ok_w hw hW hsel rfl⟩ hpre rfl rfl hsz hst (lv_room h8) hd ⟨r3, r4⟩) K
theorem g_callS {idx d w mc ms : Nat} {Y : MM} {As st0 : List Value} {P : Option Value → Hp → Prop} (hd : decode (mB M) pc = .ok (.invokestatic idx, 3)) (hm : MLn (mO M) idx Y) (hi : Cond.static (mY Y) ∈ lw_tbl) (hn : nPar Y As.length)
    (C : Ct X.1 (xl X) Y d w As h mc ms P) (hst : st0 = As.reverse ++ st) (h8 : catS st ≤ 8) (hr : rmOk X Y d w mc ms k n)
    (K : ∀ r h', P r h' → Go M X (pc + 3) lv (r.toList ++ st) h' (k + mc) (n + ms)) : Go M X pc lv st0 h k n := by
  obtain ⟨G, ⟨p, l, e, R, s, m, args, below, meth, c⟩, Q⟩ := X
  intro ok ls H locs hl hRf hq
  obtain ⟨o1, o2, o3, o4, o5, o6, o7, hW, hSy⟩ := id ok
  obtain ⟨A0, hw, hcl, hstt⟩ := id hSy
  obtain ⟨hlk, hcd, hini, hy⟩ := hm
  obtain ⟨r1, r2, r3, r4⟩ := hr
  have hpre : PreS s H (PcP G As h) As := ⟨PcP_blind _ _ _, fun U hU hWU => ⟨rfl, hSy, hW.trans hWU, by rw [hU]; exact hRf⟩⟩
  have hsz : (F0 m pc ls st0).locals.size = mL M := hl.1
  rcases hlk with hlk | ⟨host, hlk⟩
  · exact g_back ok hl hq (va_runS (Ts := []) (n := As.length) ⟨o1, o2, o3, o4, fun _ z => by cases z⟩ C ⟨⟨rfl, rfl, r1, r2, code_w hw hW hcd, List.mem_singleton.mpr rfl, ok_w hw hW hcd rfl, ok_w hw hW hini rfl, hy, hn.to, ok_w hw hW hlk rfl⟩, ok_w hw hW hi rfl⟩ hpre rfl rfl hsz hst (lv_room h8) hd ⟨r3, r4⟩) K
  · exact g_back ok hl hq (va_runSN (Ts := []) (n := As.length) ⟨o1, o2, o3, o4, fun _ z => by cases z⟩ C ⟨⟨⟨rfl, rfl, r1, r2, code_w hw hW hcd, List.mem_singleton.mpr rfl⟩, ok_w hw hW hcd rfl, ok_w hw hW hini rfl, hy, hn.to, ok_mn hw hW hlk⟩, ok_w hw hW hi rfl, trivial⟩ hpre rfl rfl hsz hst (lv_room h8) hd ⟨r3, r4⟩) K
theorem g_callI {idx a d w mc ms : Nat} {Y : MM} {As st0 : List Value} {P : Option Value → Hp → Prop} (hd : decode (mB M) pc = .ok (.invokespecial idx, 3)) (hm : MLn (mO M) idx Y) (hi : Cond.instanceMethod (mY Y) ∈ lw_tbl) (hnm : (mY Y).name = "<init>") (ht : mT Y = none) (hn : nPar Y As.length)
    (C : Ct X.1 (xl X) Y d w (.ref a :: As) h mc ms P) (hst : st0 = As.reverse ++ .ref a :: st) (h8 : catS st ≤ 8) (hr : rmOk X Y d w mc ms k n)
    (K : ∀ r h', P r h' → Go M X (pc + 3) lv (r.toList ++ st) h' (k + mc) (n + ms)) : Go M X pc lv st0 h k n := by
  obtain ⟨G, ⟨p, l, e, R, s, m, args, below, meth, c⟩, Q⟩ := X
  intro ok ls H locs hl hRf hq
  obtain ⟨o1, o2, o3, o4, o5, o6, o7, hW, hSy⟩ := id ok
  obtain ⟨A0, hw, hcl, hstt⟩ := id hSy
  obtain ⟨hlk, hcd, hini, hy⟩ := hm
  obtain ⟨r1, r2, r3, r4⟩ := hr
  have hpre : PreS s H (PcP G (.ref a :: As) h) (.ref a :: As) := ⟨PcP_blind _ _ _, fun U hU hWU => ⟨rfl, hSy, hW.trans hWU, by rw [hU]; exact hRf⟩⟩
  have hsz : (F0 m pc ls st0).locals.size = mL M := hl.1
  have hcd' : mCode Y = Cond.code (mY Y) (mB Y) (mL Y) none := by unfold mCode; rw [ht]
  rcases hlk with hlk | ⟨host, hlk⟩
  · exact g_back ok hl hq (va_runI (Ts := []) (n := As.length) (bytes := mB Y) (maxL := mL Y) ⟨o1, o2, o3, o4, fun _ z => by cases z⟩ C ⟨⟨rfl, rfl, r1, r2, code_w hw hW hcd, by rw [hcd']; exact List.mem_singleton.mpr rfl, by rw [← hcd']; exact ok_w hw hW hcd rfl, ok_w hw hW hini rfl, hy, hn.to, ok_w hw hW hlk rfl⟩, hnm, ok_w hw hW hi rfl⟩ hpre rfl rfl hsz hst (lv_room h8) hd ⟨r3, r4⟩) K
  · exact g_back ok hl hq (va_runIN (Ts := []) (n := As.length) (bytes := mB Y) (maxL := mL Y) ⟨o1, o2, o3, o4, fun _ z => by cases z⟩ C ⟨⟨⟨rfl, rfl, r1, r2, code_w hw hW hcd, by rw [hcd']; exact List.mem_singleton.mpr rfl⟩, by rw [← hcd']; exact ok_w hw hW hcd rfl, ok_w hw hW hini rfl, hy, hn.to, ok_mn hw hW hlk⟩, hnm, ok_w hw hW hi rfl⟩ hpre rfl rfl hsz hst (lv_room h8) hd ⟨r3, r4⟩) K
theorem g_objInit {idx a : Nat} (hd : decode (mB M) pc = .ok (.invokespecial idx, 3)) (hw1 : Cond.methodLink (mO M) idx objectInit ∈ lw_tbl) (hw2 : Cond.instanceMethod objectInit ∈ lw_tbl) (hw3 : Cond.code objectInit ⟨#[0xb1]⟩ 1 none ∈ lw_tbl) (h8 : catS st ≤ 8) (hr : 1 ≤ (xR X).frames ∧ 20 ≤ (xR X).locals) (K : Go M X (pc + 3) lv st h k n) : Go M X pc lv (.ref a :: st) h k n := by
  obtain ⟨G, ⟨p, l, e, R, s, m, args, below, meth, c⟩, Q⟩ := X
  intro ok ls H locs hl hRf hq
  obtain ⟨o1, o2, o3, o4, o5, o6, o7, hW, hSy⟩ := id ok
  obtain ⟨A0, hw, hcl, hstt⟩ := id hSy
  refine W.objInit o1 o2 o4 (ok_w hw hW hw1 rfl) (ok_w hw hW hw2 rfl) (ok_w hw hW hw3 rfl) rfl (by rw [o3]; exact hl.1) rfl hd hr.1 ?_ (K ok ls H locs hl hRf hq)
  have := lv_room (m := m) (pc := pc) (ls := ls) (rest := .ref a :: st) h8
  have h20 := hr.2
  show _ ≤ R.locals
  have h21 : 20 ≤ R.locals := h20
  omega
end CL
