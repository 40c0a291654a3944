/-! the law's own walk -/
/-! THE CLAIM OUT OF ONE WALK OF THE LAW'S BODY. Your part is whole_start (and what it stands on); all else here is the same for every law, but numbers. -/
def R_law : String := "SeptetCentreLaw"
def lw_P (b : Addr) (xs : List Int32) (args : Array Value) (s : State) : Prop := args = #[.ref b] ∧ s.IntsAt b xs ∧ xs.length ≤ 3072 ∧ (Jvm.Cond.and given_1 narrow_1).before args s = true
def lw_Q (_ : Array Value) (s : State) (o : Outcome) (t : State) : Prop := o = .returned (some (.int 1)) ∧ Framed s o t [] 600000 7302250
def lw_Z (below : List Frame) (a : Array Value) (s : State) : State → Prop := fun t => ∃ o, t.status = .running ∧ Ended t below o ∧ lw_Q a s o t
/-- the law's own end, with 1 on the stack, nothing written that was there before, its room as the claim has it -/
theorem lw_ret {p : Program} {l : Launch} {e : Env} {s : State} {m : MethodId} {below : List Frame} {meth : Method} {c : Code} {b : Nat} (hx : p.tables.exec = Jvm.exec) (hb : c.code = code) (hr : meth.sig.returnType = ret) (hlocks : meth.locks = false) {pc : Nat} {H : Heap} {ls : Array Slot} (hdg : decode code pc = .ok (.ireturn, 1)) : W p l e room_1 s m #[Value.ref b] below meth c H [] 600000 7302250 (lw_Z below #[Value.ref b] s) (F0 m pc ls [.int 1]) := by
  intro T hT X
  obtain ⟨fs, hret, hrun, hended, hW, hframe⟩ := X.leave (v := some (.int 1)) (hlocks := hlocks) (fun h => by rw [hr] at h; cases h)
  have hmeth' : T.vm.method? m = some meth := X.method'
  refine ⟨T.setFrames fs, ?_, .returned (some (.int 1)), hrun, hended, rfl, ⟨_, rfl⟩, hW, hframe⟩
  jvm_step X.here [X.here.top, hx, hb, hdg, hmeth', hr, ret, narrow_b1]
  (try refine ⟨rfl, ?_⟩); (try refine ⟨rfl, ?_⟩)
  first | (intro acts; rw [hret _ acts rfl rfl rfl]) | rw [hret _ _ rfl rfl rfl]
  exact Steps.refl _
/-- what holds at the law's entry: the machine, the code, the tables' words (any of lw_tbl by 'hts w (by decide +kernel)'), the script of L ints xs at the cell b, what the Statement gives of the start (any of its parts by flat_of_before) -/
def lw_At (p : Program) (s : State) (m : MethodId) (meth : Method) (c : Code) (b L : Nat) (xs : Nat → Int32) : Prop :=
  p.tables.exec = Jvm.exec ∧ c.code = code ∧ meth.sig.returnType = ret ∧ c.maxLocals = 4 ∧ s.vm.findClass R_law = some m.cls ∧ (∀ w ∈ lw_tbl, w.before #[Value.ref b] s = true) ∧ va_X b L xs s s.heap ∧ b < s.heap.size ∧ meth.locks = false ∧ (Jvm.Cond.and given_1 narrow_1).before #[Value.ref b] s = true ∧ meth.name = x.name
/-- the law's frame -/
def XL (G : Gx) (p : Program) (l : Launch) (e : Env) (m : MethodId) (b : Nat) (below : List Frame) (meth : Method) (c : Code) : Xr := (G, (p, l, e, room_1, G.1, m, #[Value.ref b], below, meth, c), lw_Z below #[Value.ref b] G.1)
section LX
variable {pc : Nat} {lv : List (Option Value)} {st : List Value} {h : Hp} {k n : Nat} {G : Gx} {p : Program} {l : Launch} {e : Env} {m : MethodId} {b : Nat} {below : List Frame} {meth : Method} {c : Code}
theorem g_lawret {x : Int32} (hd : decode (mB M_LW_law) pc = .ok (.ireturn, 1)) (hk : k ≤ 600000) (hn : n ≤ 7302250) (hx : x = 1) : Go M_LW_law (XL G p l e m b below meth c) pc lv [.int x] h k n := by
  subst hx
  intro ok ls H locs hl hRf hq
  obtain ⟨o1, o2, o3, o4, o5, o6, o7, hW, hSy⟩ := id ok
  have K := W.forget (L := locs) (locs := []) hq (lw_ret (l := l) (e := e) (m := m) (below := below) (b := b) (pc := pc) (H := H) (ls := ls) o1 o2 o6 o5 hd)
  rw [List.nil_append] at K
  exact W.widen hk hn K
theorem qL_V {idx a ci z nl d' w' mc' ms' : Nat} {Y : MM} {As st0 : List Value} {P' : Option Value → Hp → Prop} (hd : decode (mB M_LW_law) pc = .ok (.invokevirtual idx, 3)) (v : VC (mO M_LW_law) idx Y ci As.length) (C : Ct G l Y d' w' (.ref a :: As) h mc' ms' P') (hs : hS h a = some (ci + 10, z)) (hst : st0 = As.reverse ++ .ref a :: st) (h8 : catS st ≤ 8) (hnl : mL Y = nl) (hr : d' + 1 ≤ 13 ∧ 19 + nl + w' ≤ 506 ∧ k + mc' ≤ 600000 ∧ n + ms' ≤ 7302250) (K : ∀ r h', P' r h' → Go M_LW_law (XL G p l e m b below meth c) (pc + 3) lv (r.toList ++ st) h' (k + mc') (n + ms')) : Go M_LW_law (XL G p l e m b below meth c) pc lv st0 h k n := by
  obtain ⟨v1, v2, v3, ⟨T, N, v4⟩, v5⟩ := v
  exact g_callV hd v1 v2 v3 v4 v5 C hs hst h8 ⟨hr.1, by show 8 + (mL Y + 11) + w' ≤ 506; rw [hnl]; omega, hr.2.2.1, hr.2.2.2⟩ K
theorem qL_I {idx a nl d' w' mc' ms' : Nat} {Y : MM} {As st0 : List Value} {P' : Option Value → Hp → Prop} (hd : decode (mB M_LW_law) pc = .ok (.invokespecial idx, 3)) (v : ICi (mO M_LW_law) idx Y As.length) (C : Ct G l Y d' w' (.ref a :: As) h mc' ms' P') (hst : st0 = As.reverse ++ .ref a :: st) (h8 : catS st ≤ 8) (hnl : mL Y = nl) (hr : d' + 1 ≤ 13 ∧ 19 + nl + w' ≤ 506 ∧ k + mc' ≤ 600000 ∧ n + ms' ≤ 7302250) (K : ∀ r h', P' r h' → Go M_LW_law (XL G p l e m b below meth c) (pc + 3) lv (r.toList ++ st) h' (k + mc') (n + ms')) : Go M_LW_law (XL G p l e m b below meth c) pc lv st0 h k n := g_callI hd v.1 v.2.1 v.2.2.1 v.2.2.2.1 v.2.2.2.2 C hst h8 ⟨hr.1, by show 8 + (mL Y + 11) + w' ≤ 506; rw [hnl]; omega, hr.2.2.1, hr.2.2.2⟩ K
end LX
