/-! calls, bundled -/
def VC (own : String) (idx : Nat) (Y : MM) (ci n : Nat) : Prop := MLn own idx Y ∧ Cond.instanceMethod (mY Y) ∈ lw_tbl ∧ Cond.selects (mO Y) (mY Y) (mY Y) ∈ lw_tbl ∧ (∃ T N, zCL[ci]? = some (mO Y, T, N)) ∧ nPar Y n
def SCs (own : String) (idx : Nat) (Y : MM) (n : Nat) : Prop := MLn own idx Y ∧ Cond.static (mY Y) ∈ lw_tbl ∧ nPar Y n
def ICi (own : String) (idx : Nat) (Y : MM) (n : Nat) : Prop := MLn own idx Y ∧ Cond.instanceMethod (mY Y) ∈ lw_tbl ∧ (mY Y).name = "<init>" ∧ mT Y = none ∧ nPar Y n
/-- one answer, one heap -/
def Ex (v : Option Value) (h1 : Hp) : Option Value → Hp → Prop := fun r h' => r = v ∧ h' = h1
theorem Fre.old {h : Hp} {q a : Nat} {kd x : Nat × Nat} (F : Fre h q) (ha : hS h a = some x) : hS (pN h q kd) a = some x := by
  have hne : a ≠ q := fun e => by rw [e, F.1] at ha; cases ha
  simp only [hS, pN, if_neg hne]
  exact ha
theorem Fre.new {h : Hp} {q : Nat} {kd : Nat × Nat} : hS (pN h q kd) q = some kd := by simp [hS, pN]
theorem Fre.ne {h : Hp} {q a : Nat} {x : Nat × Nat} (F : Fre h q) (ha : hS h a = some x) : a ≠ q := fun e => by rw [e, F.1] at ha; cases ha
section WR
variable {M : MM} {pc : Nat} {lv : List (Option Value)} {st : List Value} {h : Hp} {k n : Nat} {G : Gx} {P : Option Value → Hp → Prop} {d w mc ms : Nat} {p : Program} {l : Launch} {e : Env} {s : State} {m : MethodId} {args : Array Value} {below : List Frame} {meth : Method} {c : Code}
theorem q_V {idx a ci z nl d' w' mc' ms' : Nat} {Y : MM} {As st0 : List Value} {P' : Option Value → Hp → Prop} (hd : decode (mB M) pc = .ok (.invokevirtual idx, 3)) (v : VC (mO M) idx Y ci As.length) (C : Ct G l Y d' w' (.ref a :: As) h mc' ms' P') (hs : hS h a = some (ci + 10, z)) (hst : st0 = As.reverse ++ .ref a :: st) (h8 : catS st ≤ 8) (hnl : mL Y = nl) (hr : d' + 1 ≤ d ∧ 19 + nl + w' ≤ w ∧ k + mc' ≤ mc ∧ n + ms' ≤ ms) (K : ∀ r h', P' r h' → Go M (mkX G P d w mc ms p l e s m args below meth c) (pc + 3) lv (r.toList ++ st) h' (k + mc') (n + ms')) : Go M (mkX G P d w mc ms p l e s m args below meth c) pc lv st0 h k n := by
  obtain ⟨v1, v2, v3, ⟨T, N, v4⟩, v5⟩ := v
  exact g_callV hd v1 v2 v3 v4 v5 C hs hst h8 ⟨hr.1, by show 8 + (mL Y + 11) + w' ≤ w; rw [hnl]; omega, hr.2.2.1, hr.2.2.2⟩ K
theorem q_Vi {idx a ci z nl d' w' mc' ms' : Nat} {Y : MM} {As st0 : List Value} {x : Int32} {h1 : Hp} (hd : decode (mB M) pc = .ok (.invokevirtual idx, 3)) (v : VC (mO M) idx Y ci As.length) (C : Ct G l Y d' w' (.ref a :: As) h mc' ms' (Ex (some (.int x)) h1)) (hs : hS h a = some (ci + 10, z)) (hst : st0 = As.reverse ++ .ref a :: st) (h8 : catS st ≤ 8) (hnl : mL Y = nl) (hr : d' + 1 ≤ d ∧ 19 + nl + w' ≤ w ∧ k + mc' ≤ mc ∧ n + ms' ≤ ms) (K : Go M (mkX G P d w mc ms p l e s m args below meth c) (pc + 3) lv (.int x :: st) h1 (k + mc') (n + ms')) : Go M (mkX G P d w mc ms p l e s m args below meth c) pc lv st0 h k n := q_V hd v C hs hst h8 hnl hr (fun r h' q => by obtain ⟨rfl, rfl⟩ := q; exact K)
theorem q_Vl {idx a ci z nl d' w' mc' ms' : Nat} {Y : MM} {As st0 : List Value} {x : Int64} {h1 : Hp} (hd : decode (mB M) pc = .ok (.invokevirtual idx, 3)) (v : VC (mO M) idx Y ci As.length) (C : Ct G l Y d' w' (.ref a :: As) h mc' ms' (Ex (some (.long x)) h1)) (hs : hS h a = some (ci + 10, z)) (hst : st0 = As.reverse ++ .ref a :: st) (h8 : catS st ≤ 8) (hnl : mL Y = nl) (hr : d' + 1 ≤ d ∧ 19 + nl + w' ≤ w ∧ k + mc' ≤ mc ∧ n + ms' ≤ ms) (K : Go M (mkX G P d w mc ms p l e s m args below meth c) (pc + 3) lv (.long x :: st) h1 (k + mc') (n + ms')) : Go M (mkX G P d w mc ms p l e s m args below meth c) pc lv st0 h k n := q_V hd v C hs hst h8 hnl hr (fun r h' q => by obtain ⟨rfl, rfl⟩ := q; exact K)
theorem q_Vr {idx a ci z nl d' w' mc' ms' : Nat} {Y : MM} {As st0 : List Value} {x : Nat} {h1 : Hp} (hd : decode (mB M) pc = .ok (.invokevirtual idx, 3)) (v : VC (mO M) idx Y ci As.length) (C : Ct G l Y d' w' (.ref a :: As) h mc' ms' (Ex (some (.ref x)) h1)) (hs : hS h a = some (ci + 10, z)) (hst : st0 = As.reverse ++ .ref a :: st) (h8 : catS st ≤ 8) (hnl : mL Y = nl) (hr : d' + 1 ≤ d ∧ 19 + nl + w' ≤ w ∧ k + mc' ≤ mc ∧ n + ms' ≤ ms) (K : Go M (mkX G P d w mc ms p l e s m args below meth c) (pc + 3) lv (.ref x :: st) h1 (k + mc') (n + ms')) : Go M (mkX G P d w mc ms p l e s m args below meth c) pc lv st0 h k n := q_V hd v C hs hst h8 hnl hr (fun r h' q => by obtain ⟨rfl, rfl⟩ := q; exact K)
theorem q_Vq {idx a ci z nl d' w' mc' ms' : Nat} {Y : MM} {As st0 : List Value} {x : Option Nat} {h1 : Hp} (hd : decode (mB M) pc = .ok (.invokevirtual idx, 3)) (v : VC (mO M) idx Y ci As.length) (C : Ct G l Y d' w' (.ref a :: As) h mc' ms' (Ex (some (va_rf x)) h1)) (hs : hS h a = some (ci + 10, z)) (hst : st0 = As.reverse ++ .ref a :: st) (h8 : catS st ≤ 8) (hnl : mL Y = nl) (hr : d' + 1 ≤ d ∧ 19 + nl + w' ≤ w ∧ k + mc' ≤ mc ∧ n + ms' ≤ ms) (K : Go M (mkX G P d w mc ms p l e s m args below meth c) (pc + 3) lv (va_rf x :: st) h1 (k + mc') (n + ms')) : Go M (mkX G P d w mc ms p l e s m args below meth c) pc lv st0 h k n := q_V hd v C hs hst h8 hnl hr (fun r h' q => by obtain ⟨rfl, rfl⟩ := q; exact K)
theorem q_Vn {idx a ci z nl d' w' mc' ms' : Nat} {Y : MM} {As st0 : List Value}  {h1 : Hp} (hd : decode (mB M) pc = .ok (.invokevirtual idx, 3)) (v : VC (mO M) idx Y ci As.length) (C : Ct G l Y d' w' (.ref a :: As) h mc' ms' (Ex none h1)) (hs : hS h a = some (ci + 10, z)) (hst : st0 = As.reverse ++ .ref a :: st) (h8 : catS st ≤ 8) (hnl : mL Y = nl) (hr : d' + 1 ≤ d ∧ 19 + nl + w' ≤ w ∧ k + mc' ≤ mc ∧ n + ms' ≤ ms) (K : Go M (mkX G P d w mc ms p l e s m args below meth c) (pc + 3) lv st h1 (k + mc') (n + ms')) : Go M (mkX G P d w mc ms p l e s m args below meth c) pc lv st0 h k n := q_V hd v C hs hst h8 hnl hr (fun r h' q => by obtain ⟨rfl, rfl⟩ := q; exact K)
theorem q_S {idx nl d' w' mc' ms' : Nat} {Y : MM} {As st0 : List Value} {P' : Option Value → Hp → Prop} (hd : decode (mB M) pc = .ok (.invokestatic idx, 3)) (v : SCs (mO M) idx Y As.length) (C : Ct G l Y d' w' As h mc' ms' P') (hst : st0 = As.reverse ++ st) (h8 : catS st ≤ 8) (hnl : mL Y = nl) (hr : d' + 1 ≤ d ∧ 19 + nl + w' ≤ w ∧ k + mc' ≤ mc ∧ n + ms' ≤ ms) (K : ∀ r h', P' r h' → Go M (mkX G P d w mc ms p l e s m args below meth c) (pc + 3) lv (r.toList ++ st) h' (k + mc') (n + ms')) : Go M (mkX G P d w mc ms p l e s m args below meth c) pc lv st0 h k n := g_callS hd v.1 v.2.1 v.2.2 C hst h8 ⟨hr.1, by show 8 + (mL Y + 11) + w' ≤ w; rw [hnl]; omega, hr.2.2.1, hr.2.2.2⟩ K
theorem q_Si {idx nl d' w' mc' ms' : Nat} {Y : MM} {As st0 : List Value} {x : Int32} {h1 : Hp} (hd : decode (mB M) pc = .ok (.invokestatic idx, 3)) (v : SCs (mO M) idx Y As.length) (C : Ct G l Y d' w' As h mc' ms' (Ex (some (.int x)) h1)) (hst : st0 = As.reverse ++ st) (h8 : catS st ≤ 8) (hnl : mL Y = nl) (hr : d' + 1 ≤ d ∧ 19 + nl + w' ≤ w ∧ k + mc' ≤ mc ∧ n + ms' ≤ ms) (K : Go M (mkX G P d w mc ms p l e s m args below meth c) (pc + 3) lv (.int x :: st) h1 (k + mc') (n + ms')) : Go M (mkX G P d w mc ms p l e s m args below meth c) pc lv st0 h k n := q_S hd v C hst h8 hnl hr (fun r h' q => by obtain ⟨rfl, rfl⟩ := q; exact K)
theorem q_Sl {idx nl d' w' mc' ms' : Nat} {Y : MM} {As st0 : List Value} {x : Int64} {h1 : Hp} (hd : decode (mB M) pc = .ok (.invokestatic idx, 3)) (v : SCs (mO M) idx Y As.length) (C : Ct G l Y d' w' As h mc' ms' (Ex (some (.long x)) h1)) (hst : st0 = As.reverse ++ st) (h8 : catS st ≤ 8) (hnl : mL Y = nl) (hr : d' + 1 ≤ d ∧ 19 + nl + w' ≤ w ∧ k + mc' ≤ mc ∧ n + ms' ≤ ms) (K : Go M (mkX G P d w mc ms p l e s m args below meth c) (pc + 3) lv (.long x :: st) h1 (k + mc') (n + ms')) : Go M (mkX G P d w mc ms p l e s m args below meth c) pc lv st0 h k n := q_S hd v C hst h8 hnl hr (fun r h' q => by obtain ⟨rfl, rfl⟩ := q; exact K)
theorem q_Sr {idx nl d' w' mc' ms' : Nat} {Y : MM} {As st0 : List Value} {x : Nat} {h1 : Hp} (hd : decode (mB M) pc = .ok (.invokestatic idx, 3)) (v : SCs (mO M) idx Y As.length) (C : Ct G l Y d' w' As h mc' ms' (Ex (some (.ref x)) h1)) (hst : st0 = As.reverse ++ st) (h8 : catS st ≤ 8) (hnl : mL Y = nl) (hr : d' + 1 ≤ d ∧ 19 + nl + w' ≤ w ∧ k + mc' ≤ mc ∧ n + ms' ≤ ms) (K : Go M (mkX G P d w mc ms p l e s m args below meth c) (pc + 3) lv (.ref x :: st) h1 (k + mc') (n + ms')) : Go M (mkX G P d w mc ms p l e s m args below meth c) pc lv st0 h k n := q_S hd v C hst h8 hnl hr (fun r h' q => by obtain ⟨rfl, rfl⟩ := q; exact K)
theorem q_Sq {idx nl d' w' mc' ms' : Nat} {Y : MM} {As st0 : List Value} {x : Option Nat} {h1 : Hp} (hd : decode (mB M) pc = .ok (.invokestatic idx, 3)) (v : SCs (mO M) idx Y As.length) (C : Ct G l Y d' w' As h mc' ms' (Ex (some (va_rf x)) h1)) (hst : st0 = As.reverse ++ st) (h8 : catS st ≤ 8) (hnl : mL Y = nl) (hr : d' + 1 ≤ d ∧ 19 + nl + w' ≤ w ∧ k + mc' ≤ mc ∧ n + ms' ≤ ms) (K : Go M (mkX G P d w mc ms p l e s m args below meth c) (pc + 3) lv (va_rf x :: st) h1 (k + mc') (n + ms')) : Go M (mkX G P d w mc ms p l e s m args below meth c) pc lv st0 h k n := q_S hd v C hst h8 hnl hr (fun r h' q => by obtain ⟨rfl, rfl⟩ := q; exact K)
theorem q_Sn {idx nl d' w' mc' ms' : Nat} {Y : MM} {As st0 : List Value}  {h1 : Hp} (hd : decode (mB M) pc = .ok (.invokestatic idx, 3)) (v : SCs (mO M) idx Y As.length) (C : Ct G l Y d' w' As h mc' ms' (Ex none h1)) (hst : st0 = As.reverse ++ st) (h8 : catS st ≤ 8) (hnl : mL Y = nl) (hr : d' + 1 ≤ d ∧ 19 + nl + w' ≤ w ∧ k + mc' ≤ mc ∧ n + ms' ≤ ms) (K : Go M (mkX G P d w mc ms p l e s m args below meth c) (pc + 3) lv st h1 (k + mc') (n + ms')) : Go M (mkX G P d w mc ms p l e s m args below meth c) pc lv st0 h k n := q_S hd v C hst h8 hnl hr (fun r h' q => by obtain ⟨rfl, rfl⟩ := q; exact K)
theorem q_I {idx a nl d' w' mc' ms' : Nat} {Y : MM} {As st0 : List Value} {P' : Option Value → Hp → Prop} (hd : decode (mB M) pc = .ok (.invokespecial idx, 3)) (v : ICi (mO M) idx Y As.length) (C : Ct G l Y d' w' (.ref a :: As) h mc' ms' P') (hst : st0 = As.reverse ++ .ref a :: st) (h8 : catS st ≤ 8) (hnl : mL Y = nl) (hr : d' + 1 ≤ d ∧ 19 + nl + w' ≤ w ∧ k + mc' ≤ mc ∧ n + ms' ≤ ms) (K : ∀ r h', P' r h' → Go M (mkX G P d w mc ms p l e s m args below meth c) (pc + 3) lv (r.toList ++ st) h' (k + mc') (n + ms')) : Go M (mkX G P d w mc ms p l e s m args below meth c) pc lv st0 h k n := g_callI hd v.1 v.2.1 v.2.2.1 v.2.2.2.1 v.2.2.2.2 C hst h8 ⟨hr.1, by show 8 + (mL Y + 11) + w' ≤ w; rw [hnl]; omega, hr.2.2.1, hr.2.2.2⟩ K
theorem q_In {idx a nl d' w' mc' ms' : Nat} {Y : MM} {As st0 : List Value}  {h1 : Hp} (hd : decode (mB M) pc = .ok (.invokespecial idx, 3)) (v : ICi (mO M) idx Y As.length) (C : Ct G l Y d' w' (.ref a :: As) h mc' ms' (Ex none h1)) (hst : st0 = As.reverse ++ .ref a :: st) (h8 : catS st ≤ 8) (hnl : mL Y = nl) (hr : d' + 1 ≤ d ∧ 19 + nl + w' ≤ w ∧ k + mc' ≤ mc ∧ n + ms' ≤ ms) (K : Go M (mkX G P d w mc ms p l e s m args below meth c) (pc + 3) lv st h1 (k + mc') (n + ms')) : Go M (mkX G P d w mc ms p l e s m args below meth c) pc lv st0 h k n := q_I hd v C hst h8 hnl hr (fun r h' q => by obtain ⟨rfl, rfl⟩ := q; exact K)
end WR
/-! words of methods -/
theorem tb1 (w : Cond) (h : w ∈ tables_1_1) : w ∈ lw_tbl := List.mem_append_right _ (List.mem_append_left _ h)
theorem tb2 (w : Cond) (h : w ∈ tables_1_2) : w ∈ lw_tbl := List.mem_append_right _ (List.mem_append_right _ (List.mem_append_left _ h))
theorem tb3 (w : Cond) (h : w ∈ tables_1_3) : w ∈ lw_tbl := List.mem_append_right _ (List.mem_append_right _ (List.mem_append_right _ (List.mem_append_left _ h)))
theorem tb4 (w : Cond) (h : w ∈ tables_1_4) : w ∈ lw_tbl := List.mem_append_right _ (List.mem_append_right _ (List.mem_append_right _ (List.mem_append_right _ (List.mem_append_left _ h))))
theorem tb5 (w : Cond) (h : w ∈ tables_1_5) : w ∈ lw_tbl := List.mem_append_right _ (List.mem_append_right _ (List.mem_append_right _ (List.mem_append_right _ (List.mem_append_right _ h))))
theorem kc_SC_init : mCode M_SC_init ∈ lw_tbl := tb1 _ (List.mem_of_getElem? (i := 26) rfl)
theorem ki_SC_init : Cond.initialized (mO M_SC_init) ∈ lw_tbl := tb1 _ (List.mem_of_getElem? (i := 1) (by decide +kernel))
theorem kn_SC_init : Cond.instanceMethod (mY M_SC_init) ∈ lw_tbl := tb1 _ (List.mem_of_getElem? (i := 25) (by decide +kernel))
theorem kc_SC_register : mCode M_SC_register ∈ lw_tbl := tb1 _ (List.mem_of_getElem? (i := 158) rfl)
theorem ki_SC_register : Cond.initialized (mO M_SC_register) ∈ lw_tbl := tb1 _ (List.mem_of_getElem? (i := 1) (by decide +kernel))
theorem kn_SC_register : Cond.instanceMethod (mY M_SC_register) ∈ lw_tbl := tb1 _ (List.mem_of_getElem? (i := 156) (by decide +kernel))
theorem kv_SC_register : Cond.selects (mO M_SC_register) (mY M_SC_register) (mY M_SC_register) ∈ lw_tbl := tb1 _ (List.mem_of_getElem? (i := 157) (by decide +kernel))
theorem kc_SC_power : mCode M_SC_power ∈ lw_tbl := tb1 _ (List.mem_of_getElem? (i := 170) rfl)
theorem ki_SC_power : Cond.initialized (mO M_SC_power) ∈ lw_tbl := tb1 _ (List.mem_of_getElem? (i := 1) (by decide +kernel))
theorem kn_SC_power : Cond.instanceMethod (mY M_SC_power) ∈ lw_tbl := tb1 _ (List.mem_of_getElem? (i := 168) (by decide +kernel))
theorem kv_SC_power : Cond.selects (mO M_SC_power) (mY M_SC_power) (mY M_SC_power) ∈ lw_tbl := tb1 _ (List.mem_of_getElem? (i := 169) (by decide +kernel))
theorem kc_SC_type : mCode M_SC_type ∈ lw_tbl := tb1 _ (List.mem_of_getElem? (i := 174) rfl)
theorem ki_SC_type : Cond.initialized (mO M_SC_type) ∈ lw_tbl := tb1 _ (List.mem_of_getElem? (i := 1) (by decide +kernel))
theorem kn_SC_type : Cond.instanceMethod (mY M_SC_type) ∈ lw_tbl := tb1 _ (List.mem_of_getElem? (i := 172) (by decide +kernel))
theorem kv_SC_type : Cond.selects (mO M_SC_type) (mY M_SC_type) (mY M_SC_type) ∈ lw_tbl := tb1 _ (List.mem_of_getElem? (i := 173) (by decide +kernel))
theorem kc_SC_wipe : mCode M_SC_wipe ∈ lw_tbl := tb1 _ (List.mem_of_getElem? (i := 195) rfl)
theorem ki_SC_wipe : Cond.initialized (mO M_SC_wipe) ∈ lw_tbl := tb1 _ (List.mem_of_getElem? (i := 1) (by decide +kernel))
theorem kn_SC_wipe : Cond.instanceMethod (mY M_SC_wipe) ∈ lw_tbl := tb1 _ (List.mem_of_getElem? (i := 193) (by decide +kernel))
theorem kv_SC_wipe : Cond.selects (mO M_SC_wipe) (mY M_SC_wipe) (mY M_SC_wipe) ∈ lw_tbl := tb1 _ (List.mem_of_getElem? (i := 194) (by decide +kernel))
theorem kc_SC_send : mCode M_SC_send ∈ lw_tbl := tb1 _ (List.mem_of_getElem? (i := 199) rfl)
theorem ki_SC_send : Cond.initialized (mO M_SC_send) ∈ lw_tbl := tb1 _ (List.mem_of_getElem? (i := 1) (by decide +kernel))
theorem kn_SC_send : Cond.instanceMethod (mY M_SC_send) ∈ lw_tbl := tb1 _ (List.mem_of_getElem? (i := 197) (by decide +kernel))
theorem kv_SC_send : Cond.selects (mO M_SC_send) (mY M_SC_send) (mY M_SC_send) ∈ lw_tbl := tb1 _ (List.mem_of_getElem? (i := 198) (by decide +kernel))
theorem kc_SC_alter : mCode M_SC_alter ∈ lw_tbl := tb2 _ (List.mem_of_getElem? (i := 147) rfl)
theorem ki_SC_alter : Cond.initialized (mO M_SC_alter) ∈ lw_tbl := tb1 _ (List.mem_of_getElem? (i := 1) (by decide +kernel))
theorem kn_SC_alter : Cond.instanceMethod (mY M_SC_alter) ∈ lw_tbl := tb2 _ (List.mem_of_getElem? (i := 145) (by decide +kernel))
theorem kv_SC_alter : Cond.selects (mO M_SC_alter) (mY M_SC_alter) (mY M_SC_alter) ∈ lw_tbl := tb2 _ (List.mem_of_getElem? (i := 146) (by decide +kernel))
theorem kc_SC_receive : mCode M_SC_receive ∈ lw_tbl := tb2 _ (List.mem_of_getElem? (i := 179) rfl)
theorem ki_SC_receive : Cond.initialized (mO M_SC_receive) ∈ lw_tbl := tb1 _ (List.mem_of_getElem? (i := 1) (by decide +kernel))
theorem kn_SC_receive : Cond.instanceMethod (mY M_SC_receive) ∈ lw_tbl := tb2 _ (List.mem_of_getElem? (i := 177) (by decide +kernel))
theorem kv_SC_receive : Cond.selects (mO M_SC_receive) (mY M_SC_receive) (mY M_SC_receive) ∈ lw_tbl := tb2 _ (List.mem_of_getElem? (i := 178) (by decide +kernel))
theorem kc_SC_advance : mCode M_SC_advance ∈ lw_tbl := tb3 _ (List.mem_of_getElem? (i := 40) rfl)
theorem ki_SC_advance : Cond.initialized (mO M_SC_advance) ∈ lw_tbl := tb1 _ (List.mem_of_getElem? (i := 1) (by decide +kernel))
theorem kn_SC_advance : Cond.instanceMethod (mY M_SC_advance) ∈ lw_tbl := tb3 _ (List.mem_of_getElem? (i := 38) (by decide +kernel))
theorem kv_SC_advance : Cond.selects (mO M_SC_advance) (mY M_SC_advance) (mY M_SC_advance) ∈ lw_tbl := tb3 _ (List.mem_of_getElem? (i := 39) (by decide +kernel))
theorem kc_SC_take : mCode M_SC_take ∈ lw_tbl := tb3 _ (List.mem_of_getElem? (i := 107) rfl)
theorem ki_SC_take : Cond.initialized (mO M_SC_take) ∈ lw_tbl := tb1 _ (List.mem_of_getElem? (i := 1) (by decide +kernel))
theorem kn_SC_take : Cond.instanceMethod (mY M_SC_take) ∈ lw_tbl := tb3 _ (List.mem_of_getElem? (i := 105) (by decide +kernel))
theorem kv_SC_take : Cond.selects (mO M_SC_take) (mY M_SC_take) (mY M_SC_take) ∈ lw_tbl := tb3 _ (List.mem_of_getElem? (i := 106) (by decide +kernel))
theorem kc_SC_copy : mCode M_SC_copy ∈ lw_tbl := tb3 _ (List.mem_of_getElem? (i := 183) rfl)
theorem ki_SC_copy : Cond.initialized (mO M_SC_copy) ∈ lw_tbl := tb1 _ (List.mem_of_getElem? (i := 1) (by decide +kernel))
theorem kn_SC_copy : Cond.instanceMethod (mY M_SC_copy) ∈ lw_tbl := tb3 _ (List.mem_of_getElem? (i := 181) (by decide +kernel))
theorem kv_SC_copy : Cond.selects (mO M_SC_copy) (mY M_SC_copy) (mY M_SC_copy) ∈ lw_tbl := tb3 _ (List.mem_of_getElem? (i := 182) (by decide +kernel))
theorem kc_SC_swap : mCode M_SC_swap ∈ lw_tbl := tb3 _ (List.mem_of_getElem? (i := 187) rfl)
theorem ki_SC_swap : Cond.initialized (mO M_SC_swap) ∈ lw_tbl := tb1 _ (List.mem_of_getElem? (i := 1) (by decide +kernel))
theorem kn_SC_swap : Cond.instanceMethod (mY M_SC_swap) ∈ lw_tbl := tb3 _ (List.mem_of_getElem? (i := 185) (by decide +kernel))
theorem kv_SC_swap : Cond.selects (mO M_SC_swap) (mY M_SC_swap) (mY M_SC_swap) ∈ lw_tbl := tb3 _ (List.mem_of_getElem? (i := 186) (by decide +kernel))
theorem kc_SC_report : mCode M_SC_report ∈ lw_tbl := tb3 _ (List.mem_of_getElem? (i := 199) rfl)
theorem ki_SC_report : Cond.initialized (mO M_SC_report) ∈ lw_tbl := tb1 _ (List.mem_of_getElem? (i := 1) (by decide +kernel))
theorem kn_SC_report : Cond.instanceMethod (mY M_SC_report) ∈ lw_tbl := tb3 _ (List.mem_of_getElem? (i := 197) (by decide +kernel))
theorem kv_SC_report : Cond.selects (mO M_SC_report) (mY M_SC_report) (mY M_SC_report) ∈ lw_tbl := tb3 _ (List.mem_of_getElem? (i := 198) (by decide +kernel))
theorem kc_SC_waiting : mCode M_SC_waiting ∈ lw_tbl := tb3 _ (List.mem_of_getElem? (i := 205) rfl)
theorem ki_SC_waiting : Cond.initialized (mO M_SC_waiting) ∈ lw_tbl := tb1 _ (List.mem_of_getElem? (i := 1) (by decide +kernel))
theorem kn_SC_waiting : Cond.instanceMethod (mY M_SC_waiting) ∈ lw_tbl := tb3 _ (List.mem_of_getElem? (i := 203) (by decide +kernel))
theorem kv_SC_waiting : Cond.selects (mO M_SC_waiting) (mY M_SC_waiting) (mY M_SC_waiting) ∈ lw_tbl := tb3 _ (List.mem_of_getElem? (i := 204) (by decide +kernel))
theorem kc_SC_byteAt : mCode M_SC_byteAt ∈ lw_tbl := tb3 _ (List.mem_of_getElem? (i := 217) rfl)
theorem ki_SC_byteAt : Cond.initialized (mO M_SC_byteAt) ∈ lw_tbl := tb1 _ (List.mem_of_getElem? (i := 1) (by decide +kernel))
theorem kn_SC_byteAt : Cond.instanceMethod (mY M_SC_byteAt) ∈ lw_tbl := tb3 _ (List.mem_of_getElem? (i := 215) (by decide +kernel))
theorem kv_SC_byteAt : Cond.selects (mO M_SC_byteAt) (mY M_SC_byteAt) (mY M_SC_byteAt) ∈ lw_tbl := tb3 _ (List.mem_of_getElem? (i := 216) (by decide +kernel))
theorem kc_SC_text : mCode M_SC_text ∈ lw_tbl := tb3 _ (List.mem_of_getElem? (i := 221) rfl)
theorem ki_SC_text : Cond.initialized (mO M_SC_text) ∈ lw_tbl := tb1 _ (List.mem_of_getElem? (i := 1) (by decide +kernel))
theorem kn_SC_text : Cond.instanceMethod (mY M_SC_text) ∈ lw_tbl := tb3 _ (List.mem_of_getElem? (i := 219) (by decide +kernel))
theorem kv_SC_text : Cond.selects (mO M_SC_text) (mY M_SC_text) (mY M_SC_text) ∈ lw_tbl := tb3 _ (List.mem_of_getElem? (i := 220) (by decide +kernel))
theorem kc_SC_sender : mCode M_SC_sender ∈ lw_tbl := tb3 _ (List.mem_of_getElem? (i := 225) rfl)
theorem ki_SC_sender : Cond.initialized (mO M_SC_sender) ∈ lw_tbl := tb1 _ (List.mem_of_getElem? (i := 1) (by decide +kernel))
theorem kn_SC_sender : Cond.instanceMethod (mY M_SC_sender) ∈ lw_tbl := tb3 _ (List.mem_of_getElem? (i := 223) (by decide +kernel))
theorem kv_SC_sender : Cond.selects (mO M_SC_sender) (mY M_SC_sender) (mY M_SC_sender) ∈ lw_tbl := tb3 _ (List.mem_of_getElem? (i := 224) (by decide +kernel))
theorem kc_SC_state : mCode M_SC_state ∈ lw_tbl := tb3 _ (List.mem_of_getElem? (i := 229) rfl)
theorem ki_SC_state : Cond.initialized (mO M_SC_state) ∈ lw_tbl := tb1 _ (List.mem_of_getElem? (i := 1) (by decide +kernel))
theorem kn_SC_state : Cond.instanceMethod (mY M_SC_state) ∈ lw_tbl := tb3 _ (List.mem_of_getElem? (i := 227) (by decide +kernel))
theorem kv_SC_state : Cond.selects (mO M_SC_state) (mY M_SC_state) (mY M_SC_state) ∈ lw_tbl := tb3 _ (List.mem_of_getElem? (i := 228) (by decide +kernel))
theorem kc_SC_offers : mCode M_SC_offers ∈ lw_tbl := tb3 _ (List.mem_of_getElem? (i := 233) rfl)
theorem ki_SC_offers : Cond.initialized (mO M_SC_offers) ∈ lw_tbl := tb1 _ (List.mem_of_getElem? (i := 1) (by decide +kernel))
theorem kn_SC_offers : Cond.instanceMethod (mY M_SC_offers) ∈ lw_tbl := tb3 _ (List.mem_of_getElem? (i := 231) (by decide +kernel))
theorem kv_SC_offers : Cond.selects (mO M_SC_offers) (mY M_SC_offers) (mY M_SC_offers) ∈ lw_tbl := tb3 _ (List.mem_of_getElem? (i := 232) (by decide +kernel))
theorem kc_SC_time : mCode M_SC_time ∈ lw_tbl := tb3 _ (List.mem_of_getElem? (i := 237) rfl)
theorem ki_SC_time : Cond.initialized (mO M_SC_time) ∈ lw_tbl := tb1 _ (List.mem_of_getElem? (i := 1) (by decide +kernel))
theorem kn_SC_time : Cond.instanceMethod (mY M_SC_time) ∈ lw_tbl := tb3 _ (List.mem_of_getElem? (i := 235) (by decide +kernel))
theorem kv_SC_time : Cond.selects (mO M_SC_time) (mY M_SC_time) (mY M_SC_time) ∈ lw_tbl := tb3 _ (List.mem_of_getElem? (i := 236) (by decide +kernel))
theorem kc_SC_isNumber : mCode M_SC_isNumber ∈ lw_tbl := tb1 _ (List.mem_of_getElem? (i := 165) rfl)
theorem ki_SC_isNumber : Cond.initialized (mO M_SC_isNumber) ∈ lw_tbl := tb1 _ (List.mem_of_getElem? (i := 1) (by decide +kernel))
theorem ks_SC_isNumber : Cond.static (mY M_SC_isNumber) ∈ lw_tbl := tb1 _ (List.mem_of_getElem? (i := 164) (by decide +kernel))
theorem kc_SC_deviceOf : mCode M_SC_deviceOf ∈ lw_tbl := tb1 _ (List.mem_of_getElem? (i := 162) rfl)
theorem ki_SC_deviceOf : Cond.initialized (mO M_SC_deviceOf) ∈ lw_tbl := tb1 _ (List.mem_of_getElem? (i := 1) (by decide +kernel))
theorem kn_SC_deviceOf : Cond.instanceMethod (mY M_SC_deviceOf) ∈ lw_tbl := tb1 _ (List.mem_of_getElem? (i := 161) (by decide +kernel))
theorem kv_SC_deviceOf : Cond.selects (mO M_SC_deviceOf) (mY M_SC_deviceOf) (mY M_SC_deviceOf) ∈ lw_tbl := List.mem_of_getElem? (i := 0) (by decide +kernel)
theorem kc_SC_lineOf : mCode M_SC_lineOf ∈ lw_tbl := tb3 _ (List.mem_of_getElem? (i := 209) rfl)
theorem ki_SC_lineOf : Cond.initialized (mO M_SC_lineOf) ∈ lw_tbl := tb1 _ (List.mem_of_getElem? (i := 1) (by decide +kernel))
theorem kn_SC_lineOf : Cond.instanceMethod (mY M_SC_lineOf) ∈ lw_tbl := tb3 _ (List.mem_of_getElem? (i := 208) (by decide +kernel))
theorem kv_SC_lineOf : Cond.selects (mO M_SC_lineOf) (mY M_SC_lineOf) (mY M_SC_lineOf) ∈ lw_tbl := List.mem_of_getElem? (i := 13) (by decide +kernel)
theorem kc_SC_sendUp : mCode M_SC_sendUp ∈ lw_tbl := tb1 _ (List.mem_of_getElem? (i := 226) rfl)
theorem ki_SC_sendUp : Cond.initialized (mO M_SC_sendUp) ∈ lw_tbl := tb1 _ (List.mem_of_getElem? (i := 1) (by decide +kernel))
theorem kn_SC_sendUp : Cond.instanceMethod (mY M_SC_sendUp) ∈ lw_tbl := tb1 _ (List.mem_of_getElem? (i := 225) (by decide +kernel))
theorem kv_SC_sendUp : Cond.selects (mO M_SC_sendUp) (mY M_SC_sendUp) (mY M_SC_sendUp) ∈ lw_tbl := List.mem_of_getElem? (i := 1) (by decide +kernel)
theorem kc_SC_earliestPlace : mCode M_SC_earliestPlace ∈ lw_tbl := tb3 _ (List.mem_of_getElem? (i := 46) rfl)
theorem ki_SC_earliestPlace : Cond.initialized (mO M_SC_earliestPlace) ∈ lw_tbl := tb1 _ (List.mem_of_getElem? (i := 1) (by decide +kernel))
theorem kn_SC_earliestPlace : Cond.instanceMethod (mY M_SC_earliestPlace) ∈ lw_tbl := tb3 _ (List.mem_of_getElem? (i := 45) (by decide +kernel))
theorem kv_SC_earliestPlace : Cond.selects (mO M_SC_earliestPlace) (mY M_SC_earliestPlace) (mY M_SC_earliestPlace) ∈ lw_tbl := List.mem_of_getElem? (i := 8) (by decide +kernel)
theorem kc_SC_dealWith : mCode M_SC_dealWith ∈ lw_tbl := tb3 _ (List.mem_of_getElem? (i := 56) rfl)
theorem ki_SC_dealWith : Cond.initialized (mO M_SC_dealWith) ∈ lw_tbl := tb1 _ (List.mem_of_getElem? (i := 1) (by decide +kernel))
theorem kn_SC_dealWith : Cond.instanceMethod (mY M_SC_dealWith) ∈ lw_tbl := tb3 _ (List.mem_of_getElem? (i := 55) (by decide +kernel))
theorem kv_SC_dealWith : Cond.selects (mO M_SC_dealWith) (mY M_SC_dealWith) (mY M_SC_dealWith) ∈ lw_tbl := List.mem_of_getElem? (i := 9) (by decide +kernel)
theorem kc_SC_holderOf : mCode M_SC_holderOf ∈ lw_tbl := tb3 _ (List.mem_of_getElem? (i := 62) rfl)
theorem ki_SC_holderOf : Cond.initialized (mO M_SC_holderOf) ∈ lw_tbl := tb1 _ (List.mem_of_getElem? (i := 1) (by decide +kernel))
theorem kn_SC_holderOf : Cond.instanceMethod (mY M_SC_holderOf) ∈ lw_tbl := tb3 _ (List.mem_of_getElem? (i := 61) (by decide +kernel))
theorem kv_SC_holderOf : Cond.selects (mO M_SC_holderOf) (mY M_SC_holderOf) (mY M_SC_holderOf) ∈ lw_tbl := List.mem_of_getElem? (i := 10) (by decide +kernel)
theorem kc_MO_init : mCode M_MO_init ∈ lw_tbl := tb4 _ (List.mem_of_getElem? (i := 2) rfl)
theorem ki_MO_init : Cond.initialized (mO M_MO_init) ∈ lw_tbl := tb1 _ (List.mem_of_getElem? (i := 8) (by decide +kernel))
theorem kn_MO_init : Cond.instanceMethod (mY M_MO_init) ∈ lw_tbl := tb4 _ (List.mem_of_getElem? (i := 1) (by decide +kernel))
theorem kc_MO_plain : mCode M_MO_plain ∈ lw_tbl := tb4 _ (List.mem_of_getElem? (i := 163) rfl)
theorem ki_MO_plain : Cond.initialized (mO M_MO_plain) ∈ lw_tbl := tb1 _ (List.mem_of_getElem? (i := 8) (by decide +kernel))
theorem ks_MO_plain : Cond.static (mY M_MO_plain) ∈ lw_tbl := tb4 _ (List.mem_of_getElem? (i := 162) (by decide +kernel))
theorem kc_MO_upper : mCode M_MO_upper ∈ lw_tbl := tb4 _ (List.mem_of_getElem? (i := 166) rfl)
theorem ki_MO_upper : Cond.initialized (mO M_MO_upper) ∈ lw_tbl := tb1 _ (List.mem_of_getElem? (i := 8) (by decide +kernel))
theorem ks_MO_upper : Cond.static (mY M_MO_upper) ∈ lw_tbl := tb4 _ (List.mem_of_getElem? (i := 165) (by decide +kernel))
theorem kc_MO_escaped : mCode M_MO_escaped ∈ lw_tbl := tb4 _ (List.mem_of_getElem? (i := 169) rfl)
theorem ki_MO_escaped : Cond.initialized (mO M_MO_escaped) ∈ lw_tbl := tb1 _ (List.mem_of_getElem? (i := 8) (by decide +kernel))
theorem ks_MO_escaped : Cond.static (mY M_MO_escaped) ∈ lw_tbl := tb4 _ (List.mem_of_getElem? (i := 168) (by decide +kernel))
theorem kc_MO_encode : mCode M_MO_encode ∈ lw_tbl := tb4 _ (List.mem_of_getElem? (i := 160) rfl)
theorem ki_MO_encode : Cond.initialized (mO M_MO_encode) ∈ lw_tbl := tb1 _ (List.mem_of_getElem? (i := 8) (by decide +kernel))
theorem kn_MO_encode : Cond.instanceMethod (mY M_MO_encode) ∈ lw_tbl := tb4 _ (List.mem_of_getElem? (i := 159) (by decide +kernel))
theorem kv_MO_encode : Cond.selects (mO M_MO_encode) (mY M_MO_encode) (mY M_MO_encode) ∈ lw_tbl := List.mem_of_getElem? (i := 14) (by decide +kernel)
theorem kc_MO_put : mCode M_MO_put ∈ lw_tbl := tb4 _ (List.mem_of_getElem? (i := 185) rfl)
theorem ki_MO_put : Cond.initialized (mO M_MO_put) ∈ lw_tbl := tb1 _ (List.mem_of_getElem? (i := 8) (by decide +kernel))
theorem kn_MO_put : Cond.instanceMethod (mY M_MO_put) ∈ lw_tbl := tb4 _ (List.mem_of_getElem? (i := 184) (by decide +kernel))
theorem kv_MO_put : Cond.selects (mO M_MO_put) (mY M_MO_put) (mY M_MO_put) ∈ lw_tbl := List.mem_of_getElem? (i := 18) (by decide +kernel)
theorem kc_MO_power : mCode M_MO_power ∈ lw_tbl := tb4 _ (List.mem_of_getElem? (i := 192) rfl)
theorem ki_MO_power : Cond.initialized (mO M_MO_power) ∈ lw_tbl := tb1 _ (List.mem_of_getElem? (i := 8) (by decide +kernel))
theorem ks_MO_power : Cond.static (mY M_MO_power) ∈ lw_tbl := tb4 _ (List.mem_of_getElem? (i := 191) (by decide +kernel))
theorem kc_MO_putDigits : mCode M_MO_putDigits ∈ lw_tbl := tb4 _ (List.mem_of_getElem? (i := 197) rfl)
theorem ki_MO_putDigits : Cond.initialized (mO M_MO_putDigits) ∈ lw_tbl := tb1 _ (List.mem_of_getElem? (i := 8) (by decide +kernel))
theorem kn_MO_putDigits : Cond.instanceMethod (mY M_MO_putDigits) ∈ lw_tbl := tb4 _ (List.mem_of_getElem? (i := 196) (by decide +kernel))
theorem kv_MO_putDigits : Cond.selects (mO M_MO_putDigits) (mY M_MO_putDigits) (mY M_MO_putDigits) ∈ lw_tbl := List.mem_of_getElem? (i := 20) (by decide +kernel)
theorem kc_MO_putAddress : mCode M_MO_putAddress ∈ lw_tbl := tb4 _ (List.mem_of_getElem? (i := 189) rfl)
theorem ki_MO_putAddress : Cond.initialized (mO M_MO_putAddress) ∈ lw_tbl := tb1 _ (List.mem_of_getElem? (i := 8) (by decide +kernel))
theorem kn_MO_putAddress : Cond.instanceMethod (mY M_MO_putAddress) ∈ lw_tbl := tb4 _ (List.mem_of_getElem? (i := 188) (by decide +kernel))
theorem kv_MO_putAddress : Cond.selects (mO M_MO_putAddress) (mY M_MO_putAddress) (mY M_MO_putAddress) ∈ lw_tbl := List.mem_of_getElem? (i := 19) (by decide +kernel)
theorem kc_MO_bytesFor : mCode M_MO_bytesFor ∈ lw_tbl := tb4 _ (List.mem_of_getElem? (i := 204) rfl)
theorem ki_MO_bytesFor : Cond.initialized (mO M_MO_bytesFor) ∈ lw_tbl := tb1 _ (List.mem_of_getElem? (i := 8) (by decide +kernel))
theorem ks_MO_bytesFor : Cond.static (mY M_MO_bytesFor) ∈ lw_tbl := tb4 _ (List.mem_of_getElem? (i := 203) (by decide +kernel))
theorem kc_MO_putData : mCode M_MO_putData ∈ lw_tbl := tb4 _ (List.mem_of_getElem? (i := 201) rfl)
theorem ki_MO_putData : Cond.initialized (mO M_MO_putData) ∈ lw_tbl := tb1 _ (List.mem_of_getElem? (i := 8) (by decide +kernel))
theorem kn_MO_putData : Cond.instanceMethod (mY M_MO_putData) ∈ lw_tbl := tb4 _ (List.mem_of_getElem? (i := 200) (by decide +kernel))
theorem kv_MO_putData : Cond.selects (mO M_MO_putData) (mY M_MO_putData) (mY M_MO_putData) ∈ lw_tbl := List.mem_of_getElem? (i := 21) (by decide +kernel)
theorem kc_MO_putSubmit : mCode M_MO_putSubmit ∈ lw_tbl := tb4 _ (List.mem_of_getElem? (i := 181) rfl)
theorem ki_MO_putSubmit : Cond.initialized (mO M_MO_putSubmit) ∈ lw_tbl := tb1 _ (List.mem_of_getElem? (i := 8) (by decide +kernel))
theorem kn_MO_putSubmit : Cond.instanceMethod (mY M_MO_putSubmit) ∈ lw_tbl := tb4 _ (List.mem_of_getElem? (i := 180) (by decide +kernel))
theorem kv_MO_putSubmit : Cond.selects (mO M_MO_putSubmit) (mY M_MO_putSubmit) (mY M_MO_putSubmit) ∈ lw_tbl := List.mem_of_getElem? (i := 17) (by decide +kernel)
theorem kc_MO_baseOf : mCode M_MO_baseOf ∈ lw_tbl := tb4 _ (List.mem_of_getElem? (i := 211) rfl)
theorem ki_MO_baseOf : Cond.initialized (mO M_MO_baseOf) ∈ lw_tbl := tb1 _ (List.mem_of_getElem? (i := 8) (by decide +kernel))
theorem ks_MO_baseOf : Cond.static (mY M_MO_baseOf) ∈ lw_tbl := tb4 _ (List.mem_of_getElem? (i := 210) (by decide +kernel))
theorem kc_MO_append : mCode M_MO_append ∈ lw_tbl := tb4 _ (List.mem_of_getElem? (i := 208) rfl)
theorem ki_MO_append : Cond.initialized (mO M_MO_append) ∈ lw_tbl := tb1 _ (List.mem_of_getElem? (i := 8) (by decide +kernel))
theorem kn_MO_append : Cond.instanceMethod (mY M_MO_append) ∈ lw_tbl := tb4 _ (List.mem_of_getElem? (i := 207) (by decide +kernel))
theorem kv_MO_append : Cond.selects (mO M_MO_append) (mY M_MO_append) (mY M_MO_append) ∈ lw_tbl := List.mem_of_getElem? (i := 22) (by decide +kernel)
theorem kc_MO_load : mCode M_MO_load ∈ lw_tbl := tb4 _ (List.mem_of_getElem? (i := 223) rfl)
theorem ki_MO_load : Cond.initialized (mO M_MO_load) ∈ lw_tbl := tb1 _ (List.mem_of_getElem? (i := 8) (by decide +kernel))
theorem kn_MO_load : Cond.instanceMethod (mY M_MO_load) ∈ lw_tbl := tb4 _ (List.mem_of_getElem? (i := 222) (by decide +kernel))
theorem kv_MO_load : Cond.selects (mO M_MO_load) (mY M_MO_load) (mY M_MO_load) ∈ lw_tbl := List.mem_of_getElem? (i := 23) (by decide +kernel)
theorem kc_MO_move : mCode M_MO_move ∈ lw_tbl := tb5 _ (List.mem_of_getElem? (i := 11) rfl)
theorem ki_MO_move : Cond.initialized (mO M_MO_move) ∈ lw_tbl := tb1 _ (List.mem_of_getElem? (i := 8) (by decide +kernel))
theorem kn_MO_move : Cond.instanceMethod (mY M_MO_move) ∈ lw_tbl := tb5 _ (List.mem_of_getElem? (i := 10) (by decide +kernel))
theorem kv_MO_move : Cond.selects (mO M_MO_move) (mY M_MO_move) (mY M_MO_move) ∈ lw_tbl := List.mem_of_getElem? (i := 30) (by decide +kernel)
theorem kc_MO_removeFirst : mCode M_MO_removeFirst ∈ lw_tbl := tb5 _ (List.mem_of_getElem? (i := 7) rfl)
theorem ki_MO_removeFirst : Cond.initialized (mO M_MO_removeFirst) ∈ lw_tbl := tb1 _ (List.mem_of_getElem? (i := 8) (by decide +kernel))
theorem kn_MO_removeFirst : Cond.instanceMethod (mY M_MO_removeFirst) ∈ lw_tbl := tb5 _ (List.mem_of_getElem? (i := 6) (by decide +kernel))
theorem kv_MO_removeFirst : Cond.selects (mO M_MO_removeFirst) (mY M_MO_removeFirst) (mY M_MO_removeFirst) ∈ lw_tbl := List.mem_of_getElem? (i := 29) (by decide +kernel)
theorem kc_MO_bit : mCode M_MO_bit ∈ lw_tbl := tb4 _ (List.mem_of_getElem? (i := 239) rfl)
theorem ki_MO_bit : Cond.initialized (mO M_MO_bit) ∈ lw_tbl := tb1 _ (List.mem_of_getElem? (i := 8) (by decide +kernel))
theorem kn_MO_bit : Cond.instanceMethod (mY M_MO_bit) ∈ lw_tbl := tb4 _ (List.mem_of_getElem? (i := 238) (by decide +kernel))
theorem kv_MO_bit : Cond.selects (mO M_MO_bit) (mY M_MO_bit) (mY M_MO_bit) ∈ lw_tbl := List.mem_of_getElem? (i := 27) (by decide +kernel)
theorem kc_MO_readSeptets : mCode M_MO_readSeptets ∈ lw_tbl := tb4 _ (List.mem_of_getElem? (i := 235) rfl)
theorem ki_MO_readSeptets : Cond.initialized (mO M_MO_readSeptets) ∈ lw_tbl := tb1 _ (List.mem_of_getElem? (i := 8) (by decide +kernel))
theorem kn_MO_readSeptets : Cond.instanceMethod (mY M_MO_readSeptets) ∈ lw_tbl := tb4 _ (List.mem_of_getElem? (i := 234) (by decide +kernel))
theorem kv_MO_readSeptets : Cond.selects (mO M_MO_readSeptets) (mY M_MO_readSeptets) (mY M_MO_readSeptets) ∈ lw_tbl := List.mem_of_getElem? (i := 26) (by decide +kernel)
theorem kc_MO_areText : mCode M_MO_areText ∈ lw_tbl := tb5 _ (List.mem_of_getElem? (i := 3) rfl)
theorem ki_MO_areText : Cond.initialized (mO M_MO_areText) ∈ lw_tbl := tb1 _ (List.mem_of_getElem? (i := 8) (by decide +kernel))
theorem kn_MO_areText : Cond.instanceMethod (mY M_MO_areText) ∈ lw_tbl := tb5 _ (List.mem_of_getElem? (i := 2) (by decide +kernel))
theorem kv_MO_areText : Cond.selects (mO M_MO_areText) (mY M_MO_areText) (mY M_MO_areText) ∈ lw_tbl := List.mem_of_getElem? (i := 28) (by decide +kernel)
theorem kc_MO_readNumber : mCode M_MO_readNumber ∈ lw_tbl := tb4 _ (List.mem_of_getElem? (i := 231) rfl)
theorem ki_MO_readNumber : Cond.initialized (mO M_MO_readNumber) ∈ lw_tbl := tb1 _ (List.mem_of_getElem? (i := 8) (by decide +kernel))
theorem kn_MO_readNumber : Cond.instanceMethod (mY M_MO_readNumber) ∈ lw_tbl := tb4 _ (List.mem_of_getElem? (i := 230) (by decide +kernel))
theorem kv_MO_readNumber : Cond.selects (mO M_MO_readNumber) (mY M_MO_readNumber) (mY M_MO_readNumber) ∈ lw_tbl := List.mem_of_getElem? (i := 25) (by decide +kernel)
theorem kc_MO_legal : mCode M_MO_legal ∈ lw_tbl := tb4 _ (List.mem_of_getElem? (i := 227) rfl)
theorem ki_MO_legal : Cond.initialized (mO M_MO_legal) ∈ lw_tbl := tb1 _ (List.mem_of_getElem? (i := 8) (by decide +kernel))
theorem kn_MO_legal : Cond.instanceMethod (mY M_MO_legal) ∈ lw_tbl := tb4 _ (List.mem_of_getElem? (i := 226) (by decide +kernel))
theorem kv_MO_legal : Cond.selects (mO M_MO_legal) (mY M_MO_legal) (mY M_MO_legal) ∈ lw_tbl := List.mem_of_getElem? (i := 24) (by decide +kernel)
theorem kc_MO_isDevice : mCode M_MO_isDevice ∈ lw_tbl := tb4 _ (List.mem_of_getElem? (i := 136) rfl)
theorem ki_MO_isDevice : Cond.initialized (mO M_MO_isDevice) ∈ lw_tbl := tb1 _ (List.mem_of_getElem? (i := 8) (by decide +kernel))
theorem ks_MO_isDevice : Cond.static (mY M_MO_isDevice) ∈ lw_tbl := tb4 _ (List.mem_of_getElem? (i := 135) (by decide +kernel))
theorem kc_MO_isNumber : mCode M_MO_isNumber ∈ lw_tbl := tb4 _ (List.mem_of_getElem? (i := 139) rfl)
theorem ki_MO_isNumber : Cond.initialized (mO M_MO_isNumber) ∈ lw_tbl := tb1 _ (List.mem_of_getElem? (i := 8) (by decide +kernel))
theorem ks_MO_isNumber : Cond.static (mY M_MO_isNumber) ∈ lw_tbl := tb4 _ (List.mem_of_getElem? (i := 138) (by decide +kernel))
theorem kc_MO_register : mCode M_MO_register ∈ lw_tbl := tb4 _ (List.mem_of_getElem? (i := 133) rfl)
theorem ki_MO_register : Cond.initialized (mO M_MO_register) ∈ lw_tbl := tb1 _ (List.mem_of_getElem? (i := 8) (by decide +kernel))
theorem kn_MO_register : Cond.instanceMethod (mY M_MO_register) ∈ lw_tbl := tb4 _ (List.mem_of_getElem? (i := 131) (by decide +kernel))
theorem kv_MO_register : Cond.selects (mO M_MO_register) (mY M_MO_register) (mY M_MO_register) ∈ lw_tbl := tb4 _ (List.mem_of_getElem? (i := 132) (by decide +kernel))
theorem kc_MO_power1 : mCode M_MO_power1 ∈ lw_tbl := tb4 _ (List.mem_of_getElem? (i := 144) rfl)
theorem ki_MO_power1 : Cond.initialized (mO M_MO_power1) ∈ lw_tbl := tb1 _ (List.mem_of_getElem? (i := 8) (by decide +kernel))
theorem kn_MO_power1 : Cond.instanceMethod (mY M_MO_power1) ∈ lw_tbl := tb4 _ (List.mem_of_getElem? (i := 142) (by decide +kernel))
theorem kv_MO_power1 : Cond.selects (mO M_MO_power1) (mY M_MO_power1) (mY M_MO_power1) ∈ lw_tbl := tb4 _ (List.mem_of_getElem? (i := 143) (by decide +kernel))
theorem kc_MO_type : mCode M_MO_type ∈ lw_tbl := tb4 _ (List.mem_of_getElem? (i := 148) rfl)
theorem ki_MO_type : Cond.initialized (mO M_MO_type) ∈ lw_tbl := tb1 _ (List.mem_of_getElem? (i := 8) (by decide +kernel))
theorem kn_MO_type : Cond.instanceMethod (mY M_MO_type) ∈ lw_tbl := tb4 _ (List.mem_of_getElem? (i := 146) (by decide +kernel))
theorem kv_MO_type : Cond.selects (mO M_MO_type) (mY M_MO_type) (mY M_MO_type) ∈ lw_tbl := tb4 _ (List.mem_of_getElem? (i := 147) (by decide +kernel))
theorem kc_MO_wipe : mCode M_MO_wipe ∈ lw_tbl := tb4 _ (List.mem_of_getElem? (i := 152) rfl)
theorem ki_MO_wipe : Cond.initialized (mO M_MO_wipe) ∈ lw_tbl := tb1 _ (List.mem_of_getElem? (i := 8) (by decide +kernel))
theorem kn_MO_wipe : Cond.instanceMethod (mY M_MO_wipe) ∈ lw_tbl := tb4 _ (List.mem_of_getElem? (i := 150) (by decide +kernel))
theorem kv_MO_wipe : Cond.selects (mO M_MO_wipe) (mY M_MO_wipe) (mY M_MO_wipe) ∈ lw_tbl := tb4 _ (List.mem_of_getElem? (i := 151) (by decide +kernel))
theorem kc_MO_cut : mCode M_MO_cut ∈ lw_tbl := tb4 _ (List.mem_of_getElem? (i := 177) rfl)
theorem ki_MO_cut : Cond.initialized (mO M_MO_cut) ∈ lw_tbl := tb1 _ (List.mem_of_getElem? (i := 8) (by decide +kernel))
theorem kn_MO_cut : Cond.instanceMethod (mY M_MO_cut) ∈ lw_tbl := tb4 _ (List.mem_of_getElem? (i := 176) (by decide +kernel))
theorem kv_MO_cut : Cond.selects (mO M_MO_cut) (mY M_MO_cut) (mY M_MO_cut) ∈ lw_tbl := List.mem_of_getElem? (i := 16) (by decide +kernel)
theorem kc_MO_partsOf : mCode M_MO_partsOf ∈ lw_tbl := tb4 _ (List.mem_of_getElem? (i := 173) rfl)
theorem ki_MO_partsOf : Cond.initialized (mO M_MO_partsOf) ∈ lw_tbl := tb1 _ (List.mem_of_getElem? (i := 8) (by decide +kernel))
theorem kn_MO_partsOf : Cond.instanceMethod (mY M_MO_partsOf) ∈ lw_tbl := tb4 _ (List.mem_of_getElem? (i := 172) (by decide +kernel))
theorem kv_MO_partsOf : Cond.selects (mO M_MO_partsOf) (mY M_MO_partsOf) (mY M_MO_partsOf) ∈ lw_tbl := List.mem_of_getElem? (i := 15) (by decide +kernel)
theorem kc_MO_send : mCode M_MO_send ∈ lw_tbl := tb4 _ (List.mem_of_getElem? (i := 156) rfl)
theorem ki_MO_send : Cond.initialized (mO M_MO_send) ∈ lw_tbl := tb1 _ (List.mem_of_getElem? (i := 8) (by decide +kernel))
theorem kn_MO_send : Cond.instanceMethod (mY M_MO_send) ∈ lw_tbl := tb4 _ (List.mem_of_getElem? (i := 154) (by decide +kernel))
theorem kv_MO_send : Cond.selects (mO M_MO_send) (mY M_MO_send) (mY M_MO_send) ∈ lw_tbl := tb4 _ (List.mem_of_getElem? (i := 155) (by decide +kernel))
theorem kc_MO_alter : mCode M_MO_alter ∈ lw_tbl := tb4 _ (List.mem_of_getElem? (i := 215) rfl)
theorem ki_MO_alter : Cond.initialized (mO M_MO_alter) ∈ lw_tbl := tb1 _ (List.mem_of_getElem? (i := 8) (by decide +kernel))
theorem kn_MO_alter : Cond.instanceMethod (mY M_MO_alter) ∈ lw_tbl := tb4 _ (List.mem_of_getElem? (i := 213) (by decide +kernel))
theorem kv_MO_alter : Cond.selects (mO M_MO_alter) (mY M_MO_alter) (mY M_MO_alter) ∈ lw_tbl := tb4 _ (List.mem_of_getElem? (i := 214) (by decide +kernel))
theorem kc_MO_receive : mCode M_MO_receive ∈ lw_tbl := tb4 _ (List.mem_of_getElem? (i := 219) rfl)
theorem ki_MO_receive : Cond.initialized (mO M_MO_receive) ∈ lw_tbl := tb1 _ (List.mem_of_getElem? (i := 8) (by decide +kernel))
theorem kn_MO_receive : Cond.instanceMethod (mY M_MO_receive) ∈ lw_tbl := tb4 _ (List.mem_of_getElem? (i := 217) (by decide +kernel))
theorem kv_MO_receive : Cond.selects (mO M_MO_receive) (mY M_MO_receive) (mY M_MO_receive) ∈ lw_tbl := tb4 _ (List.mem_of_getElem? (i := 218) (by decide +kernel))
theorem kc_MO_keepData : mCode M_MO_keepData ∈ lw_tbl := tb5 _ (List.mem_of_getElem? (i := 15) rfl)
theorem ki_MO_keepData : Cond.initialized (mO M_MO_keepData) ∈ lw_tbl := tb1 _ (List.mem_of_getElem? (i := 8) (by decide +kernel))
theorem kn_MO_keepData : Cond.instanceMethod (mY M_MO_keepData) ∈ lw_tbl := tb5 _ (List.mem_of_getElem? (i := 14) (by decide +kernel))
theorem kv_MO_keepData : Cond.selects (mO M_MO_keepData) (mY M_MO_keepData) (mY M_MO_keepData) ∈ lw_tbl := List.mem_of_getElem? (i := 31) (by decide +kernel)
theorem kc_MO_owner : mCode M_MO_owner ∈ lw_tbl := tb5 _ (List.mem_of_getElem? (i := 40) rfl)
theorem ki_MO_owner : Cond.initialized (mO M_MO_owner) ∈ lw_tbl := tb1 _ (List.mem_of_getElem? (i := 8) (by decide +kernel))
theorem kn_MO_owner : Cond.instanceMethod (mY M_MO_owner) ∈ lw_tbl := tb5 _ (List.mem_of_getElem? (i := 39) (by decide +kernel))
theorem kv_MO_owner : Cond.selects (mO M_MO_owner) (mY M_MO_owner) (mY M_MO_owner) ∈ lw_tbl := List.mem_of_getElem? (i := 36) (by decide +kernel)
theorem kc_MO_moment : mCode M_MO_moment ∈ lw_tbl := tb5 _ (List.mem_of_getElem? (i := 28) rfl)
theorem ki_MO_moment : Cond.initialized (mO M_MO_moment) ∈ lw_tbl := tb1 _ (List.mem_of_getElem? (i := 8) (by decide +kernel))
theorem kn_MO_moment : Cond.instanceMethod (mY M_MO_moment) ∈ lw_tbl := tb5 _ (List.mem_of_getElem? (i := 27) (by decide +kernel))
theorem kv_MO_moment : Cond.selects (mO M_MO_moment) (mY M_MO_moment) (mY M_MO_moment) ∈ lw_tbl := List.mem_of_getElem? (i := 33) (by decide +kernel)
theorem kc_MO_earliest : mCode M_MO_earliest ∈ lw_tbl := tb5 _ (List.mem_of_getElem? (i := 24) rfl)
theorem ki_MO_earliest : Cond.initialized (mO M_MO_earliest) ∈ lw_tbl := tb1 _ (List.mem_of_getElem? (i := 8) (by decide +kernel))
theorem kn_MO_earliest : Cond.instanceMethod (mY M_MO_earliest) ∈ lw_tbl := tb5 _ (List.mem_of_getElem? (i := 23) (by decide +kernel))
theorem kv_MO_earliest : Cond.selects (mO M_MO_earliest) (mY M_MO_earliest) (mY M_MO_earliest) ∈ lw_tbl := List.mem_of_getElem? (i := 32) (by decide +kernel)
theorem kc_MO_settle : mCode M_MO_settle ∈ lw_tbl := tb5 _ (List.mem_of_getElem? (i := 36) rfl)
theorem ki_MO_settle : Cond.initialized (mO M_MO_settle) ∈ lw_tbl := tb1 _ (List.mem_of_getElem? (i := 8) (by decide +kernel))
theorem kn_MO_settle : Cond.instanceMethod (mY M_MO_settle) ∈ lw_tbl := tb5 _ (List.mem_of_getElem? (i := 35) (by decide +kernel))
theorem kv_MO_settle : Cond.selects (mO M_MO_settle) (mY M_MO_settle) (mY M_MO_settle) ∈ lw_tbl := List.mem_of_getElem? (i := 35) (by decide +kernel)
theorem kc_MO_deliver : mCode M_MO_deliver ∈ lw_tbl := tb5 _ (List.mem_of_getElem? (i := 44) rfl)
theorem ki_MO_deliver : Cond.initialized (mO M_MO_deliver) ∈ lw_tbl := tb1 _ (List.mem_of_getElem? (i := 8) (by decide +kernel))
theorem kn_MO_deliver : Cond.instanceMethod (mY M_MO_deliver) ∈ lw_tbl := tb5 _ (List.mem_of_getElem? (i := 43) (by decide +kernel))
theorem kv_MO_deliver : Cond.selects (mO M_MO_deliver) (mY M_MO_deliver) (mY M_MO_deliver) ∈ lw_tbl := List.mem_of_getElem? (i := 37) (by decide +kernel)
theorem kc_MO_deal : mCode M_MO_deal ∈ lw_tbl := tb5 _ (List.mem_of_getElem? (i := 32) rfl)
theorem ki_MO_deal : Cond.initialized (mO M_MO_deal) ∈ lw_tbl := tb1 _ (List.mem_of_getElem? (i := 8) (by decide +kernel))
theorem kn_MO_deal : Cond.instanceMethod (mY M_MO_deal) ∈ lw_tbl := tb5 _ (List.mem_of_getElem? (i := 31) (by decide +kernel))
theorem kv_MO_deal : Cond.selects (mO M_MO_deal) (mY M_MO_deal) (mY M_MO_deal) ∈ lw_tbl := List.mem_of_getElem? (i := 34) (by decide +kernel)
theorem kc_MO_advance : mCode M_MO_advance ∈ lw_tbl := tb5 _ (List.mem_of_getElem? (i := 19) rfl)
theorem ki_MO_advance : Cond.initialized (mO M_MO_advance) ∈ lw_tbl := tb1 _ (List.mem_of_getElem? (i := 8) (by decide +kernel))
theorem kn_MO_advance : Cond.instanceMethod (mY M_MO_advance) ∈ lw_tbl := tb5 _ (List.mem_of_getElem? (i := 17) (by decide +kernel))
theorem kv_MO_advance : Cond.selects (mO M_MO_advance) (mY M_MO_advance) (mY M_MO_advance) ∈ lw_tbl := tb5 _ (List.mem_of_getElem? (i := 18) (by decide +kernel))
theorem kc_MO_decode : mCode M_MO_decode ∈ lw_tbl := tb5 _ (List.mem_of_getElem? (i := 52) rfl)
theorem ki_MO_decode : Cond.initialized (mO M_MO_decode) ∈ lw_tbl := tb1 _ (List.mem_of_getElem? (i := 8) (by decide +kernel))
theorem kn_MO_decode : Cond.instanceMethod (mY M_MO_decode) ∈ lw_tbl := tb5 _ (List.mem_of_getElem? (i := 51) (by decide +kernel))
theorem kv_MO_decode : Cond.selects (mO M_MO_decode) (mY M_MO_decode) (mY M_MO_decode) ∈ lw_tbl := List.mem_of_getElem? (i := 38) (by decide +kernel)
theorem kc_MO_movePile : mCode M_MO_movePile ∈ lw_tbl := tb5 _ (List.mem_of_getElem? (i := 64) rfl)
theorem ki_MO_movePile : Cond.initialized (mO M_MO_movePile) ∈ lw_tbl := tb1 _ (List.mem_of_getElem? (i := 8) (by decide +kernel))
theorem kn_MO_movePile : Cond.instanceMethod (mY M_MO_movePile) ∈ lw_tbl := tb5 _ (List.mem_of_getElem? (i := 63) (by decide +kernel))
theorem kv_MO_movePile : Cond.selects (mO M_MO_movePile) (mY M_MO_movePile) (mY M_MO_movePile) ∈ lw_tbl := List.mem_of_getElem? (i := 41) (by decide +kernel)
theorem kc_MO_dropPile : mCode M_MO_dropPile ∈ lw_tbl := tb5 _ (List.mem_of_getElem? (i := 60) rfl)
theorem ki_MO_dropPile : Cond.initialized (mO M_MO_dropPile) ∈ lw_tbl := tb1 _ (List.mem_of_getElem? (i := 8) (by decide +kernel))
theorem kn_MO_dropPile : Cond.instanceMethod (mY M_MO_dropPile) ∈ lw_tbl := tb5 _ (List.mem_of_getElem? (i := 59) (by decide +kernel))
theorem kv_MO_dropPile : Cond.selects (mO M_MO_dropPile) (mY M_MO_dropPile) (mY M_MO_dropPile) ∈ lw_tbl := List.mem_of_getElem? (i := 40) (by decide +kernel)
theorem kc_MO_pileFor : mCode M_MO_pileFor ∈ lw_tbl := tb5 _ (List.mem_of_getElem? (i := 56) rfl)
theorem ki_MO_pileFor : Cond.initialized (mO M_MO_pileFor) ∈ lw_tbl := tb1 _ (List.mem_of_getElem? (i := 8) (by decide +kernel))
theorem kn_MO_pileFor : Cond.instanceMethod (mY M_MO_pileFor) ∈ lw_tbl := tb5 _ (List.mem_of_getElem? (i := 55) (by decide +kernel))
theorem kv_MO_pileFor : Cond.selects (mO M_MO_pileFor) (mY M_MO_pileFor) (mY M_MO_pileFor) ∈ lw_tbl := List.mem_of_getElem? (i := 39) (by decide +kernel)
theorem kc_MO_together : mCode M_MO_together ∈ lw_tbl := tb5 _ (List.mem_of_getElem? (i := 68) rfl)
theorem ki_MO_together : Cond.initialized (mO M_MO_together) ∈ lw_tbl := tb1 _ (List.mem_of_getElem? (i := 8) (by decide +kernel))
theorem kn_MO_together : Cond.instanceMethod (mY M_MO_together) ∈ lw_tbl := tb5 _ (List.mem_of_getElem? (i := 67) (by decide +kernel))
theorem kv_MO_together : Cond.selects (mO M_MO_together) (mY M_MO_together) (mY M_MO_together) ∈ lw_tbl := List.mem_of_getElem? (i := 42) (by decide +kernel)
theorem kc_MO_take : mCode M_MO_take ∈ lw_tbl := tb5 _ (List.mem_of_getElem? (i := 48) rfl)
theorem ki_MO_take : Cond.initialized (mO M_MO_take) ∈ lw_tbl := tb1 _ (List.mem_of_getElem? (i := 8) (by decide +kernel))
theorem kn_MO_take : Cond.instanceMethod (mY M_MO_take) ∈ lw_tbl := tb5 _ (List.mem_of_getElem? (i := 46) (by decide +kernel))
theorem kv_MO_take : Cond.selects (mO M_MO_take) (mY M_MO_take) (mY M_MO_take) ∈ lw_tbl := tb5 _ (List.mem_of_getElem? (i := 47) (by decide +kernel))
theorem kc_MO_copy : mCode M_MO_copy ∈ lw_tbl := tb5 _ (List.mem_of_getElem? (i := 72) rfl)
theorem ki_MO_copy : Cond.initialized (mO M_MO_copy) ∈ lw_tbl := tb1 _ (List.mem_of_getElem? (i := 8) (by decide +kernel))
theorem kn_MO_copy : Cond.instanceMethod (mY M_MO_copy) ∈ lw_tbl := tb5 _ (List.mem_of_getElem? (i := 70) (by decide +kernel))
theorem kv_MO_copy : Cond.selects (mO M_MO_copy) (mY M_MO_copy) (mY M_MO_copy) ∈ lw_tbl := tb5 _ (List.mem_of_getElem? (i := 71) (by decide +kernel))
theorem kc_MO_swap : mCode M_MO_swap ∈ lw_tbl := tb5 _ (List.mem_of_getElem? (i := 76) rfl)
theorem ki_MO_swap : Cond.initialized (mO M_MO_swap) ∈ lw_tbl := tb1 _ (List.mem_of_getElem? (i := 8) (by decide +kernel))
theorem kn_MO_swap : Cond.instanceMethod (mY M_MO_swap) ∈ lw_tbl := tb5 _ (List.mem_of_getElem? (i := 74) (by decide +kernel))
theorem kv_MO_swap : Cond.selects (mO M_MO_swap) (mY M_MO_swap) (mY M_MO_swap) ∈ lw_tbl := tb5 _ (List.mem_of_getElem? (i := 75) (by decide +kernel))
theorem kc_MO_report : mCode M_MO_report ∈ lw_tbl := tb5 _ (List.mem_of_getElem? (i := 80) rfl)
theorem ki_MO_report : Cond.initialized (mO M_MO_report) ∈ lw_tbl := tb1 _ (List.mem_of_getElem? (i := 8) (by decide +kernel))
theorem kn_MO_report : Cond.instanceMethod (mY M_MO_report) ∈ lw_tbl := tb5 _ (List.mem_of_getElem? (i := 78) (by decide +kernel))
theorem kv_MO_report : Cond.selects (mO M_MO_report) (mY M_MO_report) (mY M_MO_report) ∈ lw_tbl := tb5 _ (List.mem_of_getElem? (i := 79) (by decide +kernel))
theorem kc_MO_waiting : mCode M_MO_waiting ∈ lw_tbl := tb5 _ (List.mem_of_getElem? (i := 84) rfl)
theorem ki_MO_waiting : Cond.initialized (mO M_MO_waiting) ∈ lw_tbl := tb1 _ (List.mem_of_getElem? (i := 8) (by decide +kernel))
theorem kn_MO_waiting : Cond.instanceMethod (mY M_MO_waiting) ∈ lw_tbl := tb5 _ (List.mem_of_getElem? (i := 82) (by decide +kernel))
theorem kv_MO_waiting : Cond.selects (mO M_MO_waiting) (mY M_MO_waiting) (mY M_MO_waiting) ∈ lw_tbl := tb5 _ (List.mem_of_getElem? (i := 83) (by decide +kernel))
theorem kc_MO_byteAt : mCode M_MO_byteAt ∈ lw_tbl := tb5 _ (List.mem_of_getElem? (i := 88) rfl)
theorem ki_MO_byteAt : Cond.initialized (mO M_MO_byteAt) ∈ lw_tbl := tb1 _ (List.mem_of_getElem? (i := 8) (by decide +kernel))
theorem kn_MO_byteAt : Cond.instanceMethod (mY M_MO_byteAt) ∈ lw_tbl := tb5 _ (List.mem_of_getElem? (i := 86) (by decide +kernel))
theorem kv_MO_byteAt : Cond.selects (mO M_MO_byteAt) (mY M_MO_byteAt) (mY M_MO_byteAt) ∈ lw_tbl := tb5 _ (List.mem_of_getElem? (i := 87) (by decide +kernel))
theorem kc_MO_text : mCode M_MO_text ∈ lw_tbl := tb5 _ (List.mem_of_getElem? (i := 92) rfl)
theorem ki_MO_text : Cond.initialized (mO M_MO_text) ∈ lw_tbl := tb1 _ (List.mem_of_getElem? (i := 8) (by decide +kernel))
theorem kn_MO_text : Cond.instanceMethod (mY M_MO_text) ∈ lw_tbl := tb5 _ (List.mem_of_getElem? (i := 90) (by decide +kernel))
theorem kv_MO_text : Cond.selects (mO M_MO_text) (mY M_MO_text) (mY M_MO_text) ∈ lw_tbl := tb5 _ (List.mem_of_getElem? (i := 91) (by decide +kernel))
theorem kc_MO_sender : mCode M_MO_sender ∈ lw_tbl := tb5 _ (List.mem_of_getElem? (i := 96) rfl)
theorem ki_MO_sender : Cond.initialized (mO M_MO_sender) ∈ lw_tbl := tb1 _ (List.mem_of_getElem? (i := 8) (by decide +kernel))
theorem kn_MO_sender : Cond.instanceMethod (mY M_MO_sender) ∈ lw_tbl := tb5 _ (List.mem_of_getElem? (i := 94) (by decide +kernel))
theorem kv_MO_sender : Cond.selects (mO M_MO_sender) (mY M_MO_sender) (mY M_MO_sender) ∈ lw_tbl := tb5 _ (List.mem_of_getElem? (i := 95) (by decide +kernel))
theorem kc_MO_state : mCode M_MO_state ∈ lw_tbl := tb5 _ (List.mem_of_getElem? (i := 100) rfl)
theorem ki_MO_state : Cond.initialized (mO M_MO_state) ∈ lw_tbl := tb1 _ (List.mem_of_getElem? (i := 8) (by decide +kernel))
theorem kn_MO_state : Cond.instanceMethod (mY M_MO_state) ∈ lw_tbl := tb5 _ (List.mem_of_getElem? (i := 98) (by decide +kernel))
theorem kv_MO_state : Cond.selects (mO M_MO_state) (mY M_MO_state) (mY M_MO_state) ∈ lw_tbl := tb5 _ (List.mem_of_getElem? (i := 99) (by decide +kernel))
theorem kc_MO_offers : mCode M_MO_offers ∈ lw_tbl := tb5 _ (List.mem_of_getElem? (i := 104) rfl)
theorem ki_MO_offers : Cond.initialized (mO M_MO_offers) ∈ lw_tbl := tb1 _ (List.mem_of_getElem? (i := 8) (by decide +kernel))
theorem kn_MO_offers : Cond.instanceMethod (mY M_MO_offers) ∈ lw_tbl := tb5 _ (List.mem_of_getElem? (i := 102) (by decide +kernel))
theorem kv_MO_offers : Cond.selects (mO M_MO_offers) (mY M_MO_offers) (mY M_MO_offers) ∈ lw_tbl := tb5 _ (List.mem_of_getElem? (i := 103) (by decide +kernel))
theorem kc_MO_time : mCode M_MO_time ∈ lw_tbl := tb5 _ (List.mem_of_getElem? (i := 108) rfl)
theorem ki_MO_time : Cond.initialized (mO M_MO_time) ∈ lw_tbl := tb1 _ (List.mem_of_getElem? (i := 8) (by decide +kernel))
theorem kn_MO_time : Cond.instanceMethod (mY M_MO_time) ∈ lw_tbl := tb5 _ (List.mem_of_getElem? (i := 106) (by decide +kernel))
theorem kv_MO_time : Cond.selects (mO M_MO_time) (mY M_MO_time) (mY M_MO_time) ∈ lw_tbl := tb5 _ (List.mem_of_getElem? (i := 107) (by decide +kernel))
theorem kc_Al_formOf : mCode M_Al_formOf ∈ lw_tbl := tb1 _ (List.mem_of_getElem? (i := 181) rfl)
theorem ki_Al_formOf : Cond.initialized (mO M_Al_formOf) ∈ lw_tbl := tb1 _ (List.mem_of_getElem? (i := 9) (by decide +kernel))
theorem ks_Al_formOf : Cond.static (mY M_Al_formOf) ∈ lw_tbl := tb1 _ (List.mem_of_getElem? (i := 180) (by decide +kernel))
theorem kc_Al_septetsOf : mCode M_Al_septetsOf ∈ lw_tbl := tb1 _ (List.mem_of_getElem? (i := 214) rfl)
theorem ki_Al_septetsOf : Cond.initialized (mO M_Al_septetsOf) ∈ lw_tbl := tb1 _ (List.mem_of_getElem? (i := 9) (by decide +kernel))
theorem ks_Al_septetsOf : Cond.static (mY M_Al_septetsOf) ∈ lw_tbl := tb1 _ (List.mem_of_getElem? (i := 213) (by decide +kernel))
theorem kc_Al_plain : mCode M_Al_plain ∈ lw_tbl := tb3 _ (List.mem_of_getElem? (i := 178) rfl)
theorem ki_Al_plain : Cond.initialized (mO M_Al_plain) ∈ lw_tbl := tb1 _ (List.mem_of_getElem? (i := 9) (by decide +kernel))
theorem ks_Al_plain : Cond.static (mY M_Al_plain) ∈ lw_tbl := tb3 _ (List.mem_of_getElem? (i := 177) (by decide +kernel))
theorem kc_Al_second : mCode M_Al_second ∈ lw_tbl := tb2 _ (List.mem_of_getElem? (i := 228) rfl)
theorem ki_Al_second : Cond.initialized (mO M_Al_second) ∈ lw_tbl := tb1 _ (List.mem_of_getElem? (i := 9) (by decide +kernel))
theorem ks_Al_second : Cond.static (mY M_Al_second) ∈ lw_tbl := tb2 _ (List.mem_of_getElem? (i := 227) (by decide +kernel))
theorem kc_De_init : mCode M_De_init ∈ lw_tbl := tb1 _ (List.mem_of_getElem? (i := 91) rfl)
theorem ki_De_init : Cond.initialized (mO M_De_init) ∈ lw_tbl := tb1 _ (List.mem_of_getElem? (i := 7) (by decide +kernel))
theorem kn_De_init : Cond.instanceMethod (mY M_De_init) ∈ lw_tbl := tb1 _ (List.mem_of_getElem? (i := 90) (by decide +kernel))
theorem kc_De_nextMessageNumber : mCode M_De_nextMessageNumber ∈ lw_tbl := tb2 _ (List.mem_of_getElem? (i := 25) rfl)
theorem ki_De_nextMessageNumber : Cond.initialized (mO M_De_nextMessageNumber) ∈ lw_tbl := tb1 _ (List.mem_of_getElem? (i := 7) (by decide +kernel))
theorem kn_De_nextMessageNumber : Cond.instanceMethod (mY M_De_nextMessageNumber) ∈ lw_tbl := tb2 _ (List.mem_of_getElem? (i := 23) (by decide +kernel))
theorem kv_De_nextMessageNumber : Cond.selects (mO M_De_nextMessageNumber) (mY M_De_nextMessageNumber) (mY M_De_nextMessageNumber) ∈ lw_tbl := tb2 _ (List.mem_of_getElem? (i := 24) (by decide +kernel))
theorem kc_De_countReference : mCode M_De_countReference ∈ lw_tbl := tb2 _ (List.mem_of_getElem? (i := 143) rfl)
theorem ki_De_countReference : Cond.initialized (mO M_De_countReference) ∈ lw_tbl := tb1 _ (List.mem_of_getElem? (i := 7) (by decide +kernel))
theorem kn_De_countReference : Cond.instanceMethod (mY M_De_countReference) ∈ lw_tbl := tb2 _ (List.mem_of_getElem? (i := 141) (by decide +kernel))
theorem kv_De_countReference : Cond.selects (mO M_De_countReference) (mY M_De_countReference) (mY M_De_countReference) ∈ lw_tbl := tb2 _ (List.mem_of_getElem? (i := 142) (by decide +kernel))
theorem kc_De_read : mCode M_De_read ∈ lw_tbl := tb3 _ (List.mem_of_getElem? (i := 111) rfl)
theorem ki_De_read : Cond.initialized (mO M_De_read) ∈ lw_tbl := tb1 _ (List.mem_of_getElem? (i := 7) (by decide +kernel))
theorem kn_De_read : Cond.instanceMethod (mY M_De_read) ∈ lw_tbl := tb3 _ (List.mem_of_getElem? (i := 109) (by decide +kernel))
theorem kv_De_read : Cond.selects (mO M_De_read) (mY M_De_read) (mY M_De_read) ∈ lw_tbl := tb3 _ (List.mem_of_getElem? (i := 110) (by decide +kernel))
theorem kc_De_gather : mCode M_De_gather ∈ lw_tbl := tb3 _ (List.mem_of_getElem? (i := 117) rfl)
theorem ki_De_gather : Cond.initialized (mO M_De_gather) ∈ lw_tbl := tb1 _ (List.mem_of_getElem? (i := 7) (by decide +kernel))
theorem kn_De_gather : Cond.instanceMethod (mY M_De_gather) ∈ lw_tbl := tb3 _ (List.mem_of_getElem? (i := 116) (by decide +kernel))
theorem kv_De_gather : Cond.selects (mO M_De_gather) (mY M_De_gather) (mY M_De_gather) ∈ lw_tbl := List.mem_of_getElem? (i := 11) (by decide +kernel)
theorem kc_De_pilePlace : mCode M_De_pilePlace ∈ lw_tbl := tb3 _ (List.mem_of_getElem? (i := 126) rfl)
theorem ki_De_pilePlace : Cond.initialized (mO M_De_pilePlace) ∈ lw_tbl := tb1 _ (List.mem_of_getElem? (i := 7) (by decide +kernel))
theorem kn_De_pilePlace : Cond.instanceMethod (mY M_De_pilePlace) ∈ lw_tbl := tb3 _ (List.mem_of_getElem? (i := 125) (by decide +kernel))
theorem kv_De_pilePlace : Cond.selects (mO M_De_pilePlace) (mY M_De_pilePlace) (mY M_De_pilePlace) ∈ lw_tbl := List.mem_of_getElem? (i := 12) (by decide +kernel)
theorem kc_Dr_init : mCode M_Dr_init ∈ lw_tbl := tb1 _ (List.mem_of_getElem? (i := 75) rfl)
theorem ki_Dr_init : Cond.initialized (mO M_Dr_init) ∈ lw_tbl := tb1 _ (List.mem_of_getElem? (i := 6) (by decide +kernel))
theorem kn_Dr_init : Cond.instanceMethod (mY M_Dr_init) ∈ lw_tbl := tb1 _ (List.mem_of_getElem? (i := 74) (by decide +kernel))
theorem kc_Dr_room : mCode M_Dr_room ∈ lw_tbl := tb1 _ (List.mem_of_getElem? (i := 178) rfl)
theorem ki_Dr_room : Cond.initialized (mO M_Dr_room) ∈ lw_tbl := tb1 _ (List.mem_of_getElem? (i := 6) (by decide +kernel))
theorem kn_Dr_room : Cond.instanceMethod (mY M_Dr_room) ∈ lw_tbl := tb1 _ (List.mem_of_getElem? (i := 176) (by decide +kernel))
theorem kv_Dr_room : Cond.selects (mO M_Dr_room) (mY M_Dr_room) (mY M_Dr_room) ∈ lw_tbl := tb1 _ (List.mem_of_getElem? (i := 177) (by decide +kernel))
theorem kc_Dr_append : mCode M_Dr_append ∈ lw_tbl := tb1 _ (List.mem_of_getElem? (i := 191) rfl)
theorem ki_Dr_append : Cond.initialized (mO M_Dr_append) ∈ lw_tbl := tb1 _ (List.mem_of_getElem? (i := 6) (by decide +kernel))
theorem kn_Dr_append : Cond.instanceMethod (mY M_Dr_append) ∈ lw_tbl := tb1 _ (List.mem_of_getElem? (i := 189) (by decide +kernel))
theorem kv_Dr_append : Cond.selects (mO M_Dr_append) (mY M_Dr_append) (mY M_Dr_append) ∈ lw_tbl := tb1 _ (List.mem_of_getElem? (i := 190) (by decide +kernel))
theorem kc_Dr_hasAlien : mCode M_Dr_hasAlien ∈ lw_tbl := tb1 _ (List.mem_of_getElem? (i := 203) rfl)
theorem ki_Dr_hasAlien : Cond.initialized (mO M_Dr_hasAlien) ∈ lw_tbl := tb1 _ (List.mem_of_getElem? (i := 6) (by decide +kernel))
theorem kn_Dr_hasAlien : Cond.instanceMethod (mY M_Dr_hasAlien) ∈ lw_tbl := tb1 _ (List.mem_of_getElem? (i := 201) (by decide +kernel))
theorem kv_Dr_hasAlien : Cond.selects (mO M_Dr_hasAlien) (mY M_Dr_hasAlien) (mY M_Dr_hasAlien) ∈ lw_tbl := tb1 _ (List.mem_of_getElem? (i := 202) (by decide +kernel))
theorem kc_Dr_septets : mCode M_Dr_septets ∈ lw_tbl := tb1 _ (List.mem_of_getElem? (i := 211) rfl)
theorem ki_Dr_septets : Cond.initialized (mO M_Dr_septets) ∈ lw_tbl := tb1 _ (List.mem_of_getElem? (i := 6) (by decide +kernel))
theorem kn_Dr_septets : Cond.instanceMethod (mY M_Dr_septets) ∈ lw_tbl := tb1 _ (List.mem_of_getElem? (i := 209) (by decide +kernel))
theorem kv_Dr_septets : Cond.selects (mO M_Dr_septets) (mY M_Dr_septets) (mY M_Dr_septets) ∈ lw_tbl := tb1 _ (List.mem_of_getElem? (i := 210) (by decide +kernel))
theorem kc_Dr_partCount : mCode M_Dr_partCount ∈ lw_tbl := tb1 _ (List.mem_of_getElem? (i := 207) rfl)
theorem ki_Dr_partCount : Cond.initialized (mO M_Dr_partCount) ∈ lw_tbl := tb1 _ (List.mem_of_getElem? (i := 6) (by decide +kernel))
theorem kn_Dr_partCount : Cond.instanceMethod (mY M_Dr_partCount) ∈ lw_tbl := tb1 _ (List.mem_of_getElem? (i := 205) (by decide +kernel))
theorem kv_Dr_partCount : Cond.selects (mO M_Dr_partCount) (mY M_Dr_partCount) (mY M_Dr_partCount) ∈ lw_tbl := tb1 _ (List.mem_of_getElem? (i := 206) (by decide +kernel))
theorem kc_Dr_partEnd : mCode M_Dr_partEnd ∈ lw_tbl := tb1 _ (List.mem_of_getElem? (i := 230) rfl)
theorem ki_Dr_partEnd : Cond.initialized (mO M_Dr_partEnd) ∈ lw_tbl := tb1 _ (List.mem_of_getElem? (i := 6) (by decide +kernel))
theorem kn_Dr_partEnd : Cond.instanceMethod (mY M_Dr_partEnd) ∈ lw_tbl := tb1 _ (List.mem_of_getElem? (i := 228) (by decide +kernel))
theorem kv_Dr_partEnd : Cond.selects (mO M_Dr_partEnd) (mY M_Dr_partEnd) (mY M_Dr_partEnd) ∈ lw_tbl := tb1 _ (List.mem_of_getElem? (i := 229) (by decide +kernel))
theorem kc_Dr_pack : mCode M_Dr_pack ∈ lw_tbl := tb2 _ (List.mem_of_getElem? (i := 58) rfl)
theorem ki_Dr_pack : Cond.initialized (mO M_Dr_pack) ∈ lw_tbl := tb1 _ (List.mem_of_getElem? (i := 6) (by decide +kernel))
theorem kn_Dr_pack : Cond.instanceMethod (mY M_Dr_pack) ∈ lw_tbl := tb2 _ (List.mem_of_getElem? (i := 56) (by decide +kernel))
theorem kv_Dr_pack : Cond.selects (mO M_Dr_pack) (mY M_Dr_pack) (mY M_Dr_pack) ∈ lw_tbl := tb2 _ (List.mem_of_getElem? (i := 57) (by decide +kernel))
theorem kc_Li_init : mCode M_Li_init ∈ lw_tbl := tb1 _ (List.mem_of_getElem? (i := 36) rfl)
theorem ki_Li_init : Cond.initialized (mO M_Li_init) ∈ lw_tbl := tb1 _ (List.mem_of_getElem? (i := 2) (by decide +kernel))
theorem kn_Li_init : Cond.instanceMethod (mY M_Li_init) ∈ lw_tbl := tb1 _ (List.mem_of_getElem? (i := 35) (by decide +kernel))
theorem kc_Li_size : mCode M_Li_size ∈ lw_tbl := tb3 _ (List.mem_of_getElem? (i := 213) rfl)
theorem ki_Li_size : Cond.initialized (mO M_Li_size) ∈ lw_tbl := tb1 _ (List.mem_of_getElem? (i := 2) (by decide +kernel))
theorem kn_Li_size : Cond.instanceMethod (mY M_Li_size) ∈ lw_tbl := tb3 _ (List.mem_of_getElem? (i := 211) (by decide +kernel))
theorem kv_Li_size : Cond.selects (mO M_Li_size) (mY M_Li_size) (mY M_Li_size) ∈ lw_tbl := tb3 _ (List.mem_of_getElem? (i := 212) (by decide +kernel))
theorem kc_Li_room : mCode M_Li_room ∈ lw_tbl := tb1 _ (List.mem_of_getElem? (i := 218) rfl)
theorem ki_Li_room : Cond.initialized (mO M_Li_room) ∈ lw_tbl := tb1 _ (List.mem_of_getElem? (i := 2) (by decide +kernel))
theorem kn_Li_room : Cond.instanceMethod (mY M_Li_room) ∈ lw_tbl := tb1 _ (List.mem_of_getElem? (i := 216) (by decide +kernel))
theorem kv_Li_room : Cond.selects (mO M_Li_room) (mY M_Li_room) (mY M_Li_room) ∈ lw_tbl := tb1 _ (List.mem_of_getElem? (i := 217) (by decide +kernel))
theorem kc_Li_append : mCode M_Li_append ∈ lw_tbl := tb2 _ (List.mem_of_getElem? (i := 82) rfl)
theorem ki_Li_append : Cond.initialized (mO M_Li_append) ∈ lw_tbl := tb1 _ (List.mem_of_getElem? (i := 2) (by decide +kernel))
theorem kn_Li_append : Cond.instanceMethod (mY M_Li_append) ∈ lw_tbl := tb2 _ (List.mem_of_getElem? (i := 80) (by decide +kernel))
theorem kv_Li_append : Cond.selects (mO M_Li_append) (mY M_Li_append) (mY M_Li_append) ∈ lw_tbl := tb2 _ (List.mem_of_getElem? (i := 81) (by decide +kernel))
theorem kc_Li_first : mCode M_Li_first ∈ lw_tbl := tb2 _ (List.mem_of_getElem? (i := 151) rfl)
theorem ki_Li_first : Cond.initialized (mO M_Li_first) ∈ lw_tbl := tb1 _ (List.mem_of_getElem? (i := 2) (by decide +kernel))
theorem kn_Li_first : Cond.instanceMethod (mY M_Li_first) ∈ lw_tbl := tb2 _ (List.mem_of_getElem? (i := 149) (by decide +kernel))
theorem kv_Li_first : Cond.selects (mO M_Li_first) (mY M_Li_first) (mY M_Li_first) ∈ lw_tbl := tb2 _ (List.mem_of_getElem? (i := 150) (by decide +kernel))
theorem kc_Li_removeFirst : mCode M_Li_removeFirst ∈ lw_tbl := tb2 _ (List.mem_of_getElem? (i := 184) rfl)
theorem ki_Li_removeFirst : Cond.initialized (mO M_Li_removeFirst) ∈ lw_tbl := tb1 _ (List.mem_of_getElem? (i := 2) (by decide +kernel))
theorem kn_Li_removeFirst : Cond.instanceMethod (mY M_Li_removeFirst) ∈ lw_tbl := tb2 _ (List.mem_of_getElem? (i := 182) (by decide +kernel))
theorem kv_Li_removeFirst : Cond.selects (mO M_Li_removeFirst) (mY M_Li_removeFirst) (mY M_Li_removeFirst) ∈ lw_tbl := tb2 _ (List.mem_of_getElem? (i := 183) (by decide +kernel))
theorem kc_Li_exchangeFirstTwo : mCode M_Li_exchangeFirstTwo ∈ lw_tbl := tb3 _ (List.mem_of_getElem? (i := 191) rfl)
theorem ki_Li_exchangeFirstTwo : Cond.initialized (mO M_Li_exchangeFirstTwo) ∈ lw_tbl := tb1 _ (List.mem_of_getElem? (i := 2) (by decide +kernel))
theorem kn_Li_exchangeFirstTwo : Cond.instanceMethod (mY M_Li_exchangeFirstTwo) ∈ lw_tbl := tb3 _ (List.mem_of_getElem? (i := 189) (by decide +kernel))
theorem kv_Li_exchangeFirstTwo : Cond.selects (mO M_Li_exchangeFirstTwo) (mY M_Li_exchangeFirstTwo) (mY M_Li_exchangeFirstTwo) ∈ lw_tbl := tb3 _ (List.mem_of_getElem? (i := 190) (by decide +kernel))
theorem kc_Me_init : mCode M_Me_init ∈ lw_tbl := tb2 _ (List.mem_of_getElem? (i := 233) rfl)
theorem ki_Me_init : Cond.initialized (mO M_Me_init) ∈ lw_tbl := tb1 _ (List.mem_of_getElem? (i := 18) (by decide +kernel))
theorem kn_Me_init : Cond.instanceMethod (mY M_Me_init) ∈ lw_tbl := tb2 _ (List.mem_of_getElem? (i := 232) (by decide +kernel))
theorem kc_Me_moment : mCode M_Me_moment ∈ lw_tbl := tb3 _ (List.mem_of_getElem? (i := 51) rfl)
theorem ki_Me_moment : Cond.initialized (mO M_Me_moment) ∈ lw_tbl := tb1 _ (List.mem_of_getElem? (i := 18) (by decide +kernel))
theorem kn_Me_moment : Cond.instanceMethod (mY M_Me_moment) ∈ lw_tbl := tb3 _ (List.mem_of_getElem? (i := 49) (by decide +kernel))
theorem kv_Me_moment : Cond.selects (mO M_Me_moment) (mY M_Me_moment) (mY M_Me_moment) ∈ lw_tbl := tb3 _ (List.mem_of_getElem? (i := 50) (by decide +kernel))
theorem kc_Me_putOff : mCode M_Me_putOff ∈ lw_tbl := tb3 _ (List.mem_of_getElem? (i := 92) rfl)
theorem ki_Me_putOff : Cond.initialized (mO M_Me_putOff) ∈ lw_tbl := tb1 _ (List.mem_of_getElem? (i := 18) (by decide +kernel))
theorem kn_Me_putOff : Cond.instanceMethod (mY M_Me_putOff) ∈ lw_tbl := tb3 _ (List.mem_of_getElem? (i := 90) (by decide +kernel))
theorem kv_Me_putOff : Cond.selects (mO M_Me_putOff) (mY M_Me_putOff) (mY M_Me_putOff) ∈ lw_tbl := tb3 _ (List.mem_of_getElem? (i := 91) (by decide +kernel))
theorem kc_Me_asDeliver : mCode M_Me_asDeliver ∈ lw_tbl := tb3 _ (List.mem_of_getElem? (i := 68) rfl)
theorem ki_Me_asDeliver : Cond.initialized (mO M_Me_asDeliver) ∈ lw_tbl := tb1 _ (List.mem_of_getElem? (i := 18) (by decide +kernel))
theorem kn_Me_asDeliver : Cond.instanceMethod (mY M_Me_asDeliver) ∈ lw_tbl := tb3 _ (List.mem_of_getElem? (i := 66) (by decide +kernel))
theorem kv_Me_asDeliver : Cond.selects (mO M_Me_asDeliver) (mY M_Me_asDeliver) (mY M_Me_asDeliver) ∈ lw_tbl := tb3 _ (List.mem_of_getElem? (i := 67) (by decide +kernel))
theorem kc_Me_fileReport : mCode M_Me_fileReport ∈ lw_tbl := tb3 _ (List.mem_of_getElem? (i := 98) rfl)
theorem ki_Me_fileReport : Cond.initialized (mO M_Me_fileReport) ∈ lw_tbl := tb1 _ (List.mem_of_getElem? (i := 18) (by decide +kernel))
theorem kn_Me_fileReport : Cond.instanceMethod (mY M_Me_fileReport) ∈ lw_tbl := tb3 _ (List.mem_of_getElem? (i := 96) (by decide +kernel))
theorem kv_Me_fileReport : Cond.selects (mO M_Me_fileReport) (mY M_Me_fileReport) (mY M_Me_fileReport) ∈ lw_tbl := tb3 _ (List.mem_of_getElem? (i := 97) (by decide +kernel))
theorem kc_Pi_init : mCode M_Pi_init ∈ lw_tbl := tb3 _ (List.mem_of_getElem? (i := 138) rfl)
theorem ki_Pi_init : Cond.initialized (mO M_Pi_init) ∈ lw_tbl := tb1 _ (List.mem_of_getElem? (i := 21) (by decide +kernel))
theorem kn_Pi_init : Cond.instanceMethod (mY M_Pi_init) ∈ lw_tbl := tb3 _ (List.mem_of_getElem? (i := 137) (by decide +kernel))
theorem kc_Pi_gathers : mCode M_Pi_gathers ∈ lw_tbl := tb3 _ (List.mem_of_getElem? (i := 133) rfl)
theorem ki_Pi_gathers : Cond.initialized (mO M_Pi_gathers) ∈ lw_tbl := tb1 _ (List.mem_of_getElem? (i := 21) (by decide +kernel))
theorem kn_Pi_gathers : Cond.instanceMethod (mY M_Pi_gathers) ∈ lw_tbl := tb3 _ (List.mem_of_getElem? (i := 131) (by decide +kernel))
theorem kv_Pi_gathers : Cond.selects (mO M_Pi_gathers) (mY M_Pi_gathers) (mY M_Pi_gathers) ∈ lw_tbl := tb3 _ (List.mem_of_getElem? (i := 132) (by decide +kernel))
theorem kc_Pi_keep : mCode M_Pi_keep ∈ lw_tbl := tb3 _ (List.mem_of_getElem? (i := 159) rfl)
theorem ki_Pi_keep : Cond.initialized (mO M_Pi_keep) ∈ lw_tbl := tb1 _ (List.mem_of_getElem? (i := 21) (by decide +kernel))
theorem kn_Pi_keep : Cond.instanceMethod (mY M_Pi_keep) ∈ lw_tbl := tb3 _ (List.mem_of_getElem? (i := 157) (by decide +kernel))
theorem kv_Pi_keep : Cond.selects (mO M_Pi_keep) (mY M_Pi_keep) (mY M_Pi_keep) ∈ lw_tbl := tb3 _ (List.mem_of_getElem? (i := 158) (by decide +kernel))
theorem kc_Pi_lacking : mCode M_Pi_lacking ∈ lw_tbl := tb3 _ (List.mem_of_getElem? (i := 163) rfl)
theorem ki_Pi_lacking : Cond.initialized (mO M_Pi_lacking) ∈ lw_tbl := tb1 _ (List.mem_of_getElem? (i := 21) (by decide +kernel))
theorem kn_Pi_lacking : Cond.instanceMethod (mY M_Pi_lacking) ∈ lw_tbl := tb3 _ (List.mem_of_getElem? (i := 161) (by decide +kernel))
theorem kv_Pi_lacking : Cond.selects (mO M_Pi_lacking) (mY M_Pi_lacking) (mY M_Pi_lacking) ∈ lw_tbl := tb3 _ (List.mem_of_getElem? (i := 162) (by decide +kernel))
theorem kc_Pi_readText : mCode M_Pi_readText ∈ lw_tbl := tb3 _ (List.mem_of_getElem? (i := 167) rfl)
theorem ki_Pi_readText : Cond.initialized (mO M_Pi_readText) ∈ lw_tbl := tb1 _ (List.mem_of_getElem? (i := 21) (by decide +kernel))
theorem kn_Pi_readText : Cond.instanceMethod (mY M_Pi_readText) ∈ lw_tbl := tb3 _ (List.mem_of_getElem? (i := 165) (by decide +kernel))
theorem kv_Pi_readText : Cond.selects (mO M_Pi_readText) (mY M_Pi_readText) (mY M_Pi_readText) ∈ lw_tbl := tb3 _ (List.mem_of_getElem? (i := 166) (by decide +kernel))
theorem kc_Ro_init : mCode M_Ro_init ∈ lw_tbl := tb2 _ (List.mem_of_getElem? (i := 9) rfl)
theorem ki_Ro_init : Cond.initialized (mO M_Ro_init) ∈ lw_tbl := tb1 _ (List.mem_of_getElem? (i := 10) (by decide +kernel))
theorem kn_Ro_init : Cond.instanceMethod (mY M_Ro_init) ∈ lw_tbl := tb2 _ (List.mem_of_getElem? (i := 8) (by decide +kernel))
theorem kc_Ro_digitsOf : mCode M_Ro_digitsOf ∈ lw_tbl := tb1 _ (List.mem_of_getElem? (i := 239) rfl)
theorem ki_Ro_digitsOf : Cond.initialized (mO M_Ro_digitsOf) ∈ lw_tbl := tb1 _ (List.mem_of_getElem? (i := 10) (by decide +kernel))
theorem ks_Ro_digitsOf : Cond.static (mY M_Ro_digitsOf) ∈ lw_tbl := tb1 _ (List.mem_of_getElem? (i := 238) (by decide +kernel))
theorem kc_Ro_addressSize : mCode M_Ro_addressSize ∈ lw_tbl := tb2 _ (List.mem_of_getElem? (i := 3) rfl)
theorem ki_Ro_addressSize : Cond.initialized (mO M_Ro_addressSize) ∈ lw_tbl := tb1 _ (List.mem_of_getElem? (i := 10) (by decide +kernel))
theorem ks_Ro_addressSize : Cond.static (mY M_Ro_addressSize) ∈ lw_tbl := tb2 _ (List.mem_of_getElem? (i := 2) (by decide +kernel))
theorem kc_Ro_dataSize : mCode M_Ro_dataSize ∈ lw_tbl := tb2 _ (List.mem_of_getElem? (i := 6) rfl)
theorem ki_Ro_dataSize : Cond.initialized (mO M_Ro_dataSize) ∈ lw_tbl := tb1 _ (List.mem_of_getElem? (i := 10) (by decide +kernel))
theorem ks_Ro_dataSize : Cond.static (mY M_Ro_dataSize) ∈ lw_tbl := tb2 _ (List.mem_of_getElem? (i := 5) (by decide +kernel))
theorem kc_Ro_submitSize : mCode M_Ro_submitSize ∈ lw_tbl := tb1 _ (List.mem_of_getElem? (i := 236) rfl)
theorem ki_Ro_submitSize : Cond.initialized (mO M_Ro_submitSize) ∈ lw_tbl := tb1 _ (List.mem_of_getElem? (i := 10) (by decide +kernel))
theorem ks_Ro_submitSize : Cond.static (mY M_Ro_submitSize) ∈ lw_tbl := tb1 _ (List.mem_of_getElem? (i := 235) (by decide +kernel))
theorem kc_Ro_deliverSize : mCode M_Ro_deliverSize ∈ lw_tbl := tb3 _ (List.mem_of_getElem? (i := 73) rfl)
theorem ki_Ro_deliverSize : Cond.initialized (mO M_Ro_deliverSize) ∈ lw_tbl := tb1 _ (List.mem_of_getElem? (i := 10) (by decide +kernel))
theorem ks_Ro_deliverSize : Cond.static (mY M_Ro_deliverSize) ∈ lw_tbl := tb3 _ (List.mem_of_getElem? (i := 72) (by decide +kernel))
theorem kc_Ro_reportSize : mCode M_Ro_reportSize ∈ lw_tbl := tb3 _ (List.mem_of_getElem? (i := 102) rfl)
theorem ki_Ro_reportSize : Cond.initialized (mO M_Ro_reportSize) ∈ lw_tbl := tb1 _ (List.mem_of_getElem? (i := 10) (by decide +kernel))
theorem ks_Ro_reportSize : Cond.static (mY M_Ro_reportSize) ∈ lw_tbl := tb3 _ (List.mem_of_getElem? (i := 101) (by decide +kernel))
theorem kc_Ro_size : mCode M_Ro_size ∈ lw_tbl := tb2 _ (List.mem_of_getElem? (i := 212) rfl)
theorem ki_Ro_size : Cond.initialized (mO M_Ro_size) ∈ lw_tbl := tb1 _ (List.mem_of_getElem? (i := 10) (by decide +kernel))
theorem kn_Ro_size : Cond.instanceMethod (mY M_Ro_size) ∈ lw_tbl := tb2 _ (List.mem_of_getElem? (i := 210) (by decide +kernel))
theorem kv_Ro_size : Cond.selects (mO M_Ro_size) (mY M_Ro_size) (mY M_Ro_size) ∈ lw_tbl := tb2 _ (List.mem_of_getElem? (i := 211) (by decide +kernel))
theorem kc_Ro_has : mCode M_Ro_has ∈ lw_tbl := tb2 _ (List.mem_of_getElem? (i := 37) rfl)
theorem ki_Ro_has : Cond.initialized (mO M_Ro_has) ∈ lw_tbl := tb1 _ (List.mem_of_getElem? (i := 10) (by decide +kernel))
theorem kn_Ro_has : Cond.instanceMethod (mY M_Ro_has) ∈ lw_tbl := tb2 _ (List.mem_of_getElem? (i := 35) (by decide +kernel))
theorem kv_Ro_has : Cond.selects (mO M_Ro_has) (mY M_Ro_has) (mY M_Ro_has) ∈ lw_tbl := tb2 _ (List.mem_of_getElem? (i := 36) (by decide +kernel))
theorem kc_Ro_at : mCode M_Ro_at ∈ lw_tbl := tb2 _ (List.mem_of_getElem? (i := 66) rfl)
theorem ki_Ro_at : Cond.initialized (mO M_Ro_at) ∈ lw_tbl := tb1 _ (List.mem_of_getElem? (i := 10) (by decide +kernel))
theorem kn_Ro_at : Cond.instanceMethod (mY M_Ro_at) ∈ lw_tbl := tb2 _ (List.mem_of_getElem? (i := 64) (by decide +kernel))
theorem kv_Ro_at : Cond.selects (mO M_Ro_at) (mY M_Ro_at) (mY M_Ro_at) ∈ lw_tbl := tb2 _ (List.mem_of_getElem? (i := 65) (by decide +kernel))
theorem kc_Ro_flip : mCode M_Ro_flip ∈ lw_tbl := tb2 _ (List.mem_of_getElem? (i := 175) rfl)
theorem ki_Ro_flip : Cond.initialized (mO M_Ro_flip) ∈ lw_tbl := tb1 _ (List.mem_of_getElem? (i := 10) (by decide +kernel))
theorem kn_Ro_flip : Cond.instanceMethod (mY M_Ro_flip) ∈ lw_tbl := tb2 _ (List.mem_of_getElem? (i := 173) (by decide +kernel))
theorem kv_Ro_flip : Cond.selects (mO M_Ro_flip) (mY M_Ro_flip) (mY M_Ro_flip) ∈ lw_tbl := tb2 _ (List.mem_of_getElem? (i := 174) (by decide +kernel))
theorem kc_Ro_put : mCode M_Ro_put ∈ lw_tbl := tb2 _ (List.mem_of_getElem? (i := 33) rfl)
theorem ki_Ro_put : Cond.initialized (mO M_Ro_put) ∈ lw_tbl := tb1 _ (List.mem_of_getElem? (i := 10) (by decide +kernel))
theorem kn_Ro_put : Cond.instanceMethod (mY M_Ro_put) ∈ lw_tbl := tb2 _ (List.mem_of_getElem? (i := 31) (by decide +kernel))
theorem kv_Ro_put : Cond.selects (mO M_Ro_put) (mY M_Ro_put) (mY M_Ro_put) ∈ lw_tbl := tb2 _ (List.mem_of_getElem? (i := 32) (by decide +kernel))
theorem kc_Ro_merge : mCode M_Ro_merge ∈ lw_tbl := tb2 _ (List.mem_of_getElem? (i := 49) rfl)
theorem ki_Ro_merge : Cond.initialized (mO M_Ro_merge) ∈ lw_tbl := tb1 _ (List.mem_of_getElem? (i := 10) (by decide +kernel))
theorem kn_Ro_merge : Cond.instanceMethod (mY M_Ro_merge) ∈ lw_tbl := tb2 _ (List.mem_of_getElem? (i := 48) (by decide +kernel))
theorem kv_Ro_merge : Cond.selects (mO M_Ro_merge) (mY M_Ro_merge) (mY M_Ro_merge) ∈ lw_tbl := List.mem_of_getElem? (i := 3) (by decide +kernel)
theorem kc_Ro_putDigits : mCode M_Ro_putDigits ∈ lw_tbl := tb2 _ (List.mem_of_getElem? (i := 45) rfl)
theorem ki_Ro_putDigits : Cond.initialized (mO M_Ro_putDigits) ∈ lw_tbl := tb1 _ (List.mem_of_getElem? (i := 10) (by decide +kernel))
theorem kn_Ro_putDigits : Cond.instanceMethod (mY M_Ro_putDigits) ∈ lw_tbl := tb2 _ (List.mem_of_getElem? (i := 44) (by decide +kernel))
theorem kv_Ro_putDigits : Cond.selects (mO M_Ro_putDigits) (mY M_Ro_putDigits) (mY M_Ro_putDigits) ∈ lw_tbl := List.mem_of_getElem? (i := 2) (by decide +kernel)
theorem kc_Ro_putAddress : mCode M_Ro_putAddress ∈ lw_tbl := tb2 _ (List.mem_of_getElem? (i := 41) rfl)
theorem ki_Ro_putAddress : Cond.initialized (mO M_Ro_putAddress) ∈ lw_tbl := tb1 _ (List.mem_of_getElem? (i := 10) (by decide +kernel))
theorem kn_Ro_putAddress : Cond.instanceMethod (mY M_Ro_putAddress) ∈ lw_tbl := tb2 _ (List.mem_of_getElem? (i := 39) (by decide +kernel))
theorem kv_Ro_putAddress : Cond.selects (mO M_Ro_putAddress) (mY M_Ro_putAddress) (mY M_Ro_putAddress) ∈ lw_tbl := tb2 _ (List.mem_of_getElem? (i := 40) (by decide +kernel))
theorem kc_Ro_putTime : mCode M_Ro_putTime ∈ lw_tbl := tb3 _ (List.mem_of_getElem? (i := 81) rfl)
theorem ki_Ro_putTime : Cond.initialized (mO M_Ro_putTime) ∈ lw_tbl := tb1 _ (List.mem_of_getElem? (i := 10) (by decide +kernel))
theorem kn_Ro_putTime : Cond.instanceMethod (mY M_Ro_putTime) ∈ lw_tbl := tb3 _ (List.mem_of_getElem? (i := 79) (by decide +kernel))
theorem kv_Ro_putTime : Cond.selects (mO M_Ro_putTime) (mY M_Ro_putTime) (mY M_Ro_putTime) ∈ lw_tbl := tb3 _ (List.mem_of_getElem? (i := 80) (by decide +kernel))
theorem kc_Ro_putSubmitHead : mCode M_Ro_putSubmitHead ∈ lw_tbl := tb2 _ (List.mem_of_getElem? (i := 29) rfl)
theorem ki_Ro_putSubmitHead : Cond.initialized (mO M_Ro_putSubmitHead) ∈ lw_tbl := tb1 _ (List.mem_of_getElem? (i := 10) (by decide +kernel))
theorem kn_Ro_putSubmitHead : Cond.instanceMethod (mY M_Ro_putSubmitHead) ∈ lw_tbl := tb2 _ (List.mem_of_getElem? (i := 27) (by decide +kernel))
theorem kv_Ro_putSubmitHead : Cond.selects (mO M_Ro_putSubmitHead) (mY M_Ro_putSubmitHead) (mY M_Ro_putSubmitHead) ∈ lw_tbl := tb2 _ (List.mem_of_getElem? (i := 28) (by decide +kernel))
theorem kc_Ro_putHeader : mCode M_Ro_putHeader ∈ lw_tbl := tb2 _ (List.mem_of_getElem? (i := 54) rfl)
theorem ki_Ro_putHeader : Cond.initialized (mO M_Ro_putHeader) ∈ lw_tbl := tb1 _ (List.mem_of_getElem? (i := 10) (by decide +kernel))
theorem kn_Ro_putHeader : Cond.instanceMethod (mY M_Ro_putHeader) ∈ lw_tbl := tb2 _ (List.mem_of_getElem? (i := 52) (by decide +kernel))
theorem kv_Ro_putHeader : Cond.selects (mO M_Ro_putHeader) (mY M_Ro_putHeader) (mY M_Ro_putHeader) ∈ lw_tbl := tb2 _ (List.mem_of_getElem? (i := 53) (by decide +kernel))
theorem kc_Ro_putRest : mCode M_Ro_putRest ∈ lw_tbl := tb3 _ (List.mem_of_getElem? (i := 85) rfl)
theorem ki_Ro_putRest : Cond.initialized (mO M_Ro_putRest) ∈ lw_tbl := tb1 _ (List.mem_of_getElem? (i := 10) (by decide +kernel))
theorem kn_Ro_putRest : Cond.instanceMethod (mY M_Ro_putRest) ∈ lw_tbl := tb3 _ (List.mem_of_getElem? (i := 83) (by decide +kernel))
theorem kv_Ro_putRest : Cond.selects (mO M_Ro_putRest) (mY M_Ro_putRest) (mY M_Ro_putRest) ∈ lw_tbl := tb3 _ (List.mem_of_getElem? (i := 84) (by decide +kernel))
theorem kc_Ro_mergeSeptet : mCode M_Ro_mergeSeptet ∈ lw_tbl := tb2 _ (List.mem_of_getElem? (i := 78) rfl)
theorem ki_Ro_mergeSeptet : Cond.initialized (mO M_Ro_mergeSeptet) ∈ lw_tbl := tb1 _ (List.mem_of_getElem? (i := 10) (by decide +kernel))
theorem kn_Ro_mergeSeptet : Cond.instanceMethod (mY M_Ro_mergeSeptet) ∈ lw_tbl := tb2 _ (List.mem_of_getElem? (i := 76) (by decide +kernel))
theorem kv_Ro_mergeSeptet : Cond.selects (mO M_Ro_mergeSeptet) (mY M_Ro_mergeSeptet) (mY M_Ro_mergeSeptet) ∈ lw_tbl := tb2 _ (List.mem_of_getElem? (i := 77) (by decide +kernel))
theorem kc_Ro_septetAt : mCode M_Ro_septetAt ∈ lw_tbl := tb2 _ (List.mem_of_getElem? (i := 225) rfl)
theorem ki_Ro_septetAt : Cond.initialized (mO M_Ro_septetAt) ∈ lw_tbl := tb1 _ (List.mem_of_getElem? (i := 10) (by decide +kernel))
theorem kn_Ro_septetAt : Cond.instanceMethod (mY M_Ro_septetAt) ∈ lw_tbl := tb2 _ (List.mem_of_getElem? (i := 223) (by decide +kernel))
theorem kv_Ro_septetAt : Cond.selects (mO M_Ro_septetAt) (mY M_Ro_septetAt) (mY M_Ro_septetAt) ∈ lw_tbl := tb2 _ (List.mem_of_getElem? (i := 224) (by decide +kernel))
theorem kc_Ro_digitAt : mCode M_Ro_digitAt ∈ lw_tbl := tb2 _ (List.mem_of_getElem? (i := 204) rfl)
theorem ki_Ro_digitAt : Cond.initialized (mO M_Ro_digitAt) ∈ lw_tbl := tb1 _ (List.mem_of_getElem? (i := 10) (by decide +kernel))
theorem kn_Ro_digitAt : Cond.instanceMethod (mY M_Ro_digitAt) ∈ lw_tbl := tb2 _ (List.mem_of_getElem? (i := 202) (by decide +kernel))
theorem kv_Ro_digitAt : Cond.selects (mO M_Ro_digitAt) (mY M_Ro_digitAt) (mY M_Ro_digitAt) ∈ lw_tbl := tb2 _ (List.mem_of_getElem? (i := 203) (by decide +kernel))
theorem kc_Ro_numberAt : mCode M_Ro_numberAt ∈ lw_tbl := tb3 _ (List.mem_of_getElem? (i := 0) rfl)
theorem ki_Ro_numberAt : Cond.initialized (mO M_Ro_numberAt) ∈ lw_tbl := tb1 _ (List.mem_of_getElem? (i := 10) (by decide +kernel))
theorem kn_Ro_numberAt : Cond.instanceMethod (mY M_Ro_numberAt) ∈ lw_tbl := tb2 _ (List.mem_of_getElem? (i := 238) (by decide +kernel))
theorem kv_Ro_numberAt : Cond.selects (mO M_Ro_numberAt) (mY M_Ro_numberAt) (mY M_Ro_numberAt) ∈ lw_tbl := tb2 _ (List.mem_of_getElem? (i := 239) (by decide +kernel))
theorem kc_Ro_hasHeader : mCode M_Ro_hasHeader ∈ lw_tbl := tb2 _ (List.mem_of_getElem? (i := 74) rfl)
theorem ki_Ro_hasHeader : Cond.initialized (mO M_Ro_hasHeader) ∈ lw_tbl := tb1 _ (List.mem_of_getElem? (i := 10) (by decide +kernel))
theorem kn_Ro_hasHeader : Cond.instanceMethod (mY M_Ro_hasHeader) ∈ lw_tbl := tb2 _ (List.mem_of_getElem? (i := 72) (by decide +kernel))
theorem kv_Ro_hasHeader : Cond.selects (mO M_Ro_hasHeader) (mY M_Ro_hasHeader) (mY M_Ro_hasHeader) ∈ lw_tbl := tb2 _ (List.mem_of_getElem? (i := 73) (by decide +kernel))
theorem kc_Ro_firstBit : mCode M_Ro_firstBit ∈ lw_tbl := tb2 _ (List.mem_of_getElem? (i := 70) rfl)
theorem ki_Ro_firstBit : Cond.initialized (mO M_Ro_firstBit) ∈ lw_tbl := tb1 _ (List.mem_of_getElem? (i := 10) (by decide +kernel))
theorem kn_Ro_firstBit : Cond.instanceMethod (mY M_Ro_firstBit) ∈ lw_tbl := tb2 _ (List.mem_of_getElem? (i := 68) (by decide +kernel))
theorem kv_Ro_firstBit : Cond.selects (mO M_Ro_firstBit) (mY M_Ro_firstBit) (mY M_Ro_firstBit) ∈ lw_tbl := tb2 _ (List.mem_of_getElem? (i := 69) (by decide +kernel))
theorem kc_Ro_submitDataAt : mCode M_Ro_submitDataAt ∈ lw_tbl := tb2 _ (List.mem_of_getElem? (i := 62) rfl)
theorem ki_Ro_submitDataAt : Cond.initialized (mO M_Ro_submitDataAt) ∈ lw_tbl := tb1 _ (List.mem_of_getElem? (i := 10) (by decide +kernel))
theorem kn_Ro_submitDataAt : Cond.instanceMethod (mY M_Ro_submitDataAt) ∈ lw_tbl := tb2 _ (List.mem_of_getElem? (i := 60) (by decide +kernel))
theorem kv_Ro_submitDataAt : Cond.selects (mO M_Ro_submitDataAt) (mY M_Ro_submitDataAt) (mY M_Ro_submitDataAt) ∈ lw_tbl := tb2 _ (List.mem_of_getElem? (i := 61) (by decide +kernel))
theorem kc_Ro_deliverDataAt : mCode M_Ro_deliverDataAt ∈ lw_tbl := tb3 _ (List.mem_of_getElem? (i := 121) rfl)
theorem ki_Ro_deliverDataAt : Cond.initialized (mO M_Ro_deliverDataAt) ∈ lw_tbl := tb1 _ (List.mem_of_getElem? (i := 10) (by decide +kernel))
theorem kn_Ro_deliverDataAt : Cond.instanceMethod (mY M_Ro_deliverDataAt) ∈ lw_tbl := tb3 _ (List.mem_of_getElem? (i := 119) (by decide +kernel))
theorem kv_Ro_deliverDataAt : Cond.selects (mO M_Ro_deliverDataAt) (mY M_Ro_deliverDataAt) (mY M_Ro_deliverDataAt) ∈ lw_tbl := tb3 _ (List.mem_of_getElem? (i := 120) (by decide +kernel))
theorem kc_Ro_readText : mCode M_Ro_readText ∈ lw_tbl := tb3 _ (List.mem_of_getElem? (i := 171) rfl)
theorem ki_Ro_readText : Cond.initialized (mO M_Ro_readText) ∈ lw_tbl := tb1 _ (List.mem_of_getElem? (i := 10) (by decide +kernel))
theorem kn_Ro_readText : Cond.instanceMethod (mY M_Ro_readText) ∈ lw_tbl := tb3 _ (List.mem_of_getElem? (i := 169) (by decide +kernel))
theorem kv_Ro_readText : Cond.selects (mO M_Ro_readText) (mY M_Ro_readText) (mY M_Ro_readText) ∈ lw_tbl := tb3 _ (List.mem_of_getElem? (i := 170) (by decide +kernel))
theorem kc_Su_areKept : mCode M_Su_areKept ∈ lw_tbl := tb2 _ (List.mem_of_getElem? (i := 196) rfl)
theorem ki_Su_areKept : Cond.initialized (mO M_Su_areKept) ∈ lw_tbl := tb1 _ (List.mem_of_getElem? (i := 17) (by decide +kernel))
theorem ks_Su_areKept : Cond.static (mY M_Su_areKept) ∈ lw_tbl := tb2 _ (List.mem_of_getElem? (i := 195) (by decide +kernel))
theorem kc_Su_isAddress : mCode M_Su_isAddress ∈ lw_tbl := tb2 _ (List.mem_of_getElem? (i := 200) rfl)
theorem ki_Su_isAddress : Cond.initialized (mO M_Su_isAddress) ∈ lw_tbl := tb1 _ (List.mem_of_getElem? (i := 17) (by decide +kernel))
theorem ks_Su_isAddress : Cond.static (mY M_Su_isAddress) ∈ lw_tbl := tb2 _ (List.mem_of_getElem? (i := 199) (by decide +kernel))
theorem kc_Su_isUserData : mCode M_Su_isUserData ∈ lw_tbl := tb2 _ (List.mem_of_getElem? (i := 208) rfl)
theorem ki_Su_isUserData : Cond.initialized (mO M_Su_isUserData) ∈ lw_tbl := tb1 _ (List.mem_of_getElem? (i := 17) (by decide +kernel))
theorem ks_Su_isUserData : Cond.static (mY M_Su_isUserData) ∈ lw_tbl := tb2 _ (List.mem_of_getElem? (i := 207) (by decide +kernel))
theorem kc_Su_isHeader : mCode M_Su_isHeader ∈ lw_tbl := tb2 _ (List.mem_of_getElem? (i := 217) rfl)
theorem ki_Su_isHeader : Cond.initialized (mO M_Su_isHeader) ∈ lw_tbl := tb1 _ (List.mem_of_getElem? (i := 17) (by decide +kernel))
theorem ks_Su_isHeader : Cond.static (mY M_Su_isHeader) ∈ lw_tbl := tb2 _ (List.mem_of_getElem? (i := 216) (by decide +kernel))
theorem kc_Su_isText : mCode M_Su_isText ∈ lw_tbl := tb2 _ (List.mem_of_getElem? (i := 220) rfl)
theorem ki_Su_isText : Cond.initialized (mO M_Su_isText) ∈ lw_tbl := tb1 _ (List.mem_of_getElem? (i := 17) (by decide +kernel))
theorem ks_Su_isText : Cond.static (mY M_Su_isText) ∈ lw_tbl := tb2 _ (List.mem_of_getElem? (i := 219) (by decide +kernel))
theorem kc_AbC_init : mCode M_AbC_init ∈ lw_tbl := tb1 _ (List.mem_of_getElem? (i := 48) rfl)
theorem ki_AbC_init : Cond.initialized (mO M_AbC_init) ∈ lw_tbl := tb1 _ (List.mem_of_getElem? (i := 3) (by decide +kernel))
theorem kn_AbC_init : Cond.instanceMethod (mY M_AbC_init) ∈ lw_tbl := tb1 _ (List.mem_of_getElem? (i := 47) (by decide +kernel))
theorem kc_AbL_init : mCode M_AbL_init ∈ lw_tbl := tb1 _ (List.mem_of_getElem? (i := 45) rfl)
theorem ki_AbL_init : Cond.initialized (mO M_AbL_init) ∈ lw_tbl := tb1 _ (List.mem_of_getElem? (i := 4) (by decide +kernel))
theorem kn_AbL_init : Cond.instanceMethod (mY M_AbL_init) ∈ lw_tbl := tb1 _ (List.mem_of_getElem? (i := 44) (by decide +kernel))
theorem kc_AL_init : mCode M_AL_init ∈ lw_tbl := tb1 _ (List.mem_of_getElem? (i := 42) rfl)
theorem ki_AL_init : Cond.initialized (mO M_AL_init) ∈ lw_tbl := tb1 _ (List.mem_of_getElem? (i := 5) (by decide +kernel))
theorem kn_AL_init : Cond.instanceMethod (mY M_AL_init) ∈ lw_tbl := tb1 _ (List.mem_of_getElem? (i := 41) (by decide +kernel))
theorem kc_AL_add : mCode M_AL_add ∈ lw_tbl := tb2 _ (List.mem_of_getElem? (i := 86) rfl)
theorem ki_AL_add : Cond.initialized (mO M_AL_add) ∈ lw_tbl := tb1 _ (List.mem_of_getElem? (i := 5) (by decide +kernel))
theorem kn_AL_add : Cond.instanceMethod (mY M_AL_add) ∈ lw_tbl := tb2 _ (List.mem_of_getElem? (i := 84) (by decide +kernel))
theorem kv_AL_add : Cond.selects (mO M_AL_add) (mY M_AL_add) (mY M_AL_add) ∈ lw_tbl := tb2 _ (List.mem_of_getElem? (i := 85) (by decide +kernel))
theorem kc_AL_add1 : mCode M_AL_add1 ∈ lw_tbl := tb2 _ (List.mem_of_getElem? (i := 90) rfl)
theorem ki_AL_add1 : Cond.initialized (mO M_AL_add1) ∈ lw_tbl := tb1 _ (List.mem_of_getElem? (i := 5) (by decide +kernel))
theorem kn_AL_add1 : Cond.instanceMethod (mY M_AL_add1) ∈ lw_tbl := tb2 _ (List.mem_of_getElem? (i := 89) (by decide +kernel))
theorem kv_AL_add1 : Cond.selects (mO M_AL_add1) (mY M_AL_add1) (mY M_AL_add1) ∈ lw_tbl := List.mem_of_getElem? (i := 4) (by decide +kernel)
theorem kc_AL_elementData : mCode M_AL_elementData ∈ lw_tbl := tb2 _ (List.mem_of_getElem? (i := 169) rfl)
theorem ki_AL_elementData : Cond.initialized (mO M_AL_elementData) ∈ lw_tbl := tb1 _ (List.mem_of_getElem? (i := 5) (by decide +kernel))
theorem kn_AL_elementData : Cond.instanceMethod (mY M_AL_elementData) ∈ lw_tbl := tb2 _ (List.mem_of_getElem? (i := 167) (by decide +kernel))
theorem kv_AL_elementData : Cond.selects (mO M_AL_elementData) (mY M_AL_elementData) (mY M_AL_elementData) ∈ lw_tbl := tb2 _ (List.mem_of_getElem? (i := 168) (by decide +kernel))
theorem kc_AL_fastRemove : mCode M_AL_fastRemove ∈ lw_tbl := tb2 _ (List.mem_of_getElem? (i := 192) rfl)
theorem ki_AL_fastRemove : Cond.initialized (mO M_AL_fastRemove) ∈ lw_tbl := tb1 _ (List.mem_of_getElem? (i := 5) (by decide +kernel))
theorem kn_AL_fastRemove : Cond.instanceMethod (mY M_AL_fastRemove) ∈ lw_tbl := tb2 _ (List.mem_of_getElem? (i := 191) (by decide +kernel))
theorem kv_AL_fastRemove : Cond.selects (mO M_AL_fastRemove) (mY M_AL_fastRemove) (mY M_AL_fastRemove) ∈ lw_tbl := List.mem_of_getElem? (i := 7) (by decide +kernel)
theorem kc_AL_get : mCode M_AL_get ∈ lw_tbl := tb2 _ (List.mem_of_getElem? (i := 159) rfl)
theorem ki_AL_get : Cond.initialized (mO M_AL_get) ∈ lw_tbl := tb1 _ (List.mem_of_getElem? (i := 5) (by decide +kernel))
theorem kn_AL_get : Cond.instanceMethod (mY M_AL_get) ∈ lw_tbl := tb2 _ (List.mem_of_getElem? (i := 157) (by decide +kernel))
theorem kv_AL_get : Cond.selects (mO M_AL_get) (mY M_AL_get) (mY M_AL_get) ∈ lw_tbl := tb2 _ (List.mem_of_getElem? (i := 158) (by decide +kernel))
theorem kc_AL_grow : mCode M_AL_grow ∈ lw_tbl := tb2 _ (List.mem_of_getElem? (i := 94) rfl)
theorem ki_AL_grow : Cond.initialized (mO M_AL_grow) ∈ lw_tbl := tb1 _ (List.mem_of_getElem? (i := 5) (by decide +kernel))
theorem kn_AL_grow : Cond.instanceMethod (mY M_AL_grow) ∈ lw_tbl := tb2 _ (List.mem_of_getElem? (i := 93) (by decide +kernel))
theorem kv_AL_grow : Cond.selects (mO M_AL_grow) (mY M_AL_grow) (mY M_AL_grow) ∈ lw_tbl := List.mem_of_getElem? (i := 5) (by decide +kernel)
theorem kc_AL_grow1 : mCode M_AL_grow1 ∈ lw_tbl := tb2 _ (List.mem_of_getElem? (i := 98) rfl)
theorem ki_AL_grow1 : Cond.initialized (mO M_AL_grow1) ∈ lw_tbl := tb1 _ (List.mem_of_getElem? (i := 5) (by decide +kernel))
theorem kn_AL_grow1 : Cond.instanceMethod (mY M_AL_grow1) ∈ lw_tbl := tb2 _ (List.mem_of_getElem? (i := 97) (by decide +kernel))
theorem kv_AL_grow1 : Cond.selects (mO M_AL_grow1) (mY M_AL_grow1) (mY M_AL_grow1) ∈ lw_tbl := List.mem_of_getElem? (i := 6) (by decide +kernel)
theorem kc_AL_isEmpty : mCode M_AL_isEmpty ∈ lw_tbl := tb2 _ (List.mem_of_getElem? (i := 155) rfl)
theorem ki_AL_isEmpty : Cond.initialized (mO M_AL_isEmpty) ∈ lw_tbl := tb1 _ (List.mem_of_getElem? (i := 5) (by decide +kernel))
theorem kn_AL_isEmpty : Cond.instanceMethod (mY M_AL_isEmpty) ∈ lw_tbl := tb2 _ (List.mem_of_getElem? (i := 153) (by decide +kernel))
theorem kv_AL_isEmpty : Cond.selects (mO M_AL_isEmpty) (mY M_AL_isEmpty) (mY M_AL_isEmpty) ∈ lw_tbl := tb2 _ (List.mem_of_getElem? (i := 154) (by decide +kernel))
theorem kc_AL_remove : mCode M_AL_remove ∈ lw_tbl := tb2 _ (List.mem_of_getElem? (i := 188) rfl)
theorem ki_AL_remove : Cond.initialized (mO M_AL_remove) ∈ lw_tbl := tb1 _ (List.mem_of_getElem? (i := 5) (by decide +kernel))
theorem kn_AL_remove : Cond.instanceMethod (mY M_AL_remove) ∈ lw_tbl := tb2 _ (List.mem_of_getElem? (i := 186) (by decide +kernel))
theorem kv_AL_remove : Cond.selects (mO M_AL_remove) (mY M_AL_remove) (mY M_AL_remove) ∈ lw_tbl := tb2 _ (List.mem_of_getElem? (i := 187) (by decide +kernel))
theorem kc_AL_set : mCode M_AL_set ∈ lw_tbl := tb3 _ (List.mem_of_getElem? (i := 195) rfl)
theorem ki_AL_set : Cond.initialized (mO M_AL_set) ∈ lw_tbl := tb1 _ (List.mem_of_getElem? (i := 5) (by decide +kernel))
theorem kn_AL_set : Cond.instanceMethod (mY M_AL_set) ∈ lw_tbl := tb3 _ (List.mem_of_getElem? (i := 193) (by decide +kernel))
theorem kv_AL_set : Cond.selects (mO M_AL_set) (mY M_AL_set) (mY M_AL_set) ∈ lw_tbl := tb3 _ (List.mem_of_getElem? (i := 194) (by decide +kernel))
theorem kc_AL_size : mCode M_AL_size ∈ lw_tbl := tb1 _ (List.mem_of_getElem? (i := 222) rfl)
theorem ki_AL_size : Cond.initialized (mO M_AL_size) ∈ lw_tbl := tb1 _ (List.mem_of_getElem? (i := 5) (by decide +kernel))
theorem kn_AL_size : Cond.instanceMethod (mY M_AL_size) ∈ lw_tbl := tb1 _ (List.mem_of_getElem? (i := 220) (by decide +kernel))
theorem kv_AL_size : Cond.selects (mO M_AL_size) (mY M_AL_size) (mY M_AL_size) ∈ lw_tbl := tb1 _ (List.mem_of_getElem? (i := 221) (by decide +kernel))
theorem kc_Ar_copyOf : mCode M_Ar_copyOf ∈ lw_tbl := tb2 _ (List.mem_of_getElem? (i := 111) rfl)
theorem ki_Ar_copyOf : Cond.initialized (mO M_Ar_copyOf) ∈ lw_tbl := tb1 _ (List.mem_of_getElem? (i := 13) (by decide +kernel))
theorem ks_Ar_copyOf : Cond.static (mY M_Ar_copyOf) ∈ lw_tbl := tb2 _ (List.mem_of_getElem? (i := 110) (by decide +kernel))
theorem kc_Ar_copyOf1 : mCode M_Ar_copyOf1 ∈ lw_tbl := tb2 _ (List.mem_of_getElem? (i := 128) rfl)
theorem ki_Ar_copyOf1 : Cond.initialized (mO M_Ar_copyOf1) ∈ lw_tbl := tb1 _ (List.mem_of_getElem? (i := 13) (by decide +kernel))
theorem ks_Ar_copyOf1 : Cond.static (mY M_Ar_copyOf1) ∈ lw_tbl := tb2 _ (List.mem_of_getElem? (i := 127) (by decide +kernel))
theorem kc_Ob_checkIndex : mCode M_Ob_checkIndex ∈ lw_tbl := tb2 _ (List.mem_of_getElem? (i := 162) rfl)
theorem ki_Ob_checkIndex : Cond.initialized (mO M_Ob_checkIndex) ∈ lw_tbl := tb1 _ (List.mem_of_getElem? (i := 15) (by decide +kernel))
theorem ks_Ob_checkIndex : Cond.static (mY M_Ob_checkIndex) ∈ lw_tbl := tb2 _ (List.mem_of_getElem? (i := 161) (by decide +kernel))
theorem kc_AS_hugeLength : mCode M_AS_hugeLength ∈ lw_tbl := tb2 _ (List.mem_of_getElem? (i := 108) rfl)
theorem ki_AS_hugeLength : Cond.initialized (mO M_AS_hugeLength) ∈ lw_tbl := tb1 _ (List.mem_of_getElem? (i := 11) (by decide +kernel))
theorem ks_AS_hugeLength : Cond.static (mY M_AS_hugeLength) ∈ lw_tbl := tb2 _ (List.mem_of_getElem? (i := 107) (by decide +kernel))
theorem kc_AS_newLength : mCode M_AS_newLength ∈ lw_tbl := tb2 _ (List.mem_of_getElem? (i := 101) rfl)
theorem ki_AS_newLength : Cond.initialized (mO M_AS_newLength) ∈ lw_tbl := tb1 _ (List.mem_of_getElem? (i := 11) (by decide +kernel))
theorem ks_AS_newLength : Cond.static (mY M_AS_newLength) ∈ lw_tbl := tb2 _ (List.mem_of_getElem? (i := 100) (by decide +kernel))
theorem kc_Pre_checkIndex : mCode M_Pre_checkIndex ∈ lw_tbl := tb2 _ (List.mem_of_getElem? (i := 165) rfl)
theorem ki_Pre_checkIndex : Cond.initialized (mO M_Pre_checkIndex) ∈ lw_tbl := tb1 _ (List.mem_of_getElem? (i := 16) (by decide +kernel))
theorem ks_Pre_checkIndex : Cond.static (mY M_Pre_checkIndex) ∈ lw_tbl := tb2 _ (List.mem_of_getElem? (i := 164) (by decide +kernel))
theorem v_LW_9 : ICi "SeptetCentreLaw" 9 M_SC_init 0 := ⟨⟨Or.inl (tb1 _ (List.mem_of_getElem? (i := 24) (by decide +kernel))), kc_SC_init, ki_SC_init, by decide +kernel, by decide +kernel⟩, kn_SC_init, rfl, rfl, by unfold nPar; decide +kernel⟩
theorem v_SC_17 : ICi "SeptetCentre" 17 M_Li_init 1 := ⟨⟨Or.inl (tb1 _ (List.mem_of_getElem? (i := 34) (by decide +kernel))), kc_Li_init, ki_Li_init, by decide +kernel, by decide +kernel⟩, kn_Li_init, rfl, rfl, by unfold nPar; decide +kernel⟩
theorem v_Li_9 : ICi "SeptetCentre$Line" 9 M_AL_init 0 := ⟨⟨Or.inl (tb1 _ (List.mem_of_getElem? (i := 40) (by decide +kernel))), kc_AL_init, ki_AL_init, by decide +kernel, by decide +kernel⟩, kn_AL_init, rfl, rfl, by unfold nPar; decide +kernel⟩
theorem v_AL_1 : ICi "java/util/ArrayList" 1 M_AbL_init 0 := ⟨⟨Or.inl (tb1 _ (List.mem_of_getElem? (i := 43) (by decide +kernel))), kc_AbL_init, ki_AbL_init, by decide +kernel, by decide +kernel⟩, kn_AbL_init, rfl, rfl, by unfold nPar; decide +kernel⟩
theorem v_AbL_1 : ICi "java/util/AbstractList" 1 M_AbC_init 0 := ⟨⟨Or.inl (tb1 _ (List.mem_of_getElem? (i := 46) (by decide +kernel))), kc_AbC_init, ki_AbC_init, by decide +kernel, by decide +kernel⟩, kn_AbC_init, rfl, rfl, by unfold nPar; decide +kernel⟩
theorem v_SC_33 : ICi "SeptetCentre" 33 M_AL_init 0 := ⟨⟨Or.inl (tb1 _ (List.mem_of_getElem? (i := 87) (by decide +kernel))), kc_AL_init, ki_AL_init, by decide +kernel, by decide +kernel⟩, kn_AL_init, rfl, rfl, by unfold nPar; decide +kernel⟩
theorem v_De_11 : ICi "SeptetCentre$Device" 11 M_Li_init 1 := ⟨⟨Or.inl (tb1 _ (List.mem_of_getElem? (i := 94) (by decide +kernel))), kc_Li_init, ki_Li_init, by decide +kernel, by decide +kernel⟩, kn_Li_init, rfl, rfl, by unfold nPar; decide +kernel⟩
theorem v_De_23 : ICi "SeptetCentre$Device" 23 M_AL_init 0 := ⟨⟨Or.inl (tb1 _ (List.mem_of_getElem? (i := 96) (by decide +kernel))), kc_AL_init, ki_AL_init, by decide +kernel, by decide +kernel⟩, kn_AL_init, rfl, rfl, by unfold nPar; decide +kernel⟩
theorem v_LW_15 : VC "SeptetCentreLaw" 15 M_SC_register 0 2 := ⟨⟨Or.inl (tb1 _ (List.mem_of_getElem? (i := 155) (by decide +kernel))), kc_SC_register, ki_SC_register, by decide +kernel, by decide +kernel⟩, kn_SC_register, kv_SC_register, ⟨_, _, rfl⟩, by unfold nPar; decide +kernel⟩
theorem v_SC_42 : VC "SeptetCentre" 42 M_SC_deviceOf 0 1 := ⟨⟨Or.inl (tb1 _ (List.mem_of_getElem? (i := 159) (by decide +kernel))), kc_SC_deviceOf, ki_SC_deviceOf, by decide +kernel, by decide +kernel⟩, kn_SC_deviceOf, kv_SC_deviceOf, ⟨_, _, rfl⟩, by unfold nPar; decide +kernel⟩
theorem v_SC_46 : SCs "SeptetCentre" 46 M_SC_isNumber 1 := ⟨⟨Or.inl (tb1 _ (List.mem_of_getElem? (i := 163) (by decide +kernel))), kc_SC_isNumber, ki_SC_isNumber, by decide +kernel, by decide +kernel⟩, ks_SC_isNumber, by unfold nPar; decide +kernel⟩
theorem v_LW_20 : VC "SeptetCentreLaw" 20 M_SC_power 0 2 := ⟨⟨Or.inl (tb1 _ (List.mem_of_getElem? (i := 167) (by decide +kernel))), kc_SC_power, ki_SC_power, by decide +kernel, by decide +kernel⟩, kn_SC_power, kv_SC_power, ⟨_, _, rfl⟩, by unfold nPar; decide +kernel⟩
theorem v_LW_25 : VC "SeptetCentreLaw" 25 M_SC_type 0 2 := ⟨⟨Or.inl (tb1 _ (List.mem_of_getElem? (i := 171) (by decide +kernel))), kc_SC_type, ki_SC_type, by decide +kernel, by decide +kernel⟩, kn_SC_type, kv_SC_type, ⟨_, _, rfl⟩, by unfold nPar; decide +kernel⟩
theorem v_SC_58 : VC "SeptetCentre" 58 M_Dr_room 3 0 := ⟨⟨Or.inl (tb1 _ (List.mem_of_getElem? (i := 175) (by decide +kernel))), kc_Dr_room, ki_Dr_room, by decide +kernel, by decide +kernel⟩, kn_Dr_room, kv_Dr_room, ⟨_, _, rfl⟩, by unfold nPar; decide +kernel⟩
theorem v_SC_62 : SCs "SeptetCentre" 62 M_Al_formOf 1 := ⟨⟨Or.inl (tb1 _ (List.mem_of_getElem? (i := 179) (by decide +kernel))), kc_Al_formOf, ki_Al_formOf, by decide +kernel, by decide +kernel⟩, ks_Al_formOf, by unfold nPar; decide +kernel⟩
theorem v_SC_68 : VC "SeptetCentre" 68 M_Dr_append 3 2 := ⟨⟨Or.inl (tb1 _ (List.mem_of_getElem? (i := 188) (by decide +kernel))), kc_Dr_append, ki_Dr_append, by decide +kernel, by decide +kernel⟩, kn_Dr_append, kv_Dr_append, ⟨_, _, rfl⟩, by unfold nPar; decide +kernel⟩
theorem v_LW_30 : VC "SeptetCentreLaw" 30 M_SC_wipe 0 0 := ⟨⟨Or.inl (tb1 _ (List.mem_of_getElem? (i := 192) (by decide +kernel))), kc_SC_wipe, ki_SC_wipe, by decide +kernel, by decide +kernel⟩, kn_SC_wipe, kv_SC_wipe, ⟨_, _, rfl⟩, by unfold nPar; decide +kernel⟩
theorem v_LW_34 : VC "SeptetCentreLaw" 34 M_SC_send 0 4 := ⟨⟨Or.inl (tb1 _ (List.mem_of_getElem? (i := 196) (by decide +kernel))), kc_SC_send, ki_SC_send, by decide +kernel, by decide +kernel⟩, kn_SC_send, kv_SC_send, ⟨_, _, rfl⟩, by unfold nPar; decide +kernel⟩
theorem v_SC_76 : VC "SeptetCentre" 76 M_Dr_hasAlien 3 0 := ⟨⟨Or.inl (tb1 _ (List.mem_of_getElem? (i := 200) (by decide +kernel))), kc_Dr_hasAlien, ki_Dr_hasAlien, by decide +kernel, by decide +kernel⟩, kn_Dr_hasAlien, kv_Dr_hasAlien, ⟨_, _, rfl⟩, by unfold nPar; decide +kernel⟩
theorem v_SC_80 : VC "SeptetCentre" 80 M_Dr_partCount 3 0 := ⟨⟨Or.inl (tb1 _ (List.mem_of_getElem? (i := 204) (by decide +kernel))), kc_Dr_partCount, ki_Dr_partCount, by decide +kernel, by decide +kernel⟩, kn_Dr_partCount, kv_Dr_partCount, ⟨_, _, rfl⟩, by unfold nPar; decide +kernel⟩
theorem v_Dr_23 : VC "SeptetCentre$Draft" 23 M_Dr_septets 3 2 := ⟨⟨Or.inl (tb1 _ (List.mem_of_getElem? (i := 208) (by decide +kernel))), kc_Dr_septets, ki_Dr_septets, by decide +kernel, by decide +kernel⟩, kn_Dr_septets, kv_Dr_septets, ⟨_, _, rfl⟩, by unfold nPar; decide +kernel⟩
theorem v_Dr_19 : SCs "SeptetCentre$Draft" 19 M_Al_septetsOf 1 := ⟨⟨Or.inl (tb1 _ (List.mem_of_getElem? (i := 212) (by decide +kernel))), kc_Al_septetsOf, ki_Al_septetsOf, by decide +kernel, by decide +kernel⟩, ks_Al_septetsOf, by unfold nPar; decide +kernel⟩
theorem v_SC_83 : VC "SeptetCentre" 83 M_Li_room 1 0 := ⟨⟨Or.inl (tb1 _ (List.mem_of_getElem? (i := 215) (by decide +kernel))), kc_Li_room, ki_Li_room, by decide +kernel, by decide +kernel⟩, kn_Li_room, kv_Li_room, ⟨_, _, rfl⟩, by unfold nPar; decide +kernel⟩
theorem v_Li_20 : VC "SeptetCentre$Line" 20 M_AL_size 2 0 := ⟨⟨Or.inl (tb1 _ (List.mem_of_getElem? (i := 219) (by decide +kernel))), kc_AL_size, ki_AL_size, by decide +kernel, by decide +kernel⟩, kn_AL_size, kv_AL_size, ⟨_, _, rfl⟩, by unfold nPar; decide +kernel⟩
theorem v_SC_86 : VC "SeptetCentre" 86 M_SC_sendUp 0 5 := ⟨⟨Or.inl (tb1 _ (List.mem_of_getElem? (i := 223) (by decide +kernel))), kc_SC_sendUp, ki_SC_sendUp, by decide +kernel, by decide +kernel⟩, kn_SC_sendUp, kv_SC_sendUp, ⟨_, _, rfl⟩, by unfold nPar; decide +kernel⟩
theorem v_SC_204 : VC "SeptetCentre" 204 M_Dr_partEnd 3 1 := ⟨⟨Or.inl (tb1 _ (List.mem_of_getElem? (i := 227) (by decide +kernel))), kc_Dr_partEnd, ki_Dr_partEnd, by decide +kernel, by decide +kernel⟩, kn_Dr_partEnd, kv_Dr_partEnd, ⟨_, _, rfl⟩, by unfold nPar; decide +kernel⟩
theorem v_SC_207 : VC "SeptetCentre" 207 M_Dr_septets 3 2 := ⟨⟨Or.inl (tb1 _ (List.mem_of_getElem? (i := 231) (by decide +kernel))), kc_Dr_septets, ki_Dr_septets, by decide +kernel, by decide +kernel⟩, kn_Dr_septets, kv_Dr_septets, ⟨_, _, rfl⟩, by unfold nPar; decide +kernel⟩
theorem v_SC_211 : SCs "SeptetCentre" 211 M_Ro_submitSize 2 := ⟨⟨Or.inl (tb1 _ (List.mem_of_getElem? (i := 234) (by decide +kernel))), kc_Ro_submitSize, ki_Ro_submitSize, by decide +kernel, by decide +kernel⟩, ks_Ro_submitSize, by unfold nPar; decide +kernel⟩
theorem v_Ro_19 : SCs "SeptetCentre$Row" 19 M_Ro_digitsOf 1 := ⟨⟨Or.inl (tb1 _ (List.mem_of_getElem? (i := 237) (by decide +kernel))), kc_Ro_digitsOf, ki_Ro_digitsOf, by decide +kernel, by decide +kernel⟩, ks_Ro_digitsOf, by unfold nPar; decide +kernel⟩
theorem v_Ro_23 : SCs "SeptetCentre$Row" 23 M_Ro_addressSize 1 := ⟨⟨Or.inl (tb2 _ (List.mem_of_getElem? (i := 1) (by decide +kernel))), kc_Ro_addressSize, ki_Ro_addressSize, by decide +kernel, by decide +kernel⟩, ks_Ro_addressSize, by unfold nPar; decide +kernel⟩
theorem v_Ro_27 : SCs "SeptetCentre$Row" 27 M_Ro_dataSize 1 := ⟨⟨Or.inl (tb2 _ (List.mem_of_getElem? (i := 4) (by decide +kernel))), kc_Ro_dataSize, ki_Ro_dataSize, by decide +kernel, by decide +kernel⟩, ks_Ro_dataSize, by unfold nPar; decide +kernel⟩
theorem v_SC_215 : ICi "SeptetCentre" 215 M_Ro_init 2 := ⟨⟨Or.inl (tb2 _ (List.mem_of_getElem? (i := 7) (by decide +kernel))), kc_Ro_init, ki_Ro_init, by decide +kernel, by decide +kernel⟩, kn_Ro_init, rfl, rfl, by unfold nPar; decide +kernel⟩
theorem v_SC_218 : VC "SeptetCentre" 218 M_De_nextMessageNumber 4 0 := ⟨⟨Or.inl (tb2 _ (List.mem_of_getElem? (i := 22) (by decide +kernel))), kc_De_nextMessageNumber, ki_De_nextMessageNumber, by decide +kernel, by decide +kernel⟩, kn_De_nextMessageNumber, kv_De_nextMessageNumber, ⟨_, _, rfl⟩, by unfold nPar; decide +kernel⟩
theorem v_SC_221 : VC "SeptetCentre" 221 M_Ro_putSubmitHead 5 4 := ⟨⟨Or.inl (tb2 _ (List.mem_of_getElem? (i := 26) (by decide +kernel))), kc_Ro_putSubmitHead, ki_Ro_putSubmitHead, by decide +kernel, by decide +kernel⟩, kn_Ro_putSubmitHead, kv_Ro_putSubmitHead, ⟨_, _, rfl⟩, by unfold nPar; decide +kernel⟩
theorem v_Ro_38 : VC "SeptetCentre$Row" 38 M_Ro_put 5 1 := ⟨⟨Or.inl (tb2 _ (List.mem_of_getElem? (i := 30) (by decide +kernel))), kc_Ro_put, ki_Ro_put, by decide +kernel, by decide +kernel⟩, kn_Ro_put, kv_Ro_put, ⟨_, _, rfl⟩, by unfold nPar; decide +kernel⟩
theorem v_Ro_30 : VC "SeptetCentre$Row" 30 M_Ro_has 5 1 := ⟨⟨Or.inl (tb2 _ (List.mem_of_getElem? (i := 34) (by decide +kernel))), kc_Ro_has, ki_Ro_has, by decide +kernel, by decide +kernel⟩, kn_Ro_has, kv_Ro_has, ⟨_, _, rfl⟩, by unfold nPar; decide +kernel⟩
theorem v_Ro_50 : VC "SeptetCentre$Row" 50 M_Ro_putAddress 5 1 := ⟨⟨Or.inl (tb2 _ (List.mem_of_getElem? (i := 38) (by decide +kernel))), kc_Ro_putAddress, ki_Ro_putAddress, by decide +kernel, by decide +kernel⟩, kn_Ro_putAddress, kv_Ro_putAddress, ⟨_, _, rfl⟩, by unfold nPar; decide +kernel⟩
theorem v_Ro_46 : VC "SeptetCentre$Row" 46 M_Ro_putDigits 5 2 := ⟨⟨Or.inl (tb2 _ (List.mem_of_getElem? (i := 42) (by decide +kernel))), kc_Ro_putDigits, ki_Ro_putDigits, by decide +kernel, by decide +kernel⟩, kn_Ro_putDigits, kv_Ro_putDigits, ⟨_, _, rfl⟩, by unfold nPar; decide +kernel⟩
theorem v_Ro_42 : VC "SeptetCentre$Row" 42 M_Ro_merge 5 2 := ⟨⟨Or.inl (tb2 _ (List.mem_of_getElem? (i := 46) (by decide +kernel))), kc_Ro_merge, ki_Ro_merge, by decide +kernel, by decide +kernel⟩, kn_Ro_merge, kv_Ro_merge, ⟨_, _, rfl⟩, by unfold nPar; decide +kernel⟩
theorem v_SC_225 : VC "SeptetCentre" 225 M_Ro_put 5 1 := ⟨⟨Or.inl (tb2 _ (List.mem_of_getElem? (i := 50) (by decide +kernel))), kc_Ro_put, ki_Ro_put, by decide +kernel, by decide +kernel⟩, kn_Ro_put, kv_Ro_put, ⟨_, _, rfl⟩, by unfold nPar; decide +kernel⟩
theorem v_SC_231 : VC "SeptetCentre" 231 M_Ro_putHeader 5 3 := ⟨⟨Or.inl (tb2 _ (List.mem_of_getElem? (i := 51) (by decide +kernel))), kc_Ro_putHeader, ki_Ro_putHeader, by decide +kernel, by decide +kernel⟩, kn_Ro_putHeader, kv_Ro_putHeader, ⟨_, _, rfl⟩, by unfold nPar; decide +kernel⟩
theorem v_SC_235 : VC "SeptetCentre" 235 M_Dr_pack 3 3 := ⟨⟨Or.inl (tb2 _ (List.mem_of_getElem? (i := 55) (by decide +kernel))), kc_Dr_pack, ki_Dr_pack, by decide +kernel, by decide +kernel⟩, kn_Dr_pack, kv_Dr_pack, ⟨_, _, rfl⟩, by unfold nPar; decide +kernel⟩
theorem v_Dr_27 : VC "SeptetCentre$Draft" 27 M_Ro_submitDataAt 5 0 := ⟨⟨Or.inl (tb2 _ (List.mem_of_getElem? (i := 59) (by decide +kernel))), kc_Ro_submitDataAt, ki_Ro_submitDataAt, by decide +kernel, by decide +kernel⟩, kn_Ro_submitDataAt, kv_Ro_submitDataAt, ⟨_, _, rfl⟩, by unfold nPar; decide +kernel⟩
theorem v_Ro_58 : VC "SeptetCentre$Row" 58 M_Ro_at 5 1 := ⟨⟨Or.inl (tb2 _ (List.mem_of_getElem? (i := 63) (by decide +kernel))), kc_Ro_at, ki_Ro_at, by decide +kernel, by decide +kernel⟩, kn_Ro_at, kv_Ro_at, ⟨_, _, rfl⟩, by unfold nPar; decide +kernel⟩
theorem v_Dr_33 : VC "SeptetCentre$Draft" 33 M_Ro_firstBit 5 0 := ⟨⟨Or.inl (tb2 _ (List.mem_of_getElem? (i := 67) (by decide +kernel))), kc_Ro_firstBit, ki_Ro_firstBit, by decide +kernel, by decide +kernel⟩, kn_Ro_firstBit, kv_Ro_firstBit, ⟨_, _, rfl⟩, by unfold nPar; decide +kernel⟩
theorem v_Ro_65 : VC "SeptetCentre$Row" 65 M_Ro_hasHeader 5 0 := ⟨⟨Or.inl (tb2 _ (List.mem_of_getElem? (i := 71) (by decide +kernel))), kc_Ro_hasHeader, ki_Ro_hasHeader, by decide +kernel, by decide +kernel⟩, kn_Ro_hasHeader, kv_Ro_hasHeader, ⟨_, _, rfl⟩, by unfold nPar; decide +kernel⟩
theorem v_Dr_36 : VC "SeptetCentre$Draft" 36 M_Ro_mergeSeptet 5 3 := ⟨⟨Or.inl (tb2 _ (List.mem_of_getElem? (i := 75) (by decide +kernel))), kc_Ro_mergeSeptet, ki_Ro_mergeSeptet, by decide +kernel, by decide +kernel⟩, kn_Ro_mergeSeptet, kv_Ro_mergeSeptet, ⟨_, _, rfl⟩, by unfold nPar; decide +kernel⟩
theorem v_SC_167 : VC "SeptetCentre" 167 M_Li_append 1 1 := ⟨⟨Or.inl (tb2 _ (List.mem_of_getElem? (i := 79) (by decide +kernel))), kc_Li_append, ki_Li_append, by decide +kernel, by decide +kernel⟩, kn_Li_append, kv_Li_append, ⟨_, _, rfl⟩, by unfold nPar; decide +kernel⟩
theorem v_Li_24 : VC "SeptetCentre$Line" 24 M_AL_add 2 1 := ⟨⟨Or.inl (tb2 _ (List.mem_of_getElem? (i := 83) (by decide +kernel))), kc_AL_add, ki_AL_add, by decide +kernel, by decide +kernel⟩, kn_AL_add, kv_AL_add, ⟨_, _, rfl⟩, by unfold nPar; decide +kernel⟩
theorem v_AL_131 : VC "java/util/ArrayList" 131 M_AL_add1 2 3 := ⟨⟨Or.inl (tb2 _ (List.mem_of_getElem? (i := 87) (by decide +kernel))), kc_AL_add1, ki_AL_add1, by decide +kernel, by decide +kernel⟩, kn_AL_add1, kv_AL_add1, ⟨_, _, rfl⟩, by unfold nPar; decide +kernel⟩
theorem v_AL_129 : VC "java/util/ArrayList" 129 M_AL_grow 2 0 := ⟨⟨Or.inl (tb2 _ (List.mem_of_getElem? (i := 91) (by decide +kernel))), kc_AL_grow, ki_AL_grow, by decide +kernel, by decide +kernel⟩, kn_AL_grow, kv_AL_grow, ⟨_, _, rfl⟩, by unfold nPar; decide +kernel⟩
theorem v_AL_69 : VC "java/util/ArrayList" 69 M_AL_grow1 2 1 := ⟨⟨Or.inl (tb2 _ (List.mem_of_getElem? (i := 95) (by decide +kernel))), kc_AL_grow1, ki_AL_grow1, by decide +kernel, by decide +kernel⟩, kn_AL_grow1, kv_AL_grow1, ⟨_, _, rfl⟩, by unfold nPar; decide +kernel⟩
theorem v_AL_73 : SCs "java/util/ArrayList" 73 M_AS_newLength 3 := ⟨⟨Or.inl (tb2 _ (List.mem_of_getElem? (i := 99) (by decide +kernel))), kc_AS_newLength, ki_AS_newLength, by decide +kernel, by decide +kernel⟩, ks_AS_newLength, by unfold nPar; decide +kernel⟩
theorem v_AS_201 : SCs "jdk/internal/util/ArraysSupport" 201 M_AS_hugeLength 2 := ⟨⟨Or.inl (tb2 _ (List.mem_of_getElem? (i := 106) (by decide +kernel))), kc_AS_hugeLength, ki_AS_hugeLength, by decide +kernel, by decide +kernel⟩, ks_AS_hugeLength, by unfold nPar; decide +kernel⟩
theorem v_AL_66 : SCs "java/util/ArrayList" 66 M_Ar_copyOf 2 := ⟨⟨Or.inl (tb2 _ (List.mem_of_getElem? (i := 109) (by decide +kernel))), kc_Ar_copyOf, ki_Ar_copyOf, by decide +kernel, by decide +kernel⟩, ks_Ar_copyOf, by unfold nPar; decide +kernel⟩
theorem v_Ar_300 : SCs "java/util/Arrays" 300 M_Ar_copyOf1 3 := ⟨⟨Or.inl (tb2 _ (List.mem_of_getElem? (i := 126) (by decide +kernel))), kc_Ar_copyOf1, ki_Ar_copyOf1, by decide +kernel, by decide +kernel⟩, ks_Ar_copyOf1, by unfold nPar; decide +kernel⟩
theorem v_SC_239 : VC "SeptetCentre" 239 M_De_countReference 4 0 := ⟨⟨Or.inl (tb2 _ (List.mem_of_getElem? (i := 140) (by decide +kernel))), kc_De_countReference, ki_De_countReference, by decide +kernel, by decide +kernel⟩, kn_De_countReference, kv_De_countReference, ⟨_, _, rfl⟩, by unfold nPar; decide +kernel⟩
theorem v_LW_39 : VC "SeptetCentreLaw" 39 M_SC_alter 0 2 := ⟨⟨Or.inl (tb2 _ (List.mem_of_getElem? (i := 144) (by decide +kernel))), kc_SC_alter, ki_SC_alter, by decide +kernel, by decide +kernel⟩, kn_SC_alter, kv_SC_alter, ⟨_, _, rfl⟩, by unfold nPar; decide +kernel⟩
theorem v_SC_90 : VC "SeptetCentre" 90 M_Li_first 1 0 := ⟨⟨Or.inl (tb2 _ (List.mem_of_getElem? (i := 148) (by decide +kernel))), kc_Li_first, ki_Li_first, by decide +kernel, by decide +kernel⟩, kn_Li_first, kv_Li_first, ⟨_, _, rfl⟩, by unfold nPar; decide +kernel⟩
theorem v_Li_28 : VC "SeptetCentre$Line" 28 M_AL_isEmpty 2 0 := ⟨⟨Or.inl (tb2 _ (List.mem_of_getElem? (i := 152) (by decide +kernel))), kc_AL_isEmpty, ki_AL_isEmpty, by decide +kernel, by decide +kernel⟩, kn_AL_isEmpty, kv_AL_isEmpty, ⟨_, _, rfl⟩, by unfold nPar; decide +kernel⟩
theorem v_Li_32 : VC "SeptetCentre$Line" 32 M_AL_get 2 1 := ⟨⟨Or.inl (tb2 _ (List.mem_of_getElem? (i := 156) (by decide +kernel))), kc_AL_get, ki_AL_get, by decide +kernel, by decide +kernel⟩, kn_AL_get, kv_AL_get, ⟨_, _, rfl⟩, by unfold nPar; decide +kernel⟩
theorem v_AL_118 : SCs "java/util/ArrayList" 118 M_Ob_checkIndex 2 := ⟨⟨Or.inl (tb2 _ (List.mem_of_getElem? (i := 160) (by decide +kernel))), kc_Ob_checkIndex, ki_Ob_checkIndex, by decide +kernel, by decide +kernel⟩, ks_Ob_checkIndex, by unfold nPar; decide +kernel⟩
theorem v_Ob_105 : SCs "java/util/Objects" 105 M_Pre_checkIndex 3 := ⟨⟨Or.inl (tb2 _ (List.mem_of_getElem? (i := 163) (by decide +kernel))), kc_Pre_checkIndex, ki_Pre_checkIndex, by decide +kernel, by decide +kernel⟩, ks_Pre_checkIndex, by unfold nPar; decide +kernel⟩
theorem v_AL_123 : VC "java/util/ArrayList" 123 M_AL_elementData 2 1 := ⟨⟨Or.inl (tb2 _ (List.mem_of_getElem? (i := 166) (by decide +kernel))), kc_AL_elementData, ki_AL_elementData, by decide +kernel, by decide +kernel⟩, kn_AL_elementData, kv_AL_elementData, ⟨_, _, rfl⟩, by unfold nPar; decide +kernel⟩
theorem v_SC_94 : VC "SeptetCentre" 94 M_Ro_has 5 1 := ⟨⟨Or.inl (tb2 _ (List.mem_of_getElem? (i := 171) (by decide +kernel))), kc_Ro_has, ki_Ro_has, by decide +kernel, by decide +kernel⟩, kn_Ro_has, kv_Ro_has, ⟨_, _, rfl⟩, by unfold nPar; decide +kernel⟩
theorem v_SC_98 : VC "SeptetCentre" 98 M_Ro_flip 5 2 := ⟨⟨Or.inl (tb2 _ (List.mem_of_getElem? (i := 172) (by decide +kernel))), kc_Ro_flip, ki_Ro_flip, by decide +kernel, by decide +kernel⟩, kn_Ro_flip, kv_Ro_flip, ⟨_, _, rfl⟩, by unfold nPar; decide +kernel⟩
theorem v_LW_44 : VC "SeptetCentreLaw" 44 M_SC_receive 0 0 := ⟨⟨Or.inl (tb2 _ (List.mem_of_getElem? (i := 176) (by decide +kernel))), kc_SC_receive, ki_SC_receive, by decide +kernel, by decide +kernel⟩, kn_SC_receive, kv_SC_receive, ⟨_, _, rfl⟩, by unfold nPar; decide +kernel⟩
theorem v_SC_101 : VC "SeptetCentre" 101 M_AL_size 2 0 := ⟨⟨Or.inl (tb2 _ (List.mem_of_getElem? (i := 180) (by decide +kernel))), kc_AL_size, ki_AL_size, by decide +kernel, by decide +kernel⟩, kn_AL_size, kv_AL_size, ⟨_, _, rfl⟩, by unfold nPar; decide +kernel⟩
theorem v_SC_104 : VC "SeptetCentre" 104 M_Li_removeFirst 1 0 := ⟨⟨Or.inl (tb2 _ (List.mem_of_getElem? (i := 181) (by decide +kernel))), kc_Li_removeFirst, ki_Li_removeFirst, by decide +kernel, by decide +kernel⟩, kn_Li_removeFirst, kv_Li_removeFirst, ⟨_, _, rfl⟩, by unfold nPar; decide +kernel⟩
theorem v_Li_38 : VC "SeptetCentre$Line" 38 M_AL_remove 2 1 := ⟨⟨Or.inl (tb2 _ (List.mem_of_getElem? (i := 185) (by decide +kernel))), kc_AL_remove, ki_AL_remove, by decide +kernel, by decide +kernel⟩, kn_AL_remove, kv_AL_remove, ⟨_, _, rfl⟩, by unfold nPar; decide +kernel⟩
theorem v_AL_144 : VC "java/util/ArrayList" 144 M_AL_fastRemove 2 2 := ⟨⟨Or.inl (tb2 _ (List.mem_of_getElem? (i := 189) (by decide +kernel))), kc_AL_fastRemove, ki_AL_fastRemove, by decide +kernel, by decide +kernel⟩, kn_AL_fastRemove, kv_AL_fastRemove, ⟨_, _, rfl⟩, by unfold nPar; decide +kernel⟩
theorem v_SC_111 : SCs "SeptetCentre" 111 M_Su_areKept 1 := ⟨⟨Or.inl (tb2 _ (List.mem_of_getElem? (i := 194) (by decide +kernel))), kc_Su_areKept, ki_Su_areKept, by decide +kernel, by decide +kernel⟩, ks_Su_areKept, by unfold nPar; decide +kernel⟩
theorem v_Su_9 : VC "SeptetCentre$SubmitRules" 9 M_Ro_at 5 1 := ⟨⟨Or.inl (tb2 _ (List.mem_of_getElem? (i := 197) (by decide +kernel))), kc_Ro_at, ki_Ro_at, by decide +kernel, by decide +kernel⟩, kn_Ro_at, kv_Ro_at, ⟨_, _, rfl⟩, by unfold nPar; decide +kernel⟩
theorem v_Su_15 : SCs "SeptetCentre$SubmitRules" 15 M_Su_isAddress 2 := ⟨⟨Or.inl (tb2 _ (List.mem_of_getElem? (i := 198) (by decide +kernel))), kc_Su_isAddress, ki_Su_isAddress, by decide +kernel, by decide +kernel⟩, ks_Su_isAddress, by unfold nPar; decide +kernel⟩
theorem v_Su_28 : VC "SeptetCentre$SubmitRules" 28 M_Ro_digitAt 5 2 := ⟨⟨Or.inl (tb2 _ (List.mem_of_getElem? (i := 201) (by decide +kernel))), kc_Ro_digitAt, ki_Ro_digitAt, by decide +kernel, by decide +kernel⟩, kn_Ro_digitAt, kv_Ro_digitAt, ⟨_, _, rfl⟩, by unfold nPar; decide +kernel⟩
theorem v_Su_21 : VC "SeptetCentre$SubmitRules" 21 M_Ro_submitDataAt 5 0 := ⟨⟨Or.inl (tb2 _ (List.mem_of_getElem? (i := 205) (by decide +kernel))), kc_Ro_submitDataAt, ki_Ro_submitDataAt, by decide +kernel, by decide +kernel⟩, kn_Ro_submitDataAt, kv_Ro_submitDataAt, ⟨_, _, rfl⟩, by unfold nPar; decide +kernel⟩
theorem v_Su_25 : SCs "SeptetCentre$SubmitRules" 25 M_Su_isUserData 2 := ⟨⟨Or.inl (tb2 _ (List.mem_of_getElem? (i := 206) (by decide +kernel))), kc_Su_isUserData, ki_Su_isUserData, by decide +kernel, by decide +kernel⟩, ks_Su_isUserData, by unfold nPar; decide +kernel⟩
theorem v_Su_32 : VC "SeptetCentre$SubmitRules" 32 M_Ro_size 5 0 := ⟨⟨Or.inl (tb2 _ (List.mem_of_getElem? (i := 209) (by decide +kernel))), kc_Ro_size, ki_Ro_size, by decide +kernel, by decide +kernel⟩, kn_Ro_size, kv_Ro_size, ⟨_, _, rfl⟩, by unfold nPar; decide +kernel⟩
theorem v_Su_35 : SCs "SeptetCentre$SubmitRules" 35 M_Ro_dataSize 1 := ⟨⟨Or.inl (tb2 _ (List.mem_of_getElem? (i := 213) (by decide +kernel))), kc_Ro_dataSize, ki_Ro_dataSize, by decide +kernel, by decide +kernel⟩, ks_Ro_dataSize, by unfold nPar; decide +kernel⟩
theorem v_Su_38 : VC "SeptetCentre$SubmitRules" 38 M_Ro_hasHeader 5 0 := ⟨⟨Or.inl (tb2 _ (List.mem_of_getElem? (i := 214) (by decide +kernel))), kc_Ro_hasHeader, ki_Ro_hasHeader, by decide +kernel, by decide +kernel⟩, kn_Ro_hasHeader, kv_Ro_hasHeader, ⟨_, _, rfl⟩, by unfold nPar; decide +kernel⟩
theorem v_Su_42 : SCs "SeptetCentre$SubmitRules" 42 M_Su_isHeader 2 := ⟨⟨Or.inl (tb2 _ (List.mem_of_getElem? (i := 215) (by decide +kernel))), kc_Su_isHeader, ki_Su_isHeader, by decide +kernel, by decide +kernel⟩, ks_Su_isHeader, by unfold nPar; decide +kernel⟩
theorem v_Su_45 : SCs "SeptetCentre$SubmitRules" 45 M_Su_isText 2 := ⟨⟨Or.inl (tb2 _ (List.mem_of_getElem? (i := 218) (by decide +kernel))), kc_Su_isText, ki_Su_isText, by decide +kernel, by decide +kernel⟩, ks_Su_isText, by unfold nPar; decide +kernel⟩
theorem v_Su_48 : VC "SeptetCentre$SubmitRules" 48 M_Ro_firstBit 5 0 := ⟨⟨Or.inl (tb2 _ (List.mem_of_getElem? (i := 221) (by decide +kernel))), kc_Ro_firstBit, ki_Ro_firstBit, by decide +kernel, by decide +kernel⟩, kn_Ro_firstBit, kv_Ro_firstBit, ⟨_, _, rfl⟩, by unfold nPar; decide +kernel⟩
theorem v_Su_51 : VC "SeptetCentre$SubmitRules" 51 M_Ro_septetAt 5 2 := ⟨⟨Or.inl (tb2 _ (List.mem_of_getElem? (i := 222) (by decide +kernel))), kc_Ro_septetAt, ki_Ro_septetAt, by decide +kernel, by decide +kernel⟩, kn_Ro_septetAt, kv_Ro_septetAt, ⟨_, _, rfl⟩, by unfold nPar; decide +kernel⟩
theorem v_Su_54 : SCs "SeptetCentre$SubmitRules" 54 M_Al_second 1 := ⟨⟨Or.inl (tb2 _ (List.mem_of_getElem? (i := 226) (by decide +kernel))), kc_Al_second, ki_Al_second, by decide +kernel, by decide +kernel⟩, ks_Al_second, by unfold nPar; decide +kernel⟩
theorem v_SC_122 : ICi "SeptetCentre" 122 M_Me_init 3 := ⟨⟨Or.inl (tb2 _ (List.mem_of_getElem? (i := 231) (by decide +kernel))), kc_Me_init, ki_Me_init, by decide +kernel, by decide +kernel⟩, kn_Me_init, rfl, rfl, by unfold nPar; decide +kernel⟩
theorem v_Me_44 : VC "SeptetCentre$Message" 44 M_Ro_numberAt 5 1 := ⟨⟨Or.inl (tb2 _ (List.mem_of_getElem? (i := 237) (by decide +kernel))), kc_Ro_numberAt, ki_Ro_numberAt, by decide +kernel, by decide +kernel⟩, kn_Ro_numberAt, kv_Ro_numberAt, ⟨_, _, rfl⟩, by unfold nPar; decide +kernel⟩
theorem v_Ro_61 : VC "SeptetCentre$Row" 61 M_Ro_digitAt 5 2 := ⟨⟨Or.inl (tb3 _ (List.mem_of_getElem? (i := 1) (by decide +kernel))), kc_Ro_digitAt, ki_Ro_digitAt, by decide +kernel, by decide +kernel⟩, kn_Ro_digitAt, kv_Ro_digitAt, ⟨_, _, rfl⟩, by unfold nPar; decide +kernel⟩
theorem v_Me_51 : VC "SeptetCentre$Message" 51 M_Ro_submitDataAt 5 0 := ⟨⟨Or.inl (tb3 _ (List.mem_of_getElem? (i := 2) (by decide +kernel))), kc_Ro_submitDataAt, ki_Ro_submitDataAt, by decide +kernel, by decide +kernel⟩, kn_Ro_submitDataAt, kv_Ro_submitDataAt, ⟨_, _, rfl⟩, by unfold nPar; decide +kernel⟩
theorem v_Me_55 : VC "SeptetCentre$Message" 55 M_Ro_at 5 1 := ⟨⟨Or.inl (tb3 _ (List.mem_of_getElem? (i := 3) (by decide +kernel))), kc_Ro_at, ki_Ro_at, by decide +kernel, by decide +kernel⟩, kn_Ro_at, kv_Ro_at, ⟨_, _, rfl⟩, by unfold nPar; decide +kernel⟩
theorem v_SC_125 : VC "SeptetCentre" 125 M_AL_add 2 1 := ⟨⟨Or.inl (tb3 _ (List.mem_of_getElem? (i := 36) (by decide +kernel))), kc_AL_add, ki_AL_add, by decide +kernel, by decide +kernel⟩, kn_AL_add, kv_AL_add, ⟨_, _, rfl⟩, by unfold nPar; decide +kernel⟩
theorem v_LW_49 : VC "SeptetCentreLaw" 49 M_SC_advance 0 1 := ⟨⟨Or.inl (tb3 _ (List.mem_of_getElem? (i := 37) (by decide +kernel))), kc_SC_advance, ki_SC_advance, by decide +kernel, by decide +kernel⟩, kn_SC_advance, kv_SC_advance, ⟨_, _, rfl⟩, by unfold nPar; decide +kernel⟩
theorem v_SC_131 : VC "SeptetCentre" 131 M_SC_earliestPlace 0 0 := ⟨⟨Or.inl (tb3 _ (List.mem_of_getElem? (i := 43) (by decide +kernel))), kc_SC_earliestPlace, ki_SC_earliestPlace, by decide +kernel, by decide +kernel⟩, kn_SC_earliestPlace, kv_SC_earliestPlace, ⟨_, _, rfl⟩, by unfold nPar; decide +kernel⟩
theorem v_SC_134 : VC "SeptetCentre" 134 M_AL_get 2 1 := ⟨⟨Or.inl (tb3 _ (List.mem_of_getElem? (i := 47) (by decide +kernel))), kc_AL_get, ki_AL_get, by decide +kernel, by decide +kernel⟩, kn_AL_get, kv_AL_get, ⟨_, _, rfl⟩, by unfold nPar; decide +kernel⟩
theorem v_SC_138 : VC "SeptetCentre" 138 M_Me_moment 6 0 := ⟨⟨Or.inl (tb3 _ (List.mem_of_getElem? (i := 48) (by decide +kernel))), kc_Me_moment, ki_Me_moment, by decide +kernel, by decide +kernel⟩, kn_Me_moment, kv_Me_moment, ⟨_, _, rfl⟩, by unfold nPar; decide +kernel⟩
theorem v_SC_141 : VC "SeptetCentre" 141 M_SC_dealWith 0 2 := ⟨⟨Or.inl (tb3 _ (List.mem_of_getElem? (i := 53) (by decide +kernel))), kc_SC_dealWith, ki_SC_dealWith, by decide +kernel, by decide +kernel⟩, kn_SC_dealWith, kv_SC_dealWith, ⟨_, _, rfl⟩, by unfold nPar; decide +kernel⟩
theorem v_SC_251 : VC "SeptetCentre" 251 M_SC_holderOf 0 1 := ⟨⟨Or.inl (tb3 _ (List.mem_of_getElem? (i := 59) (by decide +kernel))), kc_SC_holderOf, ki_SC_holderOf, by decide +kernel, by decide +kernel⟩, kn_SC_holderOf, kv_SC_holderOf, ⟨_, _, rfl⟩, by unfold nPar; decide +kernel⟩
theorem v_SC_258 : VC "SeptetCentre" 258 M_Me_asDeliver 6 0 := ⟨⟨Or.inl (tb3 _ (List.mem_of_getElem? (i := 65) (by decide +kernel))), kc_Me_asDeliver, ki_Me_asDeliver, by decide +kernel, by decide +kernel⟩, kn_Me_asDeliver, kv_Me_asDeliver, ⟨_, _, rfl⟩, by unfold nPar; decide +kernel⟩
theorem v_Me_71 : VC "SeptetCentre$Message" 71 M_Ro_size 5 0 := ⟨⟨Or.inl (tb3 _ (List.mem_of_getElem? (i := 70) (by decide +kernel))), kc_Ro_size, ki_Ro_size, by decide +kernel, by decide +kernel⟩, kn_Ro_size, kv_Ro_size, ⟨_, _, rfl⟩, by unfold nPar; decide +kernel⟩
theorem v_Me_74 : SCs "SeptetCentre$Message" 74 M_Ro_deliverSize 2 := ⟨⟨Or.inl (tb3 _ (List.mem_of_getElem? (i := 71) (by decide +kernel))), kc_Ro_deliverSize, ki_Ro_deliverSize, by decide +kernel, by decide +kernel⟩, ks_Ro_deliverSize, by unfold nPar; decide +kernel⟩
theorem v_Me_78 : ICi "SeptetCentre$Message" 78 M_Ro_init 2 := ⟨⟨Or.inl (tb3 _ (List.mem_of_getElem? (i := 74) (by decide +kernel))), kc_Ro_init, ki_Ro_init, by decide +kernel, by decide +kernel⟩, kn_Ro_init, rfl, rfl, by unfold nPar; decide +kernel⟩
theorem v_Me_81 : VC "SeptetCentre$Message" 81 M_Ro_hasHeader 5 0 := ⟨⟨Or.inl (tb3 _ (List.mem_of_getElem? (i := 75) (by decide +kernel))), kc_Ro_hasHeader, ki_Ro_hasHeader, by decide +kernel, by decide +kernel⟩, kn_Ro_hasHeader, kv_Ro_hasHeader, ⟨_, _, rfl⟩, by unfold nPar; decide +kernel⟩
theorem v_Me_85 : VC "SeptetCentre$Message" 85 M_Ro_put 5 1 := ⟨⟨Or.inl (tb3 _ (List.mem_of_getElem? (i := 76) (by decide +kernel))), kc_Ro_put, ki_Ro_put, by decide +kernel, by decide +kernel⟩, kn_Ro_put, kv_Ro_put, ⟨_, _, rfl⟩, by unfold nPar; decide +kernel⟩
theorem v_Me_89 : VC "SeptetCentre$Message" 89 M_Ro_putAddress 5 1 := ⟨⟨Or.inl (tb3 _ (List.mem_of_getElem? (i := 77) (by decide +kernel))), kc_Ro_putAddress, ki_Ro_putAddress, by decide +kernel, by decide +kernel⟩, kn_Ro_putAddress, kv_Ro_putAddress, ⟨_, _, rfl⟩, by unfold nPar; decide +kernel⟩
theorem v_Me_93 : VC "SeptetCentre$Message" 93 M_Ro_putTime 5 1 := ⟨⟨Or.inl (tb3 _ (List.mem_of_getElem? (i := 78) (by decide +kernel))), kc_Ro_putTime, ki_Ro_putTime, by decide +kernel, by decide +kernel⟩, kn_Ro_putTime, kv_Ro_putTime, ⟨_, _, rfl⟩, by unfold nPar; decide +kernel⟩
theorem v_Me_96 : VC "SeptetCentre$Message" 96 M_Ro_putRest 5 2 := ⟨⟨Or.inl (tb3 _ (List.mem_of_getElem? (i := 82) (by decide +kernel))), kc_Ro_putRest, ki_Ro_putRest, by decide +kernel, by decide +kernel⟩, kn_Ro_putRest, kv_Ro_putRest, ⟨_, _, rfl⟩, by unfold nPar; decide +kernel⟩
theorem v_Ro_54 : VC "SeptetCentre$Row" 54 M_Ro_size 5 0 := ⟨⟨Or.inl (tb3 _ (List.mem_of_getElem? (i := 86) (by decide +kernel))), kc_Ro_size, ki_Ro_size, by decide +kernel, by decide +kernel⟩, kn_Ro_size, kv_Ro_size, ⟨_, _, rfl⟩, by unfold nPar; decide +kernel⟩
theorem v_SC_264 : VC "SeptetCentre" 264 M_Me_putOff 6 1 := ⟨⟨Or.inl (tb3 _ (List.mem_of_getElem? (i := 89) (by decide +kernel))), kc_Me_putOff, ki_Me_putOff, by decide +kernel, by decide +kernel⟩, kn_Me_putOff, kv_Me_putOff, ⟨_, _, rfl⟩, by unfold nPar; decide +kernel⟩
theorem v_SC_154 : VC "SeptetCentre" 154 M_AL_remove 2 1 := ⟨⟨Or.inl (tb3 _ (List.mem_of_getElem? (i := 94) (by decide +kernel))), kc_AL_remove, ki_AL_remove, by decide +kernel, by decide +kernel⟩, kn_AL_remove, kv_AL_remove, ⟨_, _, rfl⟩, by unfold nPar; decide +kernel⟩
theorem v_SC_157 : VC "SeptetCentre" 157 M_Me_fileReport 6 1 := ⟨⟨Or.inl (tb3 _ (List.mem_of_getElem? (i := 95) (by decide +kernel))), kc_Me_fileReport, ki_Me_fileReport, by decide +kernel, by decide +kernel⟩, kn_Me_fileReport, kv_Me_fileReport, ⟨_, _, rfl⟩, by unfold nPar; decide +kernel⟩
theorem v_Me_104 : VC "SeptetCentre$Message" 104 M_Li_room 1 0 := ⟨⟨Or.inl (tb3 _ (List.mem_of_getElem? (i := 99) (by decide +kernel))), kc_Li_room, ki_Li_room, by decide +kernel, by decide +kernel⟩, kn_Li_room, kv_Li_room, ⟨_, _, rfl⟩, by unfold nPar; decide +kernel⟩
theorem v_Me_109 : SCs "SeptetCentre$Message" 109 M_Ro_reportSize 1 := ⟨⟨Or.inl (tb3 _ (List.mem_of_getElem? (i := 100) (by decide +kernel))), kc_Ro_reportSize, ki_Ro_reportSize, by decide +kernel, by decide +kernel⟩, ks_Ro_reportSize, by unfold nPar; decide +kernel⟩
theorem v_Me_116 : VC "SeptetCentre$Message" 116 M_Li_append 1 1 := ⟨⟨Or.inl (tb3 _ (List.mem_of_getElem? (i := 103) (by decide +kernel))), kc_Li_append, ki_Li_append, by decide +kernel, by decide +kernel⟩, kn_Li_append, kv_Li_append, ⟨_, _, rfl⟩, by unfold nPar; decide +kernel⟩
theorem v_LW_54 : VC "SeptetCentreLaw" 54 M_SC_take 0 1 := ⟨⟨Or.inl (tb3 _ (List.mem_of_getElem? (i := 104) (by decide +kernel))), kc_SC_take, ki_SC_take, by decide +kernel, by decide +kernel⟩, kn_SC_take, kv_SC_take, ⟨_, _, rfl⟩, by unfold nPar; decide +kernel⟩
theorem v_SC_163 : VC "SeptetCentre" 163 M_De_read 4 1 := ⟨⟨Or.inl (tb3 _ (List.mem_of_getElem? (i := 108) (by decide +kernel))), kc_De_read, ki_De_read, by decide +kernel, by decide +kernel⟩, kn_De_read, kv_De_read, ⟨_, _, rfl⟩, by unfold nPar; decide +kernel⟩
theorem v_De_41 : VC "SeptetCentre$Device" 41 M_Ro_numberAt 5 1 := ⟨⟨Or.inl (tb3 _ (List.mem_of_getElem? (i := 112) (by decide +kernel))), kc_Ro_numberAt, ki_Ro_numberAt, by decide +kernel, by decide +kernel⟩, kn_Ro_numberAt, kv_Ro_numberAt, ⟨_, _, rfl⟩, by unfold nPar; decide +kernel⟩
theorem v_De_45 : VC "SeptetCentre$Device" 45 M_Ro_hasHeader 5 0 := ⟨⟨Or.inl (tb3 _ (List.mem_of_getElem? (i := 113) (by decide +kernel))), kc_Ro_hasHeader, ki_Ro_hasHeader, by decide +kernel, by decide +kernel⟩, kn_Ro_hasHeader, kv_Ro_hasHeader, ⟨_, _, rfl⟩, by unfold nPar; decide +kernel⟩
theorem v_De_49 : VC "SeptetCentre$Device" 49 M_De_gather 4 2 := ⟨⟨Or.inl (tb3 _ (List.mem_of_getElem? (i := 114) (by decide +kernel))), kc_De_gather, ki_De_gather, by decide +kernel, by decide +kernel⟩, kn_De_gather, kv_De_gather, ⟨_, _, rfl⟩, by unfold nPar; decide +kernel⟩
theorem v_De_64 : VC "SeptetCentre$Device" 64 M_Ro_deliverDataAt 5 0 := ⟨⟨Or.inl (tb3 _ (List.mem_of_getElem? (i := 118) (by decide +kernel))), kc_Ro_deliverDataAt, ki_Ro_deliverDataAt, by decide +kernel, by decide +kernel⟩, kn_Ro_deliverDataAt, kv_Ro_deliverDataAt, ⟨_, _, rfl⟩, by unfold nPar; decide +kernel⟩
theorem v_De_68 : VC "SeptetCentre$Device" 68 M_Ro_at 5 1 := ⟨⟨Or.inl (tb3 _ (List.mem_of_getElem? (i := 122) (by decide +kernel))), kc_Ro_at, ki_Ro_at, by decide +kernel, by decide +kernel⟩, kn_Ro_at, kv_Ro_at, ⟨_, _, rfl⟩, by unfold nPar; decide +kernel⟩
theorem v_De_72 : VC "SeptetCentre$Device" 72 M_De_pilePlace 4 3 := ⟨⟨Or.inl (tb3 _ (List.mem_of_getElem? (i := 123) (by decide +kernel))), kc_De_pilePlace, ki_De_pilePlace, by decide +kernel, by decide +kernel⟩, kn_De_pilePlace, kv_De_pilePlace, ⟨_, _, rfl⟩, by unfold nPar; decide +kernel⟩
theorem v_De_95 : VC "SeptetCentre$Device" 95 M_AL_size 2 0 := ⟨⟨Or.inl (tb3 _ (List.mem_of_getElem? (i := 127) (by decide +kernel))), kc_AL_size, ki_AL_size, by decide +kernel, by decide +kernel⟩, kn_AL_size, kv_AL_size, ⟨_, _, rfl⟩, by unfold nPar; decide +kernel⟩
theorem v_De_76 : VC "SeptetCentre$Device" 76 M_AL_get 2 1 := ⟨⟨Or.inl (tb3 _ (List.mem_of_getElem? (i := 128) (by decide +kernel))), kc_AL_get, ki_AL_get, by decide +kernel, by decide +kernel⟩, kn_AL_get, kv_AL_get, ⟨_, _, rfl⟩, by unfold nPar; decide +kernel⟩
theorem v_De_98 : VC "SeptetCentre$Device" 98 M_Pi_gathers 7 3 := ⟨⟨Or.inl (tb3 _ (List.mem_of_getElem? (i := 130) (by decide +kernel))), kc_Pi_gathers, ki_Pi_gathers, by decide +kernel, by decide +kernel⟩, kn_Pi_gathers, kv_Pi_gathers, ⟨_, _, rfl⟩, by unfold nPar; decide +kernel⟩
theorem v_De_89 : VC "SeptetCentre$Device" 89 M_AL_remove 2 1 := ⟨⟨Or.inl (tb3 _ (List.mem_of_getElem? (i := 134) (by decide +kernel))), kc_AL_remove, ki_AL_remove, by decide +kernel, by decide +kernel⟩, kn_AL_remove, kv_AL_remove, ⟨_, _, rfl⟩, by unfold nPar; decide +kernel⟩
theorem v_De_102 : ICi "SeptetCentre$Device" 102 M_Pi_init 3 := ⟨⟨Or.inl (tb3 _ (List.mem_of_getElem? (i := 136) (by decide +kernel))), kc_Pi_init, ki_Pi_init, by decide +kernel, by decide +kernel⟩, kn_Pi_init, rfl, rfl, by unfold nPar; decide +kernel⟩
theorem v_De_105 : VC "SeptetCentre$Device" 105 M_AL_add 2 1 := ⟨⟨Or.inl (tb3 _ (List.mem_of_getElem? (i := 155) (by decide +kernel))), kc_AL_add, ki_AL_add, by decide +kernel, by decide +kernel⟩, kn_AL_add, kv_AL_add, ⟨_, _, rfl⟩, by unfold nPar; decide +kernel⟩
theorem v_De_82 : VC "SeptetCentre$Device" 82 M_Pi_keep 7 2 := ⟨⟨Or.inl (tb3 _ (List.mem_of_getElem? (i := 156) (by decide +kernel))), kc_Pi_keep, ki_Pi_keep, by decide +kernel, by decide +kernel⟩, kn_Pi_keep, kv_Pi_keep, ⟨_, _, rfl⟩, by unfold nPar; decide +kernel⟩
theorem v_De_86 : VC "SeptetCentre$Device" 86 M_Pi_lacking 7 0 := ⟨⟨Or.inl (tb3 _ (List.mem_of_getElem? (i := 160) (by decide +kernel))), kc_Pi_lacking, ki_Pi_lacking, by decide +kernel, by decide +kernel⟩, kn_Pi_lacking, kv_Pi_lacking, ⟨_, _, rfl⟩, by unfold nPar; decide +kernel⟩
theorem v_De_92 : VC "SeptetCentre$Device" 92 M_Pi_readText 7 1 := ⟨⟨Or.inl (tb3 _ (List.mem_of_getElem? (i := 164) (by decide +kernel))), kc_Pi_readText, ki_Pi_readText, by decide +kernel, by decide +kernel⟩, kn_Pi_readText, kv_Pi_readText, ⟨_, _, rfl⟩, by unfold nPar; decide +kernel⟩
theorem v_Pi_26 : VC "SeptetCentre$Pile" 26 M_Ro_readText 5 2 := ⟨⟨Or.inl (tb3 _ (List.mem_of_getElem? (i := 168) (by decide +kernel))), kc_Ro_readText, ki_Ro_readText, by decide +kernel, by decide +kernel⟩, kn_Ro_readText, kv_Ro_readText, ⟨_, _, rfl⟩, by unfold nPar; decide +kernel⟩
theorem v_Ro_69 : VC "SeptetCentre$Row" 69 M_Ro_deliverDataAt 5 0 := ⟨⟨Or.inl (tb3 _ (List.mem_of_getElem? (i := 172) (by decide +kernel))), kc_Ro_deliverDataAt, ki_Ro_deliverDataAt, by decide +kernel, by decide +kernel⟩, kn_Ro_deliverDataAt, kv_Ro_deliverDataAt, ⟨_, _, rfl⟩, by unfold nPar; decide +kernel⟩
theorem v_Ro_72 : VC "SeptetCentre$Row" 72 M_Ro_firstBit 5 0 := ⟨⟨Or.inl (tb3 _ (List.mem_of_getElem? (i := 173) (by decide +kernel))), kc_Ro_firstBit, ki_Ro_firstBit, by decide +kernel, by decide +kernel⟩, kn_Ro_firstBit, kv_Ro_firstBit, ⟨_, _, rfl⟩, by unfold nPar; decide +kernel⟩
theorem v_Ro_75 : VC "SeptetCentre$Row" 75 M_Ro_septetAt 5 2 := ⟨⟨Or.inl (tb3 _ (List.mem_of_getElem? (i := 174) (by decide +kernel))), kc_Ro_septetAt, ki_Ro_septetAt, by decide +kernel, by decide +kernel⟩, kn_Ro_septetAt, kv_Ro_septetAt, ⟨_, _, rfl⟩, by unfold nPar; decide +kernel⟩
theorem v_Ro_80 : SCs "SeptetCentre$Row" 80 M_Al_second 1 := ⟨⟨Or.inl (tb3 _ (List.mem_of_getElem? (i := 175) (by decide +kernel))), kc_Al_second, ki_Al_second, by decide +kernel, by decide +kernel⟩, ks_Al_second, by unfold nPar; decide +kernel⟩
theorem v_Ro_83 : SCs "SeptetCentre$Row" 83 M_Al_plain 1 := ⟨⟨Or.inl (tb3 _ (List.mem_of_getElem? (i := 176) (by decide +kernel))), kc_Al_plain, ki_Al_plain, by decide +kernel, by decide +kernel⟩, ks_Al_plain, by unfold nPar; decide +kernel⟩
theorem v_De_53 : VC "SeptetCentre$Device" 53 M_Ro_readText 5 2 := ⟨⟨Or.inl (tb3 _ (List.mem_of_getElem? (i := 179) (by decide +kernel))), kc_Ro_readText, ki_Ro_readText, by decide +kernel, by decide +kernel⟩, kn_Ro_readText, kv_Ro_readText, ⟨_, _, rfl⟩, by unfold nPar; decide +kernel⟩
theorem v_LW_58 : VC "SeptetCentreLaw" 58 M_SC_copy 0 1 := ⟨⟨Or.inl (tb3 _ (List.mem_of_getElem? (i := 180) (by decide +kernel))), kc_SC_copy, ki_SC_copy, by decide +kernel, by decide +kernel⟩, kn_SC_copy, kv_SC_copy, ⟨_, _, rfl⟩, by unfold nPar; decide +kernel⟩
theorem v_LW_63 : VC "SeptetCentreLaw" 63 M_SC_swap 0 1 := ⟨⟨Or.inl (tb3 _ (List.mem_of_getElem? (i := 184) (by decide +kernel))), kc_SC_swap, ki_SC_swap, by decide +kernel, by decide +kernel⟩, kn_SC_swap, kv_SC_swap, ⟨_, _, rfl⟩, by unfold nPar; decide +kernel⟩
theorem v_SC_170 : VC "SeptetCentre" 170 M_Li_exchangeFirstTwo 1 0 := ⟨⟨Or.inl (tb3 _ (List.mem_of_getElem? (i := 188) (by decide +kernel))), kc_Li_exchangeFirstTwo, ki_Li_exchangeFirstTwo, by decide +kernel, by decide +kernel⟩, kn_Li_exchangeFirstTwo, kv_Li_exchangeFirstTwo, ⟨_, _, rfl⟩, by unfold nPar; decide +kernel⟩
theorem v_Li_41 : VC "SeptetCentre$Line" 41 M_AL_set 2 2 := ⟨⟨Or.inl (tb3 _ (List.mem_of_getElem? (i := 192) (by decide +kernel))), kc_AL_set, ki_AL_set, by decide +kernel, by decide +kernel⟩, kn_AL_set, kv_AL_set, ⟨_, _, rfl⟩, by unfold nPar; decide +kernel⟩
theorem v_LW_67 : VC "SeptetCentreLaw" 67 M_SC_report 0 1 := ⟨⟨Or.inl (tb3 _ (List.mem_of_getElem? (i := 196) (by decide +kernel))), kc_SC_report, ki_SC_report, by decide +kernel, by decide +kernel⟩, kn_SC_report, kv_SC_report, ⟨_, _, rfl⟩, by unfold nPar; decide +kernel⟩
theorem v_SC_176 : VC "SeptetCentre" 176 M_Ro_size 5 0 := ⟨⟨Or.inl (tb3 _ (List.mem_of_getElem? (i := 200) (by decide +kernel))), kc_Ro_size, ki_Ro_size, by decide +kernel, by decide +kernel⟩, kn_Ro_size, kv_Ro_size, ⟨_, _, rfl⟩, by unfold nPar; decide +kernel⟩
theorem v_SC_177 : VC "SeptetCentre" 177 M_Ro_at 5 1 := ⟨⟨Or.inl (tb3 _ (List.mem_of_getElem? (i := 201) (by decide +kernel))), kc_Ro_at, ki_Ro_at, by decide +kernel, by decide +kernel⟩, kn_Ro_at, kv_Ro_at, ⟨_, _, rfl⟩, by unfold nPar; decide +kernel⟩
theorem v_LW_71 : VC "SeptetCentreLaw" 71 M_SC_waiting 0 1 := ⟨⟨Or.inl (tb3 _ (List.mem_of_getElem? (i := 202) (by decide +kernel))), kc_SC_waiting, ki_SC_waiting, by decide +kernel, by decide +kernel⟩, kn_SC_waiting, kv_SC_waiting, ⟨_, _, rfl⟩, by unfold nPar; decide +kernel⟩
theorem v_SC_181 : VC "SeptetCentre" 181 M_SC_lineOf 0 1 := ⟨⟨Or.inl (tb3 _ (List.mem_of_getElem? (i := 206) (by decide +kernel))), kc_SC_lineOf, ki_SC_lineOf, by decide +kernel, by decide +kernel⟩, kn_SC_lineOf, kv_SC_lineOf, ⟨_, _, rfl⟩, by unfold nPar; decide +kernel⟩
theorem v_SC_185 : VC "SeptetCentre" 185 M_Li_size 1 0 := ⟨⟨Or.inl (tb3 _ (List.mem_of_getElem? (i := 210) (by decide +kernel))), kc_Li_size, ki_Li_size, by decide +kernel, by decide +kernel⟩, kn_Li_size, kv_Li_size, ⟨_, _, rfl⟩, by unfold nPar; decide +kernel⟩
theorem v_LW_75 : VC "SeptetCentreLaw" 75 M_SC_byteAt 0 2 := ⟨⟨Or.inl (tb3 _ (List.mem_of_getElem? (i := 214) (by decide +kernel))), kc_SC_byteAt, ki_SC_byteAt, by decide +kernel, by decide +kernel⟩, kn_SC_byteAt, kv_SC_byteAt, ⟨_, _, rfl⟩, by unfold nPar; decide +kernel⟩
theorem v_LW_80 : VC "SeptetCentreLaw" 80 M_SC_text 0 2 := ⟨⟨Or.inl (tb3 _ (List.mem_of_getElem? (i := 218) (by decide +kernel))), kc_SC_text, ki_SC_text, by decide +kernel, by decide +kernel⟩, kn_SC_text, kv_SC_text, ⟨_, _, rfl⟩, by unfold nPar; decide +kernel⟩
theorem v_LW_84 : VC "SeptetCentreLaw" 84 M_SC_sender 0 1 := ⟨⟨Or.inl (tb3 _ (List.mem_of_getElem? (i := 222) (by decide +kernel))), kc_SC_sender, ki_SC_sender, by decide +kernel, by decide +kernel⟩, kn_SC_sender, kv_SC_sender, ⟨_, _, rfl⟩, by unfold nPar; decide +kernel⟩
theorem v_LW_89 : VC "SeptetCentreLaw" 89 M_SC_state 0 1 := ⟨⟨Or.inl (tb3 _ (List.mem_of_getElem? (i := 226) (by decide +kernel))), kc_SC_state, ki_SC_state, by decide +kernel, by decide +kernel⟩, kn_SC_state, kv_SC_state, ⟨_, _, rfl⟩, by unfold nPar; decide +kernel⟩
theorem v_LW_93 : VC "SeptetCentreLaw" 93 M_SC_offers 0 1 := ⟨⟨Or.inl (tb3 _ (List.mem_of_getElem? (i := 230) (by decide +kernel))), kc_SC_offers, ki_SC_offers, by decide +kernel, by decide +kernel⟩, kn_SC_offers, kv_SC_offers, ⟨_, _, rfl⟩, by unfold nPar; decide +kernel⟩
theorem v_LW_97 : VC "SeptetCentreLaw" 97 M_SC_time 0 0 := ⟨⟨Or.inl (tb3 _ (List.mem_of_getElem? (i := 234) (by decide +kernel))), kc_SC_time, ki_SC_time, by decide +kernel, by decide +kernel⟩, kn_SC_time, kv_SC_time, ⟨_, _, rfl⟩, by unfold nPar; decide +kernel⟩
theorem v_LW_12 : ICi "SeptetCentreLaw" 12 M_MO_init 0 := ⟨⟨Or.inl (tb4 _ (List.mem_of_getElem? (i := 0) (by decide +kernel))), kc_MO_init, ki_MO_init, by decide +kernel, by decide +kernel⟩, kn_MO_init, rfl, rfl, by unfold nPar; decide +kernel⟩
theorem v_LW_19 : VC "SeptetCentreLaw" 19 M_MO_register 8 2 := ⟨⟨Or.inl (tb4 _ (List.mem_of_getElem? (i := 130) (by decide +kernel))), kc_MO_register, ki_MO_register, by decide +kernel, by decide +kernel⟩, kn_MO_register, kv_MO_register, ⟨_, _, rfl⟩, by unfold nPar; decide +kernel⟩
theorem v_MO_187 : SCs "SeptetCentreModel" 187 M_MO_isDevice 1 := ⟨⟨Or.inl (tb4 _ (List.mem_of_getElem? (i := 134) (by decide +kernel))), kc_MO_isDevice, ki_MO_isDevice, by decide +kernel, by decide +kernel⟩, ks_MO_isDevice, by unfold nPar; decide +kernel⟩
theorem v_MO_191 : SCs "SeptetCentreModel" 191 M_MO_isNumber 1 := ⟨⟨Or.inl (tb4 _ (List.mem_of_getElem? (i := 137) (by decide +kernel))), kc_MO_isNumber, ki_MO_isNumber, by decide +kernel, by decide +kernel⟩, ks_MO_isNumber, by unfold nPar; decide +kernel⟩
theorem v_LW_24 : VC "SeptetCentreLaw" 24 M_MO_power1 8 2 := ⟨⟨Or.inl (tb4 _ (List.mem_of_getElem? (i := 141) (by decide +kernel))), kc_MO_power1, ki_MO_power1, by decide +kernel, by decide +kernel⟩, kn_MO_power1, kv_MO_power1, ⟨_, _, rfl⟩, by unfold nPar; decide +kernel⟩
theorem v_LW_29 : VC "SeptetCentreLaw" 29 M_MO_type 8 2 := ⟨⟨Or.inl (tb4 _ (List.mem_of_getElem? (i := 145) (by decide +kernel))), kc_MO_type, ki_MO_type, by decide +kernel, by decide +kernel⟩, kn_MO_type, kv_MO_type, ⟨_, _, rfl⟩, by unfold nPar; decide +kernel⟩
theorem v_LW_33 : VC "SeptetCentreLaw" 33 M_MO_wipe 8 0 := ⟨⟨Or.inl (tb4 _ (List.mem_of_getElem? (i := 149) (by decide +kernel))), kc_MO_wipe, ki_MO_wipe, by decide +kernel, by decide +kernel⟩, kn_MO_wipe, kv_MO_wipe, ⟨_, _, rfl⟩, by unfold nPar; decide +kernel⟩
theorem v_LW_38 : VC "SeptetCentreLaw" 38 M_MO_send 8 4 := ⟨⟨Or.inl (tb4 _ (List.mem_of_getElem? (i := 153) (by decide +kernel))), kc_MO_send, ki_MO_send, by decide +kernel, by decide +kernel⟩, kn_MO_send, kv_MO_send, ⟨_, _, rfl⟩, by unfold nPar; decide +kernel⟩
theorem v_MO_201 : VC "SeptetCentreModel" 201 M_MO_encode 8 1 := ⟨⟨Or.inl (tb4 _ (List.mem_of_getElem? (i := 157) (by decide +kernel))), kc_MO_encode, ki_MO_encode, by decide +kernel, by decide +kernel⟩, kn_MO_encode, kv_MO_encode, ⟨_, _, rfl⟩, by unfold nPar; decide +kernel⟩
theorem v_MO_121 : SCs "SeptetCentreModel" 121 M_MO_plain 1 := ⟨⟨Or.inl (tb4 _ (List.mem_of_getElem? (i := 161) (by decide +kernel))), kc_MO_plain, ki_MO_plain, by decide +kernel, by decide +kernel⟩, ks_MO_plain, by unfold nPar; decide +kernel⟩
theorem v_MO_117 : SCs "SeptetCentreModel" 117 M_MO_upper 1 := ⟨⟨Or.inl (tb4 _ (List.mem_of_getElem? (i := 164) (by decide +kernel))), kc_MO_upper, ki_MO_upper, by decide +kernel, by decide +kernel⟩, ks_MO_upper, by unfold nPar; decide +kernel⟩
theorem v_MO_128 : SCs "SeptetCentreModel" 128 M_MO_escaped 1 := ⟨⟨Or.inl (tb4 _ (List.mem_of_getElem? (i := 167) (by decide +kernel))), kc_MO_escaped, ki_MO_escaped, by decide +kernel, by decide +kernel⟩, ks_MO_escaped, by unfold nPar; decide +kernel⟩
theorem v_MO_204 : VC "SeptetCentreModel" 204 M_MO_partsOf 8 0 := ⟨⟨Or.inl (tb4 _ (List.mem_of_getElem? (i := 170) (by decide +kernel))), kc_MO_partsOf, ki_MO_partsOf, by decide +kernel, by decide +kernel⟩, kn_MO_partsOf, kv_MO_partsOf, ⟨_, _, rfl⟩, by unfold nPar; decide +kernel⟩
theorem v_MO_198 : VC "SeptetCentreModel" 198 M_MO_cut 8 1 := ⟨⟨Or.inl (tb4 _ (List.mem_of_getElem? (i := 174) (by decide +kernel))), kc_MO_cut, ki_MO_cut, by decide +kernel, by decide +kernel⟩, kn_MO_cut, kv_MO_cut, ⟨_, _, rfl⟩, by unfold nPar; decide +kernel⟩
theorem v_MO_181 : VC "SeptetCentreModel" 181 M_MO_putSubmit 8 9 := ⟨⟨Or.inl (tb4 _ (List.mem_of_getElem? (i := 178) (by decide +kernel))), kc_MO_putSubmit, ki_MO_putSubmit, by decide +kernel, by decide +kernel⟩, kn_MO_putSubmit, kv_MO_putSubmit, ⟨_, _, rfl⟩, by unfold nPar; decide +kernel⟩
theorem v_MO_140 : VC "SeptetCentreModel" 140 M_MO_put 8 1 := ⟨⟨Or.inl (tb4 _ (List.mem_of_getElem? (i := 182) (by decide +kernel))), kc_MO_put, ki_MO_put, by decide +kernel, by decide +kernel⟩, kn_MO_put, kv_MO_put, ⟨_, _, rfl⟩, by unfold nPar; decide +kernel⟩
theorem v_MO_151 : VC "SeptetCentreModel" 151 M_MO_putAddress 8 1 := ⟨⟨Or.inl (tb4 _ (List.mem_of_getElem? (i := 186) (by decide +kernel))), kc_MO_putAddress, ki_MO_putAddress, by decide +kernel, by decide +kernel⟩, kn_MO_putAddress, kv_MO_putAddress, ⟨_, _, rfl⟩, by unfold nPar; decide +kernel⟩
theorem v_MO_136 : SCs "SeptetCentreModel" 136 M_MO_power 1 := ⟨⟨Or.inl (tb4 _ (List.mem_of_getElem? (i := 190) (by decide +kernel))), kc_MO_power, ki_MO_power, by decide +kernel, by decide +kernel⟩, ks_MO_power, by unfold nPar; decide +kernel⟩
theorem v_MO_144 : VC "SeptetCentreModel" 144 M_MO_putDigits 8 2 := ⟨⟨Or.inl (tb4 _ (List.mem_of_getElem? (i := 194) (by decide +kernel))), kc_MO_putDigits, ki_MO_putDigits, by decide +kernel, by decide +kernel⟩, kn_MO_putDigits, kv_MO_putDigits, ⟨_, _, rfl⟩, by unfold nPar; decide +kernel⟩
theorem v_MO_155 : VC "SeptetCentreModel" 155 M_MO_putData 8 5 := ⟨⟨Or.inl (tb4 _ (List.mem_of_getElem? (i := 198) (by decide +kernel))), kc_MO_putData, ki_MO_putData, by decide +kernel, by decide +kernel⟩, kn_MO_putData, kv_MO_putData, ⟨_, _, rfl⟩, by unfold nPar; decide +kernel⟩
theorem v_MO_148 : SCs "SeptetCentreModel" 148 M_MO_bytesFor 1 := ⟨⟨Or.inl (tb4 _ (List.mem_of_getElem? (i := 202) (by decide +kernel))), kc_MO_bytesFor, ki_MO_bytesFor, by decide +kernel, by decide +kernel⟩, ks_MO_bytesFor, by unfold nPar; decide +kernel⟩
theorem v_MO_208 : VC "SeptetCentreModel" 208 M_MO_append 8 2 := ⟨⟨Or.inl (tb4 _ (List.mem_of_getElem? (i := 205) (by decide +kernel))), kc_MO_append, ki_MO_append, by decide +kernel, by decide +kernel⟩, kn_MO_append, kv_MO_append, ⟨_, _, rfl⟩, by unfold nPar; decide +kernel⟩
theorem v_MO_159 : SCs "SeptetCentreModel" 159 M_MO_baseOf 1 := ⟨⟨Or.inl (tb4 _ (List.mem_of_getElem? (i := 209) (by decide +kernel))), kc_MO_baseOf, ki_MO_baseOf, by decide +kernel, by decide +kernel⟩, ks_MO_baseOf, by unfold nPar; decide +kernel⟩
theorem v_LW_43 : VC "SeptetCentreLaw" 43 M_MO_alter 8 2 := ⟨⟨Or.inl (tb4 _ (List.mem_of_getElem? (i := 212) (by decide +kernel))), kc_MO_alter, ki_MO_alter, by decide +kernel, by decide +kernel⟩, kn_MO_alter, kv_MO_alter, ⟨_, _, rfl⟩, by unfold nPar; decide +kernel⟩
theorem v_LW_48 : VC "SeptetCentreLaw" 48 M_MO_receive 8 0 := ⟨⟨Or.inl (tb4 _ (List.mem_of_getElem? (i := 216) (by decide +kernel))), kc_MO_receive, ki_MO_receive, by decide +kernel, by decide +kernel⟩, kn_MO_receive, kv_MO_receive, ⟨_, _, rfl⟩, by unfold nPar; decide +kernel⟩
theorem v_MO_217 : VC "SeptetCentreModel" 217 M_MO_load 8 1 := ⟨⟨Or.inl (tb4 _ (List.mem_of_getElem? (i := 220) (by decide +kernel))), kc_MO_load, ki_MO_load, by decide +kernel, by decide +kernel⟩, kn_MO_load, kv_MO_load, ⟨_, _, rfl⟩, by unfold nPar; decide +kernel⟩
theorem v_MO_220 : VC "SeptetCentreModel" 220 M_MO_legal 8 0 := ⟨⟨Or.inl (tb4 _ (List.mem_of_getElem? (i := 224) (by decide +kernel))), kc_MO_legal, ki_MO_legal, by decide +kernel, by decide +kernel⟩, kn_MO_legal, kv_MO_legal, ⟨_, _, rfl⟩, by unfold nPar; decide +kernel⟩
theorem v_MO_170 : VC "SeptetCentreModel" 170 M_MO_readNumber 8 1 := ⟨⟨Or.inl (tb4 _ (List.mem_of_getElem? (i := 228) (by decide +kernel))), kc_MO_readNumber, ki_MO_readNumber, by decide +kernel, by decide +kernel⟩, kn_MO_readNumber, kv_MO_readNumber, ⟨_, _, rfl⟩, by unfold nPar; decide +kernel⟩
theorem v_MO_173 : VC "SeptetCentreModel" 173 M_MO_readSeptets 8 2 := ⟨⟨Or.inl (tb4 _ (List.mem_of_getElem? (i := 232) (by decide +kernel))), kc_MO_readSeptets, ki_MO_readSeptets, by decide +kernel, by decide +kernel⟩, kn_MO_readSeptets, kv_MO_readSeptets, ⟨_, _, rfl⟩, by unfold nPar; decide +kernel⟩
theorem v_MO_166 : VC "SeptetCentreModel" 166 M_MO_bit 8 2 := ⟨⟨Or.inl (tb4 _ (List.mem_of_getElem? (i := 236) (by decide +kernel))), kc_MO_bit, ki_MO_bit, by decide +kernel, by decide +kernel⟩, kn_MO_bit, kv_MO_bit, ⟨_, _, rfl⟩, by unfold nPar; decide +kernel⟩
theorem v_MO_177 : VC "SeptetCentreModel" 177 M_MO_areText 8 0 := ⟨⟨Or.inl (tb5 _ (List.mem_of_getElem? (i := 0) (by decide +kernel))), kc_MO_areText, ki_MO_areText, by decide +kernel, by decide +kernel⟩, kn_MO_areText, kv_MO_areText, ⟨_, _, rfl⟩, by unfold nPar; decide +kernel⟩
theorem v_MO_223 : VC "SeptetCentreModel" 223 M_MO_removeFirst 8 1 := ⟨⟨Or.inl (tb5 _ (List.mem_of_getElem? (i := 4) (by decide +kernel))), kc_MO_removeFirst, ki_MO_removeFirst, by decide +kernel, by decide +kernel⟩, kn_MO_removeFirst, kv_MO_removeFirst, ⟨_, _, rfl⟩, by unfold nPar; decide +kernel⟩
theorem v_MO_162 : VC "SeptetCentreModel" 162 M_MO_move 8 2 := ⟨⟨Or.inl (tb5 _ (List.mem_of_getElem? (i := 8) (by decide +kernel))), kc_MO_move, ki_MO_move, by decide +kernel, by decide +kernel⟩, kn_MO_move, kv_MO_move, ⟨_, _, rfl⟩, by unfold nPar; decide +kernel⟩
theorem v_MO_229 : VC "SeptetCentreModel" 229 M_MO_keepData 8 2 := ⟨⟨Or.inl (tb5 _ (List.mem_of_getElem? (i := 12) (by decide +kernel))), kc_MO_keepData, ki_MO_keepData, by decide +kernel, by decide +kernel⟩, kn_MO_keepData, kv_MO_keepData, ⟨_, _, rfl⟩, by unfold nPar; decide +kernel⟩
theorem v_LW_53 : VC "SeptetCentreLaw" 53 M_MO_advance 8 1 := ⟨⟨Or.inl (tb5 _ (List.mem_of_getElem? (i := 16) (by decide +kernel))), kc_MO_advance, ki_MO_advance, by decide +kernel, by decide +kernel⟩, kn_MO_advance, kv_MO_advance, ⟨_, _, rfl⟩, by unfold nPar; decide +kernel⟩
theorem v_MO_247 : VC "SeptetCentreModel" 247 M_MO_earliest 8 0 := ⟨⟨Or.inl (tb5 _ (List.mem_of_getElem? (i := 21) (by decide +kernel))), kc_MO_earliest, ki_MO_earliest, by decide +kernel, by decide +kernel⟩, kn_MO_earliest, kv_MO_earliest, ⟨_, _, rfl⟩, by unfold nPar; decide +kernel⟩
theorem v_MO_232 : VC "SeptetCentreModel" 232 M_MO_moment 8 1 := ⟨⟨Or.inl (tb5 _ (List.mem_of_getElem? (i := 25) (by decide +kernel))), kc_MO_moment, ki_MO_moment, by decide +kernel, by decide +kernel⟩, kn_MO_moment, kv_MO_moment, ⟨_, _, rfl⟩, by unfold nPar; decide +kernel⟩
theorem v_MO_250 : VC "SeptetCentreModel" 250 M_MO_deal 8 1 := ⟨⟨Or.inl (tb5 _ (List.mem_of_getElem? (i := 29) (by decide +kernel))), kc_MO_deal, ki_MO_deal, by decide +kernel, by decide +kernel⟩, kn_MO_deal, kv_MO_deal, ⟨_, _, rfl⟩, by unfold nPar; decide +kernel⟩
theorem v_MO_235 : VC "SeptetCentreModel" 235 M_MO_settle 8 3 := ⟨⟨Or.inl (tb5 _ (List.mem_of_getElem? (i := 33) (by decide +kernel))), kc_MO_settle, ki_MO_settle, by decide +kernel, by decide +kernel⟩, kn_MO_settle, kv_MO_settle, ⟨_, _, rfl⟩, by unfold nPar; decide +kernel⟩
theorem v_MO_239 : VC "SeptetCentreModel" 239 M_MO_owner 8 1 := ⟨⟨Or.inl (tb5 _ (List.mem_of_getElem? (i := 37) (by decide +kernel))), kc_MO_owner, ki_MO_owner, by decide +kernel, by decide +kernel⟩, kn_MO_owner, kv_MO_owner, ⟨_, _, rfl⟩, by unfold nPar; decide +kernel⟩
theorem v_MO_243 : VC "SeptetCentreModel" 243 M_MO_deliver 8 2 := ⟨⟨Or.inl (tb5 _ (List.mem_of_getElem? (i := 41) (by decide +kernel))), kc_MO_deliver, ki_MO_deliver, by decide +kernel, by decide +kernel⟩, kn_MO_deliver, kv_MO_deliver, ⟨_, _, rfl⟩, by unfold nPar; decide +kernel⟩
theorem v_LW_57 : VC "SeptetCentreLaw" 57 M_MO_take 8 1 := ⟨⟨Or.inl (tb5 _ (List.mem_of_getElem? (i := 45) (by decide +kernel))), kc_MO_take, ki_MO_take, by decide +kernel, by decide +kernel⟩, kn_MO_take, kv_MO_take, ⟨_, _, rfl⟩, by unfold nPar; decide +kernel⟩
theorem v_MO_259 : VC "SeptetCentreModel" 259 M_MO_decode 8 2 := ⟨⟨Or.inl (tb5 _ (List.mem_of_getElem? (i := 49) (by decide +kernel))), kc_MO_decode, ki_MO_decode, by decide +kernel, by decide +kernel⟩, kn_MO_decode, kv_MO_decode, ⟨_, _, rfl⟩, by unfold nPar; decide +kernel⟩
theorem v_MO_263 : VC "SeptetCentreModel" 263 M_MO_pileFor 8 4 := ⟨⟨Or.inl (tb5 _ (List.mem_of_getElem? (i := 53) (by decide +kernel))), kc_MO_pileFor, ki_MO_pileFor, by decide +kernel, by decide +kernel⟩, kn_MO_pileFor, kv_MO_pileFor, ⟨_, _, rfl⟩, by unfold nPar; decide +kernel⟩
theorem v_MO_256 : VC "SeptetCentreModel" 256 M_MO_dropPile 8 2 := ⟨⟨Or.inl (tb5 _ (List.mem_of_getElem? (i := 57) (by decide +kernel))), kc_MO_dropPile, ki_MO_dropPile, by decide +kernel, by decide +kernel⟩, kn_MO_dropPile, kv_MO_dropPile, ⟨_, _, rfl⟩, by unfold nPar; decide +kernel⟩
theorem v_MO_253 : VC "SeptetCentreModel" 253 M_MO_movePile 8 2 := ⟨⟨Or.inl (tb5 _ (List.mem_of_getElem? (i := 61) (by decide +kernel))), kc_MO_movePile, ki_MO_movePile, by decide +kernel, by decide +kernel⟩, kn_MO_movePile, kv_MO_movePile, ⟨_, _, rfl⟩, by unfold nPar; decide +kernel⟩
theorem v_MO_267 : VC "SeptetCentreModel" 267 M_MO_together 8 2 := ⟨⟨Or.inl (tb5 _ (List.mem_of_getElem? (i := 65) (by decide +kernel))), kc_MO_together, ki_MO_together, by decide +kernel, by decide +kernel⟩, kn_MO_together, kv_MO_together, ⟨_, _, rfl⟩, by unfold nPar; decide +kernel⟩
theorem v_LW_62 : VC "SeptetCentreLaw" 62 M_MO_copy 8 1 := ⟨⟨Or.inl (tb5 _ (List.mem_of_getElem? (i := 69) (by decide +kernel))), kc_MO_copy, ki_MO_copy, by decide +kernel, by decide +kernel⟩, kn_MO_copy, kv_MO_copy, ⟨_, _, rfl⟩, by unfold nPar; decide +kernel⟩
theorem v_LW_66 : VC "SeptetCentreLaw" 66 M_MO_swap 8 1 := ⟨⟨Or.inl (tb5 _ (List.mem_of_getElem? (i := 73) (by decide +kernel))), kc_MO_swap, ki_MO_swap, by decide +kernel, by decide +kernel⟩, kn_MO_swap, kv_MO_swap, ⟨_, _, rfl⟩, by unfold nPar; decide +kernel⟩
theorem v_LW_70 : VC "SeptetCentreLaw" 70 M_MO_report 8 1 := ⟨⟨Or.inl (tb5 _ (List.mem_of_getElem? (i := 77) (by decide +kernel))), kc_MO_report, ki_MO_report, by decide +kernel, by decide +kernel⟩, kn_MO_report, kv_MO_report, ⟨_, _, rfl⟩, by unfold nPar; decide +kernel⟩
theorem v_LW_74 : VC "SeptetCentreLaw" 74 M_MO_waiting 8 1 := ⟨⟨Or.inl (tb5 _ (List.mem_of_getElem? (i := 81) (by decide +kernel))), kc_MO_waiting, ki_MO_waiting, by decide +kernel, by decide +kernel⟩, kn_MO_waiting, kv_MO_waiting, ⟨_, _, rfl⟩, by unfold nPar; decide +kernel⟩
theorem v_LW_79 : VC "SeptetCentreLaw" 79 M_MO_byteAt 8 2 := ⟨⟨Or.inl (tb5 _ (List.mem_of_getElem? (i := 85) (by decide +kernel))), kc_MO_byteAt, ki_MO_byteAt, by decide +kernel, by decide +kernel⟩, kn_MO_byteAt, kv_MO_byteAt, ⟨_, _, rfl⟩, by unfold nPar; decide +kernel⟩
theorem v_LW_83 : VC "SeptetCentreLaw" 83 M_MO_text 8 2 := ⟨⟨Or.inl (tb5 _ (List.mem_of_getElem? (i := 89) (by decide +kernel))), kc_MO_text, ki_MO_text, by decide +kernel, by decide +kernel⟩, kn_MO_text, kv_MO_text, ⟨_, _, rfl⟩, by unfold nPar; decide +kernel⟩
theorem v_LW_88 : VC "SeptetCentreLaw" 88 M_MO_sender 8 1 := ⟨⟨Or.inl (tb5 _ (List.mem_of_getElem? (i := 93) (by decide +kernel))), kc_MO_sender, ki_MO_sender, by decide +kernel, by decide +kernel⟩, kn_MO_sender, kv_MO_sender, ⟨_, _, rfl⟩, by unfold nPar; decide +kernel⟩
theorem v_LW_92 : VC "SeptetCentreLaw" 92 M_MO_state 8 1 := ⟨⟨Or.inl (tb5 _ (List.mem_of_getElem? (i := 97) (by decide +kernel))), kc_MO_state, ki_MO_state, by decide +kernel, by decide +kernel⟩, kn_MO_state, kv_MO_state, ⟨_, _, rfl⟩, by unfold nPar; decide +kernel⟩
theorem v_LW_96 : VC "SeptetCentreLaw" 96 M_MO_offers 8 1 := ⟨⟨Or.inl (tb5 _ (List.mem_of_getElem? (i := 101) (by decide +kernel))), kc_MO_offers, ki_MO_offers, by decide +kernel, by decide +kernel⟩, kn_MO_offers, kv_MO_offers, ⟨_, _, rfl⟩, by unfold nPar; decide +kernel⟩
theorem v_LW_100 : VC "SeptetCentreLaw" 100 M_MO_time 8 0 := ⟨⟨Or.inl (tb5 _ (List.mem_of_getElem? (i := 105) (by decide +kernel))), kc_MO_time, ki_MO_time, by decide +kernel, by decide +kernel⟩, kn_MO_time, kv_MO_time, ⟨_, _, rfl⟩, by unfold nPar; decide +kernel⟩
theorem v_SC_26 : ICi "SeptetCentre" 26 M_Dr_init 0 := ⟨⟨Or.inr ⟨"SeptetCentre", tb1 _ (List.mem_of_getElem? (i := 73) (by decide +kernel))⟩, kc_Dr_init, ki_Dr_init, by decide +kernel, by decide +kernel⟩, kn_Dr_init, rfl, rfl, by unfold nPar; decide +kernel⟩
theorem v_SC_41 : ICi "SeptetCentre" 41 M_De_init 0 := ⟨⟨Or.inr ⟨"SeptetCentre", tb1 _ (List.mem_of_getElem? (i := 89) (by decide +kernel))⟩, kc_De_init, ki_De_init, by decide +kernel, by decide +kernel⟩, kn_De_init, rfl, rfl, by unfold nPar; decide +kernel⟩
/-! fields -/
theorem f_AL_39 : Cond.fieldLink "java/util/ArrayList" 39 "java/util/ArrayList" "DEFAULTCAPACITY_EMPTY_ELEMENTDATA" "[Ljava/lang/Object;" ∈ lw_tbl := tb1 _ (List.mem_of_getElem? (i := 50) (by decide +kernel))
theorem f_AL_9 : FL "java/util/ArrayList" 9 2 0 "[Ljava/lang/Object;" := ⟨_, "java/util/ArrayList", rfl, by decide, rfl, Or.inl rfl, Or.inl (tb1 _ (List.mem_of_getElem? (i := 52) (by decide +kernel)))⟩
theorem f_AL_48 : FL "java/util/ArrayList" 48 2 1 "I" := ⟨_, "java/util/ArrayList", rfl, by decide, rfl, Or.inl rfl, Or.inl (tb1 _ (List.mem_of_getElem? (i := 53) (by decide +kernel)))⟩
theorem f_AbL_7 : FL "java/util/AbstractList" 7 2 2 "I" := ⟨_, "java/util/AbstractList", rfl, by decide, rfl, Or.inl rfl, Or.inl (tb1 _ (List.mem_of_getElem? (i := 54) (by decide +kernel)))⟩
theorem f_AL_63 : FL "java/util/ArrayList" 63 2 2 "I" := ⟨_, "java/util/ArrayList", rfl, by decide, rfl, Or.inr (tb1 _ (List.mem_of_getElem? (i := 56) (by decide +kernel))), Or.inl (tb1 _ (List.mem_of_getElem? (i := 55) (by decide +kernel)))⟩
theorem f_Li_10 : FL "SeptetCentre$Line" 10 1 0 "Ljava/util/ArrayList;" := ⟨_, "SeptetCentre$Line", rfl, by decide, rfl, Or.inl rfl, Or.inl (tb1 _ (List.mem_of_getElem? (i := 64) (by decide +kernel)))⟩
theorem f_Li_16 : FL "SeptetCentre$Line" 16 1 1 "I" := ⟨_, "SeptetCentre$Line", rfl, by decide, rfl, Or.inl rfl, Or.inl (tb1 _ (List.mem_of_getElem? (i := 65) (by decide +kernel)))⟩
theorem f_Dr_9 : FL "SeptetCentre$Draft" 9 3 0 "[I" := ⟨_, "SeptetCentre$Draft", rfl, by decide, rfl, Or.inl rfl, Or.inl (tb1 _ (List.mem_of_getElem? (i := 77) (by decide +kernel)))⟩
theorem f_Dr_13 : FL "SeptetCentre$Draft" 13 3 1 "I" := ⟨_, "SeptetCentre$Draft", rfl, by decide, rfl, Or.inl rfl, Or.inl (tb1 _ (List.mem_of_getElem? (i := 78) (by decide +kernel)))⟩
theorem f_SC_72 : FL "SeptetCentre" 72 3 1 "I" := ⟨_, "SeptetCentre$Draft", rfl, by decide, rfl, Or.inl rfl, Or.inl (tb1 _ (List.mem_of_getElem? (i := 79) (by decide +kernel)))⟩
theorem f_Me_26 : FL "SeptetCentre$Message" 26 4 0 "J" := ⟨_, "SeptetCentre$Device", rfl, by decide, rfl, Or.inl rfl, Or.inl (tb1 _ (List.mem_of_getElem? (i := 97) (by decide +kernel)))⟩
theorem f_SC_50 : FL "SeptetCentre" 50 4 0 "J" := ⟨_, "SeptetCentre$Device", rfl, by decide, rfl, Or.inl rfl, Or.inl (tb1 _ (List.mem_of_getElem? (i := 98) (by decide +kernel)))⟩
theorem f_SC_54 : FL "SeptetCentre" 54 4 1 "Z" := ⟨_, "SeptetCentre$Device", rfl, by decide, rfl, Or.inl rfl, Or.inl (tb1 _ (List.mem_of_getElem? (i := 99) (by decide +kernel)))⟩
theorem f_De_14 : FL "SeptetCentre$Device" 14 4 2 "LSeptetCentre$Line;" := ⟨_, "SeptetCentre$Device", rfl, by decide, rfl, Or.inl rfl, Or.inl (tb1 _ (List.mem_of_getElem? (i := 100) (by decide +kernel)))⟩
theorem f_SC_160 : FL "SeptetCentre" 160 4 2 "LSeptetCentre$Line;" := ⟨_, "SeptetCentre$Device", rfl, by decide, rfl, Or.inl rfl, Or.inl (tb1 _ (List.mem_of_getElem? (i := 101) (by decide +kernel)))⟩
theorem f_De_18 : FL "SeptetCentre$Device" 18 4 3 "LSeptetCentre$Line;" := ⟨_, "SeptetCentre$Device", rfl, by decide, rfl, Or.inl rfl, Or.inl (tb1 _ (List.mem_of_getElem? (i := 102) (by decide +kernel)))⟩
theorem f_Me_100 : FL "SeptetCentre$Message" 100 4 3 "LSeptetCentre$Line;" := ⟨_, "SeptetCentre$Device", rfl, by decide, rfl, Or.inl rfl, Or.inl (tb1 _ (List.mem_of_getElem? (i := 103) (by decide +kernel)))⟩
theorem f_SC_173 : FL "SeptetCentre" 173 4 3 "LSeptetCentre$Line;" := ⟨_, "SeptetCentre$Device", rfl, by decide, rfl, Or.inl rfl, Or.inl (tb1 _ (List.mem_of_getElem? (i := 104) (by decide +kernel)))⟩
theorem f_De_36 : FL "SeptetCentre$Device" 36 4 4 "I" := ⟨_, "SeptetCentre$Device", rfl, by decide, rfl, Or.inl rfl, Or.inl (tb1 _ (List.mem_of_getElem? (i := 105) (by decide +kernel)))⟩
theorem f_SC_228 : FL "SeptetCentre" 228 4 4 "I" := ⟨_, "SeptetCentre$Device", rfl, by decide, rfl, Or.inl rfl, Or.inl (tb1 _ (List.mem_of_getElem? (i := 106) (by decide +kernel)))⟩
theorem f_De_32 : FL "SeptetCentre$Device" 32 4 5 "I" := ⟨_, "SeptetCentre$Device", rfl, by decide, rfl, Or.inl rfl, Or.inl (tb1 _ (List.mem_of_getElem? (i := 107) (by decide +kernel)))⟩
theorem f_De_24 : FL "SeptetCentre$Device" 24 4 6 "Ljava/util/ArrayList;" := ⟨_, "SeptetCentre$Device", rfl, by decide, rfl, Or.inl rfl, Or.inl (tb1 _ (List.mem_of_getElem? (i := 108) (by decide +kernel)))⟩
theorem f_De_28 : FL "SeptetCentre$Device" 28 4 7 "[I" := ⟨_, "SeptetCentre$Device", rfl, by decide, rfl, Or.inl rfl, Or.inl (tb1 _ (List.mem_of_getElem? (i := 109) (by decide +kernel)))⟩
theorem f_SC_189 : FL "SeptetCentre" 189 4 7 "[I" := ⟨_, "SeptetCentre$Device", rfl, by decide, rfl, Or.inl rfl, Or.inl (tb1 _ (List.mem_of_getElem? (i := 110) (by decide +kernel)))⟩
theorem f_De_57 : FL "SeptetCentre$Device" 57 4 8 "I" := ⟨_, "SeptetCentre$Device", rfl, by decide, rfl, Or.inl rfl, Or.inl (tb1 _ (List.mem_of_getElem? (i := 111) (by decide +kernel)))⟩
theorem f_SC_186 : FL "SeptetCentre" 186 4 8 "I" := ⟨_, "SeptetCentre$Device", rfl, by decide, rfl, Or.inl rfl, Or.inl (tb1 _ (List.mem_of_getElem? (i := 112) (by decide +kernel)))⟩
theorem f_De_60 : FL "SeptetCentre$Device" 60 4 9 "J" := ⟨_, "SeptetCentre$Device", rfl, by decide, rfl, Or.inl rfl, Or.inl (tb1 _ (List.mem_of_getElem? (i := 113) (by decide +kernel)))⟩
theorem f_SC_193 : FL "SeptetCentre" 193 4 9 "J" := ⟨_, "SeptetCentre$Device", rfl, by decide, rfl, Or.inl rfl, Or.inl (tb1 _ (List.mem_of_getElem? (i := 114) (by decide +kernel)))⟩
theorem f_SC_11 : FL "SeptetCentre" 11 0 0 "[LSeptetCentre$Device;" := ⟨_, "SeptetCentre", rfl, by decide, rfl, Or.inl rfl, Or.inl (tb1 _ (List.mem_of_getElem? (i := 136) (by decide +kernel)))⟩
theorem f_SC_20 : FL "SeptetCentre" 20 0 1 "LSeptetCentre$Line;" := ⟨_, "SeptetCentre", rfl, by decide, rfl, Or.inl rfl, Or.inl (tb1 _ (List.mem_of_getElem? (i := 137) (by decide +kernel)))⟩
theorem f_SC_27 : FL "SeptetCentre" 27 0 2 "LSeptetCentre$Draft;" := ⟨_, "SeptetCentre", rfl, by decide, rfl, Or.inl rfl, Or.inl (tb1 _ (List.mem_of_getElem? (i := 138) (by decide +kernel)))⟩
theorem f_SC_34 : FL "SeptetCentre" 34 0 3 "Ljava/util/ArrayList;" := ⟨_, "SeptetCentre", rfl, by decide, rfl, Or.inl rfl, Or.inl (tb1 _ (List.mem_of_getElem? (i := 139) (by decide +kernel)))⟩
theorem f_SC_38 : FL "SeptetCentre" 38 0 4 "Ljava/util/ArrayList;" := ⟨_, "SeptetCentre", rfl, by decide, rfl, Or.inl rfl, Or.inl (tb1 _ (List.mem_of_getElem? (i := 140) (by decide +kernel)))⟩
theorem f_SC_119 : FL "SeptetCentre" 119 0 5 "I" := ⟨_, "SeptetCentre", rfl, by decide, rfl, Or.inl rfl, Or.inl (tb1 _ (List.mem_of_getElem? (i := 141) (by decide +kernel)))⟩
theorem f_Al_7 : Cond.fieldLink "SeptetCentre$Alphabet" 7 "SeptetCentre$Alphabet" "CHARACTERS" "[I" ∈ lw_tbl := tb1 _ (List.mem_of_getElem? (i := 182) (by decide +kernel))
theorem f_Al_13 : Cond.fieldLink "SeptetCentre$Alphabet" 13 "SeptetCentre$Alphabet" "SECOND_CODES" "[I" ∈ lw_tbl := tb1 _ (List.mem_of_getElem? (i := 184) (by decide +kernel))
theorem f_Al_16 : Cond.fieldLink "SeptetCentre$Alphabet" 16 "SeptetCentre$Alphabet" "SECOND_CHARACTERS" "[I" ∈ lw_tbl := tb1 _ (List.mem_of_getElem? (i := 186) (by decide +kernel))
theorem f_Ro_7 : FL "SeptetCentre$Row" 7 5 0 "[I" := ⟨_, "SeptetCentre$Row", rfl, by decide, rfl, Or.inl rfl, Or.inl (tb2 _ (List.mem_of_getElem? (i := 11) (by decide +kernel)))⟩
theorem f_Ro_34 : FL "SeptetCentre$Row" 34 5 1 "I" := ⟨_, "SeptetCentre$Row", rfl, by decide, rfl, Or.inl rfl, Or.inl (tb2 _ (List.mem_of_getElem? (i := 12) (by decide +kernel)))⟩
theorem f_Ro_13 : FL "SeptetCentre$Row" 13 5 2 "LSeptetCentre$Device;" := ⟨_, "SeptetCentre$Row", rfl, by decide, rfl, Or.inl rfl, Or.inl (tb2 _ (List.mem_of_getElem? (i := 13) (by decide +kernel)))⟩
theorem f_SC_107 : FL "SeptetCentre" 107 5 2 "LSeptetCentre$Device;" := ⟨_, "SeptetCentre$Row", rfl, by decide, rfl, Or.inl rfl, Or.inl (tb2 _ (List.mem_of_getElem? (i := 14) (by decide +kernel)))⟩
theorem f_Me_7 : Cond.fieldLink "SeptetCentre$Message" 7 "SeptetCentre$Fate" "WAITS" "LSeptetCentre$Fate;" ∈ lw_tbl := tb2 _ (List.mem_of_getElem? (i := 235) (by decide +kernel))
theorem f_Me_18 : FL "SeptetCentre$Message" 18 6 0 "LSeptetCentre$Row;" := ⟨_, "SeptetCentre$Message", rfl, by decide, rfl, Or.inl rfl, Or.inl (tb3 _ (List.mem_of_getElem? (i := 4) (by decide +kernel)))⟩
theorem f_Me_22 : FL "SeptetCentre$Message" 22 6 1 "LSeptetCentre$Device;" := ⟨_, "SeptetCentre$Message", rfl, by decide, rfl, Or.inl rfl, Or.inl (tb3 _ (List.mem_of_getElem? (i := 5) (by decide +kernel)))⟩
theorem f_Me_32 : FL "SeptetCentre$Message" 32 6 2 "J" := ⟨_, "SeptetCentre$Message", rfl, by decide, rfl, Or.inl rfl, Or.inl (tb3 _ (List.mem_of_getElem? (i := 6) (by decide +kernel)))⟩
theorem f_Me_35 : FL "SeptetCentre$Message" 35 6 3 "I" := ⟨_, "SeptetCentre$Message", rfl, by decide, rfl, Or.inl rfl, Or.inl (tb3 _ (List.mem_of_getElem? (i := 7) (by decide +kernel)))⟩
theorem f_Me_39 : FL "SeptetCentre$Message" 39 6 4 "I" := ⟨_, "SeptetCentre$Message", rfl, by decide, rfl, Or.inl rfl, Or.inl (tb3 _ (List.mem_of_getElem? (i := 8) (by decide +kernel)))⟩
theorem f_Me_48 : FL "SeptetCentre$Message" 48 6 5 "J" := ⟨_, "SeptetCentre$Message", rfl, by decide, rfl, Or.inl rfl, Or.inl (tb3 _ (List.mem_of_getElem? (i := 9) (by decide +kernel)))⟩
theorem f_SC_248 : FL "SeptetCentre" 248 6 5 "J" := ⟨_, "SeptetCentre$Message", rfl, by decide, rfl, Or.inl rfl, Or.inl (tb3 _ (List.mem_of_getElem? (i := 10) (by decide +kernel)))⟩
theorem f_Me_59 : FL "SeptetCentre$Message" 59 6 6 "I" := ⟨_, "SeptetCentre$Message", rfl, by decide, rfl, Or.inl rfl, Or.inl (tb3 _ (List.mem_of_getElem? (i := 11) (by decide +kernel)))⟩
theorem f_SC_242 : FL "SeptetCentre" 242 6 6 "I" := ⟨_, "SeptetCentre$Message", rfl, by decide, rfl, Or.inl rfl, Or.inl (tb3 _ (List.mem_of_getElem? (i := 12) (by decide +kernel)))⟩
theorem f_Me_68 : FL "SeptetCentre$Message" 68 6 7 "I" := ⟨_, "SeptetCentre$Message", rfl, by decide, rfl, Or.inl rfl, Or.inl (tb3 _ (List.mem_of_getElem? (i := 13) (by decide +kernel)))⟩
theorem f_SC_199 : FL "SeptetCentre" 199 6 7 "I" := ⟨_, "SeptetCentre$Message", rfl, by decide, rfl, Or.inl rfl, Or.inl (tb3 _ (List.mem_of_getElem? (i := 14) (by decide +kernel)))⟩
theorem f_Me_13 : FL "SeptetCentre$Message" 13 6 8 "LSeptetCentre$Fate;" := ⟨_, "SeptetCentre$Message", rfl, by decide, rfl, Or.inl rfl, Or.inl (tb3 _ (List.mem_of_getElem? (i := 15) (by decide +kernel)))⟩
theorem f_SC_145 : FL "SeptetCentre" 145 6 8 "LSeptetCentre$Fate;" := ⟨_, "SeptetCentre$Message", rfl, by decide, rfl, Or.inl rfl, Or.inl (tb3 _ (List.mem_of_getElem? (i := 16) (by decide +kernel)))⟩
theorem f_SC_245 : Cond.fieldLink "SeptetCentre" 245 "SeptetCentre$Fate" "TOO_OLD" "LSeptetCentre$Fate;" ∈ lw_tbl := tb3 _ (List.mem_of_getElem? (i := 57) (by decide +kernel))
theorem f_SC_255 : Cond.fieldLink "SeptetCentre" 255 "SeptetCentre$Fate" "UNKNOWN" "LSeptetCentre$Fate;" ∈ lw_tbl := tb3 _ (List.mem_of_getElem? (i := 63) (by decide +kernel))
theorem f_SC_261 : Cond.fieldLink "SeptetCentre" 261 "SeptetCentre$Fate" "TAKEN" "LSeptetCentre$Fate;" ∈ lw_tbl := tb3 _ (List.mem_of_getElem? (i := 87) (by decide +kernel))
theorem f_SC_149 : Cond.fieldLink "SeptetCentre" 149 "SeptetCentre$Fate" "WAITS" "LSeptetCentre$Fate;" ∈ lw_tbl := tb3 _ (List.mem_of_getElem? (i := 93) (by decide +kernel))
theorem f_Pi_7 : FL "SeptetCentre$Pile" 7 7 0 "J" := ⟨_, "SeptetCentre$Pile", rfl, by decide, rfl, Or.inl rfl, Or.inl (tb3 _ (List.mem_of_getElem? (i := 142) (by decide +kernel)))⟩
theorem f_Pi_13 : FL "SeptetCentre$Pile" 13 7 1 "I" := ⟨_, "SeptetCentre$Pile", rfl, by decide, rfl, Or.inl rfl, Or.inl (tb3 _ (List.mem_of_getElem? (i := 143) (by decide +kernel)))⟩
theorem f_Pi_19 : FL "SeptetCentre$Pile" 19 7 2 "[LSeptetCentre$Row;" := ⟨_, "SeptetCentre$Pile", rfl, by decide, rfl, Or.inl rfl, Or.inl (tb3 _ (List.mem_of_getElem? (i := 144) (by decide +kernel)))⟩
theorem f_Pi_23 : FL "SeptetCentre$Pile" 23 7 3 "I" := ⟨_, "SeptetCentre$Pile", rfl, by decide, rfl, Or.inl rfl, Or.inl (tb3 _ (List.mem_of_getElem? (i := 145) (by decide +kernel)))⟩
theorem f_MO_195 : FL "SeptetCentreModel" 195 8 0 "I" := ⟨_, "SeptetCentreModel", rfl, by decide, rfl, Or.inl rfl, Or.inl (tb4 _ (List.mem_of_getElem? (i := 4) (by decide +kernel)))⟩
theorem f_MO_7 : FL "SeptetCentreModel" 7 8 1 "[I" := ⟨_, "SeptetCentreModel", rfl, by decide, rfl, Or.inl rfl, Or.inl (tb4 _ (List.mem_of_getElem? (i := 5) (by decide +kernel)))⟩
theorem f_MO_124 : FL "SeptetCentreModel" 124 8 2 "I" := ⟨_, "SeptetCentreModel", rfl, by decide, rfl, Or.inl rfl, Or.inl (tb4 _ (List.mem_of_getElem? (i := 6) (by decide +kernel)))⟩
theorem f_MO_13 : FL "SeptetCentreModel" 13 8 3 "[I" := ⟨_, "SeptetCentreModel", rfl, by decide, rfl, Or.inl rfl, Or.inl (tb4 _ (List.mem_of_getElem? (i := 7) (by decide +kernel)))⟩
theorem f_MO_16 : FL "SeptetCentreModel" 16 8 4 "[J" := ⟨_, "SeptetCentreModel", rfl, by decide, rfl, Or.inl rfl, Or.inl (tb4 _ (List.mem_of_getElem? (i := 8) (by decide +kernel)))⟩
theorem f_MO_20 : FL "SeptetCentreModel" 20 8 5 "[Z" := ⟨_, "SeptetCentreModel", rfl, by decide, rfl, Or.inl rfl, Or.inl (tb4 _ (List.mem_of_getElem? (i := 9) (by decide +kernel)))⟩
theorem f_MO_24 : FL "SeptetCentreModel" 24 8 6 "[I" := ⟨_, "SeptetCentreModel", rfl, by decide, rfl, Or.inl rfl, Or.inl (tb4 _ (List.mem_of_getElem? (i := 10) (by decide +kernel)))⟩
theorem f_MO_27 : FL "SeptetCentreModel" 27 8 7 "[I" := ⟨_, "SeptetCentreModel", rfl, by decide, rfl, Or.inl rfl, Or.inl (tb4 _ (List.mem_of_getElem? (i := 11) (by decide +kernel)))⟩
theorem f_MO_30 : FL "SeptetCentreModel" 30 8 8 "[I" := ⟨_, "SeptetCentreModel", rfl, by decide, rfl, Or.inl rfl, Or.inl (tb4 _ (List.mem_of_getElem? (i := 12) (by decide +kernel)))⟩
theorem f_MO_33 : FL "SeptetCentreModel" 33 8 9 "[I" := ⟨_, "SeptetCentreModel", rfl, by decide, rfl, Or.inl rfl, Or.inl (tb4 _ (List.mem_of_getElem? (i := 13) (by decide +kernel)))⟩
theorem f_MO_36 : FL "SeptetCentreModel" 36 8 10 "[J" := ⟨_, "SeptetCentreModel", rfl, by decide, rfl, Or.inl rfl, Or.inl (tb4 _ (List.mem_of_getElem? (i := 14) (by decide +kernel)))⟩
theorem f_MO_131 : FL "SeptetCentreModel" 131 8 11 "I" := ⟨_, "SeptetCentreModel", rfl, by decide, rfl, Or.inl rfl, Or.inl (tb4 _ (List.mem_of_getElem? (i := 15) (by decide +kernel)))⟩
theorem f_MO_39 : FL "SeptetCentreModel" 39 8 12 "[I" := ⟨_, "SeptetCentreModel", rfl, by decide, rfl, Or.inl rfl, Or.inl (tb4 _ (List.mem_of_getElem? (i := 16) (by decide +kernel)))⟩
theorem f_MO_42 : FL "SeptetCentreModel" 42 8 13 "[I" := ⟨_, "SeptetCentreModel", rfl, by decide, rfl, Or.inl rfl, Or.inl (tb4 _ (List.mem_of_getElem? (i := 17) (by decide +kernel)))⟩
theorem f_MO_45 : FL "SeptetCentreModel" 45 8 14 "[I" := ⟨_, "SeptetCentreModel", rfl, by decide, rfl, Or.inl rfl, Or.inl (tb4 _ (List.mem_of_getElem? (i := 18) (by decide +kernel)))⟩
theorem f_MO_48 : FL "SeptetCentreModel" 48 8 15 "[I" := ⟨_, "SeptetCentreModel", rfl, by decide, rfl, Or.inl rfl, Or.inl (tb4 _ (List.mem_of_getElem? (i := 19) (by decide +kernel)))⟩
theorem f_MO_51 : FL "SeptetCentreModel" 51 8 16 "[I" := ⟨_, "SeptetCentreModel", rfl, by decide, rfl, Or.inl rfl, Or.inl (tb4 _ (List.mem_of_getElem? (i := 20) (by decide +kernel)))⟩
theorem f_MO_214 : FL "SeptetCentreModel" 214 8 17 "I" := ⟨_, "SeptetCentreModel", rfl, by decide, rfl, Or.inl rfl, Or.inl (tb4 _ (List.mem_of_getElem? (i := 21) (by decide +kernel)))⟩
theorem f_MO_211 : FL "SeptetCentreModel" 211 8 18 "I" := ⟨_, "SeptetCentreModel", rfl, by decide, rfl, Or.inl rfl, Or.inl (tb4 _ (List.mem_of_getElem? (i := 22) (by decide +kernel)))⟩
theorem f_MO_226 : FL "SeptetCentreModel" 226 8 19 "I" := ⟨_, "SeptetCentreModel", rfl, by decide, rfl, Or.inl rfl, Or.inl (tb4 _ (List.mem_of_getElem? (i := 23) (by decide +kernel)))⟩
theorem f_MO_54 : FL "SeptetCentreModel" 54 8 20 "[I" := ⟨_, "SeptetCentreModel", rfl, by decide, rfl, Or.inl rfl, Or.inl (tb4 _ (List.mem_of_getElem? (i := 24) (by decide +kernel)))⟩
theorem f_MO_57 : FL "SeptetCentreModel" 57 8 21 "[I" := ⟨_, "SeptetCentreModel", rfl, by decide, rfl, Or.inl rfl, Or.inl (tb4 _ (List.mem_of_getElem? (i := 25) (by decide +kernel)))⟩
theorem f_MO_60 : FL "SeptetCentreModel" 60 8 22 "[J" := ⟨_, "SeptetCentreModel", rfl, by decide, rfl, Or.inl rfl, Or.inl (tb4 _ (List.mem_of_getElem? (i := 26) (by decide +kernel)))⟩
theorem f_MO_63 : FL "SeptetCentreModel" 63 8 23 "[J" := ⟨_, "SeptetCentreModel", rfl, by decide, rfl, Or.inl rfl, Or.inl (tb4 _ (List.mem_of_getElem? (i := 27) (by decide +kernel)))⟩
theorem f_MO_66 : FL "SeptetCentreModel" 66 8 24 "[Z" := ⟨_, "SeptetCentreModel", rfl, by decide, rfl, Or.inl rfl, Or.inl (tb4 _ (List.mem_of_getElem? (i := 28) (by decide +kernel)))⟩
theorem f_MO_69 : FL "SeptetCentreModel" 69 8 25 "[Z" := ⟨_, "SeptetCentreModel", rfl, by decide, rfl, Or.inl rfl, Or.inl (tb4 _ (List.mem_of_getElem? (i := 29) (by decide +kernel)))⟩
theorem f_MO_72 : FL "SeptetCentreModel" 72 8 26 "[I" := ⟨_, "SeptetCentreModel", rfl, by decide, rfl, Or.inl rfl, Or.inl (tb4 _ (List.mem_of_getElem? (i := 30) (by decide +kernel)))⟩
theorem f_MO_75 : FL "SeptetCentreModel" 75 8 27 "[I" := ⟨_, "SeptetCentreModel", rfl, by decide, rfl, Or.inl rfl, Or.inl (tb4 _ (List.mem_of_getElem? (i := 31) (by decide +kernel)))⟩
theorem f_MO_78 : FL "SeptetCentreModel" 78 8 28 "[I" := ⟨_, "SeptetCentreModel", rfl, by decide, rfl, Or.inl rfl, Or.inl (tb4 _ (List.mem_of_getElem? (i := 32) (by decide +kernel)))⟩
theorem f_MO_81 : FL "SeptetCentreModel" 81 8 29 "[I" := ⟨_, "SeptetCentreModel", rfl, by decide, rfl, Or.inl rfl, Or.inl (tb4 _ (List.mem_of_getElem? (i := 33) (by decide +kernel)))⟩
theorem f_MO_84 : FL "SeptetCentreModel" 84 8 30 "[I" := ⟨_, "SeptetCentreModel", rfl, by decide, rfl, Or.inl rfl, Or.inl (tb4 _ (List.mem_of_getElem? (i := 34) (by decide +kernel)))⟩
theorem f_MO_87 : FL "SeptetCentreModel" 87 8 31 "[I" := ⟨_, "SeptetCentreModel", rfl, by decide, rfl, Or.inl rfl, Or.inl (tb4 _ (List.mem_of_getElem? (i := 35) (by decide +kernel)))⟩
theorem f_MO_90 : FL "SeptetCentreModel" 90 8 32 "[Z" := ⟨_, "SeptetCentreModel", rfl, by decide, rfl, Or.inl rfl, Or.inl (tb4 _ (List.mem_of_getElem? (i := 36) (by decide +kernel)))⟩
theorem f_MO_93 : FL "SeptetCentreModel" 93 8 33 "[I" := ⟨_, "SeptetCentreModel", rfl, by decide, rfl, Or.inl rfl, Or.inl (tb4 _ (List.mem_of_getElem? (i := 37) (by decide +kernel)))⟩
theorem f_MO_96 : FL "SeptetCentreModel" 96 8 34 "[I" := ⟨_, "SeptetCentreModel", rfl, by decide, rfl, Or.inl rfl, Or.inl (tb4 _ (List.mem_of_getElem? (i := 38) (by decide +kernel)))⟩
theorem f_MO_99 : FL "SeptetCentreModel" 99 8 35 "[J" := ⟨_, "SeptetCentreModel", rfl, by decide, rfl, Or.inl rfl, Or.inl (tb4 _ (List.mem_of_getElem? (i := 39) (by decide +kernel)))⟩
theorem f_MO_102 : FL "SeptetCentreModel" 102 8 36 "[I" := ⟨_, "SeptetCentreModel", rfl, by decide, rfl, Or.inl rfl, Or.inl (tb4 _ (List.mem_of_getElem? (i := 40) (by decide +kernel)))⟩
theorem f_MO_105 : FL "SeptetCentreModel" 105 8 37 "[I" := ⟨_, "SeptetCentreModel", rfl, by decide, rfl, Or.inl rfl, Or.inl (tb4 _ (List.mem_of_getElem? (i := 41) (by decide +kernel)))⟩
theorem f_MO_108 : FL "SeptetCentreModel" 108 8 38 "[I" := ⟨_, "SeptetCentreModel", rfl, by decide, rfl, Or.inl rfl, Or.inl (tb4 _ (List.mem_of_getElem? (i := 42) (by decide +kernel)))⟩
theorem f_MO_111 : FL "SeptetCentreModel" 111 8 39 "[I" := ⟨_, "SeptetCentreModel", rfl, by decide, rfl, Or.inl rfl, Or.inl (tb4 _ (List.mem_of_getElem? (i := 43) (by decide +kernel)))⟩
theorem f_MO_114 : FL "SeptetCentreModel" 114 8 40 "[I" := ⟨_, "SeptetCentreModel", rfl, by decide, rfl, Or.inl rfl, Or.inl (tb4 _ (List.mem_of_getElem? (i := 44) (by decide +kernel)))⟩
theorem f_Me_113 : Cond.fieldLink "SeptetCentre$Message" 113 "SeptetCentre$Fate" "reported" "I" ∈ lw_tbl := tb5 _ (List.mem_of_getElem? (i := 125) (by decide +kernel))
theorem f_SC_196 : Cond.fieldLink "SeptetCentre" 196 "SeptetCentre$Fate" "answer" "I" ∈ lw_tbl := tb5 _ (List.mem_of_getElem? (i := 126) (by decide +kernel))
theorem fo_0_5 (M : MM) : FinOk M 0 5 := ⟨_, rfl, Or.inl rfl⟩
theorem fo_2_0 (M : MM) : FinOk M 2 0 := ⟨_, rfl, Or.inl rfl⟩
theorem fo_2_1 (M : MM) : FinOk M 2 1 := ⟨_, rfl, Or.inl rfl⟩
theorem fo_2_2 (M : MM) : FinOk M 2 2 := ⟨_, rfl, Or.inl rfl⟩
theorem fo_3_1 (M : MM) : FinOk M 3 1 := ⟨_, rfl, Or.inl rfl⟩
theorem fo_4_0 (M : MM) : FinOk M 4 0 := ⟨_, rfl, Or.inl rfl⟩
theorem fo_4_1 (M : MM) : FinOk M 4 1 := ⟨_, rfl, Or.inl rfl⟩
theorem fo_4_4 (M : MM) : FinOk M 4 4 := ⟨_, rfl, Or.inl rfl⟩
theorem fo_4_5 (M : MM) : FinOk M 4 5 := ⟨_, rfl, Or.inl rfl⟩
theorem fo_4_8 (M : MM) : FinOk M 4 8 := ⟨_, rfl, Or.inl rfl⟩
theorem fo_4_9 (M : MM) : FinOk M 4 9 := ⟨_, rfl, Or.inl rfl⟩
theorem fo_5_1 (M : MM) : FinOk M 5 1 := ⟨_, rfl, Or.inl rfl⟩
theorem fo_6_4 (M : MM) : FinOk M 6 4 := ⟨_, rfl, Or.inl rfl⟩
theorem fo_6_7 (M : MM) : FinOk M 6 7 := ⟨_, rfl, Or.inl rfl⟩
theorem fo_6_8 (M : MM) : FinOk M 6 8 := ⟨_, rfl, Or.inl rfl⟩
theorem fo_7_3 (M : MM) : FinOk M 7 3 := ⟨_, rfl, Or.inl rfl⟩
theorem fo_8_0 (M : MM) : FinOk M 8 0 := ⟨_, rfl, Or.inl rfl⟩
theorem fo_8_1 (M : MM) : FinOk M 8 1 := ⟨_, rfl, Or.inl rfl⟩
theorem fo_8_2 (M : MM) : FinOk M 8 2 := ⟨_, rfl, Or.inl rfl⟩
theorem fo_8_3 (M : MM) : FinOk M 8 3 := ⟨_, rfl, Or.inl rfl⟩
theorem fo_8_4 (M : MM) : FinOk M 8 4 := ⟨_, rfl, Or.inl rfl⟩
theorem fo_8_5 (M : MM) : FinOk M 8 5 := ⟨_, rfl, Or.inl rfl⟩
theorem fo_8_6 (M : MM) : FinOk M 8 6 := ⟨_, rfl, Or.inl rfl⟩
theorem fo_8_7 (M : MM) : FinOk M 8 7 := ⟨_, rfl, Or.inl rfl⟩
theorem fo_8_8 (M : MM) : FinOk M 8 8 := ⟨_, rfl, Or.inl rfl⟩
theorem fo_8_9 (M : MM) : FinOk M 8 9 := ⟨_, rfl, Or.inl rfl⟩
theorem fo_8_10 (M : MM) : FinOk M 8 10 := ⟨_, rfl, Or.inl rfl⟩
theorem fo_8_11 (M : MM) : FinOk M 8 11 := ⟨_, rfl, Or.inl rfl⟩
theorem fo_8_12 (M : MM) : FinOk M 8 12 := ⟨_, rfl, Or.inl rfl⟩
theorem fo_8_13 (M : MM) : FinOk M 8 13 := ⟨_, rfl, Or.inl rfl⟩
theorem fo_8_14 (M : MM) : FinOk M 8 14 := ⟨_, rfl, Or.inl rfl⟩
theorem fo_8_15 (M : MM) : FinOk M 8 15 := ⟨_, rfl, Or.inl rfl⟩
theorem fo_8_16 (M : MM) : FinOk M 8 16 := ⟨_, rfl, Or.inl rfl⟩
theorem fo_8_17 (M : MM) : FinOk M 8 17 := ⟨_, rfl, Or.inl rfl⟩
theorem fo_8_18 (M : MM) : FinOk M 8 18 := ⟨_, rfl, Or.inl rfl⟩
theorem fo_8_19 (M : MM) : FinOk M 8 19 := ⟨_, rfl, Or.inl rfl⟩
theorem fo_8_20 (M : MM) : FinOk M 8 20 := ⟨_, rfl, Or.inl rfl⟩
theorem fo_8_21 (M : MM) : FinOk M 8 21 := ⟨_, rfl, Or.inl rfl⟩
theorem fo_8_22 (M : MM) : FinOk M 8 22 := ⟨_, rfl, Or.inl rfl⟩
theorem fo_8_23 (M : MM) : FinOk M 8 23 := ⟨_, rfl, Or.inl rfl⟩
theorem fo_8_24 (M : MM) : FinOk M 8 24 := ⟨_, rfl, Or.inl rfl⟩
theorem fo_8_25 (M : MM) : FinOk M 8 25 := ⟨_, rfl, Or.inl rfl⟩
theorem fo_8_26 (M : MM) : FinOk M 8 26 := ⟨_, rfl, Or.inl rfl⟩
theorem fo_8_27 (M : MM) : FinOk M 8 27 := ⟨_, rfl, Or.inl rfl⟩
theorem fo_8_28 (M : MM) : FinOk M 8 28 := ⟨_, rfl, Or.inl rfl⟩
theorem fo_8_29 (M : MM) : FinOk M 8 29 := ⟨_, rfl, Or.inl rfl⟩
theorem fo_8_30 (M : MM) : FinOk M 8 30 := ⟨_, rfl, Or.inl rfl⟩
theorem fo_8_31 (M : MM) : FinOk M 8 31 := ⟨_, rfl, Or.inl rfl⟩
theorem fo_8_32 (M : MM) : FinOk M 8 32 := ⟨_, rfl, Or.inl rfl⟩
theorem fo_8_33 (M : MM) : FinOk M 8 33 := ⟨_, rfl, Or.inl rfl⟩
theorem fo_8_34 (M : MM) : FinOk M 8 34 := ⟨_, rfl, Or.inl rfl⟩
theorem fo_8_35 (M : MM) : FinOk M 8 35 := ⟨_, rfl, Or.inl rfl⟩
theorem fo_8_36 (M : MM) : FinOk M 8 36 := ⟨_, rfl, Or.inl rfl⟩
theorem fo_8_37 (M : MM) : FinOk M 8 37 := ⟨_, rfl, Or.inl rfl⟩
theorem fo_8_38 (M : MM) : FinOk M 8 38 := ⟨_, rfl, Or.inl rfl⟩
theorem fo_8_39 (M : MM) : FinOk M 8 39 := ⟨_, rfl, Or.inl rfl⟩
theorem fo_8_40 (M : MM) : FinOk M 8 40 := ⟨_, rfl, Or.inl rfl⟩
/-! others -/
theorem k_AS_200 : Cond.constant "jdk/internal/util/ArraysSupport" 200 (2147483639 : Int32) ∈ lw_tbl := tb2 _ (List.mem_of_getElem? (i := 105) (by decide +kernel))
theorem k_SC_129 : Cond.constant "SeptetCentre" 129 (100000 : Int32) ∈ lw_tbl := tb3 _ (List.mem_of_getElem? (i := 41) (by decide +kernel))
theorem k_SC_130 : Cond.constant "SeptetCentre" 130 (1000000 : Int32) ∈ lw_tbl := tb3 _ (List.mem_of_getElem? (i := 42) (by decide +kernel))
theorem k_MO_246 : Cond.constant "SeptetCentreModel" 246 (100000 : Int32) ∈ lw_tbl := tb5 _ (List.mem_of_getElem? (i := 20) (by decide +kernel))
theorem k_SC_202 : Cond.constantLong "SeptetCentre" 202 (999999999999 : Int64) ∈ lw_tbl := tb1 _ (List.mem_of_getElem? (i := 166) (by decide +kernel))
theorem k_Ro_17 : Cond.constantLong "SeptetCentre$Row" 17 (10 : Int64) ∈ lw_tbl := tb2 _ (List.mem_of_getElem? (i := 0) (by decide +kernel))
theorem k_MO_185 : Cond.constantLong "SeptetCentreModel" 185 (999999999999 : Int64) ∈ lw_tbl := tb4 _ (List.mem_of_getElem? (i := 140) (by decide +kernel))
theorem k_MO_134 : Cond.constantLong "SeptetCentreModel" 134 (10 : Int64) ∈ lw_tbl := tb4 _ (List.mem_of_getElem? (i := 193) (by decide +kernel))
theorem k_LW_13 : Cond.constantLong "SeptetCentreLaw" 13 (4294967295 : Int64) ∈ lw_tbl := tb5 _ (List.mem_of_getElem? (i := 109) (by decide +kernel))
theorem k_LW_7 : Cond.classLink "SeptetCentreLaw" 7 "SeptetCentre" ∈ lw_tbl := tb1 _ (List.mem_of_getElem? (i := 22) (by decide +kernel))
theorem k_SC_9 : Cond.classLink "SeptetCentre" 9 "SeptetCentre$Device" ∈ lw_tbl := tb1 _ (List.mem_of_getElem? (i := 30) (by decide +kernel))
theorem k_SC_15 : Cond.classLink "SeptetCentre" 15 "SeptetCentre$Line" ∈ lw_tbl := tb1 _ (List.mem_of_getElem? (i := 32) (by decide +kernel))
theorem k_Li_7 : Cond.classLink "SeptetCentre$Line" 7 "java/util/ArrayList" ∈ lw_tbl := tb1 _ (List.mem_of_getElem? (i := 38) (by decide +kernel))
theorem k_SC_24 : Cond.classLink "SeptetCentre" 24 "SeptetCentre$Draft" ∈ lw_tbl := tb1 _ (List.mem_of_getElem? (i := 71) (by decide +kernel))
theorem k_SC_31 : Cond.classLink "SeptetCentre" 31 "java/util/ArrayList" ∈ lw_tbl := tb1 _ (List.mem_of_getElem? (i := 86) (by decide +kernel))
theorem k_De_7 : Cond.classLink "SeptetCentre$Device" 7 "SeptetCentre$Line" ∈ lw_tbl := tb1 _ (List.mem_of_getElem? (i := 93) (by decide +kernel))
theorem k_De_21 : Cond.classLink "SeptetCentre$Device" 21 "java/util/ArrayList" ∈ lw_tbl := tb1 _ (List.mem_of_getElem? (i := 95) (by decide +kernel))
theorem k_SC_84 : Cond.classLink "SeptetCentre" 84 "SeptetCentre$Row" ∈ lw_tbl := tb1 _ (List.mem_of_getElem? (i := 232) (by decide +kernel))
theorem k_Ar_110 : Cond.classLink "java/util/Arrays" 110 "[Ljava/lang/Object;" ∈ lw_tbl := tb2 _ (List.mem_of_getElem? (i := 129) (by decide +kernel))
theorem k_Ar_2 : Cond.classLink "java/util/Arrays" 2 "java/lang/Object" ∈ lw_tbl := tb2 _ (List.mem_of_getElem? (i := 131) (by decide +kernel))
theorem k_AL_7 : Cond.classLink "java/util/ArrayList" 7 "java/lang/Object" ∈ lw_tbl := tb2 _ (List.mem_of_getElem? (i := 139) (by decide +kernel))
theorem k_Li_36 : Cond.classLink "SeptetCentre$Line" 36 "SeptetCentre$Row" ∈ lw_tbl := tb2 _ (List.mem_of_getElem? (i := 170) (by decide +kernel))
theorem k_SC_117 : Cond.classLink "SeptetCentre" 117 "SeptetCentre$Message" ∈ lw_tbl := tb2 _ (List.mem_of_getElem? (i := 229) (by decide +kernel))
theorem k_Me_42 : Cond.classLink "SeptetCentre$Message" 42 "SeptetCentre$Row" ∈ lw_tbl := tb3 _ (List.mem_of_getElem? (i := 69) (by decide +kernel))
theorem k_De_80 : Cond.classLink "SeptetCentre$Device" 80 "SeptetCentre$Pile" ∈ lw_tbl := tb3 _ (List.mem_of_getElem? (i := 129) (by decide +kernel))
theorem k_Pi_17 : Cond.classLink "SeptetCentre$Pile" 17 "SeptetCentre$Row" ∈ lw_tbl := tb3 _ (List.mem_of_getElem? (i := 140) (by decide +kernel))
theorem k_LW_10 : Cond.classLink "SeptetCentreLaw" 10 "SeptetCentreModel" ∈ lw_tbl := tb3 _ (List.mem_of_getElem? (i := 238) (by decide +kernel))
theorem kI_0 : Cond.instantiable "SeptetCentre" 6 ∈ lw_tbl := tb1 _ (List.mem_of_getElem? (i := 23) (by decide +kernel))
theorem kJ_0 : Cond.initialized "SeptetCentre" ∈ lw_tbl := tb1 _ (List.mem_of_getElem? (i := 1) (by decide +kernel))
theorem kI_1 : Cond.instantiable "SeptetCentre$Line" 2 ∈ lw_tbl := tb1 _ (List.mem_of_getElem? (i := 33) (by decide +kernel))
theorem kJ_1 : Cond.initialized "SeptetCentre$Line" ∈ lw_tbl := tb1 _ (List.mem_of_getElem? (i := 2) (by decide +kernel))
theorem kI_2 : Cond.instantiable "java/util/ArrayList" 3 ∈ lw_tbl := tb1 _ (List.mem_of_getElem? (i := 39) (by decide +kernel))
theorem kJ_2 : Cond.initialized "java/util/ArrayList" ∈ lw_tbl := tb1 _ (List.mem_of_getElem? (i := 5) (by decide +kernel))
theorem kI_3 : Cond.instantiable "SeptetCentre$Draft" 2 ∈ lw_tbl := tb1 _ (List.mem_of_getElem? (i := 72) (by decide +kernel))
theorem kJ_3 : Cond.initialized "SeptetCentre$Draft" ∈ lw_tbl := tb1 _ (List.mem_of_getElem? (i := 6) (by decide +kernel))
theorem kI_4 : Cond.instantiable "SeptetCentre$Device" 10 ∈ lw_tbl := tb1 _ (List.mem_of_getElem? (i := 88) (by decide +kernel))
theorem kJ_4 : Cond.initialized "SeptetCentre$Device" ∈ lw_tbl := tb1 _ (List.mem_of_getElem? (i := 7) (by decide +kernel))
theorem kI_5 : Cond.instantiable "SeptetCentre$Row" 3 ∈ lw_tbl := tb1 _ (List.mem_of_getElem? (i := 233) (by decide +kernel))
theorem kJ_5 : Cond.initialized "SeptetCentre$Row" ∈ lw_tbl := tb1 _ (List.mem_of_getElem? (i := 10) (by decide +kernel))
theorem kI_6 : Cond.instantiable "SeptetCentre$Message" 9 ∈ lw_tbl := tb2 _ (List.mem_of_getElem? (i := 230) (by decide +kernel))
theorem kJ_6 : Cond.initialized "SeptetCentre$Message" ∈ lw_tbl := tb1 _ (List.mem_of_getElem? (i := 18) (by decide +kernel))
theorem kI_7 : Cond.instantiable "SeptetCentre$Pile" 4 ∈ lw_tbl := tb3 _ (List.mem_of_getElem? (i := 135) (by decide +kernel))
theorem kJ_7 : Cond.initialized "SeptetCentre$Pile" ∈ lw_tbl := tb1 _ (List.mem_of_getElem? (i := 21) (by decide +kernel))
theorem kI_8 : Cond.instantiable "SeptetCentreModel" 41 ∈ lw_tbl := tb3 _ (List.mem_of_getElem? (i := 239) (by decide +kernel))
theorem kJ_8 : Cond.initialized "SeptetCentreModel" ∈ lw_tbl := tb1 _ (List.mem_of_getElem? (i := 8) (by decide +kernel))
theorem kC_5 : Cond.castable "SeptetCentre$Row" "SeptetCentre$Row" ∈ lw_tbl := tb5 _ (List.mem_of_getElem? (i := 110) (by decide +kernel))
theorem kC_6 : Cond.castable "SeptetCentre$Message" "SeptetCentre$Message" ∈ lw_tbl := tb5 _ (List.mem_of_getElem? (i := 111) (by decide +kernel))
theorem kC_7 : Cond.castable "SeptetCentre$Pile" "SeptetCentre$Pile" ∈ lw_tbl := tb5 _ (List.mem_of_getElem? (i := 112) (by decide +kernel))
theorem kC_0o : Cond.castable "SeptetCentre" "java/lang/Object" ∈ lw_tbl := tb5 _ (List.mem_of_getElem? (i := 116) (by decide +kernel))
theorem kC_1o : Cond.castable "SeptetCentre$Line" "java/lang/Object" ∈ lw_tbl := tb5 _ (List.mem_of_getElem? (i := 117) (by decide +kernel))
theorem kC_3o : Cond.castable "SeptetCentre$Draft" "java/lang/Object" ∈ lw_tbl := tb5 _ (List.mem_of_getElem? (i := 118) (by decide +kernel))
theorem kC_4o : Cond.castable "SeptetCentre$Device" "java/lang/Object" ∈ lw_tbl := tb5 _ (List.mem_of_getElem? (i := 119) (by decide +kernel))
theorem kC_8o : Cond.castable "SeptetCentreModel" "java/lang/Object" ∈ lw_tbl := tb5 _ (List.mem_of_getElem? (i := 120) (by decide +kernel))
theorem kC_5o : Cond.castable "SeptetCentre$Row" "java/lang/Object" ∈ lw_tbl := tb5 _ (List.mem_of_getElem? (i := 121) (by decide +kernel))
theorem kC_6o : Cond.castable "SeptetCentre$Message" "java/lang/Object" ∈ lw_tbl := tb5 _ (List.mem_of_getElem? (i := 122) (by decide +kernel))
theorem kC_7o : Cond.castable "SeptetCentre$Pile" "java/lang/Object" ∈ lw_tbl := tb5 _ (List.mem_of_getElem? (i := 123) (by decide +kernel))
theorem kA_i : Cond.arrayClass FieldType.int ∈ lw_tbl := tb1 _ (List.mem_of_getElem? (i := 85) (by decide +kernel))
theorem kA_l : Cond.arrayClass FieldType.long ∈ lw_tbl := tb4 _ (List.mem_of_getElem? (i := 128) (by decide +kernel))
theorem kA_z : Cond.arrayClass FieldType.boolean ∈ lw_tbl := tb4 _ (List.mem_of_getElem? (i := 129) (by decide +kernel))
theorem kO_3 : Cond.arrayOver (FieldType.object "java/lang/Object") ∈ lw_tbl := tb2 _ (List.mem_of_getElem? (i := 130) (by decide +kernel))
theorem kO_4 : Cond.arrayOver (FieldType.object "SeptetCentre$Row") ∈ lw_tbl := tb3 _ (List.mem_of_getElem? (i := 141) (by decide +kernel))
theorem kO_5 : Cond.arrayOver (FieldType.object "SeptetCentre$Device") ∈ lw_tbl := tb1 _ (List.mem_of_getElem? (i := 31) (by decide +kernel))
theorem kx_n : Cond.instanceMethod objectInit ∈ lw_tbl := tb1 _ (List.mem_of_getElem? (i := 28) (by decide +kernel))
theorem kx_c : Cond.code objectInit ⟨#[0xb1]⟩ 1 none ∈ lw_tbl := tb1 _ (List.mem_of_getElem? (i := 29) (by decide +kernel))
theorem kx_SC : Cond.methodLink "SeptetCentre" 1 objectInit ∈ lw_tbl := tb1 _ (List.mem_of_getElem? (i := 27) (by decide +kernel))
theorem kx_Li : Cond.methodLink "SeptetCentre$Line" 1 objectInit ∈ lw_tbl := tb1 _ (List.mem_of_getElem? (i := 37) (by decide +kernel))
theorem kx_AbC : Cond.methodLink "java/util/AbstractCollection" 1 objectInit ∈ lw_tbl := tb1 _ (List.mem_of_getElem? (i := 49) (by decide +kernel))
theorem kx_Dr : Cond.methodLink "SeptetCentre$Draft" 1 objectInit ∈ lw_tbl := tb1 _ (List.mem_of_getElem? (i := 76) (by decide +kernel))
theorem kx_De : Cond.methodLink "SeptetCentre$Device" 1 objectInit ∈ lw_tbl := tb1 _ (List.mem_of_getElem? (i := 92) (by decide +kernel))
theorem kx_Ro : Cond.methodLink "SeptetCentre$Row" 1 objectInit ∈ lw_tbl := tb2 _ (List.mem_of_getElem? (i := 10) (by decide +kernel))
theorem kx_Me : Cond.methodLink "SeptetCentre$Message" 1 objectInit ∈ lw_tbl := tb2 _ (List.mem_of_getElem? (i := 234) (by decide +kernel))
theorem kx_Pi : Cond.methodLink "SeptetCentre$Pile" 1 objectInit ∈ lw_tbl := tb3 _ (List.mem_of_getElem? (i := 139) (by decide +kernel))
theorem kx_MO : Cond.methodLink "SeptetCentreModel" 1 objectInit ∈ lw_tbl := tb4 _ (List.mem_of_getElem? (i := 3) (by decide +kernel))
theorem kz_AS_194 : Cond.methodLink "jdk/internal/util/ArraysSupport" 194 Lib.Math.max.name ∈ lw_tbl := tb2 _ (List.mem_of_getElem? (i := 102) (by decide +kernel))
theorem kz_Ar_86 : Cond.methodLink "java/util/Arrays" 86 yGetC ∈ lw_tbl := tb2 _ (List.mem_of_getElem? (i := 112) (by decide +kernel))
theorem kz_Ar_304 : Cond.methodLink "java/util/Arrays" 304 Lib.Math.min.name ∈ lw_tbl := tb2 _ (List.mem_of_getElem? (i := 132) (by decide +kernel))
theorem kz_Ar_150 : Cond.methodLink "java/util/Arrays" 150 arraycopyName ∈ lw_tbl := tb2 _ (List.mem_of_getElem? (i := 135) (by decide +kernel))
theorem kz_AL_79 : Cond.methodLink "java/util/ArrayList" 79 Lib.Math.max.name ∈ lw_tbl := tb2 _ (List.mem_of_getElem? (i := 138) (by decide +kernel))
theorem kz_AL_112 : Cond.methodLink "java/util/ArrayList" 112 arraycopyName ∈ lw_tbl := tb2 _ (List.mem_of_getElem? (i := 193) (by decide +kernel))
theorem kz_Me_62 : Cond.methodLink "SeptetCentre$Message" 62 Lib.Math.min.name ∈ lw_tbl := tb3 _ (List.mem_of_getElem? (i := 52) (by decide +kernel))
theorem kz_nc : Cond.native arraycopyName ∈ lw_tbl := tb2 _ (List.mem_of_getElem? (i := 137) (by decide +kernel))
theorem kz_sc : Cond.static arraycopyName ∈ lw_tbl := tb2 _ (List.mem_of_getElem? (i := 136) (by decide +kernel))
theorem kz_ng : Cond.native yGetC ∈ lw_tbl := tb2 _ (List.mem_of_getElem? (i := 125) (by decide +kernel))
theorem kz_ig : Cond.instanceMethod yGetC ∈ lw_tbl := tb2 _ (List.mem_of_getElem? (i := 113) (by decide +kernel))
theorem kz_dg : Cond.declares yGetC ∈ lw_tbl := tb5 _ (List.mem_of_getElem? (i := 115) (by decide +kernel))
theorem kz_sm : Cond.static Lib.Math.min.name ∈ lw_tbl := tb2 _ (List.mem_of_getElem? (i := 133) (by decide +kernel))
theorem kz_sx : Cond.static Lib.Math.max.name ∈ lw_tbl := tb2 _ (List.mem_of_getElem? (i := 103) (by decide +kernel))
theorem kz_is : Cond.initialized "java/lang/System" ∈ lw_tbl := tb1 _ (List.mem_of_getElem? (i := 14) (by decide +kernel))
theorem kz_im : Cond.initialized "java/lang/Math" ∈ lw_tbl := tb1 _ (List.mem_of_getElem? (i := 12) (by decide +kernel))
theorem kz_cm : Cond.code Lib.Math.min.name Lib.Math.min.code 2 (some .int) ∈ lw_tbl := tb2 _ (List.mem_of_getElem? (i := 134) (by decide +kernel))
theorem kz_cx : Cond.code Lib.Math.max.name Lib.Math.max.code 2 (some .int) ∈ lw_tbl := tb2 _ (List.mem_of_getElem? (i := 104) (by decide +kernel))
theorem kz_vg : Cond.selects "[Ljava/lang/Object;" yGetC yGetC ∈ lw_tbl := tb5 _ (List.mem_of_getElem? (i := 114) (by decide +kernel))