/-! the reference's side -/
/-- a form's place in the alphabet -/
theorem fm_plain : ∀ k : Fin 128, k.val ≠ 27 → ∀ c : Nat, c < 65536 → tabC.getD k.val 0 = nI c → fm c = some k.val := by
  have h1 : ∀ k : Fin 128, k.val ≠ 27 → fm (tabC.getD k.val 0).toNatClampNeg = some k.val := by decide +kernel
  intro k hk c hc e
  have := h1 k hk
  rw [e, nI_clamp (by omega)] at this
  exact this
theorem fm_sec : ∀ k : Fin 128, 0 ≤ secN k.val → ∀ c : Nat, c < 65536 → secN k.val = nI c → fm c = some (128 + k.val) := by
  have h1 : ∀ k : Fin 128, 0 ≤ secN k.val → fm (secN k.val).toNatClampNeg = some (128 + k.val) := by decide +kernel
  intro k hk c hc e
  have := h1 k hk
  rw [e, nI_clamp (by omega)] at this
  exact this
theorem fm_of {c f : Nat} (hc : c < 65536) (h : fm c = some f) : (f < 128 ∧ f ≠ 27 ∧ tabC.getD f 0 = nI c) ∨ (128 ≤ f ∧ f < 256 ∧ secN (f - 128) = nI c) := by
  unfold fm at h
  split at h
  · rename_i j hj
    cases h
    rw [List.find?_range_eq_some] at hj
    have h1 := of_decide_eq_true hj.1
    have h2 := List.mem_range.mp hj.2.1
    refine Or.inl ⟨h2, fun z => ?_, h1⟩
    rw [z] at h1
    have : (nI c).toInt = -1 := by rw [← h1]; rfl
    rw [nI_toInt (by omega)] at this
    omega
  · split at h
    · rename_i j hj
      rw [List.find?_range_eq_some] at hj
      have h1 := of_decide_eq_true hj.1
      have h2 := List.mem_range.mp hj.2.1
      have h3 : ∀ j : Fin 10, tabDn.getD j.val 0 < 128 ∧ secN (128 + tabDn.getD j.val 0 - 128) = tabE.getD j.val 0 := by decide +kernel
      have h4 := h3 ⟨j, h2⟩
      cases h
      refine Or.inr ⟨by omega, by have := h4.1; simp only at this; omega, ?_⟩
      rw [← h1]
      exact h4.2
    · cases h
theorem fm_ne27 {c f : Nat} (hc : c < 65536) (h : fm c = some f) : f ≠ 27 := fun z => by
  rcases fm_of hc h with h1 | h1 <;> omega
/-! cutting, over septets -/
theorem flat_take (gs : List Nat) (i : Nat) : ((gs.take i).flatMap fsep).length = sumS (gs.take i) := flat_len _
theorem flat_at {gs : List Nat} (hg : ∀ g ∈ gs, g ≠ 27) : ∀ (i : Nat), i < gs.length → (bt (gs.flatMap fsep) (sumS (gs.take i)) = 27 ↔ sl (gs.getD i 0) = 2) := by
  intro i hi
  have e : gs.flatMap fsep = (gs.take i).flatMap fsep ++ (fsep (gs.getD i 0) ++ (gs.drop (i + 1)).flatMap fsep) := by
    conv => lhs; rw [← List.take_append_drop i gs, List.flatMap_append, drop_cons hi, List.flatMap_cons]
  rw [e, ← flat_take, show ((gs.take i).flatMap fsep).length = ((gs.take i).flatMap fsep).length + 0 from rfl, bt_app_r]
  have hm : gs.getD i 0 ∈ gs := by
    rw [List.getD_eq_getElem?_getD, List.getElem?_eq_getElem hi]
    exact List.getElem_mem hi
  have h27 := hg _ hm
  generalize gs.getD i 0 = g at *
  unfold fsep sl
  split
  · constructor
    · intro z
      exact absurd z h27
    · intro z
      cases z
  · exact ⟨fun _ => rfl, fun _ => rfl⟩
theorem sumS_take_succ {gs : List Nat} {i : Nat} (hi : i < gs.length) : sumS (gs.take (i + 1)) = sumS (gs.take i) + sl (gs.getD i 0) := by
  have : gs.take (i + 1) = gs.take i ++ [gs.getD i 0] := by
    rw [List.take_succ, List.getD_eq_getElem?_getD, List.getElem?_eq_getElem hi]
    rfl
  rw [this, sumS_app]
  simp [sumS]
theorem sumS_take_lt {gs : List Nat} {i : Nat} (hi : i < gs.length) : sumS (gs.take i) < sumS gs := by
  have h1 := sumS_take_succ hi
  have h2 := (sl_le (gs.getD i 0)).1
  have h3 : sumS gs = sumS (gs.take (i + 1)) + sumS (gs.drop (i + 1)) := by rw [← sumS_app, List.take_append_drop]
  omega
theorem sumS_take_add (gs : List Nat) (i j : Nat) : sumS (gs.take (i + j)) = sumS (gs.take i) + sumS ((gs.drop i).take j) := by
  rw [← sumS_app, List.take_add]
/-- how many parts the cuts make -/
def nP : Nat → List Nat → Nat
  | 0, _ => 0
  | n + 1, gs => if gs.length = 0 then 0 else 1 + nP n (gs.drop (peL 0 gs))
theorem peL_pos {gs : List Nat} (h : gs.length ≠ 0) : 1 ≤ peL 0 gs := by
  cases gs with
  | nil => exact absurd rfl h
  | cons f fs =>
    rw [peL_cons, if_pos (by have := (sl_le f).2; omega)]
    omega
theorem nP_fuel : ∀ (n : Nat) (gs : List Nat) (m : Nat), gs.length ≤ n → gs.length ≤ m → nP n gs = nP m gs
  | 0, gs, m, h, _ => by
    cases m with
    | zero => rfl
    | succ m =>
      show 0 = if gs.length = 0 then 0 else _
      rw [if_pos (by omega)]
  | n + 1, gs, 0, h, h2 => by
    show (if gs.length = 0 then 0 else _) = 0
    rw [if_pos (by omega)]
  | n + 1, gs, m + 1, h, h2 => by
    show (if gs.length = 0 then 0 else 1 + nP n (gs.drop (peL 0 gs))) = if gs.length = 0 then 0 else 1 + nP m (gs.drop (peL 0 gs))
    by_cases c : gs.length = 0
    · rw [if_pos c, if_pos c]
    · rw [if_neg c, if_neg c]
      have := peL_pos c
      rw [nP_fuel n (gs.drop (peL 0 gs)) m (by rw [List.length_drop]; omega) (by rw [List.length_drop]; omega)]
theorem pcL_nP : ∀ (fs : List Nat) (p u : Nat), u ≤ 153 → pcL p u fs = p + nP fs.length (fs.drop (peL u fs))
  | [], p, u, _ => rfl
  | f :: fs, p, u, hu => by
    rw [pcL_cons, peL_cons]
    have h2 := (sl_le f).2
    by_cases c : u + sl f ≤ 153
    · rw [if_pos c, if_pos c, pcL_nP fs p (u + sl f) c, Nat.add_comm 1, List.drop_succ_cons]
      rw [nP_fuel fs.length _ (f :: fs).length (by rw [List.length_drop]; omega) (by rw [List.length_drop, List.length_cons]; omega)]
    · rw [if_neg c, if_neg c, pcL_nP fs (p + 1) (sl f) (by omega), List.drop_zero]
      show _ = p + (if (f :: fs).length = 0 then 0 else 1 + nP fs.length ((f :: fs).drop (peL 0 (f :: fs))))
      rw [if_neg (by simp), peL_cons, if_pos (by omega), Nat.add_comm 1 (peL (0 + sl f) fs), List.drop_succ_cons, Nat.zero_add]
      omega
theorem nP_pc {gs : List Nat} (h : gs.length ≠ 0) : pcL 1 0 gs = nP gs.length gs := by
  rw [pcL_nP gs 1 0 (by decide)]
  have e : gs.length = (gs.length - 1) + 1 := by omega
  conv => rhs; rw [e]
  show _ = if gs.length = 0 then 0 else 1 + nP (gs.length - 1) (gs.drop (peL 0 gs))
  have := peL_pos h
  rw [if_neg h, nP_fuel gs.length _ (gs.length - 1) (by rw [List.length_drop]; omega) (by rw [List.length_drop]; omega)]
theorem nP_step {gs : List Nat} {n : Nat} (h : gs.length ≠ 0) (hn : gs.length ≤ n) : nP n gs = 1 + nP n (gs.drop (peL 0 gs)) := by
  cases n with
  | zero => omega
  | succ n =>
    show (if gs.length = 0 then 0 else 1 + nP n (gs.drop (peL 0 gs))) = _
    have := peL_pos h
    rw [if_neg h, nP_fuel n _ (n + 1) (by rw [List.length_drop]; omega) (by rw [List.length_drop]; omega)]
/-! reading -/
theorem txt_esc {cs : List Nat} (h : isT true cs = true) : ∃ c r, cs = c :: r ∧ 0 ≤ secN c ∧ isT false r = true ∧ txt true cs = secN c :: txt false r := by
  cases cs with
  | nil => cases h
  | cons c r =>
    rw [isT_cons, if_pos rfl] at h
    split at h
    · rename_i c0
      refine ⟨c, r, rfl, c0, h, ?_⟩
      rw [txt_cons, if_neg, if_pos rfl]
      intro z
      rw [z] at c0
      exact absurd c0 (by decide +kernel)
    · cases h
theorem txt_pl {c : Nat} {r : List Nat} (hc : c ≠ 27) (h : isT false (c :: r) = true) : isT false r = true ∧ txt false (c :: r) = tabC.getD c 0 :: txt false r := by
  rw [isT_cons, if_neg (by decide), decide_eq_false hc] at h
  refine ⟨h, ?_⟩
  rw [txt_cons, if_neg hc, if_neg (by decide)]
theorem isT_27 {r : List Nat} (h : isT false (27 :: r) = true) : isT true r = true ∧ txt false (27 :: r) = txt true r := ⟨h, rfl⟩
/-- the first that is earliest -/
theorem erl_range (ms : List SMs) : erl ms = (List.range ms.length).foldl (fun b k => if ms[k]?.any (fun m => mFate m = 0) = true then stp (fun k => mom (mat ms k)) b k else b) none := by
  unfold erl pend
  rw [List.foldl_filter]
/-- a DELIVER's text -/
theorem dlv_seps {sub : List Nat} {frm acc : Nat} : seps (dlvR sub frm acc) (13 + (nd frm + 1) / 2) (fbit sub) (tcount sub (bt sub (sda sub))) = seps sub (sda sub + 1) (fbit sub) (tcount sub (bt sub (sda sub))) := by
  have hs : ∀ bit, sept (dlvR sub frm acc) (13 + (nd frm + 1) / 2) bit = sept sub (sda sub + 1) bit := fun bit => by
    unfold sept
    have h1 := dlv_d sub frm acc (1 + bit / 8 + 1)
    have h2 := dlv_d sub frm acc (1 + bit / 8)
    rw [show 13 + (nd frm + 1) / 2 + bit / 8 + 1 = 12 + (nd frm + 1) / 2 + (1 + bit / 8 + 1) by omega, h1, show 13 + (nd frm + 1) / 2 + bit / 8 = 12 + (nd frm + 1) / 2 + (1 + bit / 8) by omega, h2, show sda sub + 1 + bit / 8 + 1 = sda sub + (1 + bit / 8 + 1) by omega, show sda sub + 1 + bit / 8 = sda sub + (1 + bit / 8) by omega]
  have : ∀ n bit, seps (dlvR sub frm acc) (13 + (nd frm + 1) / 2) bit n = seps sub (sda sub + 1) bit n := by
    intro n
    induction n with
    | zero => intro bit; rfl
    | succ n ih => intro bit; rw [seps_succ, seps_succ, hs, ih]
  exact this _ _
theorem dlv_lt {sub : List Nat} {frm acc : Nat} (hb : ∀ j, bt sub j < 256) (h1 : 1 ≤ frm) (h2 : frm < 1000000000000) : ∀ j, bt (dlvR sub frm acc) j < 256 := by
  refine all_bt (fun x hx => ?_)
  unfold dlvR at hx
  simp only [List.mem_append, List.mem_cons, List.not_mem_nil, or_false] at hx
  rcases hx with ((((z | z) | z) | z) | z) | z
  · rw [z]; split <;> decide
  · exact adr_all h1 h2 x z
  · rw [z]; decide
  · rw [z]; decide
  · exact dgs_all _ _ x z
  · obtain ⟨j, hj, e⟩ := List.mem_iff_getElem.mp (List.mem_of_mem_drop z)
    have := hb j
    unfold bt at this
    rw [List.getD_eq_getElem?_getD, List.getElem?_eq_getElem hj] at this
    rw [← e]
    exact this
/-- what the reference finds in a DELIVER -/
theorem DX.all {bs : List Nat} (X : DX bs) : (∀ j, bt bs j < 256) ∧ bs.length ≤ 160 ∧ (bt bs 0 = 68 ↔ hdr bs = true) ∧ 1 ≤ bt bs 1 ∧ bt bs 1 ≤ 12 ∧ (∀ k, k < bt bs 1 → nib bs 3 k ≤ 9) ∧ 12 + (bt bs 1 + 1) / 2 < bs.length ∧ 13 + (bt bs 1 + 1) / 2 + (7 * bt bs (12 + (bt bs 1 + 1) / 2) + 7) / 8 = bs.length ∧ bt bs (12 + (bt bs 1 + 1) / 2) ≤ 160 ∧ (hdr bs = true → 7 ≤ bt bs (12 + (bt bs 1 + 1) / 2)) ∧ isT false (seps bs (13 + (bt bs 1 + 1) / 2) (fbit bs) (tcount bs (bt bs (12 + (bt bs 1 + 1) / 2)))) = true := by
  obtain ⟨sub, frm, acc, rfl, L, hb, f1, f2⟩ := X
  have hn := nd_ok f1 f2
  have hK := dlv_DK (acc := acc) L hb f1 f2
  have hd0 : bt (dlvR sub frm acc) (12 + (nd frm + 1) / 2) = bt sub (sda sub) := dlv_d sub frm acc 0
  have hh := dlv_hdr sub frm acc
  have hf : fbit (dlvR sub frm acc) = fbit sub := by unfold fbit; rw [hh]
  have ht : tcount (dlvR sub frm acc) (bt sub (sda sub)) = tcount sub (bt sub (sda sub)) := by unfold tcount; rw [hh]
  have hu := L.2.2.2
  obtain ⟨u1, u2, u3, u4, u5, u6⟩ := hu
  have hlen := dlv_len (sub := sub) (frm := frm) (acc := acc)
  rw [dlv_1, hd0, hh, hf, ht, dlv_seps]
  refine ⟨dlv_lt hb f1 f2, hK.1, ?_, hn.1, hn.2.1, fun k hk => ?_, by omega, by omega, u2, fun z => (u4 z).1, u6⟩
  · rw [dlv_0]
    cases hdr sub <;> simp
  · have e : dlvR sub frm acc = [4 + (if hdr sub then 64 else 0), nd frm, 145] ++ dgs frm (nd frm) ++ ([0] ++ [0] ++ dgs acc 14 ++ sub.drop (sda sub)) := by
      unfold dlvR adr
      simp
    rw [e]
    have := nib_dgs (P := [4 + (if hdr sub then 64 else 0), nd frm, 145]) (Z := [0] ++ [0] ++ dgs acc 14 ++ sub.drop (sda sub)) (v := frm) hk
    rw [show ([4 + (if hdr sub then 64 else 0), nd frm, 145] : List Nat).length = 3 from rfl] at this
    rw [this]
    have := dg_lt frm (nd frm) k
    omega
