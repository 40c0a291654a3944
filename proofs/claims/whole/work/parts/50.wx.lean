/-! the reference's side -/
/-- a DELIVER that stands in an inbox -/
def DX (bs : List Nat) : Prop := ∃ sub frm acc, bs = dlvR sub frm acc ∧ Lg sub ∧ (∀ j, bt sub j < 256) ∧ 1 ≤ frm ∧ frm < 1000000000000
def WX (S : SS) : Prop := WF S ∧ ∀ d, d < 4 → ∀ r ∈ dInb (S.1 d), DX r
theorem UW.num {dev dev' : Nat → SDv} {p : Nat × List Nat} (U : UW dev p) (h : ∀ d, d < 4 → 1 ≤ dNum (dev d) → 1 ≤ dNum (dev' d)) : UW dev' p := ⟨U.1, U.2.1, U.2.2.1, U.2.2.2.1, h _ U.1 U.2.2.2.2⟩
/-- one device changes -/
theorem WX.dev {S : SS} {k : Nat} {v : SDv} (W : WX S) (hv : DW v) (hn : 1 ≤ dNum (S.1 k) → 1 ≤ dNum v) (hx : ∀ r ∈ dInb v, DX r) : WX (updD S.1 k v, S.2) := by
  obtain ⟨⟨hw1, hw2, hw3, hw4, hw5, hw6, hw7, hw8, hw9⟩, hx0⟩ := W
  refine ⟨⟨updD_all hw1 hv, hw2, fun p hp => (hw3 p hp).num (fun d hd h1 => ?_), hw4, hw5, hw6, hw7, hw8, hw9⟩, updD_all (P := fun v => ∀ r ∈ dInb v, DX r) hx0 hx⟩
  by_cases z : d = k
  · show 1 ≤ dNum (updD S.1 k v d)
    rw [z] at h1 ⊢; rw [updD_eq]; exact hn h1
  · show 1 ≤ dNum (updD S.1 k v d)
    rw [updD_ne z]; exact h1
theorem devOf_lt {y : Int32} {k : Nat} (h : devOf y = some k) : k < 4 := by
  unfold devOf at h
  split at h
  · rename_i c
    obtain ⟨j, hj, rfl⟩ := i_nat (Int32.not_lt.mpr c.1)
    rw [nI_clamp hj] at h
    have := (ltL hj (by decide)).mp c.2
    cases h
    exact this
  · cases h
theorem wx_reg {S : SS} {y : Int32} {n : Int64} (W : WX S) : WX (sReg S y n).1 := by
  unfold sReg
  cases hd : devOf y with
  | none => exact W
  | some k =>
    dsimp only
    split
    · rename_i c
      obtain ⟨v, rfl, v1, v2⟩ := num_of c
      rw [lNat_lN (by omega)]
      obtain ⟨w1, w2, w3, w4, w5, w6, w7, w8, w9, w10, w11⟩ := W.1.1 k (devOf_lt hd)
      exact W.dev (v := setNum (S.1 k) v) ⟨v2, w2, w3, w4, w5, w6, w7, w8, w9, w10, w11⟩ (fun _ => v1) (W.2 k (devOf_lt hd))
    · exact W
theorem wx_pow {S : SS} {y : Int32} {b : Bool} (W : WX S) : WX (sPow S y b).1 := by
  unfold sPow
  cases hd : devOf y with
  | none => exact W
  | some k =>
    obtain ⟨w1, w2, w3, w4, w5, w6, w7, w8, w9, w10, w11⟩ := W.1.1 k (devOf_lt hd)
    exact W.dev (v := setOn (S.1 k) b) ⟨w1, w2, w3, w4, w5, w6, w7, w8, w9, w10, w11⟩ (fun z => z) (W.2 k (devOf_lt hd))
theorem wx_typ {S : SS} {c : Nat} {n : Int32} (W : WX S) (hc : c < 65536) : WX (sTyp S c n).1 := by
  unfold sTyp
  split
  · rename_i z
    obtain ⟨⟨hw1, hw2, hw3, hw4, hw5, hw6, hw7, hw8, hw9⟩, hx0⟩ := W
    refine ⟨⟨hw1, hw2, hw3, ?_, fun c' hc' => ?_, hw6, hw7, hw8, hw9⟩, hx0⟩
    · show (S.2.2.1 ++ List.replicate n.toNatClampNeg c).length ≤ 480
      rw [List.length_append, List.length_replicate]
      exact z.2.2
    · rcases List.mem_append.mp hc' with q | q
      · exact hw5 c' q
      · rw [List.eq_of_mem_replicate q]; exact hc
  · exact W
theorem wx_wip {S : SS} (W : WX S) : WX (sWip S) := by
  obtain ⟨⟨hw1, hw2, hw3, hw4, hw5, hw6, hw7, hw8, hw9⟩, hx0⟩ := W
  exact ⟨⟨hw1, hw2, hw3, Nat.zero_le _, (fun c' hc' => by cases hc'), hw6, hw7, hw8, hw9⟩, hx0⟩
theorem wx_alt {S : SS} {i x : Int32} (W : WX S) : WX (sAlt S i x).1 := by
  unfold sAlt
  obtain ⟨⟨hw1, hw2, hw3, hw4, hw5, hw6, hw7, hw8, hw9⟩, hx0⟩ := W
  split
  · exact ⟨⟨hw1, hw2, hw3, hw4, hw5, hw6, hw7, hw8, hw9⟩, hx0⟩
  · rename_i p r hp
    rw [hp] at hw2 hw3
    split
    · rename_i c
      refine ⟨⟨hw1, hw2, fun q hq => ?_, hw4, hw5, hw6, hw7, hw8, hw9⟩, hx0⟩
      rcases List.mem_cons.mp hq with e | e
      · have U := hw3 p (List.mem_cons_self ..)
        rw [e]
        refine ⟨U.1, by rw [List.length_set]; exact U.2.1, by rw [List.length_set]; exact U.2.2.1, fun j => ?_, U.2.2.2.2⟩
        show bt (p.2.set _ _) j < 256
        rw [bt_set]
        split
        · obtain ⟨x', hx', rfl⟩ := i_nat (y := x) (fun z => by
            have h1 := c.2.2.1
            have h2 := Int32.lt_iff_toInt_lt.mp z
            have h3 := Int32.le_iff_toInt_le.mp h1
            have e0 : (0 : Int32).toInt = 0 := rfl
            have e1 : (1 : Int32).toInt = 1 := rfl
            omega)
          rw [nI_clamp hx']
          have h255 := (leL hx' (by decide)).mp c.2.2.2
          exact Nat.xor_lt_two_pow (n := 8) (U.2.2.2.1 _) (by omega)
        · exact U.2.2.2.1 j
      · exact hw3 q (List.mem_cons_of_mem _ e)
    · exact ⟨⟨hw1, by rw [hp]; exact hw2, by rw [hp]; exact hw3, hw4, hw5, hw6, hw7, hw8, hw9⟩, hx0⟩
theorem wx_rcv {S : SS} (W : WX S) : WX (sRcv S).1 := by
  unfold sRcv
  obtain ⟨⟨hw1, hw2, hw3, hw4, hw5, hw6, hw7, hw8, hw9⟩, hx0⟩ := W
  split
  · exact ⟨⟨hw1, hw2, hw3, hw4, hw5, hw6, hw7, hw8, hw9⟩, hx0⟩
  · rename_i p r hp
    have hw2' := hw2
    have hw3' := hw3
    rw [hp] at hw2' hw3'
    have hr : ∀ q ∈ r, UW S.1 q := fun q hq => hw3' q (List.mem_cons_of_mem _ hq)
    have hr2 : r.length ≤ 8 := by rw [List.length_cons] at hw2'; omega
    split
    · exact ⟨⟨hw1, hw2, hw3, hw4, hw5, hw6, hw7, hw8, hw9⟩, hx0⟩
    · rename_i c
      split
      · rename_i lg
        have U := hw3' p (List.mem_cons_self ..)
        refine ⟨⟨hw1, hr2, hr, hw4, hw5, ?_, ?_, fun m hm => ?_, hw9⟩, hx0⟩
        · show (S.2.2.2.1 ++ [rMsg S p]).length ≤ 100
          rw [List.length_append]
          simp only [List.length_cons, List.length_nil]
          omega
        · show (pend (S.2.2.2.1 ++ [rMsg S p])).length ≤ 12
          rw [pend_snoc, List.length_append]
          split
          · simp only [List.length_cons, List.length_nil]
            omega
          · simp only [List.length_nil]
            omega
        · rcases List.mem_append.mp hm with q | q
          · exact hw8 m q
          · rw [List.mem_singleton.mp q]
            refine ⟨lgB_iff.mp lg, U.2.2.1, U.2.2.2.1, U.1, U.2.2.2.2, (hw1 _ U.1).1, Nat.le_refl _, Nat.zero_le _, ?_, ?_, fun _ => ?_⟩
            · show S.2.2.2.2 ≤ sOld p.2 S.2.2.2.2 + 16
              unfold sOld
              omega
            · show S.2.2.2.2 + 0 ≤ S.2.2.2.2 + 1
              omega
            · show S.2.2.2.2 + 0 ≤ S.2.2.2.2
              omega
      · exact ⟨⟨hw1, hr2, hr, hw4, hw5, hw6, hw7, hw8, hw9⟩, hx0⟩
theorem wx_rpt {S : SS} {y : Int32} (W : WX S) : WX (sRpt S y).1 := by
  unfold sRpt
  cases hd : devOf y with
  | none => exact W
  | some k =>
    have hk := devOf_lt hd
    dsimp only
    split
    · exact W
    · rename_i r rs hr
      have D := W.1.1 k hk
      refine W.dev (D.rep (fun q hq => D.2.2.2.1 q (by rw [hr]; exact List.mem_cons_of_mem _ hq)) ?_) (fun z => z) (W.2 k hk)
      have := D.2.2.2.2.1
      rw [hr, List.length_cons] at this
      omega
theorem wx_cop {S : SS} {y : Int32} (W : WX S) : WX (sCop S y).1 := by
  unfold sCop
  cases hd : devOf y with
  | none => exact W
  | some k =>
    have hk := devOf_lt hd
    dsimp only
    split
    · exact W
    · rename_i r rs hr
      split
      · exact W
      · rename_i c
        have D := W.1.1 k hk
        have hm : ∀ q ∈ r :: rs ++ [r], q ∈ dInb (S.1 k) := fun q hq => by
          rw [hr]
          rcases List.mem_append.mp hq with z | z
          · exact z
          · rw [List.mem_singleton.mp z]; exact List.mem_cons_self ..
        refine W.dev (D.inb (fun q hq => D.2.1 q (hm q hq)) ?_) (fun z => z) (fun q hq => W.2 k hk q (hm q hq))
        have := D.2.2.1
        rw [hr, List.length_cons] at this
        rw [List.length_append, List.length_cons]
        simp only [List.length_cons, List.length_nil]
        omega
theorem wx_swp {S : SS} {y : Int32} (W : WX S) : WX (sSwp S y).1 := by
  unfold sSwp
  cases hd : devOf y with
  | none => exact W
  | some k =>
    have hk := devOf_lt hd
    dsimp only
    split
    · exact W
    · exact W
    · rename_i a b rs hr
      have D := W.1.1 k hk
      have hm : ∀ q ∈ b :: a :: rs, q ∈ dInb (S.1 k) := fun q hq => by
        rw [hr]
        simp only [List.mem_cons] at hq ⊢
        rcases hq with z | z | z
        · exact Or.inr (Or.inl z)
        · exact Or.inl z
        · exact Or.inr (Or.inr z)
      refine W.dev (D.inb (fun q hq => D.2.1 q (hm q hq)) ?_) (fun z => z) (fun q hq => W.2 k hk q (hm q hq))
      have := D.2.2.1
      rw [hr] at this
      exact this
theorem rdD_ok {v : SDv} {bs : List Nat} (D : DW v) (K : DK bs) : DW (rdD v bs).1 ∧ dNum (rdD v bs).1 = dNum v ∧ dInb (rdD v bs).1 = dInb v := by
  obtain ⟨w1, w2, w3, w4, w5, w6, w7, w8, w9, w10, w11⟩ := D
  unfold rdD
  split
  · rename_i hh
    have hPk := gPs_ok K hh w9
    have hall : ∀ pl ∈ (gPc v bs).1, PK pl := fun pl hp => gPl_ok K hh w9 hp
    have hlen : (gPc v bs).1.length ≤ 3 := by
      unfold gPc
      cases hf : (dPil v).findIdx? (mtch (dFrm bs) (bt bs (dHd bs + 3)) (bt bs (dHd bs + 4))) with
      | some j => rw [plc_some hf]; exact w8
      | none =>
        rw [plc_none hf]
        show (plB (dPil v) ++ [_]).length ≤ 3
        rw [List.length_append]
        unfold plB
        split
        · simp only [List.length_cons, List.length_nil]; omega
        · rw [List.length_tail]; simp only [List.length_cons, List.length_nil]; omega
    unfold gth
    split
    · refine ⟨⟨w1, w2, w3, w4, w5, w6, w7, ?_, fun pl hp => hall pl (List.mem_of_mem_eraseIdx hp), ?_, K.2.2.2.1⟩, rfl, rfl⟩
      · exact Nat.le_trans (List.length_eraseIdx_le _ _) hlen
      · refine Nat.le_trans (ptxt_len _ (fun b hb => ?_)) ?_
        · have := hPk.2.2.2 b hb
          exact dtxt_hdr this.1 this.2
        · have := hPk.2.2.1
          have e : 153 * (gPs v bs).length ≤ 153 * 3 := Nat.mul_le_mul_left _ this
          omega
    · refine ⟨⟨w1, w2, w3, w4, w5, w6, w7, ?_, fun pl hp => ?_, w10, w11⟩, rfl, rfl⟩
      · show ((gPc v bs).1.set _ _).length ≤ 3
        rw [List.length_set]; exact hlen
      · rcases List.mem_or_eq_of_mem_set hp with z | z
        · exact hall pl z
        · rw [z]; exact hPk
  · exact ⟨⟨w1, w2, w3, w4, w5, w6, w7, w8, w9, Nat.le_trans (dtxt_le K) (by decide), K.2.2.2.1⟩, rfl, rfl⟩
theorem wx_tak {S : SS} {y : Int32} (W : WX S) : WX (sTak S y).1 := by
  unfold sTak
  cases hd : devOf y with
  | none => exact W
  | some k =>
    have hk := devOf_lt hd
    dsimp only
    split
    · exact W
    · rename_i r rs hr
      have D := W.1.1 k hk
      have hm : ∀ q ∈ rs, q ∈ dInb (S.1 k) := fun q hq => by rw [hr]; exact List.mem_cons_of_mem _ hq
      have D2 : DW (setInb (S.1 k) rs) := D.inb (fun q hq => D.2.1 q (hm q hq)) (by have := D.2.2.1; rw [hr, List.length_cons] at this; omega)
      have R := rdD_ok D2 (D.2.1 r (by rw [hr]; exact List.mem_cons_self ..))
      refine W.dev R.1 (fun z => by rw [R.2.1]; exact z) (fun q hq => ?_)
      rw [R.2.2] at hq
      exact W.2 k hk q (hm q hq)
theorem sub_ok {kind mn to val : Nat} {hd sp : List Nat} (hk : kind < 256) (hmn : mn < 256) (t1 : 1 ≤ to) (t2 : to < 1000000000000) (hv : val < 256) (hh : (hd = [] ∧ sp.length ≤ 160) ∨ (hd.length = 6 ∧ sp.length ≤ 153)) (hd2 : ∀ x ∈ hd, x < 256) (hs : ∀ x ∈ sp, x < 128) : 9 ≤ (subR kind mn to val hd sp).length ∧ (subR kind mn to val hd sp).length ≤ 154 ∧ ∀ j, bt (subR kind mn to val hd sp) j < 256 := by
  have hu : sp.length + (if hd.length = 0 then 0 else 7) ≤ 160 ∧ hd.length ≤ (7 * (sp.length + (if hd.length = 0 then 0 else 7)) + 7) / 8 := by
    rcases hh with ⟨e1, e2⟩ | ⟨e1, e2⟩
    · rw [e1]
      simp
      exact e2
    · rw [e1]
      simp
      omega
  unfold subR
  generalize sp.length + (if hd.length = 0 then 0 else 7) = u at hu ⊢
  have hnd := nd_ok t1 t2
  have hl : (subB kind mn to val u hd).length = 5 + (adr to).length + (1 + (7 * u + 7) / 8) := by
    unfold subB
    simp only [List.length_append, List.length_cons, List.length_nil, zs_len]
    omega
  have hB : ∀ j, bt (subB kind mn to val u hd) j < 256 := by
    refine all_bt (fun x hx => ?_)
    unfold subB at hx
    simp only [List.nil_append, List.mem_append, List.mem_cons, List.not_mem_nil, or_false] at hx
    rcases hx with ((((((z | z) | z) | z | z | z) | z) | z) | z)
    · rw [z]; exact hk
    · rw [z]; exact hmn
    · exact adr_all t1 t2 x z
    · rw [z]; decide
    · rw [z]; decide
    · rw [z]; exact hv
    · rw [z]; omega
    · exact hd2 x z
    · have := List.eq_of_mem_replicate z
      rw [this]; decide
  rw [mrgL_len, hl, adr_len]
  exact ⟨by omega, by omega, mrgL_lt _ _ _ hB hs⟩
theorem fsep_lt {gs : List Nat} (hg : ∀ g ∈ gs, g < 256) : ∀ x ∈ gs.flatMap fsep, x < 128 := fun x hx => by
  obtain ⟨g, h1, h2⟩ := List.mem_flatMap.mp hx
  have := hg g h1
  unfold fsep at h2
  split at h2
  · rw [List.mem_singleton.mp h2]; assumption
  · simp only [List.mem_cons, List.not_mem_nil, or_false] at h2
    rcases h2 with e | e <;> omega
theorem segP_ok {parts : Nat} : ∀ (n : Nat) (gs : List Nat), (parts = 1 → sumS gs ≤ 160) → ∀ s ∈ segP parts n gs, (parts = 1 → sumS s ≤ 160) ∧ (¬ parts = 1 → sumS s ≤ 153) ∧ ∀ g ∈ s, g ∈ gs
  | 0, gs, _, s, h => by cases h
  | n + 1, gs, hp, s, h => by
    rw [segP_succ] at h
    rcases List.mem_cons.mp h with e | e
    · rw [e]
      refine ⟨fun c => Nat.le_trans (sumS_take gs _) (hp c), fun c => ?_, fun g hg => List.mem_of_mem_take hg⟩
      unfold endP
      rw [if_neg c]
      have := peL_sum 0 gs (by decide)
      omega
    · obtain ⟨h1, h2, h3⟩ := segP_ok n (gs.drop (endP parts gs)) (fun c => Nat.le_trans (sumS_drop gs _) (hp c)) s e
      exact ⟨h1, h2, fun g hg => List.mem_of_mem_drop (h3 g hg)⟩
theorem sndR_ok {rep : Bool} {mn refs to val parts : Nat} (hr : refs < 256) (hp : parts ≤ 3) (t1 : 1 ≤ to) (t2 : to < 1000000000000) (hv : val < 256) : ∀ (ss : List (List Nat)) (i : Nat), i + ss.length ≤ 200 → (∀ s ∈ ss, (parts = 1 → sumS s ≤ 160) ∧ (¬ parts = 1 → sumS s ≤ 153) ∧ ∀ g ∈ s, g < 256) → ∀ r ∈ sndR rep mn refs to val parts i ss, 9 ≤ r.length ∧ r.length ≤ 154 ∧ ∀ j, bt r j < 256
  | [], _, _, _, r, h => by cases h
  | s :: ss, i, hi, hs, r, h => by
    rw [List.length_cons] at hi
    rw [sndR_cons] at h
    rcases List.mem_cons.mp h with e | e
    · obtain ⟨h1, h2, h3⟩ := hs s (List.mem_cons_self ..)
      rw [e]
      unfold rowS
      refine sub_ok ?_ (Nat.mod_lt _ (by decide)) t1 t2 hv ?_ ?_ (fsep_lt h3)
      · unfold kndS
        cases rep <;> simp <;> split <;> omega
      · unfold hdS
        rw [flat_len]
        by_cases c : parts = 1
        · rw [if_pos c]; exact Or.inl ⟨rfl, h1 c⟩
        · rw [if_neg c]; exact Or.inr ⟨rfl, h2 c⟩
      · intro x hx
        unfold hdS at hx
        split at hx
        · cases hx
        · simp only [List.mem_cons, List.not_mem_nil, or_false] at hx
          rcases hx with z | z | z | z | z | z <;> omega
    · exact sndR_ok hr hp t1 t2 hv ss (i + 1) (by omega) (fun s' h' => hs s' (List.mem_cons_of_mem _ h')) r e
theorem segP_len (parts : Nat) : ∀ (n : Nat) (gs : List Nat), (segP parts n gs).length = n
  | 0, _ => rfl
  | n + 1, gs => by rw [segP_succ, List.length_cons, segP_len parts n]
theorem sndR_len (rep : Bool) (mn refs to val parts : Nat) : ∀ (ss : List (List Nat)) (i : Nat), (sndR rep mn refs to val parts i ss).length = ss.length
  | [], _ => rfl
  | s :: ss, i => by rw [sndR_cons, List.length_cons, List.length_cons, sndR_len rep mn refs to val parts ss]
theorem wx_snd {S : SS} {y v : Int32} {to : Int64} {rep : Bool} (W : WX S) : WX (sSend S y to v rep).1 := by
  unfold sSend
  cases hd : devOf y with
  | none => exact W
  | some k =>
    have hk := devOf_lt hd
    dsimp only
    split
    · exact W
    · rename_i c1
      split
      · exact W
      · split
        · exact W
        · rename_i c3
          split
          · exact W
          · rename_i c4
            have hto : 1 ≤ to ∧ to ≤ 999999999999 := Classical.byContradiction (fun z => c1 (Or.inl z))
            have hv0 : ¬ v < 0 := fun z => c1 (Or.inr (Or.inl z))
            have hv1 : ¬ 143 < v := fun z => c1 (Or.inr (Or.inr (Or.inl z)))
            have hnum : ¬ dNum (S.1 k) = 0 := fun z => c1 (Or.inr (Or.inr (Or.inr z)))
            obtain ⟨t, rfl, t1, t2⟩ := num_of hto
            rw [lNat_lN (by omega)]
            obtain ⟨v', hv', rfl⟩ := i_nat hv0
            rw [nI_clamp hv']
            rw [Llt hv' (by decide)] at hv1
            have hgs : ∀ g ∈ S.2.2.1.filterMap fm, g < 256 := fun g hg => by
              obtain ⟨c, h1, h2⟩ := List.mem_filterMap.mp hg
              exact fm_lt h2
            generalize S.2.2.1.filterMap fm = gs at *
            have D := W.1.1 k hk
            obtain ⟨w1, w2, w3, w4, w5, w6, w7, w8, w9, w10, w11⟩ := D
            have W2 : WX (updD S.1 k (setRef (setMn (S.1 k) ((dMn (S.1 k) + pcN gs) % 256)) (if pcN gs = 1 then dRef (S.1 k) else (dRef (S.1 k) + 1) % 256)), S.2) := by
              refine W.dev ⟨w1, w2, w3, w4, w5, ?_, ?_, w8, w9, w10, w11⟩ (fun z => z) (W.2 k hk)
              · show (if pcN gs = 1 then dRef (S.1 k) else (dRef (S.1 k) + 1) % 256) < 256
                split
                · exact w6
                · exact Nat.mod_lt _ (by decide)
              · exact Nat.mod_lt _ (by decide)
            obtain ⟨⟨hw1, hw2, hw3, hw4, hw5, hw6, hw7, hw8, hw9⟩, hx0⟩ := W2
            have hR : ∀ r ∈ allR S k t v' rep gs, 9 ≤ r.length ∧ r.length ≤ 154 ∧ ∀ j, bt r j < 256 := by
              unfold allR
              refine sndR_ok w6 (by omega) t1 t2 (by omega) _ 1 (by rw [segP_len]; omega) (fun s hs => ?_)
              obtain ⟨h1, h2, h3⟩ := segP_ok (pcN gs) gs (fun c => pcN_one c) s hs
              exact ⟨h1, h2, fun g hg => hgs g (h3 g hg)⟩
            refine ⟨⟨hw1, ?_, fun p hp => ?_, hw4, hw5, hw6, hw7, hw8, hw9⟩, hx0⟩
            · show (S.2.1 ++ (allR S k t v' rep gs).map (fun r => (k, r))).length ≤ 8
              rw [List.length_append, List.length_map]
              unfold allR
              rw [sndR_len, segP_len]
              omega
            · rcases List.mem_append.mp hp with z | z
              · exact hw3 p z
              · obtain ⟨r, hr, rfl⟩ := List.mem_map.mp z
                obtain ⟨q1, q2, q3⟩ := hR r hr
                refine ⟨hk, q1, q2, q3, ?_⟩
                show 1 ≤ dNum (updD S.1 k _ k)
                rw [updD_eq]
                show 1 ≤ dNum (S.1 k)
                omega
theorem deal_dx {S : SS} {k : Nat} (W : WX S) (hk : k ∈ pend S.2.2.2.1) : WX (deal S k).1 := by
  refine ⟨(deal_ok W.1 hk).1, ?_⟩
  have M := W.1.2.2.2.2.2.2.2.1 _ (List.mem_of_getElem? (mat_at (pend_lt hk)))
  have h1 : ∀ d, d < 4 → ∀ r ∈ dInb ((deal1 S k).1 d), DX r := by
    unfold deal1
    split
    · exact W.2
    · split
      · exact W.2
      · rename_i d' hd'
        split
        · refine updD_all (P := fun v => ∀ r ∈ dInb v, DX r) W.2 (fun r hr => ?_)
          rcases List.mem_append.mp (show r ∈ dInb (S.1 d') ++ [_] from hr) with z | z
          · exact W.2 d' (hold_lt hd') r z
          · exact ⟨_, _, _, List.mem_singleton.mp z, M.1, M.2.2.1, M.2.2.2.2.1, M.2.2.2.2.2.1⟩
        · exact W.2
  unfold deal
  split
  · exact h1
  · unfold rep1
    intro d hd r hr
    by_cases z : d = mOrg (mat (deal1 S k).2.2.2.1 k)
    · have : dInb ((setDev (deal1 S k) (updD (deal1 S k).1 (mOrg (mat (deal1 S k).2.2.2.1 k)) (setRep ((deal1 S k).1 (mOrg (mat (deal1 S k).2.2.2.1 k))) (repN (mat (deal1 S k).2.2.2.1 k) (mom (mat S.2.2.2.1 k)) (dRep ((deal1 S k).1 (mOrg (mat (deal1 S k).2.2.2.1 k)))))))).1 d) = dInb ((deal1 S k).1 d) := by
        show dInb (updD (deal1 S k).1 _ _ d) = _
        rw [← z, updD_eq]
        rfl
      exact h1 d hd r (by rw [← this]; exact hr)
    · have : dInb ((setDev (deal1 S k) (updD (deal1 S k).1 (mOrg (mat (deal1 S k).2.2.2.1 k)) (setRep ((deal1 S k).1 (mOrg (mat (deal1 S k).2.2.2.1 k))) (repN (mat (deal1 S k).2.2.2.1 k) (mom (mat S.2.2.2.1 k)) (dRep ((deal1 S k).1 (mOrg (mat (deal1 S k).2.2.2.1 k)))))))).1 d) = dInb ((deal1 S k).1 d) := by
        show dInb (updD (deal1 S k).1 _ _ d) = _
        rw [updD_ne z]
      exact h1 d hd r (by rw [← this]; exact hr)
theorem advL_wx {u : Nat} : ∀ (n : Nat) (S : SS) (c : Nat), WX S → WX (advL n S u c).1 ∧ (advL n S u c).1.2.2.2.2 = S.2.2.2.2
  | 0, S, c, W => ⟨W, rfl⟩
  | n + 1, S, c, W => by
    rw [advL_succ]
    split
    · exact ⟨W, rfl⟩
    · rename_i k hk
      split
      · obtain ⟨h1, h2⟩ := advL_wx n (deal S k).1 (c + (deal S k).2) (deal_dx W (erl_mem hk))
        exact ⟨h1, by rw [h2, (deal_ok W.1 (erl_mem hk)).2.1]⟩
      · exact ⟨W, rfl⟩
theorem MW.later {now now' : Nat} {m : SMs} (M : MW now m) (h : now ≤ now') : MW now' m := by
  obtain ⟨a1, a2, a3, a4, a5, a6, a7, a8, a9, a10, a11⟩ := M
  exact ⟨a1, a2, a3, a4, a5, a6, Nat.le_trans a7 h, a8, a9, a10, a11⟩
theorem WX.now {S : SS} {n : Nat} (W : WX S) (h1 : S.2.2.2.2 ≤ n) (h2 : n ≤ 60000000) : WX (S.1, S.2.1, S.2.2.1, S.2.2.2.1, n) := by
  obtain ⟨⟨hw1, hw2, hw3, hw4, hw5, hw6, hw7, hw8, hw9⟩, hx0⟩ := W
  exact ⟨⟨hw1, hw2, hw3, hw4, hw5, hw6, hw7, fun m hm => (hw8 m hm).later h1, h2⟩, hx0⟩
theorem wx_adv {S : SS} {y : Int32} (W : WX S) (hn : S.2.2.2.2 + 100000 ≤ 60000000) : WX (sAdv S y).1 ∧ (sAdv S y).1.2.2.2.2 ≤ S.2.2.2.2 + 100000 := by
  unfold sAdv
  split
  · exact ⟨W, by show S.2.2.2.2 ≤ _; omega⟩
  · rename_i c
    have hy0 : ¬ y < 0 := fun z => c (Or.inl z)
    have hy1 : ¬ 100000 < y := fun z => c (Or.inr z)
    obtain ⟨y', hy', rfl⟩ := i_nat hy0
    rw [nI_clamp hy']
    rw [Llt hy' (by decide)] at hy1
    obtain ⟨h1, h2⟩ := advL_wx (u := S.2.2.2.2 + y') 100000 S 0 W
    exact ⟨h1.now (by rw [h2]; omega) (by omega), by show S.2.2.2.2 + y' ≤ _; omega⟩
theorem dw_0 : DW v0 := ⟨by decide, (fun r hr => by cases hr), by decide, (fun r hr => by cases hr), by decide, by decide, by decide, by decide, (fun r hr => by cases hr), by decide, by decide⟩
theorem wx_0 : WX S0 := ⟨⟨fun d _ => dw_0, by decide, (fun r hr => by cases hr), by decide, (fun r hr => by cases hr), by decide, by decide, (fun r hr => by cases hr), by decide⟩, fun d _ r hr => by cases hr⟩
