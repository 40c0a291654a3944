/-! the reference's side -/
section MS2
variable {G : Gx} {l : Launch} {d w : Nat} {A : Nat → Nat} {h h' : Hp} {F : List Nat} {S : SS}
theorem putT_in {f : Nat → Int32} {p j : Nat} {t : List Int32} (h1 : p ≤ j) (h2 : j < p + t.length) : putT f p t j = t.getD (j - p) 0 := if_pos ⟨h1, h2⟩
theorem putT_out {f : Nat → Int32} {p j : Nat} {t : List Int32} (h1 : j < p ∨ p + t.length ≤ j) : putT f p t j = f j := if_neg (by omega)
theorem drop_is {l r : List Nat} {k c : Nat} (h : l.drop k = c :: r) : k < l.length ∧ bt l k = c ∧ l.drop (k + 1) = r := by
  have hk : k < l.length := by
    rcases Nat.lt_or_ge k l.length with z | z
    · exact z
    · rw [List.drop_of_length_le z] at h
      cases h
  rw [drop_bt hk] at h
  injection h with h1 h2
  exact ⟨hk, h1, h2⟩
theorem c_MO_decode {sp : List Nat} {base f N : Nat} {x2 : Int32} (M : MA A h) (Q : SQ A h sp) (hT : isT false sp = true) (hx : (x2 = 0 ∧ f = 40 ∧ N = 5508) ∨ (x2 = 1 ∧ f = 9 ∧ N = 1920)) (hN : base + (txt false sp).length ≤ N) : Ci G l M_MO_decode (d + 2) (w + 40) [.ref (A 41), .int (nI base), .int x2] h 0 0 (fun r h' => r = nI (txt false sp).length ∧ hI h' (A f) = putT (hI h (A f)) base (txt false sp) ∧ Mf A [f] h h') := by
  refine ok_MO_decode ?_
  have hl := Q.2.1
  have haf : ar f = true ∧ f ≠ 41 ∧ f ≠ 3 ∧ f ≠ 2 := by rcases hx with ⟨-, e, -⟩ | ⟨-, e, -⟩ <;> subst e <;> decide
  have hN2 : N ≤ 5508 := by rcases hx with ⟨-, -, e⟩ | ⟨-, -, e⟩ <;> omega
  have n2 : (2 : Nat) ∉ [f] := by simp; exact fun z => haf.2.2.2 z.symm
  have n3 : (3 : Nat) ∉ [f] := by simp; exact fun z => haf.2.2.1 z.symm
  unfold wp_MO_decode wL_MO_decode_5
  refine ⟨fun x3 x4 h' => ∃ k dn, k ≤ sp.length ∧ x4 = nI k ∧ x3 = nI dn.length ∧ isT false (sp.drop k) = true ∧ txt false sp = dn ++ txt false (sp.drop k) ∧ hI h' (A f) = putT (hI h (A f)) base dn ∧ Mf A [f] h h', fun x3 x4 h' => sp.length - x4.toNatClampNeg, ⟨0, [], Nat.zero_le _, rfl, rfl, hT, rfl, by rw [putT_nil], Mf.rfl⟩, ?_⟩
  rintro _ _ h1 ⟨k, dn, hk, rfl, rfl, hTk, htx, e1, F1⟩
  have M1 := F1.ma M
  have Q1 := Q.kept F1 M.j n2 n3
  have hlen := congrArg List.length htx
  rw [List.length_append] at hlen
  unfold wB_MO_decode_5
  rw [Q1.1, nI_leI (by omega) (by omega)]
  refine ⟨M1.s41, fun c => ?_, fun c => ?_⟩
  · rw [List.drop_of_length_le (by omega)] at htx
    have : txt false ([] : List Nat) = [] := rfl
    rw [this, List.append_nil] at htx
    rw [htx]
    exact ⟨rfl, e1, F1⟩
  · have hkl : k < sp.length := by omega
    have hv : bt sp k < 128 := Q.2.2.1 _ (getD_mem hkl)
    have hdr' := drop_bt hkl
    -- one character more
    have one : ∀ (k' : Nat) (x : Int32), k < k' → k' ≤ sp.length → isT false (sp.drop k') = true → txt false (sp.drop k) = x :: txt false (sp.drop k') → (∀ q, q = nI (k' - 1) → wJ_MO_decode_74 G l d w (fun r h' => r = nI (txt false sp).length ∧ hI h' (A f) = putT (hI h (A f)) base (txt false sp) ∧ Mf A [f] h h') (fun x3_ x4_ h_ => (∃ k dn, k ≤ sp.length ∧ x4_ = nI k ∧ x3_ = nI dn.length ∧ isT false (sp.drop k) = true ∧ txt false sp = dn ++ txt false (sp.drop k) ∧ hI h_ (A f) = putT (hI h (A f)) base dn ∧ Mf A [f] h h_) ∧ sp.length - x4_.toNatClampNeg < sp.length - (nI k).toNatClampNeg) (A 41) (nI base) x2 (nI dn.length) (nI k) x q h1) := by
      rintro k' x hk1 hk2 hT' htx' _ rfl
      rw [htx', List.length_cons] at hlen
      have wr : wJ_MO_decode_103 G l d w (fun r h' => r = nI (txt false sp).length ∧ hI h' (A f) = putT (hI h (A f)) base (txt false sp) ∧ Mf A [f] h h') (fun x3_ x4_ h_ => (∃ k dn, k ≤ sp.length ∧ x4_ = nI k ∧ x3_ = nI dn.length ∧ isT false (sp.drop k) = true ∧ txt false sp = dn ++ txt false (sp.drop k) ∧ hI h_ (A f) = putT (hI h (A f)) base dn ∧ Mf A [f] h h_) ∧ sp.length - x4_.toNatClampNeg < sp.length - (nI k).toNatClampNeg) (A 41) (nI base) x2 (nI dn.length) (nI (k' - 1)) x (pI h1 (A f) (base + dn.length) x) := by
        unfold wJ_MO_decode_103
        rintro _ rfl _ rfl
        rw [nI_1, nI_1, show k' - 1 + 1 = k' by omega]
        refine ⟨⟨k', dn ++ [x], hk2, rfl, by rw [List.length_append]; rfl, hT', by rw [htx, htx', List.append_assoc]; rfl, ?_, F1.trans (mf_pI M.j haf.1 haf.2.1 (by simp))⟩, ?_⟩
        · rw [rE, e1, putT_app]
        · rw [nI_clamp (by omega), nI_clamp (by omega)]
          omega
      unfold wJ_MO_decode_74
      rw [nI_add]
      rcases hx with ⟨z1, z2, z3⟩ | ⟨z1, z2, z3⟩
      · subst z2
        exact ⟨fun _ => ⟨M1.s41, A 40, M1.r40, 5508, _, ⟨M1.s40, rfl, by omega, by omega⟩, wr⟩, fun z => absurd z1 z⟩
      · subst z2
        exact ⟨fun z => absurd (z1.symm.trans z) (by decide), fun _ => ⟨M1.s41, A 9, M1.r9, 1920, _, ⟨M1.s9, rfl, by omega, by omega⟩, wr⟩⟩
    refine ⟨A 3, M1.r3, 960, k, ⟨M1.s3, rfl, by omega, by omega⟩, ?_⟩
    rw [Q1.2.2.2 k hkl, eqL (by omega) (by decide)]
    unfold wJ_MO_decode_51
    refine ⟨fun n27 => ⟨A 3, M1.r3, 960, k, ⟨M1.s3, rfl, by omega, by omega⟩, ?_⟩, fun e27 => ?_⟩
    · rw [Q1.2.2.2 k hkl]
      refine ⟨_, c_MO_plain hv, ?_⟩
      rintro _ _ ⟨rfl, rfl⟩
      refine ⟨M1.s41, A 3, M1.r3, 960, k, ⟨M1.s3, rfl, by omega, by omega⟩, ?_⟩
      rw [Q1.2.2.2 k hkl, eqL (by omega) (by decide)]
      refine ⟨fun _ => ?_, fun z => absurd z n27⟩
      have n27' : bt sp k ≠ 27 := n27
      rw [hdr'] at hTk
      have := txt_pl n27' hTk
      have ep : pl (bt sp k) = tabC.getD (bt sp k) 0 := if_neg n27'
      rw [ep]
      exact one (k + 1) _ (by omega) (by omega) this.1 (by rw [hdr']; exact this.2) _ (by rw [Nat.add_sub_cancel])
    · have e27' : bt sp k = 27 := e27
      rw [hdr', e27'] at hTk
      have h27 := isT_27 hTk
      obtain ⟨c2, r, q1, q2, q3, q4⟩ := txt_esc h27.1
      obtain ⟨g1, g2, g3⟩ := drop_is q1
      have hv2 : bt sp (k + 1) < 128 := Q.2.2.1 _ (getD_mem g1)
      rw [nI_1]
      refine ⟨A 3, M1.r3, 960, k + 1, ⟨M1.s3, rfl, by omega, by omega⟩, ?_⟩
      rw [Q1.2.2.2 (k + 1) g1]
      refine ⟨_, c_MO_escaped hv2, ?_⟩
      rintro _ _ ⟨rfl, rfl⟩
      refine ⟨M1.s41, A 3, M1.r3, 960, k, ⟨M1.s3, rfl, by omega, by omega⟩, ?_⟩
      rw [Q1.2.2.2 k hkl, eqL (by omega) (by decide)]
      refine ⟨fun z => absurd e27 z, fun _ => ?_⟩
      rw [g2]
      refine one (k + 2) _ (by omega) (by omega) (by rw [show k + 2 = k + 1 + 1 from rfl, g3]; exact q3) ?_ _ rfl
      rw [hdr', e27', h27.2, q4, show k + 2 = k + 1 + 1 from rfl, g3]
/-- the piles of the devices -/
def MPp (A : Nat → Nat) (h : Hp) (pd : Nat → List SPl) : Prop := ∀ d, d < 4 → hI h (A 38) d = nI (pd d).length ∧ ∀ k, k < (pd d).length → PA A h (3 * d + k) ((pd d).getD k (0, 0, []))
def updP (pd : Nat → List SPl) (d : Nat) (x : List SPl) : Nat → List SPl := fun j => if j = d then x else pd j
theorem updP_eq {pd : Nat → List SPl} {d : Nat} {x : List SPl} : updP pd d x d = x := if_pos rfl
theorem updP_ne {pd : Nat → List SPl} {d j : Nat} {x : List SPl} (n : j ≠ d) : updP pd d x j = pd j := if_neg n
/-- a pile is where another was -/
theorem PA.mv {q q' : Nat} {pl : SPl} (P : PA A h q pl) (K : PK pl) (e35 : hL h' (A 35) q' = hL h (A 35) q) (e36 : hI h' (A 36) q' = hI h (A 36) q) (e37 : hI h' (A 37) q' = hI h (A 37) q) (e39 : ∀ i, i < 3 → hI h' (A 39) (3 * q' + i) = hI h (A 39) (3 * q + i)) (e40 : ∀ t, t < 459 → hI h' (A 40) (459 * q' + t) = hI h (A 40) (459 * q + t)) : PA A h' q' pl := by
  obtain ⟨p1, p2, p3, p4⟩ := P
  refine ⟨by rw [e35]; exact p1, by rw [e36]; exact p2, by rw [e37]; exact p3, fun i o ho => ?_⟩
  have hi : i < pl.2.2.length := by
    rcases Nat.lt_or_ge i pl.2.2.length with z | z
    · exact z
    · rw [List.getElem?_eq_none z] at ho
      cases ho
  have hi3 : i < 3 := by have := K.2.2.1; omega
  obtain ⟨o1, o2⟩ := p4 i o ho
  refine ⟨fun z => by rw [e39 i hi3]; exact o1 z, fun bs hb => ⟨by rw [e39 i hi3]; exact (o2 bs hb).1, fun j hj => ?_⟩⟩
  have hK := K.2.2.2 bs (by rw [← hb]; exact List.mem_of_getElem? ho)
  have h153 := dtxt_hdr hK.1 hK.2
  have a := e40 (153 * i + j) (by omega)
  rw [show 459 * q' + (153 * i + j) = 153 * (3 * q' + i) + j by omega, show 459 * q + (153 * i + j) = 153 * (3 * q + i) + j by omega] at a
  rw [a]
  exact (o2 bs hb).2 j hj
theorem c_MO_movePile {q s : Nat} (M : MA A h) (hq : q < 12) (hs : s < 12) (n : q ≠ s) : Cv G l M_MO_movePile (d + 0) (w + 0) [.ref (A 41), .int (nI q), .int (nI s)] h 0 0 (fun h' => hL h' (A 35) = va_up (hL h (A 35)) q (hL h (A 35) s) ∧ hI h' (A 36) = va_up (hI h (A 36)) q (hI h (A 36) s) ∧ hI h' (A 37) = va_up (hI h (A 37)) q (hI h (A 37) s) ∧ hI h' (A 39) = cpF (hI h (A 39)) (hI h (A 39)) (3 * q) (3 * s) 3 ∧ hI h' (A 40) = cpF (hI h (A 40)) (hI h (A 40)) (459 * q) (459 * s) 459 ∧ Mf A [35, 36, 37, 39, 40] h h') := by
  refine ok_MO_movePile ?_
  unfold wp_MO_movePile
  refine ⟨M.s41, A 35, M.r35, 12, s, ⟨M.s35, rfl, hs, by omega⟩, 12, q, ⟨M.s35, rfl, hq, by omega⟩, A 36, M.r36, 12, s, ⟨M.s36, rfl, hs, by omega⟩, 12, q, ⟨M.s36, rfl, hq, by omega⟩, A 37, M.r37, 12, s, ⟨M.s37, rfl, hs, by omega⟩, 12, q, ⟨M.s37, rfl, hq, by omega⟩, ?_⟩
  rw [rN M.j (by decide) (by decide) (by decide)]
  have F0 : Mf A [35, 36, 37, 39, 40] h (pI (pI (pL h (A 35) q (hL h (A 35) s)) (A 36) q (hI h (A 36) s)) (A 37) q (hI h (A 37) s)) := (mf_pL (by decide) (by decide)).trans ((mf_pI M.j (by decide) (by decide) (by decide)).trans (mf_pI M.j (by decide) (by decide) (by decide)))
  have e35 : hL (pI (pI (pL h (A 35) q (hL h (A 35) s)) (A 36) q (hI h (A 36) s)) (A 37) q (hI h (A 37) s)) (A 35) = va_up (hL h (A 35)) q (hL h (A 35) s) := by rw [rLI, rLI, rEL]
  have e36 : hI (pI (pI (pL h (A 35) q (hL h (A 35) s)) (A 36) q (hI h (A 36) s)) (A 37) q (hI h (A 37) s)) (A 36) = va_up (hI h (A 36)) q (hI h (A 36) s) := by rw [rN M.j (by decide) (by decide) (by decide), rE, rIL]
  have e37 : hI (pI (pI (pL h (A 35) q (hL h (A 35) s)) (A 36) q (hI h (A 36) s)) (A 37) q (hI h (A 37) s)) (A 37) = va_up (hI h (A 37)) q (hI h (A 37) s) := by rw [rE, rN M.j (by decide) (by decide) (by decide), rIL]
  have e39 : hI (pI (pI (pL h (A 35) q (hL h (A 35) s)) (A 36) q (hI h (A 36) s)) (A 37) q (hI h (A 37) s)) (A 39) = hI h (A 39) := by rw [rN M.j (by decide) (by decide) (by decide), rN M.j (by decide) (by decide) (by decide), rIL]
  have e40 : hI (pI (pI (pL h (A 35) q (hL h (A 35) s)) (A 36) q (hI h (A 36) s)) (A 37) q (hI h (A 37) s)) (A 40) = hI h (A 40) := by rw [rN M.j (by decide) (by decide) (by decide), rN M.j (by decide) (by decide) (by decide), rIL]
  generalize pI (pI (pL h (A 35) q (hL h (A 35) s)) (A 36) q (hI h (A 36) s)) (A 37) q (hI h (A 37) s) = h0 at F0 e35 e36 e37 e39 e40 ⊢
  unfold wL_MO_movePile_38
  refine ⟨fun x h' => ∃ k, k ≤ 3 ∧ x = nI k ∧ hI h' (A 39) = cpF (hI h (A 39)) (hI h (A 39)) (3 * q) (3 * s) k ∧ Mf A [39] h0 h', fun x h' => 3 - x.toNatClampNeg, ⟨0, Nat.zero_le _, rfl, by rw [cpF_0]; exact e39, Mf.rfl⟩, ?_⟩
  rintro _ h1 ⟨k, hk, rfl, g39, F1⟩
  have M1 := (F0.trans (F1.mono (by simp))).ma M
  unfold wB_MO_movePile_38
  rw [Lle (by omega) (by decide)]
  refine ⟨fun c => ?_, fun c => ?_⟩
  · have ek : k = 3 := by have : 3 ≤ k := c; omega
    subst ek
    unfold wL_MO_movePile_71
    refine ⟨fun x h' => ∃ t, t ≤ 459 ∧ x = nI t ∧ hI h' (A 40) = cpF (hI h (A 40)) (hI h (A 40)) (459 * q) (459 * s) t ∧ Mf A [40] h1 h', fun x h' => 459 - x.toNatClampNeg, ⟨0, Nat.zero_le _, rfl, by rw [cpF_0, F1.i M.j 40 (by decide) (by decide) (by decide)]; exact e40, Mf.rfl⟩, ?_⟩
    rintro _ h2 ⟨t, ht, rfl, g40, F2⟩
    have M2 := F2.ma M1
    unfold wB_MO_movePile_71
    rw [Lle (by omega) (by decide)]
    refine ⟨fun c => ⟨?_, ?_, ?_, ?_, ?_, F0.trans ((F1.mono (by simp)).trans (F2.mono (by simp)))⟩, fun c => ?_⟩
    · rw [F2.l M.j 35 (by decide) (by decide) (by decide), F1.l M.j 35 (by decide) (by decide) (by decide), e35]
    · rw [F2.i M.j 36 (by decide) (by decide) (by decide), F1.i M.j 36 (by decide) (by decide) (by decide), e36]
    · rw [F2.i M.j 37 (by decide) (by decide) (by decide), F1.i M.j 37 (by decide) (by decide) (by decide), e37]
    · rw [F2.i M.j 39 (by decide) (by decide) (by decide), g39]
    · have : 459 ≤ t := c
      rw [g40, show t = 459 by omega]
    · have c' : ¬ 459 ≤ t := c
      rw [show (459 : Int32) = nI 459 from rfl, pk_mul, pk_mul, nI_add, nI_add]
      refine ⟨M2.s41, A 40, M2.r40, 5508, _, ⟨M2.s40, rfl, by omega, by omega⟩, 5508, _, ⟨M2.s40, rfl, by omega, by omega⟩, ?_⟩
      rintro _ rfl
      rw [nI_1]
      refine ⟨⟨t + 1, by omega, rfl, ?_, F2.trans (mf_pI M.j (by decide) (by decide) (by decide))⟩, mu_lt (by omega) (by omega)⟩
      rw [rE, g40, cpF_out (by omega), cpF_succ]
  · have c' : ¬ 3 ≤ k := c
    rw [show (3 : Int32) = nI 3 from rfl, pk_mul, pk_mul, nI_add, nI_add]
    refine ⟨M1.s41, A 39, M1.r39, 36, _, ⟨M1.s39, rfl, by omega, by omega⟩, 36, _, ⟨M1.s39, rfl, by omega, by omega⟩, ?_⟩
    rintro _ rfl
    rw [nI_1]
    refine ⟨⟨k + 1, by omega, rfl, ?_, F1.trans (mf_pI M.j (by decide) (by decide) (by decide))⟩, mu_lt (by omega) (by omega)⟩
    rw [rE, g39, cpF_out (by omega), cpF_succ]
theorem er_getD {α : Type} {xs : List α} {k i : Nat} {z : α} : (xs.eraseIdx k).getD i z = if i < k then xs.getD i z else xs.getD (i + 1) z := by
  rw [List.getD_eq_getElem?_getD, List.getElem?_eraseIdx]
  split
  · rw [List.getD_eq_getElem?_getD]
  · rw [List.getD_eq_getElem?_getD]
theorem c_MO_dropPile {e k : Nat} {pd : Nat → List SPl} (M : MA A h) (P : MPp A h pd) (he : e < 4) (hk : k < (pd e).length) (h3 : ∀ d, d < 4 → (pd d).length ≤ 3) (hK : ∀ d, d < 4 → ∀ pl ∈ pd d, PK pl) : Cv G l M_MO_dropPile (d + 1) (w + 23) [.ref (A 41), .int (nI e), .int (nI k)] h 0 0 (fun h' => MPp A h' (updP pd e ((pd e).eraseIdx k)) ∧ Mf A [35, 36, 37, 38, 39, 40] h h') := by
  refine ok_MO_dropPile ?_
  have h3e := h3 e he
  have p38 := (P e he).1
  unfold wp_MO_dropPile
  refine ⟨M.s41, A 38, M.r38, 4, e, ⟨M.s38, rfl, he, by omega⟩, ?_⟩
  rw [p38, show (1 : Int32) = nI 1 from rfl, pk_sub (by omega)]
  have F0 : Mf A [35, 36, 37, 38, 39, 40] h (pI h (A 38) e (nI ((pd e).length - 1))) := mf_pI M.j (by decide) (by decide) (by decide)
  unfold wL_MO_dropPile_12
  refine ⟨fun x h' => ∃ j, k ≤ j ∧ j ≤ (pd e).length - 1 ∧ x = nI j ∧ hI h' (A 38) = va_up (hI h (A 38)) e (nI ((pd e).length - 1)) ∧ (∀ q, hL h' (A 35) q = if 3 * e + k ≤ q ∧ q < 3 * e + j then hL h (A 35) (q + 1) else hL h (A 35) q) ∧ (∀ q, hI h' (A 36) q = if 3 * e + k ≤ q ∧ q < 3 * e + j then hI h (A 36) (q + 1) else hI h (A 36) q) ∧ (∀ q, hI h' (A 37) q = if 3 * e + k ≤ q ∧ q < 3 * e + j then hI h (A 37) (q + 1) else hI h (A 37) q) ∧ (∀ t, hI h' (A 39) t = if 3 * (3 * e + k) ≤ t ∧ t < 3 * (3 * e + j) then hI h (A 39) (t + 3) else hI h (A 39) t) ∧ (∀ t, hI h' (A 40) t = if 459 * (3 * e + k) ≤ t ∧ t < 459 * (3 * e + j) then hI h (A 40) (t + 459) else hI h (A 40) t) ∧ Mf A [35, 36, 37, 38, 39, 40] h h', fun x h' => (pd e).length - 1 - x.toNatClampNeg, ⟨k, Nat.le_refl _, by omega, rfl, by rw [rE], fun q => by rw [rLI, if_neg (by omega)], fun q => by rw [rN M.j (by decide) (by decide) (by decide), if_neg (by omega)], fun q => by rw [rN M.j (by decide) (by decide) (by decide), if_neg (by omega)], fun q => by rw [rN M.j (by decide) (by decide) (by decide), if_neg (by omega)], fun q => by rw [rN M.j (by decide) (by decide) (by decide), if_neg (by omega)], F0⟩, ?_⟩
  rintro _ h1 ⟨j, hj1, hj2, rfl, e38, e35, e36, e37, e39, e40, F1⟩
  have M1 := F1.ma M
  unfold wB_MO_dropPile_12
  refine ⟨M1.s41, A 38, M1.r38, 4, e, ⟨M1.s38, rfl, he, by omega⟩, ?_⟩
  rw [e38, va_up_self, nI_leI (by omega) (by omega)]
  refine ⟨fun c => ?_, fun c => ?_⟩
  · have ej : j = (pd e).length - 1 := by omega
    subst ej
    refine ⟨fun f hf => ?_, F1⟩
    have h3f := h3 f hf
    by_cases cf : f = e
    · subst cf
      have hlen : ((pd f).eraseIdx k).length = (pd f).length - 1 := List.length_eraseIdx_of_lt hk
      rw [updP_eq, e38, va_up_self, hlen]
      refine ⟨rfl, fun i hi => ?_⟩
      rw [er_getD]
      by_cases ci : i < k
      · rw [if_pos ci]
        have o := (P f hf).2 i (by omega)
        have K := hK f hf _ (getD_mem (z := (0, 0, [])) (show i < (pd f).length by omega))
        exact o.mv K (by rw [e35, if_neg (by omega)]) (by rw [e36, if_neg (by omega)]) (by rw [e37, if_neg (by omega)]) (fun t ht => by rw [e39, if_neg (by omega)]) (fun t ht => by rw [e40, if_neg (by omega)])
      · rw [if_neg ci]
        have o := (P f hf).2 (i + 1) (by omega)
        have K := hK f hf _ (getD_mem (z := (0, 0, [])) (show i + 1 < (pd f).length by omega))
        exact o.mv K (by rw [e35, if_pos (by omega)]; rfl) (by rw [e36, if_pos (by omega)]; rfl) (by rw [e37, if_pos (by omega)]; rfl) (fun t ht => by rw [e39, if_pos (by omega)]; congr 1; omega) (fun t ht => by rw [e40, if_pos (by omega)]; congr 1; omega)
    · rw [updP_ne cf, e38, va_up_ne _ _ cf]
      refine ⟨(P f hf).1, fun i hi => ?_⟩
      have o := (P f hf).2 i hi
      have K := hK f hf _ (getD_mem (z := (0, 0, [])) hi)
      exact o.mv K (by rw [e35, if_neg (by omega)]) (by rw [e36, if_neg (by omega)]) (by rw [e37, if_neg (by omega)]) (fun t ht => by rw [e39, if_neg (by omega)]) (fun t ht => by rw [e40, if_neg (by omega)])
  · rw [show (3 : Int32) * nI e = nI (3 * e) from pk_mul 3 e, nI_add, nI_1]
    refine ⟨_, c_MO_movePile M1 (by omega) (by omega) (by omega), ?_⟩
    rintro h2 ⟨f35, f36, f37, f39, f40, F2⟩ _ rfl
    rw [nI_1]
    refine ⟨⟨j + 1, by omega, by omega, rfl, by rw [F2.i M.j 38 (by decide) (by decide) (by decide)]; exact e38, fun q => ?_, fun q => ?_, fun q => ?_, fun t => ?_, fun t => ?_, F1.trans (F2.mono (by simp +contextual))⟩, mu_lt (by omega) (by omega)⟩
    · rw [f35]
      by_cases c2 : q = 3 * e + j
      · rw [c2, va_up_self, e35, if_neg (by omega), if_pos (by omega)]
      · rw [va_up_ne _ _ c2, e35]
        by_cases c3 : 3 * e + k ≤ q ∧ q < 3 * e + j
        · rw [if_pos c3, if_pos (by omega)]
        · rw [if_neg c3, if_neg (by omega)]
    · rw [f36]
      by_cases c2 : q = 3 * e + j
      · rw [c2, va_up_self, e36, if_neg (by omega), if_pos (by omega)]
      · rw [va_up_ne _ _ c2, e36]
        by_cases c3 : 3 * e + k ≤ q ∧ q < 3 * e + j
        · rw [if_pos c3, if_pos (by omega)]
        · rw [if_neg c3, if_neg (by omega)]
    · rw [f37]
      by_cases c2 : q = 3 * e + j
      · rw [c2, va_up_self, e37, if_neg (by omega), if_pos (by omega)]
      · rw [va_up_ne _ _ c2, e37]
        by_cases c3 : 3 * e + k ≤ q ∧ q < 3 * e + j
        · rw [if_pos c3, if_pos (by omega)]
        · rw [if_neg c3, if_neg (by omega)]
    · rw [f39]
      by_cases c2 : 3 * (3 * e + j) ≤ t ∧ t < 3 * (3 * e + j) + 3
      · rw [cpF_in c2.1 c2.2, e39, if_neg (by omega), if_pos (by omega)]
        congr 1
        omega
      · rw [cpF_out (by omega), e39]
        by_cases c3 : 3 * (3 * e + k) ≤ t ∧ t < 3 * (3 * e + j)
        · rw [if_pos c3, if_pos (by omega)]
        · rw [if_neg c3, if_neg (by omega)]
    · rw [f40]
      by_cases c2 : 459 * (3 * e + j) ≤ t ∧ t < 459 * (3 * e + j) + 459
      · rw [cpF_in c2.1 c2.2, e40, if_neg (by omega), if_pos (by omega)]
        congr 1
        omega
      · rw [cpF_out (by omega), e40]
        by_cases c3 : 459 * (3 * e + k) ≤ t ∧ t < 459 * (3 * e + j)
        · rw [if_pos c3, if_pos (by omega)]
        · rw [if_neg c3, if_neg (by omega)]
end MS2
