/-! the reference's side -/
section ME
variable {G : Gx} {l : Launch} {d w : Nat} {A : Nat → Nat} {h : Hp}
def kdS (rep : Bool) (hd : List Nat) : Nat := 17 + (if rep then 32 else 0) + (if hd.length = 0 then 0 else 64)
theorem kdS_f {rep : Bool} {hd r : List Nat} : fbit (kdS rep hd :: r) = b0 hd := by
  unfold fbit b0
  have : hdr (kdS rep hd :: r) = decide (¬ hd.length = 0) := by
    show decide (kdS rep hd / 64 % 2 = 1) = _
    unfold kdS
    cases rep <;> by_cases c : hd.length = 0 <;> simp [c]
  rw [this]
  by_cases c : hd.length = 0 <;> simp [c]
theorem c_MO_putSubmit {sp hd : List Nat} {rep : Bool} {mn to val first count : Nat} {x1 x8 x9 x10 : Int32} (M : MA A h) (Q : SQ A h sp) (hr : x1 = 0 ↔ rep = false) (t1 : 1 ≤ to) (t2 : to < 1000000000000) (hf : first + count ≤ sp.length) (hh : (hd = [] ∧ x8 < 0) ∨ ∃ r p q, hd = [5, 0, 3, r, p, q] ∧ x8 = nI r ∧ x9 = nI p ∧ x10 = nI q ∧ r < 2147483648) (hc : count ≤ 160) : Cv G l M_MO_putSubmit (d + 3) (w + 72) [.ref (A 41), .int x1, .int (nI mn), .long (lN to), .int (nI val), .int (nI first), .int (nI count), .int x8, .int x9, .int x10] h 0 0 (fun h' => BF A h' (subR (kdS rep hd) mn to val hd ((sp.drop first).take count)) ∧ Mf A [11, 12] h h') := by
  refine ok_MO_putSubmit ?_
  have B0 : BF A (pI h (A 41) 11 0) [] := ⟨hI_pI_eq, by decide, fun j hj => absurd hj (Nat.not_lt_zero _)⟩
  have F0 : Mf A [11, 12] h (pI h (A 41) 11 0) := mf_pS (by decide)
  have htl : ((sp.drop first).take count).length = count := by rw [List.length_take, List.length_drop]; omega
  have go : ∀ sx0 sx1, sx1 + sx0 = nI (kdS rep hd) → wJ_MO_putSubmit_30 G l d w (fun h' => BF A h' (subR (kdS rep hd) mn to val hd ((sp.drop first).take count)) ∧ Mf A [11, 12] h h') (A 41) x1 (nI mn) (lN to) (nI val) (nI first) (nI count) x8 x9 x10 sx0 sx1 (A 41) (pI h (A 41) 11 0) := by
    intro sx0 sx1 e
    unfold wJ_MO_putSubmit_30
    rw [e]
    have M0 := F0.ma M
    generalize pI h (A 41) 11 0 = h0 at B0 F0 M0 ⊢
    refine ⟨M0.s41, _, c_MO_put M0 B0 (by decide), ?_⟩
    rintro h1 ⟨B1, F1⟩
    have M1 := F1.ma M0
    refine ⟨M1.s41, _, c_MO_put M1 B1 (by simp), ?_⟩
    rintro h2 ⟨B2, F2⟩
    have M2 := F2.ma M1
    refine ⟨M2.s41, _, c_MO_putAddress M2 B2 t1 t2 (by simp), ?_⟩
    rintro h3 ⟨B3, F3⟩
    have M3 := F3.ma M2
    have hn := nd_ok t1 t2
    have l3 : ([] ++ [kdS rep hd] ++ [mn] ++ adr to).length = 4 + (nd to + 1) / 2 := by
      simp only [List.length_append, List.length_cons, List.length_nil, adr_len]
      omega
    refine ⟨M3.s41, _, c_MO_put (v := 0) M3 B3 (by omega), ?_⟩
    rintro h4 ⟨B4, F4⟩
    have M4 := F4.ma M3
    refine ⟨M4.s41, _, c_MO_put (v := 0) M4 B4 (by rw [List.length_append, l3]; simp only [List.length_cons, List.length_nil]; omega), ?_⟩
    rintro h5 ⟨B5, F5⟩
    have M5 := F5.ma M4
    refine ⟨M5.s41, _, c_MO_put M5 B5 (by rw [List.length_append, List.length_append, l3]; simp only [List.length_cons, List.length_nil]; omega), ?_⟩
    rintro h6 ⟨B6, F6⟩
    have M6 := F6.ma M5
    have F06 : Mf A [11, 12] h h6 := F0.trans (F1.trans (F2.trans (F3.trans (F4.trans (F5.trans F6)))))
    have l6 : ([] ++ [kdS rep hd] ++ [mn] ++ adr to ++ [0] ++ [0] ++ [val]).length = 7 + (nd to + 1) / 2 := by
      rw [List.length_append, List.length_append, List.length_append, l3]
      simp only [List.length_cons, List.length_nil]
      omega
    have hu : uN hd count ≤ 167 := by unfold uN; split <;> omega
    refine ⟨M6.s41, _, c_MO_putData M6 B6 (Q.kept F06 M.j (by decide) (by decide)) hf hh hc (by rw [l6]; omega), ?_⟩
    rintro h7 ⟨B7, F7⟩
    refine ⟨?_, F06.trans F7⟩
    rw [l6] at B7
    unfold subR
    rw [htl]
    have eB : subB (kdS rep hd) mn to val (count + (if hd.length = 0 then 0 else 7)) hd = [] ++ [kdS rep hd] ++ [mn] ++ adr to ++ [0] ++ [0] ++ [val] ++ [uN hd count] ++ hd ++ zs ((7 * uN hd count + 7) / 8 - hd.length) := by
      unfold subB uN
      simp
    have e2 : bt (subB (kdS rep hd) mn to val (count + (if hd.length = 0 then 0 else 7)) hd) 2 = nd to := rfl
    have ef : fbit (subB (kdS rep hd) mn to val (count + (if hd.length = 0 then 0 else 7)) hd) = b0 hd := by
      unfold subB
      exact kdS_f
    rw [e2, ef, eB, show 8 + (nd to + 1) / 2 = 7 + (nd to + 1) / 2 + 1 by omega]
    exact B7
  have go2 : ∀ sx0 sx1 v, sx1 + sx0 = nI v → (v + (if hd.length = 0 then 0 else 64)) = kdS rep hd → wJ_MO_putSubmit_18 G l d w (fun h' => BF A h' (subR (kdS rep hd) mn to val hd ((sp.drop first).take count)) ∧ Mf A [11, 12] h h') (A 41) x1 (nI mn) (lN to) (nI val) (nI first) (nI count) x8 x9 x10 sx0 sx1 (A 41) (pI h (A 41) 11 0) := by
    intro sx0 sx1 v e1 e2
    unfold wJ_MO_putSubmit_18
    rcases hh with ⟨f1, f2⟩ | ⟨r, p, q, f1, f2, f3, f4, f5⟩
    · refine ⟨fun c => absurd f2 (Int32.not_lt.mpr c), fun _ => go 0 _ ?_⟩
      rw [e1, ← e2, f1, show (0 : Int32) = nI 0 from rfl, nI_add]
      rfl
    · refine ⟨fun _ => go 64 _ ?_, fun c => absurd (Int32.not_lt.mp (by rw [f2]; exact nI_pos f5)) c⟩
      rw [e1, ← e2, f1, show (64 : Int32) = nI 64 from rfl, nI_add]
      rfl
  unfold wp_MO_putSubmit
  refine ⟨M.s41, fun c => go2 0 17 17 rfl ?_, fun c => go2 32 17 49 rfl ?_⟩
  · unfold kdS
    rw [hr.mp c]
    rfl
  · unfold kdS
    cases hrep : rep with
    | false => exact absurd (hr.mpr hrep) c
    | true => rfl
/-- where a line begins -/
def bL (n : Nat) : Nat := if n = 0 then 0 else 2 + 6 * n
theorem c_MO_baseOf {n : Nat} (hn : n < 9) : Ci G l M_MO_baseOf (d + 0) (w + 0) [.int (nI n)] h 0 0 (Xi (nI (bL n)) h) := by
  refine ok_MO_baseOf ?_
  unfold wp_MO_baseOf wJ_MO_baseOf_34
  have : ∀ n : Fin 9, (¬ nI n.val = 0 → (5 ≤ nI n.val → 32 + 6 * (nI n.val - 5) = nI (bL n.val)) ∧ (¬ 5 ≤ nI n.val → 8 + 6 * (nI n.val - 1) = nI (bL n.val))) ∧ (nI n.val = 0 → 0 = nI (bL n.val)) := by decide +kernel
  have t := this ⟨n, hn⟩
  exact ⟨fun c => ⟨fun c2 => ⟨(t.1 c).1 c2, rfl⟩, fun c2 => ⟨(t.1 c).2 c2, rfl⟩⟩, fun c => ⟨t.2 c, rfl⟩⟩
/-- row r of the rows -/
def RA (A : Nat → Nat) (h : Hp) (r : Nat) (bs : List Nat) : Prop := hI h (A 14) r = nI bs.length ∧ ∀ i, i < bs.length → hI h (A 13) (160 * r + i) = nI (bt bs i)
theorem c_MO_load {r : Nat} {bs : List Nat} (M : MA A h) (R : RA A h r bs) (hr : r < 56) (hl : bs.length ≤ 160) : Cv G l M_MO_load (d + 0) (w + 0) [.ref (A 41), .int (nI r)] h 0 0 (fun h' => BF A h' bs ∧ Mf A [11, 12] h h') := by
  refine ok_MO_load ?_
  unfold wp_MO_load
  refine ⟨M.s41, A 14, M.r14, 56, r, ⟨M.s14, rfl, hr, by omega⟩, ?_⟩
  rw [R.1]
  have F0 : Mf A [11, 12] h (pI h (A 41) 11 (nI bs.length)) := mf_pS (by decide)
  unfold wL_MO_load_12
  refine ⟨fun x h' => ∃ k, k ≤ bs.length ∧ x = nI k ∧ hI h' (A 41) 11 = nI bs.length ∧ (∀ j, j < k → hI h' (A 12) j = nI (bt bs j)) ∧ Mf A [11, 12] h h', fun x h' => bs.length - x.toNatClampNeg, ⟨0, Nat.zero_le _, rfl, hI_pI_eq, fun j hj => absurd hj (Nat.not_lt_zero _), F0⟩, ?_⟩
  rintro _ h1 ⟨k, hk, rfl, e1, e2, F1⟩
  have M1 := F1.ma M
  unfold wB_MO_load_12
  rw [e1, nI_leI (by omega) (by omega)]
  refine ⟨M1.s41, fun c => ⟨⟨e1, by omega, fun j hj => e2 j (by omega)⟩, F1⟩, fun c => ?_⟩
  rw [show (160 : Int32) = nI 160 from rfl, pk_mul, nI_add]
  refine ⟨A 13, M1.r13, 8960, _, ⟨M1.s13, rfl, by omega, by omega⟩, A 12, M1.r12, 176, k, ⟨M1.s12, rfl, by omega, by omega⟩, ?_⟩
  rintro _ rfl
  rw [nI_1, F1.i M.j 13 (by decide) (by decide) (by decide), R.2 k (by omega)]
  refine ⟨⟨k + 1, by omega, rfl, by rw [rN M.j (by decide) (by decide) (by decide)]; exact e1, fun j hj => ?_, F1.trans (mf_pI M.j (by decide) (by decide) (by decide))⟩, mu_lt (by omega) (by omega)⟩
  rw [rE]
  by_cases c2 : j = k
  · rw [c2, va_up_self]
  · rw [va_up_ne _ _ c2]
    exact e2 j (by omega)
/-- row s put at row r -/
theorem c_MO_move {r s : Nat} (M : MA A h) (hr : r < 56) (hs : s < 56) (n : r ≠ s) : Cv G l M_MO_move (d + 0) (w + 0) [.ref (A 41), .int (nI r), .int (nI s)] h 0 0 (fun h' => hI h' (A 13) = cpF (hI h (A 13)) (hI h (A 13)) (160 * r) (160 * s) 160 ∧ hI h' (A 14) = va_up (hI h (A 14)) r (hI h (A 14) s) ∧ hI h' (A 15) = va_up (hI h (A 15)) r (hI h (A 15) s) ∧ Mf A [13, 14, 15] h h') := by
  refine ok_MO_move ?_
  unfold wp_MO_move wL_MO_move_2
  refine ⟨fun x h' => ∃ k, k ≤ 160 ∧ x = nI k ∧ hI h' (A 13) = cpF (hI h (A 13)) (hI h (A 13)) (160 * r) (160 * s) k ∧ Mf A [13] h h', fun x h' => 160 - x.toNatClampNeg, ⟨0, Nat.zero_le _, rfl, by rw [cpF_0], Mf.rfl⟩, ?_⟩
  rintro _ h1 ⟨k, hk, rfl, e1, F1⟩
  have M1 := F1.ma M
  unfold wB_MO_move_2
  rw [Lle (by omega) (by decide)]
  refine ⟨fun c => ?_, fun c => ?_⟩
  · refine ⟨M1.s41, A 14, M1.r14, 56, s, ⟨M1.s14, rfl, hs, by omega⟩, 56, r, ⟨M1.s14, rfl, hr, by omega⟩, A 15, M1.r15, 56, s, ⟨M1.s15, rfl, hs, by omega⟩, 56, r, ⟨M1.s15, rfl, hr, by omega⟩, ?_⟩
    have g14 := F1.i M.j 14 (by decide) (by decide) (by decide)
    have g15 := F1.i M.j 15 (by decide) (by decide) (by decide)
    refine ⟨?_, ?_, ?_, (F1.mono (by simp)).trans ((mf_pI M.j (by decide) (by decide) (by decide)).trans (mf_pI M.j (by decide) (by decide) (by decide)))⟩
    · rw [rN M.j (by decide) (by decide) (by decide), rN M.j (by decide) (by decide) (by decide), e1, show k = 160 by omega]
    · rw [rN M.j (by decide) (by decide) (by decide), rE, g14]
    · rw [rE, rN M.j (by decide) (by decide) (by decide), g15]
  · rw [show (160 : Int32) = nI 160 from rfl, pk_mul, pk_mul, nI_add, nI_add]
    refine ⟨M1.s41, A 13, M1.r13, 8960, _, ⟨M1.s13, rfl, by omega, by omega⟩, 8960, _, ⟨M1.s13, rfl, by omega, by omega⟩, ?_⟩
    rintro _ rfl
    rw [nI_1]
    refine ⟨⟨k + 1, by omega, rfl, ?_, F1.trans (mf_pI M.j (by decide) (by decide) (by decide))⟩, mu_lt (by omega) (by omega)⟩
    rw [rE, e1, cpF_out (by omega), cpF_succ]
end ME
section MG
variable {G : Gx} {l : Launch} {d w : Nat} {A : Nat → Nat} {h h' : Hp} {L : Nat → List (List Nat)}
def cap (n : Nat) : Nat := if n = 0 then 8 else 6
theorem bL_or (n : Nat) : (n = 0 ∧ bL n = 0 ∧ cap n = 8) ∨ (n ≠ 0 ∧ bL n = 2 + 6 * n ∧ cap n = 6) := by
  unfold bL cap
  by_cases c : n = 0
  · left
    rw [if_pos c, if_pos c]
    exact ⟨c, rfl, rfl⟩
  · right
    rw [if_neg c, if_neg c]
    exact ⟨c, rfl, rfl⟩
theorem row_lt {n k : Nat} (hn : n < 9) (hk : k < cap n) : bL n + k < 56 := by
  have := bL_or n
  omega
theorem row_ne {n m k j : Nat} (hk : k < cap n) (hj : j < cap m) (e : bL n + k = bL m + j) : n = m ∧ k = j := by
  have := bL_or n
  have := bL_or m
  omega
theorem cap_le (n : Nat) : cap n ≤ 8 := by unfold cap; split <;> omega
/-- the lines -/
def LR (A : Nat → Nat) (h : Hp) (L : Nat → List (List Nat)) : Prop := ∀ n, n < 9 → hI h (A 16) n = nI (L n).length ∧ (L n).length ≤ cap n ∧ (∀ r ∈ L n, r.length ≤ 160) ∧ ∀ k, k < (L n).length → RA A h (bL n + k) ((L n).getD k [])
def updL (L : Nat → List (List Nat)) (n : Nat) (x : List (List Nat)) : Nat → List (List Nat) := fun m => if m = n then x else L m
theorem updL_eq {n : Nat} {x : List (List Nat)} : updL L n x n = x := if_pos rfl
theorem updL_ne {n m : Nat} {x : List (List Nat)} (e : m ≠ n) : updL L n x m = L m := if_neg e
theorem LR.kept {F : List Nat} (R : LR A h L) (a : Mf A F h h') (J : MJ A) (n13 : 13 ∉ F) (n14 : 14 ∉ F) (n16 : 16 ∉ F) : LR A h' L := fun n hn => by
  obtain ⟨r1, r2, r3, r4⟩ := R n hn
  refine ⟨by rw [a.i J 16 (by decide) (by decide) n16]; exact r1, r2, r3, fun k hk => ⟨by rw [a.i J 14 (by decide) (by decide) n14]; exact (r4 k hk).1, fun i hi => by rw [a.i J 13 (by decide) (by decide) n13]; exact (r4 k hk).2 i hi⟩⟩
theorem getD_mem {α : Type} {xs : List α} {k : Nat} {z : α} (hk : k < xs.length) : xs.getD k z ∈ xs := by
  rw [List.getD_eq_getElem?_getD, List.getElem?_eq_getElem hk]
  exact List.getElem_mem hk
theorem getD_snocl {α : Type} {xs : List α} {k : Nat} {y z : α} (hk : k < xs.length) : (xs ++ [y]).getD k z = xs.getD k z := by
  rw [List.getD_eq_getElem?_getD, List.getD_eq_getElem?_getD, List.getElem?_append_left hk]
theorem getD_snocr {α : Type} {xs : List α} {y z : α} : (xs ++ [y]).getD xs.length z = y := by
  rw [List.getD_eq_getElem?_getD, List.getElem?_append_right (Nat.le_refl _), Nat.sub_self]
  rfl
theorem c_MO_append {n : Nat} {bs : List Nat} {x : Int32} (M : MA A h) (R : LR A h L) (hn : n < 9) (hc : (L n).length < cap n) (B : BF A h bs) (hl : bs.length ≤ 160) : Cv G l M_MO_append (d + 1) (w + 20) [.ref (A 41), .int (nI n), .int x] h 0 0 (fun h' => LR A h' (updL L n (L n ++ [bs])) ∧ hI h' (A 15) = va_up (hI h (A 15)) (bL n + (L n).length) x ∧ ((∀ i, (i < 160 * (bL n + (L n).length) ∨ 160 * (bL n + (L n).length) + 160 ≤ i) → hI h' (A 13) i = hI h (A 13) i) ∧ (∀ j, j ≠ bL n + (L n).length → hI h' (A 14) j = hI h (A 14) j) ∧ hI h' (A 16) = va_up (hI h (A 16)) n (nI ((L n).length + 1))) ∧ Mf A [13, 14, 15, 16] h h') := by
  refine ok_MO_append ?_
  unfold wp_MO_append
  refine ⟨_, c_MO_baseOf hn, ?_⟩
  rintro _ _ ⟨rfl, rfl⟩
  refine ⟨M.s41, A 16, M.r16, 9, n, ⟨M.s16, rfl, hn, by omega⟩, ?_⟩
  rintro _ rfl
  have hr := row_lt hn hc
  rw [(R n hn).1, nI_add]
  generalize hrr : bL n + (L n).length = r at hr ⊢
  unfold wL_MO_append_15
  refine ⟨fun x h' => ∃ k, k ≤ bs.length ∧ x = nI k ∧ hI h' (A 13) = cpF (hI h (A 13)) (hI h (A 12)) (160 * r) 0 k ∧ Mf A [13] h h', fun x h' => bs.length - x.toNatClampNeg, ⟨0, Nat.zero_le _, rfl, by rw [cpF_0], Mf.rfl⟩, ?_⟩
  rintro _ h1 ⟨k, hk, rfl, e1, F1⟩
  have M1 := F1.ma M
  have B1 := B.kept F1 M.j (by decide) (by decide)
  unfold wB_MO_append_15
  rw [B1.1, nI_leI (by omega) (by omega)]
  refine ⟨M1.s41, fun c => ?_, fun c => ?_⟩
  · refine ⟨A 14, M1.r14, 56, r, ⟨M1.s14, rfl, hr, by omega⟩, A 15, M1.r15, 56, r, ⟨M1.s15, rfl, hr, by omega⟩, A 16, M1.r16, 9, n, ⟨M1.s16, rfl, hn, by omega⟩, ?_⟩
    have ek : k = bs.length := by omega
    subst ek
    have g16 := F1.i M.j 16 (by decide) (by decide) (by decide)
    have g14 := F1.i M.j 14 (by decide) (by decide) (by decide)
    have g15 := F1.i M.j 15 (by decide) (by decide) (by decide)
    have hcn := cap_le n
    rw [rN M.j (by decide) (by decide) (by decide), rN M.j (by decide) (by decide) (by decide), g16, (R n hn).1, nI_1]
    have q13 : hI (pI (pI (pI h1 (A 14) r (nI bs.length)) (A 15) r x) (A 16) n (nI ((L n).length + 1))) (A 13) = cpF (hI h (A 13)) (hI h (A 12)) (160 * r) 0 bs.length := by
      rw [rN M.j (by decide) (by decide) (by decide), rN M.j (by decide) (by decide) (by decide), rN M.j (by decide) (by decide) (by decide), e1]
    have q14 : hI (pI (pI (pI h1 (A 14) r (nI bs.length)) (A 15) r x) (A 16) n (nI ((L n).length + 1))) (A 14) = va_up (hI h (A 14)) r (nI bs.length) := by
      rw [rN M.j (by decide) (by decide) (by decide), rN M.j (by decide) (by decide) (by decide), rE, g14]
    have q15 : hI (pI (pI (pI h1 (A 14) r (nI bs.length)) (A 15) r x) (A 16) n (nI ((L n).length + 1))) (A 15) = va_up (hI h (A 15)) r x := by
      rw [rN M.j (by decide) (by decide) (by decide), rE, rN M.j (by decide) (by decide) (by decide), g15]
    have q16 : hI (pI (pI (pI h1 (A 14) r (nI bs.length)) (A 15) r x) (A 16) n (nI ((L n).length + 1))) (A 16) = va_up (hI h (A 16)) n (nI ((L n).length + 1)) := by
      rw [rE, rN M.j (by decide) (by decide) (by decide), rN M.j (by decide) (by decide) (by decide), g16]
    refine ⟨fun m hm => ?_, q15, ⟨fun i hi => by rw [q13, cpF_out (by omega)], fun j hj => by rw [q14, va_up_ne _ _ hj], q16⟩, (F1.mono (by simp)).trans ((mf_pI M.j (by decide) (by decide) (by decide)).trans ((mf_pI M.j (by decide) (by decide) (by decide)).trans (mf_pI M.j (by decide) (by decide) (by decide))))⟩
    obtain ⟨r1, r2, r3, r4⟩ := R m hm
    have old : ∀ k, k < (L m).length → RA A (pI (pI (pI h1 (A 14) r (nI bs.length)) (A 15) r x) (A 16) n (nI ((L n).length + 1))) (bL m + k) ((L m).getD k []) := fun k hk => by
      have hne : bL m + k ≠ r := fun e => by
        rw [← hrr] at e
        have := row_ne (by omega) hc e
        obtain ⟨h1, h2⟩ := this
        subst h1
        omega
      have hb := r3 _ (getD_mem (z := []) hk)
      refine ⟨by rw [q14, va_up_ne _ _ hne]; exact (r4 k hk).1, fun i hi => ?_⟩
      rw [q13, cpF_out (by omega)]
      exact (r4 k hk).2 i hi
    by_cases c2 : m = n
    · subst c2
      rw [updL_eq, q16, va_up_self]
      refine ⟨by rw [List.length_append]; rfl, by rw [List.length_append]; exact hc, fun r0 hr0 => ?_, fun k hk => ?_⟩
      · rcases List.mem_append.mp hr0 with z | z
        · exact r3 r0 z
        · rw [List.mem_singleton.mp z]; exact hl
      · rw [List.length_append] at hk
        by_cases c3 : k = (L m).length
        · rw [c3, getD_snocr, hrr]
          refine ⟨by rw [q14, va_up_self], fun i hi => ?_⟩
          rw [q13, cpF_in (by omega) (by omega), Nat.zero_add, Nat.add_sub_cancel_left]
          exact B.2.2 i hi
        · have hk' : k < (L m).length := by simp only [List.length_cons, List.length_nil] at hk; omega
          rw [getD_snocl hk']
          exact old k hk'
    · rw [updL_ne c2, q16, va_up_ne _ _ c2]
      exact ⟨r1, r2, r3, old⟩
  · rw [show (160 : Int32) = nI 160 from rfl, pk_mul, nI_add]
    refine ⟨A 12, M1.r12, 176, k, ⟨M1.s12, rfl, by omega, by omega⟩, A 13, M1.r13, 8960, _, ⟨M1.s13, rfl, by omega, by omega⟩, ?_⟩
    rintro _ rfl
    rw [nI_1]
    refine ⟨⟨k + 1, by omega, rfl, ?_, F1.trans (mf_pI M.j (by decide) (by decide) (by decide))⟩, mu_lt (by omega) (by omega)⟩
    have g12 := F1.i M.j 12 (by decide) (by decide) (by decide)
    have hs := cpF_succ (hI h (A 13)) (hI h (A 12)) (160 * r) 0 k
    rw [Nat.zero_add] at hs
    rw [rE, e1, g12, hs]
theorem c_MO_removeFirst {n : Nat} {r : List Nat} {rs : List (List Nat)} (M : MA A h) (R : LR A h L) (hn : n < 9) (hL : L n = r :: rs) : Cv G l M_MO_removeFirst (d + 1) (w + 23) [.ref (A 41), .int (nI n)] h 0 0 (fun h' => LR A h' (updL L n rs) ∧ (∀ j, j < rs.length → hI h' (A 15) (bL n + j) = hI h (A 15) (bL n + j + 1)) ∧ (∀ j, (j < bL n ∨ bL n + rs.length ≤ j) → hI h' (A 15) j = hI h (A 15) j) ∧ Mf A [13, 14, 15, 16] h h') := by
  refine ok_MO_removeFirst ?_
  unfold wp_MO_removeFirst
  refine ⟨_, c_MO_baseOf hn, ?_⟩
  rintro _ _ ⟨rfl, rfl⟩
  have hlen : (L n).length = rs.length + 1 := by rw [hL]; rfl
  obtain ⟨p1, p2, p3, p4⟩ := R n hn
  have hcn := cap_le n
  refine ⟨M.s41, A 16, M.r16, 9, n, ⟨M.s16, rfl, hn, by omega⟩, ?_⟩
  rw [p1, hlen, show (1 : Int32) = nI 1 from rfl, pk_sub (by omega), Nat.add_sub_cancel]
  have F0 : Mf A [13, 14, 15, 16] h (pI h (A 16) n (nI rs.length)) := mf_pI M.j (by decide) (by decide) (by decide)
  unfold wL_MO_removeFirst_17
  refine ⟨fun x h' => ∃ k, k ≤ rs.length ∧ x = nI k ∧ hI h' (A 16) = va_up (hI h (A 16)) n (nI rs.length) ∧ (∀ i, i < 8960 → hI h' (A 13) i = if 160 * bL n ≤ i ∧ i < 160 * (bL n + k) then hI h (A 13) (i + 160) else hI h (A 13) i) ∧ (∀ j, hI h' (A 14) j = if bL n ≤ j ∧ j < bL n + k then hI h (A 14) (j + 1) else hI h (A 14) j) ∧ (∀ j, hI h' (A 15) j = if bL n ≤ j ∧ j < bL n + k then hI h (A 15) (j + 1) else hI h (A 15) j) ∧ Mf A [13, 14, 15, 16] h h', fun x h' => rs.length - x.toNatClampNeg, ⟨0, Nat.zero_le _, rfl, by rw [rE], fun i _ => by rw [rN M.j (by decide) (by decide) (by decide), if_neg (by omega)], fun j => by rw [rN M.j (by decide) (by decide) (by decide), if_neg (by omega)], fun j => by rw [rN M.j (by decide) (by decide) (by decide), if_neg (by omega)], F0⟩, ?_⟩
  rintro _ h1 ⟨k, hk, rfl, e16, e13, e14, e15, F1⟩
  have M1 := F1.ma M
  unfold wB_MO_removeFirst_17
  refine ⟨M1.s41, A 16, M1.r16, 9, n, ⟨M1.s16, rfl, hn, by omega⟩, ?_⟩
  rw [e16, va_up_self, nI_leI (by omega) (by omega)]
  have hb56 : ∀ k, k < rs.length + 1 → bL n + k < 56 := fun k hk => row_lt hn (by omega)
  refine ⟨fun c => ?_, fun c => ?_⟩
  · have ek : k = rs.length := by omega
    subst ek
    refine ⟨fun m hm => ?_, fun j hj => by rw [e15, if_pos (by omega)], fun j hj => by rw [e15, if_neg (by omega)], F1⟩
    by_cases c2 : m = n
    · subst c2
      rw [updL_eq, e16, va_up_self]
      refine ⟨rfl, by omega, fun r0 hr0 => p3 r0 (by rw [hL]; exact List.mem_cons_of_mem _ hr0), fun j hj => ?_⟩
      have := p4 (j + 1) (by omega)
      have hbb := hb56 (j + 1) (by omega)
      have e : (L m).getD (j + 1) [] = rs.getD j [] := by rw [hL]; rfl
      rw [e] at this
      have hl160 := p3 (rs.getD j []) (by rw [hL]; exact List.mem_cons_of_mem _ (getD_mem hj))
      refine ⟨by rw [e14, if_pos (by omega)]; exact this.1, fun i hi => ?_⟩
      rw [e13 _ (by omega), if_pos (by omega)]
      have := this.2 i hi
      rw [show 160 * (bL m + j) + i + 160 = 160 * (bL m + (j + 1)) + i by omega]
      exact this
    · obtain ⟨r1, r2, r3, r4⟩ := R m hm
      rw [updL_ne c2, e16, va_up_ne _ _ c2]
      refine ⟨r1, r2, r3, fun j hj => ?_⟩
      have hne : bL m + j < bL n ∨ bL n + cap n ≤ bL m + j := by
        rcases Nat.lt_or_ge (bL m + j) (bL n) with z | z
        · exact Or.inl z
        · rcases Nat.lt_or_ge (bL m + j) (bL n + cap n) with z2 | z2
          · have := row_ne (n := m) (m := n) (k := j) (j := bL m + j - bL n) (by omega) (by omega) (by omega)
            exact absurd this.1 c2
          · exact Or.inr z2
      have hbb := row_lt hm (k := j) (by omega)
      have hl160 := r3 _ (getD_mem (z := []) hj)
      refine ⟨by rw [e14, if_neg (by omega)]; exact (r4 j hj).1, fun i hi => ?_⟩
      rw [e13 _ (by omega), if_neg (by omega)]
      exact (r4 j hj).2 i hi
  · have hbb := hb56 (k + 1) (by omega)
    rw [nI_add, nI_1]
    refine ⟨_, c_MO_move M1 (by omega) (by omega) (by omega), ?_⟩
    rintro h2 ⟨f13, f14, f15, F2⟩ _ rfl
    rw [nI_1]
    refine ⟨⟨k + 1, by omega, rfl, by rw [F2.i M.j 16 (by decide) (by decide) (by decide)]; exact e16, fun i hi => ?_, fun j => ?_, fun j => ?_, F1.trans (F2.mono (by simp))⟩, mu_lt (by omega) (by omega)⟩
    · rw [f13]
      by_cases c2 : 160 * (bL n + k) ≤ i ∧ i < 160 * (bL n + k) + 160
      · rw [cpF_in c2.1 c2.2, e13 _ (by omega), if_neg (by omega), if_pos (by omega)]
        congr 1
        omega
      · rw [cpF_out (by omega), e13 _ hi]
        by_cases c3 : 160 * bL n ≤ i ∧ i < 160 * (bL n + k)
        · rw [if_pos c3, if_pos (by omega)]
        · rw [if_neg c3, if_neg (by omega)]
    · rw [f14]
      by_cases c2 : j = bL n + k
      · rw [c2, va_up_self, e14, if_neg (by omega), if_pos (by omega)]
      · rw [va_up_ne _ _ c2, e14]
        by_cases c3 : bL n ≤ j ∧ j < bL n + k
        · rw [if_pos c3, if_pos (by omega)]
        · rw [if_neg c3, if_neg (by omega)]
    · rw [f15]
      by_cases c2 : j = bL n + k
      · rw [c2, va_up_self, e15, if_neg (by omega), if_pos (by omega)]
      · rw [va_up_ne _ _ c2, e15]
        by_cases c3 : bL n ≤ j ∧ j < bL n + k
        · rw [if_pos c3, if_pos (by omega)]
        · rw [if_neg c3, if_neg (by omega)]
end MG
