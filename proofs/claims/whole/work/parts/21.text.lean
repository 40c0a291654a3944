/-! reading a text -/
/-- n septets from bit on -/
def seps (bs : List Nat) (s bit : Nat) : Nat → List Nat
  | 0 => []
  | n + 1 => sept bs s bit :: seps bs s (bit + 7) n
/-- the characters of septets, behind an escape or not -/
def txt : Bool → List Nat → List Int32
  | _, [] => []
  | e, c :: cs => if c = 27 then txt true cs else (if e then secN c else tabC.getD c 0) :: txt false cs
theorem txt_cons (e : Bool) (c : Nat) (cs : List Nat) : txt e (c :: cs) = if c = 27 then txt true cs else (if e then secN c else tabC.getD c 0) :: txt false cs := rfl
theorem seps_succ (bs : List Nat) (s bit n : Nat) : seps bs s bit (n + 1) = sept bs s bit :: seps bs s (bit + 7) n := rfl
theorem txt_le (e : Bool) (cs : List Nat) : (txt e cs).length ≤ cs.length := by
  induction cs generalizing e with
  | nil => exact Nat.le_refl _
  | cons c cs ih =>
    rw [txt_cons]
    split
    · have := ih true; simp only [List.length_cons]; omega
    · have := ih false; simp only [List.length_cons]; omega
theorem seps_len (bs : List Nat) (s bit n : Nat) : (seps bs s bit n).length = n := by
  induction n generalizing bit with
  | zero => rfl
  | succ n ih => rw [seps_succ, List.length_cons, ih]
/-- how many septets a row's data holds as text -/
def tcount (bs : List Nat) (u : Nat) : Nat := if hdr bs then u - 7 else u
/-- a DELIVER's text -/
def dtxt (bs : List Nat) : List Int32 := txt false (seps bs (13 + (bt bs 1 + 1) / 2) (fbit bs) (tcount bs (bt bs (12 + (bt bs 1 + 1) / 2))))
def putT (f : Nat → Int32) (p : Nat) (t : List Int32) : Nat → Int32 := fun j => if p ≤ j ∧ j < p + t.length then t.getD (j - p) 0 else f j
theorem putT_nil (f : Nat → Int32) (p : Nat) : putT f p [] = f := by
  funext j
  unfold putT
  rw [if_neg]
  simp
theorem putT_app (f : Nat → Int32) (p : Nat) (t : List Int32) (x : Int32) : va_up (putT f p t) (p + t.length) x = putT f p (t ++ [x]) := by
  funext j
  unfold va_up putT
  by_cases e : j = p + t.length
  · rw [if_pos e, if_pos (by simp; omega), e]
    simp [List.getD_eq_getElem?_getD]
  · rw [if_neg e]
    by_cases c : p ≤ j ∧ j < p + t.length
    · rw [if_pos c, if_pos (by simp; omega)]
      simp only [List.getD_eq_getElem?_getD]
      rw [List.getElem?_append_left (by omega)]
    · rw [if_neg c, if_neg (by simp; omega)]
section TX
variable {G : Gx} {l : Launch} {d w : Nat} {h : Hp} {a b q : Nat} {bs : List Nat}
theorem c_Ro_readText {p : Nat} (R : Rw h a b bs) (hq : hS h q = some (0, 480)) (n2 : b ≠ q) (h1 : 12 + (bt bs 1 + 1) / 2 < bs.length) (hp : p + (dtxt bs).length ≤ 480) : Ci G l M_Ro_readText (d + 4) (w + 82) [.ref a, .ref q, .int (nI p)] h 0 0 (fun x h' => x = nI (p + (dtxt bs).length) ∧ Wr h h' q q ∧ hI h' q = putT (hI h q) p (dtxt bs)) := by
  have hlen := R.2.2.2.1
  have n1 : a ≠ q := fun z => by have := R.1; rw [z, hq] at this; cases this
  refine ok_Ro_readText ?_
  unfold wp_Ro_readText
  refine ⟨R.1, _, c_Ro_deliverDataAt R (by omega), ?_⟩
  rintro _ _ ⟨rfl, rfl⟩
  refine ⟨R.1, _, c_Ro_at' R h1, ?_⟩
  rintro _ _ ⟨rfl, rfl⟩
  have hu : bt bs (12 + (bt bs 1 + 1) / 2) < 256 := bt_lt R _
  have hb1 : bt bs 1 < 256 := bt_lt R _
  rw [show (7 : Int32) = nI 7 from rfl, pk_mul]
  rintro _ rfl
  refine ⟨R.1, _, c_Ro_firstBit R (by omega), ?_⟩
  rintro _ _ ⟨rfl, rfl⟩
  have hfb : fbit bs ≤ 49 := by unfold fbit; split <;> omega
  generalize hU : bt bs (12 + (bt bs 1 + 1) / 2) = u at hu
  have hN : ∀ k, fbit bs + 7 * k < 7 * u ↔ k < tcount bs u := by
    intro k
    unfold fbit tcount
    cases hdr bs <;> simp <;> omega
  have hN2 : tcount bs u ≤ u := by unfold tcount; split <;> omega
  unfold wL_Ro_readText_27
  refine ⟨fun x e y h' => ∃ k t ec, x = nI (p + t.length) ∧ y = nI (fbit bs + 7 * k) ∧ k ≤ tcount bs u ∧ e = (if ec then 1 else 0) ∧ dtxt bs = t ++ txt ec (seps bs (13 + (bt bs 1 + 1) / 2) (fbit bs + 7 * k) (tcount bs u - k)) ∧ Wr h h' q q ∧ hI h' q = putT (hI h q) p t, fun _ _ y _ => 7 * u + 7 - y.toNatClampNeg, ⟨0, [], false, rfl, rfl, Nat.zero_le _, rfl, by unfold dtxt; rw [hU]; rfl, Wr.rfl, (putT_nil _ _).symm⟩, ?_⟩
  rintro _ _ _ hh ⟨k, t, ec, rfl, rfl, hk, rfl, ht, W1, hq1⟩
  have R1 : Rw hh a b bs := R.kept (by rw [W1.1]) (by rw [W1.2.2.1]) (by rw [W1.1]) (W1.2.2.2 b n2 n2)
  have hqs : hS hh q = some (0, 480) := by rw [W1.1]; exact hq
  have htl : t.length ≤ (dtxt bs).length := by rw [ht, List.length_append]; omega
  have hend : (nI (7 * u) ≤ nI (fbit bs + 7 * k)) ↔ ¬ k < tcount bs u := by
    rw [nI_leI (by omega) (by omega), ← hN k]
    omega
  unfold wB_Ro_readText_27 wJ_Ro_readText_99
  refine ⟨fun c => ?_, fun c => ?_⟩
  · have hkn := hend.mp c
    rw [show tcount bs u - k = 0 by omega] at ht
    have : dtxt bs = t := by rw [ht]; simp [seps, txt]
    rw [this]
    exact ⟨rfl, W1, hq1⟩
  · have hkn : k < tcount bs u := by
      by_cases z : k < tcount bs u
      · exact z
      · exact absurd (hend.mpr z) c
    have hsplit : tcount bs u - k = (tcount bs u - (k + 1)) + 1 := by omega
    rw [hsplit, seps_succ, txt_cons] at ht
    have mu : 7 * u + 7 - (nI (fbit bs + 7 * k) + 7).toNatClampNeg < 7 * u + 7 - (nI (fbit bs + 7 * k)).toNatClampNeg := by
      have := (hN k).mpr hkn
      rw [show (7 : Int32) = nI 7 from rfl, nI_add, nI_clamp (by omega), nI_clamp (by omega)]
      omega
    have hbit : nI (fbit bs + 7 * k) + 7 = nI (fbit bs + 7 * (k + 1)) := by
      rw [show (7 : Int32) = nI 7 from rfl, nI_add]
      congr 1
    refine ⟨480, hqs, fun c2 => ?_, fun c2 => ?_⟩
    · have h480 : 480 ≤ p + t.length := (nI_leI (by omega) (by omega)).mp c2
      -- the row is full: nothing more can come
      have : (dtxt bs).length = t.length := by omega
      have h0 : dtxt bs = t := by
        rw [ht] at this ⊢
        rw [List.length_append] at this
        rw [List.eq_nil_of_length_eq_zero (by omega : (if sept bs (13 + (bt bs 1 + 1) / 2) (fbit bs + 7 * k) = 27 then txt true (seps bs (13 + (bt bs 1 + 1) / 2) (fbit bs + 7 * k + 7) (tcount bs u - (k + 1))) else (if ec = true then secN (sept bs (13 + (bt bs 1 + 1) / 2) (fbit bs + 7 * k)) else tabC.getD (sept bs (13 + (bt bs 1 + 1) / 2) (fbit bs + 7 * k)) 0) :: txt false (seps bs (13 + (bt bs 1 + 1) / 2) (fbit bs + 7 * k + 7) (tcount bs u - (k + 1)))).length = 0), List.append_nil]
      rw [h0]
      exact ⟨rfl, W1, hq1⟩
    · have h480 : p + t.length < 480 := by
        rcases Nat.lt_or_ge (p + t.length) 480 with z | z
        · exact z
        · exact absurd (nI_le z (by omega)) c2
      rw [nI_1]
      refine ⟨R1.1, _, c_Ro_septetAt R1 (s := 12 + (bt bs 1 + 1) / 2 + 1) (by omega) (by have := (hN k).mpr hkn; omega), ?_⟩
      rintro _ _ ⟨rfl, rfl⟩
      rw [show 12 + (bt bs 1 + 1) / 2 + 1 = 13 + (bt bs 1 + 1) / 2 by omega]
      generalize hC : sept bs (13 + (bt bs 1 + 1) / 2) (fbit bs + 7 * k) = c0 at ht
      have hc0 : c0 < 128 := by rw [← hC]; exact Nat.mod_lt _ (by decide)
      have h27 : nI c0 = 27 ↔ c0 = 27 := nI_eq (b := 27) (by omega) (by decide)
      unfold wJ_Ro_readText_93
      have fin : ∀ x : Int32, ¬ c0 = 27 → x = (if ec then secN c0 else tabC.getD c0 0) → wJ_Ro_readText_86 G l d w (fun x h' => x = nI (p + (dtxt bs).length) ∧ Wr h h' q q ∧ hI h' q = putT (hI h q) p (dtxt bs)) (fun x4_ x6_ x7_ h_ => (∃ k t ec, x4_ = nI (p + t.length) ∧ x7_ = nI (fbit bs + 7 * k) ∧ k ≤ tcount bs u ∧ x6_ = (if ec then 1 else 0) ∧ dtxt bs = t ++ txt ec (seps bs (13 + (bt bs 1 + 1) / 2) (fbit bs + 7 * k) (tcount bs u - k)) ∧ Wr h h_ q q ∧ hI h_ q = putT (hI h q) p t) ∧ 7 * u + 7 - x7_.toNatClampNeg < 7 * u + 7 - (nI (fbit bs + 7 * k)).toNatClampNeg) a q (nI p) (nI (12 + (bt bs 1 + 1) / 2)) (nI (p + t.length)) (nI (7 * u)) (if ec then 1 else 0) (nI (fbit bs + 7 * k)) (nI c0) x (nI (p + t.length)) q hh := by
        intro x hn hx
        unfold wJ_Ro_readText_86 wJ_Ro_readText_93
        refine ⟨480, p + t.length, ⟨hqs, rfl, h480, by omega⟩, ?_⟩
        rintro _ rfl _ rfl
        rw [hbit]
        refine ⟨⟨k + 1, t ++ [x], false, ?_, rfl, by omega, rfl, ?_, W1.trans wr_a, ?_⟩, ?_⟩
        · rw [nI_1, List.length_append]; rfl
        · rw [ht, if_neg hn, hx, List.append_assoc]
          rw [show fbit bs + 7 * k + 7 = fbit bs + 7 * (k + 1) by omega]
          rfl
        · show up2 (hI hh) q (p + t.length) x q = _
          rw [up2_same, hq1, putT_app]
        · rw [← hbit]; exact mu
      refine ⟨fun c3 => ?_, fun c3 => ?_⟩
      · have hn : ¬ c0 = 27 := fun z => c3 (h27.mpr z)
        refine ⟨fun c4 => ⟨_, c_Al_plain hc0, ?_⟩, fun c4 => ⟨_, c_Al_second, ?_⟩⟩
        · rintro _ _ ⟨rfl, rfl⟩
          exact fin _ hn (by cases ec with
            | false => rfl
            | true => exact absurd c4 (by decide))
        · rintro _ _ ⟨rfl, rfl⟩
          exact fin _ hn (by cases ec with
            | true => rfl
            | false => exact absurd rfl c4)
      · have hn : c0 = 27 := h27.mp c3
        rintro _ rfl
        rw [hbit]
        refine ⟨⟨k + 1, t, true, rfl, rfl, by omega, rfl, ?_, W1, hq1⟩, ?_⟩
        · rw [ht, if_pos hn, show fbit bs + 7 * k + 7 = fbit bs + 7 * (k + 1) by omega]
        · rw [← hbit]; exact mu
end TX
