/-! contracts by the kind of the answer -/
def Ci (G : Gx) (l : Launch) (M : MM) (d w : Nat) (av : List Value) (h : Hp) (mc ms : Nat) (P : Int32 → Hp → Prop) : Prop := Ct G l M d w av h mc ms (fun r h' => ∃ x, r = some (.int x) ∧ P x h')
def Cl (G : Gx) (l : Launch) (M : MM) (d w : Nat) (av : List Value) (h : Hp) (mc ms : Nat) (P : Int64 → Hp → Prop) : Prop := Ct G l M d w av h mc ms (fun r h' => ∃ x, r = some (.long x) ∧ P x h')
def Cr (G : Gx) (l : Launch) (M : MM) (d w : Nat) (av : List Value) (h : Hp) (mc ms : Nat) (P : Option Nat → Hp → Prop) : Prop := Ct G l M d w av h mc ms (fun r h' => ∃ x, r = some (va_rf x) ∧ P x h')
def Cv (G : Gx) (l : Launch) (M : MM) (d w : Nat) (av : List Value) (h : Hp) (mc ms : Nat) (P : Hp → Prop) : Prop := Ct G l M d w av h mc ms (fun r h' => r = none ∧ P h')
/-- an object that may stand in a row of kind t -/
def ObjA (G : Gx) (h : Hp) (v t : Nat) : Prop := ∃ ci z, hS h v = some (ci + 10, z) ∧ (zCL[ci]?).isSome = true ∧ (SysF G → Asg G (rcn t) ci)
def msk : List Bool → List (Option Value) → List (Option Value)
  | b :: bs, v :: vs => (if b then v else none) :: msk bs vs
  | _, _ => []
theorem msk_get : ∀ (bs : List Bool) (vs : List (Option Value)) (i : Nat) (v : Value), (msk bs vs)[i]? = some (some v) → vs[i]? = some (some v)
  | [], _, i, v, h => by simp [msk] at h
  | _ :: _, [], i, v, h => by simp [msk] at h
  | b :: bs, u :: vs, 0, v, h => by
    cases b
    · simp [msk] at h
    · simpa [msk] using h
  | b :: bs, u :: vs, i + 1, v, h => by
    simp only [msk, List.getElem?_cons_succ] at h ⊢
    exact msk_get bs vs i v h
theorem cat_2 (v : Value) : v.category ≤ 2 := by rcases lv_cat v with h | h <;> omega
theorem catS_2 : ∀ st : List Value, catS st ≤ 2 * st.length
  | [] => Nat.le_refl _
  | v :: st => by
    have h1 := cat_2 v
    have h2 := catS_2 st
    simp only [catS, List.map_cons, List.sum_cons, List.length_cons] at h2 ⊢
    omega
theorem catS_le {st : List Value} (h : 2 * st.length ≤ 8) : catS st ≤ 8 := Nat.le_trans (catS_2 st) h
section MK
variable {M : MM} {X : Xr} {pc : Nat} {lv : List (Option Value)} {st : List Value} {h : Hp} {k n : Nat}
theorem g_msk (bs : List Bool) (K : Go M X pc (msk bs lv) st h k n) : Go M X pc lv st h k n := by
  obtain ⟨G, ⟨p, l, e, R, s, m, args, below, meth, c⟩, Q⟩ := X
  intro ok ls H locs hl hRf hq
  exact K ok ls H locs ⟨hl.1, hl.2.1, fun i v hi => hl.2.2 i v (msk_get bs lv i v hi)⟩ hRf hq
theorem vcat (x : Option Nat) : (va_rf x).category = 1 := by cases x <;> rfl
theorem vrf (x : Option Nat) : va_rf x = .null ∨ ∃ a, va_rf x = .ref a := va_rf_or x
theorem g_aload_nV {j : Fin 4} {x : Option Nat} (hd : decode (mB M) pc = .ok (.aload_n j, 1)) (hx : lv[(j : Nat)]? = some (some (va_rf x))) (K : Go M X (pc + 1) lv (va_rf x :: st) h k n) : Go M X pc lv st h k n := by
  cases x with
  | none => exact g_aload_nN hd hx K
  | some a => exact g_aload_n hd hx K
theorem g_aloadV {j : Nat} {x : Option Nat} (hd : decode (mB M) pc = .ok (.aload j, 2)) (hx : lv[j]? = some (some (va_rf x))) (K : Go M X (pc + 2) lv (va_rf x :: st) h k n) : Go M X pc lv st h k n := by
  cases x with
  | none => exact g_aloadN hd hx K
  | some a => exact g_aload hd hx K
theorem g_astore_nV {j : Fin 4} {x : Option Nat} {lv' : List (Option Value)} (hd : decode (mB M) pc = .ok (.astore_n j, 1)) (hn : (j : Nat) < mL M) (hv : st1 lv (j : Nat) (va_rf x) = lv') (K : Go M X (pc + 1) lv' st h k n) : Go M X pc lv (va_rf x :: st) h k n := by
  cases x with
  | none => exact g_astore_nN hd hn hv K
  | some a => exact g_astore_n hd hn hv K
theorem g_astoreV {j : Nat} {x : Option Nat} {lv' : List (Option Value)} (hd : decode (mB M) pc = .ok (.astore j, 2)) (hn : j < mL M) (hv : st1 lv j (va_rf x) = lv') (K : Go M X (pc + 2) lv' st h k n) : Go M X pc lv (va_rf x :: st) h k n := by
  cases x with
  | none => exact g_astoreN hd hn hv K
  | some a => exact g_astore hd hn hv K
theorem g_alenO {a N : Nat} (hd : decode (mB M) pc = .ok (.arraylength, 1)) (hs : hS h a = some (3, N) ∨ (a = gK X.1 0 ∧ N = 0)) (K : Go M X (pc + 1) lv (.int (nI N) :: st) h k n) : Go M X pc lv (.ref a :: st) h k n := by
  rcases hs with hs | ⟨rfl, rfl⟩
  · exact g_alen hd hs (by decide) K
  · exact g_elen hd K
end MK
