/-! the reference's side -/
/-- which of the reference's fields are rows; 41 is the object itself -/
def ar (f : Nat) : Bool := decide (f ≤ 41) && !(f == 0 || f == 2 || f == 11 || f == 17 || f == 18 || f == 19)
def kdL : List (Nat × Nat) := [(0, 0), (0, 480), (0, 0), (0, 960), (1, 4), (2, 4), (0, 4), (0, 4), (0, 4), (0, 1920), (1, 4), (0, 0), (0, 176), (0, 8960), (0, 56), (0, 56), (0, 9), (0, 0), (0, 0), (0, 0), (0, 100), (0, 100), (1, 100), (1, 100), (2, 100), (2, 100), (0, 100), (0, 100), (0, 100), (0, 100), (0, 100), (0, 100), (2, 12), (0, 12), (0, 1728), (1, 12), (0, 12), (0, 12), (0, 4), (0, 36), (0, 5508), (18, 0)]
def MJ (A : Nat → Nat) : Prop := ∀ f g, ar f = true → ar g = true → A f = A g → f = g
/-- the reference's object and rows: where they are -/
def MA (A : Nat → Nat) (h : Hp) : Prop := (∀ f, ar f = true → hS h (A f) = some (kdL.getD f (0, 0))) ∧ (∀ f, ar f = true → f ≠ 41 → hR h (A 41) f = some (A f)) ∧ MJ A
theorem MA.s1 {A : Nat → Nat} {h : Hp} (M : MA A h) : hS h (A 1) = some (0, 480) := M.1 1 rfl
theorem MA.r1 {A : Nat → Nat} {h : Hp} (M : MA A h) : hR h (A 41) 1 = some (A 1) := M.2.1 1 rfl (by decide)
theorem MA.s3 {A : Nat → Nat} {h : Hp} (M : MA A h) : hS h (A 3) = some (0, 960) := M.1 3 rfl
theorem MA.r3 {A : Nat → Nat} {h : Hp} (M : MA A h) : hR h (A 41) 3 = some (A 3) := M.2.1 3 rfl (by decide)
theorem MA.s4 {A : Nat → Nat} {h : Hp} (M : MA A h) : hS h (A 4) = some (1, 4) := M.1 4 rfl
theorem MA.r4 {A : Nat → Nat} {h : Hp} (M : MA A h) : hR h (A 41) 4 = some (A 4) := M.2.1 4 rfl (by decide)
theorem MA.s5 {A : Nat → Nat} {h : Hp} (M : MA A h) : hS h (A 5) = some (2, 4) := M.1 5 rfl
theorem MA.r5 {A : Nat → Nat} {h : Hp} (M : MA A h) : hR h (A 41) 5 = some (A 5) := M.2.1 5 rfl (by decide)
theorem MA.s6 {A : Nat → Nat} {h : Hp} (M : MA A h) : hS h (A 6) = some (0, 4) := M.1 6 rfl
theorem MA.r6 {A : Nat → Nat} {h : Hp} (M : MA A h) : hR h (A 41) 6 = some (A 6) := M.2.1 6 rfl (by decide)
theorem MA.s7 {A : Nat → Nat} {h : Hp} (M : MA A h) : hS h (A 7) = some (0, 4) := M.1 7 rfl
theorem MA.r7 {A : Nat → Nat} {h : Hp} (M : MA A h) : hR h (A 41) 7 = some (A 7) := M.2.1 7 rfl (by decide)
theorem MA.s8 {A : Nat → Nat} {h : Hp} (M : MA A h) : hS h (A 8) = some (0, 4) := M.1 8 rfl
theorem MA.r8 {A : Nat → Nat} {h : Hp} (M : MA A h) : hR h (A 41) 8 = some (A 8) := M.2.1 8 rfl (by decide)
theorem MA.s9 {A : Nat → Nat} {h : Hp} (M : MA A h) : hS h (A 9) = some (0, 1920) := M.1 9 rfl
theorem MA.r9 {A : Nat → Nat} {h : Hp} (M : MA A h) : hR h (A 41) 9 = some (A 9) := M.2.1 9 rfl (by decide)
theorem MA.s10 {A : Nat → Nat} {h : Hp} (M : MA A h) : hS h (A 10) = some (1, 4) := M.1 10 rfl
theorem MA.r10 {A : Nat → Nat} {h : Hp} (M : MA A h) : hR h (A 41) 10 = some (A 10) := M.2.1 10 rfl (by decide)
theorem MA.s12 {A : Nat → Nat} {h : Hp} (M : MA A h) : hS h (A 12) = some (0, 176) := M.1 12 rfl
theorem MA.r12 {A : Nat → Nat} {h : Hp} (M : MA A h) : hR h (A 41) 12 = some (A 12) := M.2.1 12 rfl (by decide)
theorem MA.s13 {A : Nat → Nat} {h : Hp} (M : MA A h) : hS h (A 13) = some (0, 8960) := M.1 13 rfl
theorem MA.r13 {A : Nat → Nat} {h : Hp} (M : MA A h) : hR h (A 41) 13 = some (A 13) := M.2.1 13 rfl (by decide)
theorem MA.s14 {A : Nat → Nat} {h : Hp} (M : MA A h) : hS h (A 14) = some (0, 56) := M.1 14 rfl
theorem MA.r14 {A : Nat → Nat} {h : Hp} (M : MA A h) : hR h (A 41) 14 = some (A 14) := M.2.1 14 rfl (by decide)
theorem MA.s15 {A : Nat → Nat} {h : Hp} (M : MA A h) : hS h (A 15) = some (0, 56) := M.1 15 rfl
theorem MA.r15 {A : Nat → Nat} {h : Hp} (M : MA A h) : hR h (A 41) 15 = some (A 15) := M.2.1 15 rfl (by decide)
theorem MA.s16 {A : Nat → Nat} {h : Hp} (M : MA A h) : hS h (A 16) = some (0, 9) := M.1 16 rfl
theorem MA.r16 {A : Nat → Nat} {h : Hp} (M : MA A h) : hR h (A 41) 16 = some (A 16) := M.2.1 16 rfl (by decide)
theorem MA.s20 {A : Nat → Nat} {h : Hp} (M : MA A h) : hS h (A 20) = some (0, 100) := M.1 20 rfl
theorem MA.r20 {A : Nat → Nat} {h : Hp} (M : MA A h) : hR h (A 41) 20 = some (A 20) := M.2.1 20 rfl (by decide)
theorem MA.s21 {A : Nat → Nat} {h : Hp} (M : MA A h) : hS h (A 21) = some (0, 100) := M.1 21 rfl
theorem MA.r21 {A : Nat → Nat} {h : Hp} (M : MA A h) : hR h (A 41) 21 = some (A 21) := M.2.1 21 rfl (by decide)
theorem MA.s22 {A : Nat → Nat} {h : Hp} (M : MA A h) : hS h (A 22) = some (1, 100) := M.1 22 rfl
theorem MA.r22 {A : Nat → Nat} {h : Hp} (M : MA A h) : hR h (A 41) 22 = some (A 22) := M.2.1 22 rfl (by decide)
theorem MA.s23 {A : Nat → Nat} {h : Hp} (M : MA A h) : hS h (A 23) = some (1, 100) := M.1 23 rfl
theorem MA.r23 {A : Nat → Nat} {h : Hp} (M : MA A h) : hR h (A 41) 23 = some (A 23) := M.2.1 23 rfl (by decide)
theorem MA.s24 {A : Nat → Nat} {h : Hp} (M : MA A h) : hS h (A 24) = some (2, 100) := M.1 24 rfl
theorem MA.r24 {A : Nat → Nat} {h : Hp} (M : MA A h) : hR h (A 41) 24 = some (A 24) := M.2.1 24 rfl (by decide)
theorem MA.s25 {A : Nat → Nat} {h : Hp} (M : MA A h) : hS h (A 25) = some (2, 100) := M.1 25 rfl
theorem MA.r25 {A : Nat → Nat} {h : Hp} (M : MA A h) : hR h (A 41) 25 = some (A 25) := M.2.1 25 rfl (by decide)
theorem MA.s26 {A : Nat → Nat} {h : Hp} (M : MA A h) : hS h (A 26) = some (0, 100) := M.1 26 rfl
theorem MA.r26 {A : Nat → Nat} {h : Hp} (M : MA A h) : hR h (A 41) 26 = some (A 26) := M.2.1 26 rfl (by decide)
theorem MA.s27 {A : Nat → Nat} {h : Hp} (M : MA A h) : hS h (A 27) = some (0, 100) := M.1 27 rfl
theorem MA.r27 {A : Nat → Nat} {h : Hp} (M : MA A h) : hR h (A 41) 27 = some (A 27) := M.2.1 27 rfl (by decide)
theorem MA.s28 {A : Nat → Nat} {h : Hp} (M : MA A h) : hS h (A 28) = some (0, 100) := M.1 28 rfl
theorem MA.r28 {A : Nat → Nat} {h : Hp} (M : MA A h) : hR h (A 41) 28 = some (A 28) := M.2.1 28 rfl (by decide)
theorem MA.s29 {A : Nat → Nat} {h : Hp} (M : MA A h) : hS h (A 29) = some (0, 100) := M.1 29 rfl
theorem MA.r29 {A : Nat → Nat} {h : Hp} (M : MA A h) : hR h (A 41) 29 = some (A 29) := M.2.1 29 rfl (by decide)
theorem MA.s30 {A : Nat → Nat} {h : Hp} (M : MA A h) : hS h (A 30) = some (0, 100) := M.1 30 rfl
theorem MA.r30 {A : Nat → Nat} {h : Hp} (M : MA A h) : hR h (A 41) 30 = some (A 30) := M.2.1 30 rfl (by decide)
theorem MA.s31 {A : Nat → Nat} {h : Hp} (M : MA A h) : hS h (A 31) = some (0, 100) := M.1 31 rfl
theorem MA.r31 {A : Nat → Nat} {h : Hp} (M : MA A h) : hR h (A 41) 31 = some (A 31) := M.2.1 31 rfl (by decide)
theorem MA.s32 {A : Nat → Nat} {h : Hp} (M : MA A h) : hS h (A 32) = some (2, 12) := M.1 32 rfl
theorem MA.r32 {A : Nat → Nat} {h : Hp} (M : MA A h) : hR h (A 41) 32 = some (A 32) := M.2.1 32 rfl (by decide)
theorem MA.s33 {A : Nat → Nat} {h : Hp} (M : MA A h) : hS h (A 33) = some (0, 12) := M.1 33 rfl
theorem MA.r33 {A : Nat → Nat} {h : Hp} (M : MA A h) : hR h (A 41) 33 = some (A 33) := M.2.1 33 rfl (by decide)
theorem MA.s34 {A : Nat → Nat} {h : Hp} (M : MA A h) : hS h (A 34) = some (0, 1728) := M.1 34 rfl
theorem MA.r34 {A : Nat → Nat} {h : Hp} (M : MA A h) : hR h (A 41) 34 = some (A 34) := M.2.1 34 rfl (by decide)
theorem MA.s35 {A : Nat → Nat} {h : Hp} (M : MA A h) : hS h (A 35) = some (1, 12) := M.1 35 rfl
theorem MA.r35 {A : Nat → Nat} {h : Hp} (M : MA A h) : hR h (A 41) 35 = some (A 35) := M.2.1 35 rfl (by decide)
theorem MA.s36 {A : Nat → Nat} {h : Hp} (M : MA A h) : hS h (A 36) = some (0, 12) := M.1 36 rfl
theorem MA.r36 {A : Nat → Nat} {h : Hp} (M : MA A h) : hR h (A 41) 36 = some (A 36) := M.2.1 36 rfl (by decide)
theorem MA.s37 {A : Nat → Nat} {h : Hp} (M : MA A h) : hS h (A 37) = some (0, 12) := M.1 37 rfl
theorem MA.r37 {A : Nat → Nat} {h : Hp} (M : MA A h) : hR h (A 41) 37 = some (A 37) := M.2.1 37 rfl (by decide)
theorem MA.s38 {A : Nat → Nat} {h : Hp} (M : MA A h) : hS h (A 38) = some (0, 4) := M.1 38 rfl
theorem MA.r38 {A : Nat → Nat} {h : Hp} (M : MA A h) : hR h (A 41) 38 = some (A 38) := M.2.1 38 rfl (by decide)
theorem MA.s39 {A : Nat → Nat} {h : Hp} (M : MA A h) : hS h (A 39) = some (0, 36) := M.1 39 rfl
theorem MA.r39 {A : Nat → Nat} {h : Hp} (M : MA A h) : hR h (A 41) 39 = some (A 39) := M.2.1 39 rfl (by decide)
theorem MA.s40 {A : Nat → Nat} {h : Hp} (M : MA A h) : hS h (A 40) = some (0, 5508) := M.1 40 rfl
theorem MA.r40 {A : Nat → Nat} {h : Hp} (M : MA A h) : hR h (A 41) 40 = some (A 40) := M.2.1 40 rfl (by decide)
theorem MA.s41 {A : Nat → Nat} {h : Hp} (M : MA A h) : hS h (A 41) = some (18, 0) := M.1 41 rfl
theorem MA.j {A : Nat → Nat} {h : Hp} (M : MA A h) : MJ A := M.2.2
section MF
variable {A : Nat → Nat} {h h1 h2 : Hp} {F F' : List Nat}
theorem MJ.ne (J : MJ A) {f g : Nat} (hf : ar f = true) (hg : ar g = true) (n : f ≠ g) : A f ≠ A g := fun e => n (J f g hf hg e)
theorem rE {a j : Nat} {v : Int32} : hI (pI h a j v) a = va_up (hI h a) j v := up2_same _ _ _ _
theorem rEL {a j : Nat} {v : Int64} : hL (pL h a j v) a = va_up (hL h a) j v := up2_same _ _ _ _
theorem rN (J : MJ A) {f g j : Nat} {v : Int32} (hf : ar f = true) (hg : ar g = true) (n : f ≠ g) : hI (pI h (A f) j v) (A g) = hI h (A g) := up2_off _ _ _ (J.ne hg hf (fun z => n z.symm))
theorem rNL (J : MJ A) {f g j : Nat} {v : Int64} (hf : ar f = true) (hg : ar g = true) (n : f ≠ g) : hL (pL h (A f) j v) (A g) = hL h (A g) := up2_off _ _ _ (J.ne hg hf (fun z => n z.symm))
theorem rIL {a j : Nat} {v : Int64} : hI (pL h a j v) = hI h := rfl
theorem rLI {a j : Nat} {v : Int32} : hL (pI h a j v) = hL h := rfl
/-- all but the fields F stays -/
def Mf (A : Nat → Nat) (F : List Nat) (h h' : Hp) : Prop := (hS h' = hS h ∧ hR h' = hR h) ∧ (∀ x, x ≠ A 41 → (∀ f, f ∈ F → ar f = true → x ≠ A f) → hI h' x = hI h x ∧ hL h' x = hL h x) ∧ ∀ k, k ∉ F → hI h' (A 41) k = hI h (A 41) k
theorem Mf.rfl : Mf A F h h := ⟨⟨Eq.refl _, Eq.refl _⟩, fun _ _ _ => ⟨Eq.refl _, Eq.refl _⟩, fun _ _ => Eq.refl _⟩
theorem Mf.trans (a : Mf A F h h1) (b : Mf A F h1 h2) : Mf A F h h2 := ⟨⟨b.1.1.trans a.1.1, b.1.2.trans a.1.2⟩, fun x n1 n2 => ⟨(b.2.1 x n1 n2).1.trans (a.2.1 x n1 n2).1, (b.2.1 x n1 n2).2.trans (a.2.1 x n1 n2).2⟩, fun k hk => (b.2.2 k hk).trans (a.2.2 k hk)⟩
theorem Mf.mono (a : Mf A F h h1) (c : ∀ f, f ∈ F → f ∈ F') : Mf A F' h h1 := ⟨a.1, fun x n1 n2 => a.2.1 x n1 (fun f hf => n2 f (c f hf)), fun k hk => a.2.2 k (fun z => hk (c k z))⟩
theorem Mf.ma (a : Mf A F h h1) (M : MA A h) : MA A h1 := ⟨fun f hf => by rw [a.1.1]; exact M.1 f hf, fun f hf n => by rw [a.1.2]; exact M.2.1 f hf n, M.2.2⟩
theorem mf_pI (J : MJ A) {f j : Nat} {v : Int32} (hf : ar f = true) (h41 : f ≠ 41) (m : f ∈ F) : Mf A F h (pI h (A f) j v) := ⟨⟨Eq.refl _, Eq.refl _⟩, fun x _ n2 => ⟨up2_off _ _ _ (n2 f m hf), Eq.refl _⟩, fun k _ => hI_pI_ne (fun z => J.ne (by decide) hf (fun z => h41 z.symm) z.1)⟩
theorem mf_pS {k : Nat} {v : Int32} (m : k ∈ F) : Mf A F h (pI h (A 41) k v) := ⟨⟨Eq.refl _, Eq.refl _⟩, fun x n1 _ => ⟨up2_off _ _ _ n1, Eq.refl _⟩, fun k' hk => hI_pI_ne (fun z => hk (by rw [z.2]; exact m))⟩
theorem mf_pL {f j : Nat} {v : Int64} (hf : ar f = true) (m : f ∈ F) : Mf A F h (pL h (A f) j v) := ⟨⟨Eq.refl _, Eq.refl _⟩, fun x _ n2 => ⟨Eq.refl _, up2_off _ _ _ (n2 f m hf)⟩, fun _ _ => Eq.refl _⟩
theorem Mf.i (a : Mf A F h h1) (J : MJ A) (f : Nat) (hf : ar f = true) (h41 : f ≠ 41) (n : f ∉ F) : hI h1 (A f) = hI h (A f) := (a.2.1 _ (J.ne hf (by decide) h41) (fun g hg hga => J.ne hf hga (fun z => n (by rw [z]; exact hg)))).1
theorem Mf.l (a : Mf A F h h1) (J : MJ A) (f : Nat) (hf : ar f = true) (h41 : f ≠ 41) (n : f ∉ F) : hL h1 (A f) = hL h (A f) := (a.2.1 _ (J.ne hf (by decide) h41) (fun g hg hga => J.ne hf hga (fun z => n (by rw [z]; exact hg)))).2
/-- n of g's from s on, put at p -/
def cpF (f g : Nat → Int32) (p s n : Nat) : Nat → Int32 := fun j => if p ≤ j ∧ j < p + n then g (s + (j - p)) else f j
theorem cpF_0 (f g : Nat → Int32) (p s : Nat) : cpF f g p s 0 = f := by
  funext j
  unfold cpF
  rw [if_neg (by omega)]
theorem cpF_succ (f g : Nat → Int32) (p s n : Nat) : va_up (cpF f g p s n) (p + n) (g (s + n)) = cpF f g p s (n + 1) := by
  funext j
  unfold cpF va_up
  by_cases c : j = p + n
  · rw [if_pos c, if_pos (by omega), c]
    congr 1
    omega
  · rw [if_neg c]
    by_cases c2 : p ≤ j ∧ j < p + n
    · show (if p ≤ j ∧ j < p + n then g (s + (j - p)) else f j) = _
      rw [if_pos c2, if_pos (by omega)]
    · show (if p ≤ j ∧ j < p + n then g (s + (j - p)) else f j) = _
      rw [if_neg c2, if_neg (by omega)]
theorem cpF_in {f g : Nat → Int32} {p s n j : Nat} (h1 : p ≤ j) (h2 : j < p + n) : cpF f g p s n j = g (s + (j - p)) := if_pos ⟨h1, h2⟩
theorem cpF_out {f g : Nat → Int32} {p s n j : Nat} (h : j < p ∨ p + n ≤ j) : cpF f g p s n j = f j := if_neg (by omega)
/-- the row that is being written -/
def BF (A : Nat → Nat) (h : Hp) (bs : List Nat) : Prop := hI h (A 41) 11 = nI bs.length ∧ bs.length ≤ 176 ∧ ∀ j, j < bs.length → hI h (A 12) j = nI (bt bs j)
theorem BF.kept {bs : List Nat} (B : BF A h bs) (a : Mf A F h h1) (J : MJ A) (n1 : 11 ∉ F) (n2 : 12 ∉ F) : BF A h1 bs := ⟨by rw [a.2.2 11 n1]; exact B.1, B.2.1, fun j hj => by rw [a.i J 12 (by decide) (by decide) n2]; exact B.2.2 j hj⟩
end MF
section MP
variable {G : Gx} {l : Launch} {d w : Nat} {A : Nat → Nat} {h : Hp}
theorem bt_snoc_l {bs : List Nat} {v j : Nat} (hj : j < bs.length) : bt (bs ++ [v]) j = bt bs j := bt_app_l hj
theorem bt_snoc_r {bs : List Nat} {v : Nat} : bt (bs ++ [v]) bs.length = v := by
  have := bt_app_r (A := bs) (B := [v]) (j := 0)
  exact this
theorem c_MO_put {bs : List Nat} {v : Nat} (M : MA A h) (B : BF A h bs) (hl : bs.length < 176) : Cv G l M_MO_put (d + 0) (w + 0) [.ref (A 41), .int (nI v)] h 0 0 (fun h' => BF A h' (bs ++ [v]) ∧ Mf A [11, 12] h h') := by
  refine ok_MO_put ⟨M.s41, A 12, M.r12, 176, bs.length, ⟨M.s12, B.1, hl, by omega⟩, ?_⟩
  rw [rN M.j (by decide) (by decide) (by decide), B.1, nI_1]
  refine ⟨⟨?_, ?_, fun j hj => ?_⟩, (mf_pI M.j (by decide) (by decide) (by decide)).trans (mf_pS (by decide))⟩
  · rw [hI_pI_eq, List.length_append]
    rfl
  · rw [List.length_append]
    exact hl
  · rw [List.length_append] at hj
    rw [rN M.j (by decide) (by decide) (by decide), rE]
    by_cases c : j = bs.length
    · rw [c, va_up_self, bt_snoc_r]
    · have hj' : j < bs.length := by simp only [List.length_cons, List.length_nil] at hj; omega
      rw [va_up_ne _ _ c, bt_snoc_l hj']
      exact B.2.2 j hj'
theorem mu_lt {k j : Nat} (hj : j < k) (hk : k < 2147483648) : k - (nI (j + 1)).toNatClampNeg < k - (nI j).toNatClampNeg := by
  rw [nI_clamp (by omega), nI_clamp (by omega)]
  omega
theorem lN_10 : (10 : Int64) = lN 10 := rfl
theorem c_MO_power {k : Nat} (hk : k ≤ 18) : Cl G l M_MO_power (d + 0) (w + 0) [.int (nI k)] h 0 0 (Xl (lN (10 ^ k)) h) := by
  refine ok_MO_power ?_
  unfold wp_MO_power wL_MO_power_4
  refine ⟨fun y x h' => h = h' ∧ ∃ j, j ≤ k ∧ x = nI j ∧ y = lN (10 ^ j), fun y x h' => k - x.toNatClampNeg, ⟨rfl, 0, Nat.zero_le _, rfl, rfl⟩, ?_⟩
  rintro _ _ _ ⟨rfl, j, hj, rfl, rfl⟩
  unfold wB_MO_power_4
  rw [nI_leI (by omega) (by omega)]
  refine ⟨fun c => ⟨by rw [show j = k by omega], rfl⟩, fun c => ?_⟩
  rintro _ rfl _ rfl
  rw [nI_1, lN_10, lN_mul, ← Nat.pow_succ]
  exact ⟨⟨rfl, j + 1, by omega, rfl, rfl⟩, mu_lt (by omega) (by omega)⟩
end MP
section MQ
variable {G : Gx} {l : Launch} {d w : Nat} {A : Nat → Nat} {h : Hp}
theorem take_snoc {l : List Nat} {j : Nat} (h : j < l.length) : l.take (j + 1) = l.take j ++ [bt l j] := by
  rw [List.take_succ, List.getElem?_eq_getElem h]
  unfold bt
  rw [List.getD_eq_getElem?_getD, List.getElem?_eq_getElem h]
  rfl
theorem c_MO_putDigits {bs : List Nat} {v n : Nat} (M : MA A h) (B : BF A h bs) (h1 : 1 ≤ n) (h2 : n ≤ 14) (hv : v < 1000000000000000) (hl : bs.length + (n + 1) / 2 ≤ 176) : Cv G l M_MO_putDigits (d + 1) (w + 23) [.ref (A 41), .long (lN v), .int (nI n)] h 0 0 (fun h' => BF A h' (bs ++ dgs v n) ∧ Mf A [11, 12] h h') := by
  refine ok_MO_putDigits ?_
  unfold wp_MO_putDigits
  rintro _ rfl
  unfold wL_MO_putDigits_5
  refine ⟨fun x h' => ∃ j, ((j < (n + 1) / 2 ∧ x = nI (n - 1 - 2 * j)) ∨ (j = (n + 1) / 2 ∧ x < 0)) ∧ BF A h' (bs ++ (dgs v n).take j) ∧ Mf A [11, 12] h h', fun x h' => (x + 3).toNatClampNeg, ⟨0, Or.inl ⟨by omega, ?_⟩, ?_, Mf.rfl⟩, ?_⟩
  · rw [show (1 : Int32) = nI 1 from rfl, pk_sub (by omega)]
    rfl
  · rw [List.take_zero, List.append_nil]
    exact B
  rintro x h1 ⟨j, hj, B1, F1⟩
  have M1 := F1.ma M
  unfold wB_MO_putDigits_5
  rcases hj with ⟨hj, rfl⟩ | ⟨hj, hx⟩
  · refine ⟨fun c => absurd c (nI_pos (by omega)), fun _ => ⟨_, c_MO_power (by omega), ?_⟩⟩
    rintro _ _ ⟨rfl, rfl⟩
    have hp : ∀ k, k ≤ 13 → 0 < 10 ^ k ∧ 10 ^ k < 2 ^ 63 := fun k hk => ⟨Nat.pow_pos (by decide), Nat.lt_of_le_of_lt (Nat.pow_le_pow_right (by decide) hk) (by decide)⟩
    have hlen : (bs ++ (dgs v n).take j).length = bs.length + j := by
      rw [List.length_append, List.length_take, dgs_len]
      omega
    have hb := dgs_at (v := v) (n := n) hj
    have dig : ∀ k, k ≤ 13 → (lN v / lN (10 ^ k) - lN v / lN (10 ^ k) / 10 * 10).toInt32 = nI (v / 10 ^ k % 10) := fun k hk => by
      rw [pk_lDiv (by omega) (hp k hk).1 (hp k hk).2, lN_10, pk_lRem (Nat.lt_of_le_of_lt (Nat.div_le_self _ _) (by omega)) (by decide) (by decide), lN_i]
    have nz : ∀ k, k ≤ 13 → ¬ lN (10 ^ k) = 0 := fun k hk z => by
      have := (pk_lEQ (hp k hk).2 (show 0 < 2 ^ 63 by decide)).mp z
      have := (hp k hk).1
      omega
    refine ⟨nz _ (by omega), ?_⟩
    rintro _ rfl
    rw [dig _ (by omega)]
    have put : ∀ hi, bt (dgs v n) j = v / 10 ^ (n - 1 - 2 * j) % 10 + 16 * hi → ((j + 1 < (n + 1) / 2 ∧ nI (n - 1 - 2 * j) - 2 = nI (n - 1 - 2 * (j + 1))) ∨ (j + 1 = (n + 1) / 2 ∧ nI (n - 1 - 2 * j) - 2 < 0)) → (nI (n - 1 - 2 * j) - 2 + 3).toNatClampNeg < (nI (n - 1 - 2 * j) + 3).toNatClampNeg → wJ_MO_putDigits_48 G l d w (fun h' => BF A h' (bs ++ dgs v n) ∧ Mf A [11, 12] h h') (fun x_ h_ => (fun x h' => ∃ j, ((j < (n + 1) / 2 ∧ x = nI (n - 1 - 2 * j)) ∨ (j = (n + 1) / 2 ∧ x < 0)) ∧ BF A h' (bs ++ (dgs v n).take j) ∧ Mf A [11, 12] h h') x_ h_ ∧ (x_ + 3).toNatClampNeg < (nI (n - 1 - 2 * j) + 3).toNatClampNeg) (A 41) (lN v) (nI n) (nI (n - 1 - 2 * j)) (nI (v / 10 ^ (n - 1 - 2 * j) % 10)) (nI hi) h1 := by
      intro hi e1 e2 e3
      unfold wJ_MO_putDigits_48
      rw [show (16 : Int32) = nI 16 from rfl, pk_mul, nI_add, ← e1]
      refine ⟨M1.s41, _, c_MO_put M1 B1 (by omega), ?_⟩
      rintro h3 ⟨B3, F3⟩ _ rfl
      refine ⟨⟨j + 1, e2, ?_, F1.trans F3⟩, e3⟩
      rw [take_snoc (by rw [dgs_len]; exact hj), ← List.append_assoc]
      exact B3
    refine ⟨fun c => ⟨Xl (lN (10 ^ (n - 1 - 2 * j - 1))) h1, ?_, ?_⟩, fun c => ?_⟩
    · have : ¬ n - 1 - 2 * j = 0 := fun z => c (by rw [z]; rfl)
      rw [show (1 : Int32) = nI 1 from rfl, pk_sub (by omega)]
      exact c_MO_power (by omega)
    · have hne : ¬ n - 1 - 2 * j = 0 := fun z => c (by rw [z]; rfl)
      rintro _ _ ⟨rfl, rfl⟩
      refine ⟨nz _ (by omega), ?_⟩
      rw [dig _ (by omega)]
      refine put _ ?_ ?_ ?_
      · rw [hb, if_pos (by omega)]
        unfold dg
        rw [show n - 1 - (2 * j + 1) = n - 1 - 2 * j - 1 by omega]
      · by_cases c2 : n - 1 - 2 * j = 1
        · right
          rw [c2]
          exact ⟨by omega, by decide⟩
        · left
          rw [show (2 : Int32) = nI 2 from rfl, pk_sub (by omega)]
          exact ⟨by omega, by congr 1⟩
      · by_cases c2 : n - 1 - 2 * j = 1
        · rw [c2]; decide
        · rw [show (2 : Int32) = nI 2 from rfl, show (3 : Int32) = nI 3 from rfl, pk_sub (by omega), nI_add, nI_add, nI_clamp (by omega), nI_clamp (by omega)]
          omega
    · have h0 : n - 1 - 2 * j = 0 := (nI_eq (by omega) (by decide)).mp c
      refine put 15 ?_ ?_ ?_
      · rw [hb, if_neg (by omega)]
        rfl
      · right
        rw [h0]
        exact ⟨by omega, by decide⟩
      · rw [h0]; decide
  · refine ⟨fun _ => ⟨?_, F1⟩, fun c => absurd hx c⟩
    rw [List.take_of_length_le (by rw [dgs_len]; omega)] at B1
    exact B1
theorem c_MO_putAddress {bs : List Nat} {v : Nat} (M : MA A h) (B : BF A h bs) (h1 : 1 ≤ v) (h2 : v < 1000000000000) (hl : bs.length + 8 ≤ 176) : Cv G l M_MO_putAddress (d + 2) (w + 49) [.ref (A 41), .long (lN v)] h 0 0 (fun h' => BF A h' (bs ++ adr v) ∧ Mf A [11, 12] h h') := by
  refine ok_MO_putAddress ?_
  unfold wp_MO_putAddress wL_MO_putAddress_2
  have hp : ∀ k, k ≤ 12 → 0 < 10 ^ k ∧ 10 ^ k < 2 ^ 63 := fun k hk => ⟨Nat.pow_pos (by decide), Nat.lt_of_le_of_lt (Nat.pow_le_pow_right (by decide) hk) (by decide)⟩
  have fin : ∀ n, 1 ≤ n → n ≤ 12 → 10 ^ (n - 1) ≤ v → v < 10 ^ n → wJ_MO_putAddress_23 G l d w (fun h' => BF A h' (bs ++ adr v) ∧ Mf A [11, 12] h h') (A 41) (lN v) (nI n) h := by
    intro n n1 n2 n3 n4
    have e := nd_eq n1 n2 n3 n4
    unfold wJ_MO_putAddress_23
    refine ⟨M.s41, _, c_MO_put M B (by omega), ?_⟩
    rintro h2 ⟨B2, F2⟩
    have M2 := F2.ma M
    refine ⟨M2.s41, _, c_MO_put (v := 145) M2 B2 (by rw [List.length_append]; simp only [List.length_cons, List.length_nil]; omega), ?_⟩
    rintro h3 ⟨B3, F3⟩
    have M3 := F3.ma M2
    refine ⟨M3.s41, _, c_MO_putDigits M3 B3 n1 (by omega) (by omega) ?_, ?_⟩
    · simp only [List.length_append, List.length_cons, List.length_nil]
      omega
    · rintro h4 ⟨B4, F4⟩
      refine ⟨?_, F2.trans (F3.trans F4)⟩
      unfold adr
      rw [e]
      have : bs ++ n :: 145 :: dgs v n = bs ++ [n] ++ [145] ++ dgs v n := by simp
      rw [this]
      exact B4
  refine ⟨fun x h' => h = h' ∧ ∃ n, 1 ≤ n ∧ n ≤ 12 ∧ x = nI n ∧ 10 ^ (n - 1) ≤ v, fun x h' => 12 - x.toNatClampNeg, ⟨rfl, 1, by omega, by omega, rfl, by simpa using h1⟩, ?_⟩
  rintro _ _ ⟨rfl, n, n1, n2, rfl, n3⟩
  unfold wB_MO_putAddress_2
  rw [Lle (by omega) (by decide)]
  refine ⟨fun c => fin n n1 n2 n3 ?_, fun c => ⟨_, c_MO_power (by omega), ?_⟩⟩
  · rw [show n = 12 by omega]
    exact h2
  · rintro _ _ ⟨rfl, rfl⟩
    rw [cmp_gt, pk_lLT (by omega) (hp n n2).2]
    refine ⟨fun c2 => fin n n1 n2 n3 c2, fun c2 => ?_⟩
    rintro _ rfl
    rw [nI_1]
    exact ⟨⟨rfl, n + 1, by omega, by omega, rfl, by rw [Nat.add_sub_cancel]; omega⟩, mu_lt (by omega) (by omega)⟩
theorem c_MO_bytesFor {n : Nat} (hn : n < 1000) : Ci G l M_MO_bytesFor (d + 0) (w + 0) [.int (nI n)] h 0 0 (Xi (nI ((7 * n + 7) / 8)) h) := by
  refine ok_MO_bytesFor ?_
  unfold wp_MO_bytesFor
  rw [show (7 : Int32) = nI 7 from rfl, show (8 : Int32) = nI 8 from rfl, pk_mul, nI_add, pk_div (by omega) (by decide) (by decide)]
  exact ⟨rfl, rfl⟩
end MQ
