/-! lines of rows -/
theorem obj_row {G : Gx} {h : Hp} {x : Nat} (hx : hS h x = some (15, 0)) : ObjA G h x 3 := ⟨5, 0, hx, rfl, fun hS => asg_of hS (ci := 5) rfl kC_5o⟩
theorem obj_row4 {G : Gx} {h : Hp} {x : Nat} (hx : hS h x = some (15, 0)) : ObjA G h x 4 := ⟨5, 0, hx, rfl, fun hS => asg_of hS (ci := 5) rfl kC_5⟩
theorem obj_msg {G : Gx} {h : Hp} {x : Nat} (hx : hS h x = some (16, 0)) : ObjA G h x 3 := ⟨6, 0, hx, rfl, fun hS => asg_of hS (ci := 6) rfl kC_6o⟩
theorem obj_pile {G : Gx} {h : Hp} {x : Nat} (hx : hS h x = some (17, 0)) : ObjA G h x 3 := ⟨7, 0, hx, rfl, fun hS => asg_of hS (ci := 7) rfl kC_7o⟩
/-- a line: its object, its list, the list's row; how many at most; its rows -/
def LnA (G : Gx) (h : Hp) (a la e cap most : Nat) (xs : List Nat) : Prop := hS h a = some (11, 0) ∧ hR h a 0 = some la ∧ hI h a 1 = nI most ∧ most ≤ 100 ∧ ALe G h la e cap xs ∧ ∀ x ∈ xs, hS h x = some (15, 0)
theorem mem_getD {xs : List Nat} {j : Nat} (hj : j < xs.length) : xs.getD j 0 ∈ xs := by
  rw [List.getD_eq_getElem?_getD, List.getElem?_eq_getElem hj]
  exact List.getElem_mem _
theorem ALe.ne {G : Gx} {h : Hp} {a e cap : Nat} {xs : List Nat} (A : ALe G h a e cap xs) (kf : KF G h) {x t z : Nat} (hx : hS h x = some (t, z)) (ht : 10 ≤ t) (ht2 : t ≠ 12) : x ≠ a ∧ x ≠ e := by
  refine ⟨fun q => ?_, fun q => ?_⟩
  · rw [q, A.1] at hx
    cases hx
    exact ht2 rfl
  · rcases A.2.2.2.2 with ⟨b1, b2, b3⟩ | ⟨b1, -⟩
    · rw [q, b1, show hS h (gK G 0) = none from kf] at hx
      cases hx
    · rw [q, b1] at hx
      cases hx
      omega
section LN
variable {G : Gx} {l : Launch} {d w : Nat} {h : Hp} {a la e cap most : Nat} {xs : List Nat}
theorem c_Li_size (L : LnA G h a la e cap most xs) : Ci G l M_Li_size (d + 1) (w + 20) [.ref a] h 0 0 (Xi (nI xs.length) h) := by
  obtain ⟨l1, l2, l3, l4, A, l6⟩ := L
  exact ok_Li_size ⟨l1, la, l2, A.1, _, c_AL_size A, fun x h' q => q⟩
theorem c_Li_room (L : LnA G h a la e cap most xs) (hm : xs.length ≤ most) : Ci G l M_Li_room (d + 1) (w + 20) [.ref a] h 0 0 (Xi (nI (most - xs.length)) h) := by
  obtain ⟨l1, l2, l3, l4, A, l6⟩ := L
  refine ok_Li_room ⟨l1, la, l2, A.1, _, c_AL_size A, ?_⟩
  rintro _ _ ⟨rfl, rfl⟩
  exact ⟨by rw [l3, pk_sub hm], rfl⟩
theorem c_Li_first (L : LnA G h a la e cap most xs) : Cr G l M_Li_first (d + 4) (w + 94) [.ref a] h 0 0 (Xq xs.head? h) := by
  obtain ⟨l1, l2, l3, l4, A, l6⟩ := L
  refine ok_Li_first ⟨l1, la, l2, A.1, _, c_AL_isEmpty A, ?_⟩
  rintro _ _ ⟨rfl, rfl⟩
  unfold wJ_Li_first_25
  cases xs with
  | nil => exact ⟨fun c => absurd c (by decide), fun _ => ⟨rfl, rfl⟩⟩
  | cons y ys =>
    refine ⟨fun _ => ⟨l1, la, l2, A.1, _, c_AL_get (j := 0) A (by simp), ?_⟩, fun c => absurd rfl c⟩
    rintro _ _ ⟨rfl, rfl⟩
    exact ⟨y, rfl, l6 y List.mem_cons_self, rfl, rfl⟩
theorem c_Li_removeFirst0 (L : LnA G h a la e cap most []) : Cr G l M_Li_removeFirst (d + 4) (w + 96) [.ref a] h 0 0 (Xq none h) := by
  obtain ⟨l1, l2, l3, l4, A, l6⟩ := L
  refine ok_Li_removeFirst ⟨l1, la, l2, A.1, _, c_AL_isEmpty A, ?_⟩
  rintro _ _ ⟨rfl, rfl⟩
  exact ⟨fun c => absurd c (by decide), fun _ => ⟨rfl, rfl⟩⟩
theorem c_Li_removeFirst {y : Nat} (L : LnA G h a la e cap most (y :: xs)) : Cr G l M_Li_removeFirst (d + 4) (w + 96) [.ref a] h 0 0 (fun x h' => (x = some y ∧ LnA G h' a la e cap most xs ∧ Fr h h' (fun x => x = la ∨ x = e)) ∧ KF G h') := by
  refine Cr.kf (fun kf => ?_)
  obtain ⟨l1, l2, l3, l4, A, l6⟩ := L
  have hO : ∀ x ∈ (y :: xs), ObjA G h x 3 := fun x hx => obj_row (l6 x hx)
  refine ok_Li_removeFirst ⟨l1, la, l2, A.1, _, c_AL_isEmpty A, ?_⟩
  rintro _ _ ⟨rfl, rfl⟩
  unfold wJ_Li_removeFirst_25
  refine ⟨fun _ => ⟨l1, la, l2, A.1, _, c_AL_remove (j := 0) A (by simp) hO, ?_⟩, fun c => absurd rfl c⟩
  rintro _ h2 ⟨rfl, A2, F2⟩
  have kept : ∀ {x t z}, hS h x = some (t, z) → 10 ≤ t → t ≠ 12 → Same h h2 x := fun {x t z} hx ht ht2 => F2.2 x (by rw [hx]; exact fun z => by cases z) (fun q => q.elim (A.ne kf hx ht ht2).1 (A.ne kf hx ht ht2).2)
  have sa := kept l1 (by decide) (by decide)
  exact ⟨y, rfl, by rw [(kept (l6 y List.mem_cons_self) (by decide) (by decide)).1]; exact l6 y List.mem_cons_self, rfl, ⟨by rw [sa.1]; exact l1, by rw [sa.2.2.2]; exact l2, by rw [sa.2.1]; exact l3, l4, A2, fun x hx => by
    have hx1 := l6 x (List.mem_cons_of_mem _ hx)
    rw [(kept hx1 (by decide) (by decide)).1]; exact hx1⟩, F2⟩
theorem c_Li_append {v : Nat} (L : LnA G h a la e cap most xs) (hm : xs.length < most) (hv : hS h v = some (15, 0)) : Cv G l M_Li_append (d + 7) (w + 162) [.ref a, .ref v] h 1 400 (fun h' => (∃ e' c', LnA G h' a la e' c' most (xs ++ [v]) ∧ (e' = e ∨ hS h e' = none) ∧ Fr h h' (fun x => x = la ∨ x = e)) ∧ KF G h') := by
  refine Cv.kf (fun kf => ?_)
  obtain ⟨l1, l2, l3, l4, A, l6⟩ := L
  have hO : ∀ x ∈ xs, ObjA G h x 3 := fun x hx => obj_row (l6 x hx)
  refine ok_Li_append ⟨l1, la, l2, A.1, _, c_AL_size A, by omega, ?_⟩
  rintro _ _ ⟨rfl, rfl⟩
  rw [l3]
  unfold wJ_Li_append_23
  refine ⟨l1, fun c => absurd c (nI_ge hm (by omega)), fun _ => ⟨la, l2, A.1, 1, 400, _, c_AL_add A (by omega) (obj_row hv) (A.ne kf hv (by decide) (by decide)).1 hO, by omega, ?_⟩⟩
  rintro _ h2 ⟨e', c', A2, he', F2⟩
  have kept : ∀ {x t z}, hS h x = some (t, z) → 10 ≤ t → t ≠ 12 → Same h h2 x := fun {x t z} hx ht ht2 => F2.2 x (by rw [hx]; exact fun z => by cases z) (fun q => q.elim (A.ne kf hx ht ht2).1 (A.ne kf hx ht ht2).2)
  have sa := kept l1 (by decide) (by decide)
  refine ⟨by omega, e', c', ⟨by rw [sa.1]; exact l1, by rw [sa.2.2.2]; exact l2, by rw [sa.2.1]; exact l3, l4, A2, fun x hx => ?_⟩, he', F2⟩
  have hx1 : hS h x = some (15, 0) := by
    rcases List.mem_append.mp hx with z | z
    · exact l6 x z
    · rw [List.mem_singleton.mp z]; exact hv
  rw [(kept hx1 (by decide) (by decide)).1]
  exact hx1
/-- the first two change places -/
theorem c_Li_swap {y z : Nat} (L : LnA G h a la e cap most (y :: z :: xs)) : Ci G l M_Li_exchangeFirstTwo (d + 4) (w + 96) [.ref a] h 0 0 (fun x h' => (x = 1 ∧ LnA G h' a la e cap most (z :: y :: xs) ∧ Fr h h' (fun x => x = e)) ∧ KF G h') := by
  refine Ci.kf (fun kf => ?_)
  obtain ⟨l1, l2, l3, l4, A, l6⟩ := L
  have hy := l6 y List.mem_cons_self
  have hz := l6 z (List.mem_cons_of_mem _ List.mem_cons_self)
  have h3 := A.2.2.1
  refine ok_Li_exchangeFirstTwo ⟨l1, la, l2, A.1, _, c_AL_size A, ?_⟩
  rintro _ _ ⟨rfl, rfl⟩
  refine ⟨fun _ => ⟨l1, la, l2, A.1, _, c_AL_get (j := 0) A (by simp), ?_⟩, fun c => absurd (nI_le (a := 2) (by simp) (by omega)) c⟩
  rintro _ _ ⟨rfl, rfl⟩
  refine ⟨y, rfl, hy, l1, la, l2, A.1, _, c_AL_get (j := 1) A (by simp), ?_⟩
  rintro _ _ ⟨rfl, rfl⟩
  refine ⟨z, rfl, hz, A.1, _, c_AL_set (j := 0) A (by simp) (obj_row hz), ?_⟩
  rintro _ _ rfl
  have A2 := A.setat (j := 0) (v := z) (by simp)
  have hne := (A.ne kf l1 (by decide) (by decide)).2
  have l2' : hR (pR h e 0 (some z)) a 0 = some la := by rw [hR_pR_ne (fun q => hne q.1)]; exact l2
  refine ⟨l1, la, l2', A.1, _, c_AL_set (j := 1) A2 (by simp) (obj_row hy), ?_⟩
  rintro _ _ rfl
  have A3 := A2.setat (j := 1) (v := y) (by simp)
  refine ⟨rfl, ⟨l1, by rw [hR_pR_ne (fun q => hne q.1)]; exact l2', l3, l4, A3, fun x hx => ?_⟩, fr_pR.trans fr_pR (fun x _ q => q)⟩
  apply l6
  simp only [List.mem_cons] at hx ⊢
  rcases hx with q | q | q
  · exact Or.inr (Or.inl q)
  · exact Or.inl q
  · exact Or.inr (Or.inr q)
theorem c_Li_swapN (L : LnA G h a la e cap most xs) (hl : xs.length < 2) : Ci G l M_Li_exchangeFirstTwo (d + 4) (w + 96) [.ref a] h 0 0 (Xi 0 h) := by
  obtain ⟨l1, l2, l3, l4, A, l6⟩ := L
  refine ok_Li_exchangeFirstTwo ⟨l1, la, l2, A.1, _, c_AL_size A, ?_⟩
  rintro _ _ ⟨rfl, rfl⟩
  exact ⟨fun c => absurd c (nI_ge (b := 2) hl (by decide)), fun _ => ⟨rfl, rfl⟩⟩
/-- a new line -/
theorem c_Li_init {m : Nat} (hs : hS h a = some (11, 0)) (hm : m ≤ 100) : Cv G l M_Li_init (d + 4) (w + 80) [.ref a, .int (nI m)] h 1 3 (fun h' => (∃ q, Fre h q ∧ LnA G h' a q (gK G 0) 0 m [] ∧ Fr h h' (fun x => x = a)) ∧ KF G h') := by
  refine Cv.kf (fun kf => ?_)
  refine ok_Li_init ⟨by omega, fun q F => ⟨_, c_AL_init Fre.new, by omega, ?_⟩⟩
  rintro _ rfl
  have hne : a ≠ q := F.ne hs
  refine ⟨Fre.old F hs, by omega, q, F, ⟨Fre.old F hs, hR_pR_eq, hI_pI_eq, hm, ⟨Fre.new, ?_, by simp, ?_, Or.inl ⟨rfl, rfl, rfl⟩⟩, fun x hx => by cases hx⟩, ?_⟩
  · rw [hI_pI_ne (fun z => hne z.1.symm)]
    show hI (pI _ q 2 0) q 1 = _
    rw [hI_pI_ne (by omega)]
    exact F.2.1 1
  · show hR (pR _ a 0 (some q)) q 0 = _
    rw [hR_pR_ne (fun z => hne z.1.symm), hR_pR_eq]
  · refine ((((fr_pN (F := fun x => x = a) F.1).trans fr_pI (fun x hx z => ?_)).trans fr_pR (fun x hx z => ?_)).trans fr_pR (fun x _ z => z)).trans fr_pI (fun x _ z => z)
    · exact absurd F.1 (by rw [← z]; exact hx)
    · exact absurd F.1 (by rw [← z]; exact hx)
end LN
