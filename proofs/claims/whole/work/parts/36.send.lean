/-! send -/
def endP (parts : Nat) (gs : List Nat) : Nat := if parts = 1 then gs.length else peL 0 gs
def segP (parts : Nat) : Nat → List Nat → List (List Nat)
  | 0, _ => []
  | n + 1, gs => gs.take (endP parts gs) :: segP parts n (gs.drop (endP parts gs))
def subB (kind mn to val len : Nat) (hd : List Nat) : List Nat := ([] ++ ([kind, mn] ++ adr to ++ [0, 0, val]) ++ [len]) ++ hd ++ zs ((7 * len + 7) / 8 - hd.length)
def subR (kind mn to val : Nat) (hd sp : List Nat) : List Nat := mrgL (subB kind mn to val (sp.length + (if hd.length = 0 then 0 else 7)) hd) (8 + (bt (subB kind mn to val (sp.length + (if hd.length = 0 then 0 else 7)) hd) 2 + 1) / 2) (fbit (subB kind mn to val (sp.length + (if hd.length = 0 then 0 else 7)) hd)) sp
def kndS (rep : Bool) (parts : Nat) : Nat := 17 + (if rep then 32 else 0) + (if parts = 1 then 0 else 64)
def hdS (refs parts i : Nat) : List Nat := if parts = 1 then [] else [5, 0, 3, refs, parts, i]
def rowS (rep : Bool) (mn refs to val parts i : Nat) (s : List Nat) : List Nat := subR (kndS rep parts) ((mn + (i - 1)) % 256) to val (hdS refs parts i) (s.flatMap fsep)
def sndR (rep : Bool) (mn refs to val parts : Nat) : Nat → List (List Nat) → List (List Nat)
  | _, [] => []
  | i, s :: ss => rowS rep mn refs to val parts i s :: sndR rep mn refs to val parts (i + 1) ss
theorem sndR_cons (rep : Bool) (mn refs to val parts i : Nat) (s : List Nat) (ss : List (List Nat)) : sndR rep mn refs to val parts i (s :: ss) = rowS rep mn refs to val parts i s :: sndR rep mn refs to val parts (i + 1) ss := rfl
theorem segP_succ (parts n : Nat) (gs : List Nat) : segP parts (n + 1) gs = gs.take (endP parts gs) :: segP parts n (gs.drop (endP parts gs)) := rfl
def setMn (v : SDv) (n : Nat) : SDv := (v.1, v.2.1, v.2.2.1, v.2.2.2.1, v.2.2.2.2.1, n, v.2.2.2.2.2.2)
def setRef (v : SDv) (n : Nat) : SDv := (v.1, v.2.1, v.2.2.1, v.2.2.2.1, n, v.2.2.2.2.2)
def allR (S : SS) (k to val : Nat) (rep : Bool) (gs : List Nat) : List (List Nat) := sndR rep (dMn (S.1 k)) (dRef (S.1 k)) to val (pcN gs) 1 (segP (pcN gs) (pcN gs) gs)
def sndS (S : SS) (k to val : Nat) (rep : Bool) (gs : List Nat) : SS := (updD S.1 k (setRef (setMn (S.1 k) ((dMn (S.1 k) + pcN gs) % 256)) (if pcN gs = 1 then dRef (S.1 k) else (dRef (S.1 k) + 1) % 256)), S.2.1 ++ (allR S k to val rep gs).map (fun r => (k, r)), S.2.2)
theorem peL_sum (u : Nat) (fs : List Nat) (hu : u ≤ 153) : u + sumS (fs.take (peL u fs)) ≤ 153 := by
  induction fs generalizing u with
  | nil => simp [sumS]; exact hu
  | cons f fs ih =>
    rw [peL_cons]
    split
    · rename_i c
      have := ih (u + sl f) c
      rw [Nat.add_comm 1, List.take_succ_cons, sumS_cons]
      omega
    · simp [sumS]; exact hu
theorem endP_le (parts : Nat) (gs : List Nat) : endP parts gs ≤ gs.length := by
  unfold endP
  split
  · exact Nat.le_refl _
  · exact peL_le _ _
theorem flat_len (gs : List Nat) : (gs.flatMap fsep).length = sumS gs := by
  induction gs with
  | nil => rfl
  | cons f fs ih => rw [List.flatMap_cons, List.length_append, ih, fsep_len, sumS_cons]
theorem mrg_len (bs : List Nat) (s bit v : Nat) : (mrg bs s bit v).length = bs.length := by
  unfold mrg
  simp
theorem mrgL_len (bs : List Nat) (s bit : Nat) (xs : List Nat) : (mrgL bs s bit xs).length = bs.length := by
  induction xs generalizing bs bit with
  | nil => rfl
  | cons v xs ih =>
    show (mrgL (mrg bs s bit v) s (bit + 7) xs).length = _
    rw [ih, mrg_len]
theorem updD_twice (dev : Nat → SDv) (k : Nat) (v v' : SDv) : updD (updD dev k v) k v' = updD dev k v' := by
  funext j
  by_cases c : j = k
  · rw [c, updD_eq, updD_eq]
  · rw [updD_ne c, updD_ne c, updD_ne c]
theorem updD_self (dev : Nat → SDv) (k : Nat) : updD dev k (dev k) = dev := by
  funext j
  by_cases c : j = k
  · rw [c, updD_eq]
  · rw [updD_ne c]
