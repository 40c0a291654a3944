/-! dealWith -/
section D3
variable {G : Gx} {l : Launch} {d w : Nat} {own own' : Nat → Tg} {h h' : Hp} {D : Nat → Nat} {x u ml pl : Nat} {xs pk : List Nat} {S : SS}
theorem MS.off {k a o : Nat} {m : SMs} (M : MS G own h D k a m) : MS G own (pI h a 7 (nI o)) D k a (setOff m o) ∧ FT own h (pI h a 7 (nI o)) (fun t => t = (13, k)) := by
  have F : FT own h (pI h a 7 (nI o)) (fun t => t = (13, k)) := t_pI M.2.1 rfl
  obtain ⟨m1, m2, ⟨ra, rb, m3, m4⟩, m5, m6, m7, m8, m9, m10, m11, m12, m13, m14⟩ := M
  exact ⟨⟨m1, m2, ⟨ra, rb, m3, m4.kept F Ey.rfl.ex ⟨by simp, fun a _ => by simp⟩⟩, m5, m6, m7, by rw [hI_pI_ne (by omega)]; exact m8, by rw [hI_pI_ne (by omega)]; exact m9, m10, by rw [hI_pI_ne (by omega)]; exact m11, hI_pI_eq, m13, m14⟩, F⟩
theorem MS.nxt {k a o : Nat} {m : SMs} (M : MS G own h D k a m) : MS G own (pI h a 4 (nI o)) D k a (setNxt m o) ∧ FT own h (pI h a 4 (nI o)) (fun t => t = (13, k)) := by
  have F : FT own h (pI h a 4 (nI o)) (fun t => t = (13, k)) := t_pI M.2.1 rfl
  obtain ⟨m1, m2, ⟨ra, rb, m3, m4⟩, m5, m6, m7, m8, m9, m10, m11, m12, m13, m14⟩ := M
  exact ⟨⟨m1, m2, ⟨ra, rb, m3, m4.kept F Ey.rfl.ex ⟨by simp, fun a _ => by simp⟩⟩, m5, m6, m7, by rw [hI_pI_ne (by omega)]; exact m8, hI_pI_eq, m10, by rw [hI_pI_ne (by omega)]; exact m11, by rw [hI_pI_ne (by omega)]; exact m12, m13, m14⟩, F⟩
theorem MS.fate {k a f : Nat} {m : SMs} (M : MS G own h D k a m) (hf : f ≤ 3) : MS G own (pR h a 8 (some (gK G (4 + f)))) D k a (setFate m f) ∧ FT own h (pR h a 8 (some (gK G (4 + f)))) (fun t => t = (13, k)) := by
  have F : FT own h (pR h a 8 (some (gK G (4 + f)))) (fun t => t = (13, k)) := t_pR M.2.1 rfl
  obtain ⟨m1, m2, ⟨ra, rb, m3, m4⟩, m5, m6, m7, m8, m9, m10, m11, m12, m13, m14⟩ := M
  exact ⟨⟨m1, m2, ⟨ra, rb, by rw [hR_pR_ne (by omega)]; exact m3, m4.kept F Ey.rfl.ex ⟨by simp, fun a _ => by simp⟩⟩, m5, by rw [hR_pR_ne (by omega)]; exact m6, m7, m8, m9, m10, m11, m12, hR_pR_eq, hf⟩, F⟩
theorem setMs_set {k : Nat} {m m' : SMs} : setMs (setMs S (S.2.2.2.1.set k m)) ((setMs S (S.2.2.2.1.set k m)).2.2.2.1.set k m') = setMs S (S.2.2.2.1.set k m') := by
  show setMs S ((S.2.2.2.1.set k m).set k m') = _
  rw [List.set_set]
theorem hold_lt {dev : Nat → SDv} {to d : Nat} (h : hold dev to = some d) : d < 4 := by
  unfold hold at h
  exact List.mem_range.mp (List.mem_of_find?_eq_some h)
/-- a device changes, rows are new -/
theorem CX.dev {dd : Nat} {v : SDv} (C : CX G own h D x u ml pl xs pk S) (F : FT own h h' (TD dd)) (E : Ey own own' h) (hd : dd < 4) (V : DV G own' h' D dd v) : CX G own' h' D x u ml pl xs pk (setDev S (updD S.1 dd v)) := by
  obtain ⟨C1, U, M, W⟩ := C
  have nb : NB own (TD dd) := ⟨by simp [TD, t45], fun a _ => by simp [TD, t45]⟩
  refine ⟨C1.kept F E.ex (by simp [TD, t45]) (by simp [TD, t45]) (by simp [TD, t45]) (by simp [TD, t45]), U.kept F E (by simp [TD, t45] <;> omega) (by simp [TD, t45] <;> omega) (by simp [TD, t45] <;> omega) (by simp [TD, t45]) (by simp [TD, t45]), M.kept F E.ex nb ⟨by simp [TD, t45] <;> omega, by simp [TD, t45] <;> omega⟩ ⟨by simp [TD, t45] <;> omega, by simp [TD, t45] <;> omega⟩ (by simp [TD, t45]), fun j hj => ?_⟩
  by_cases z : j = dd
  · subst z
    show DV G own' h' D j (updD S.1 j v j)
    rw [updD_eq]
    exact V
  · show DV G own' h' D j (updD S.1 dd v j)
    rw [updD_ne z]
    exact (W j hj).kept F E.ex nb (by simp [TD, t45]; omega) (by simp [TD, t45]; omega) ⟨by simp [TD, t45]; omega, by simp [TD, t45]; omega⟩ ⟨by simp [TD, t45]; omega, by simp [TD, t45]; omega, by simp [TD, t45]; omega⟩ ⟨by simp [TD, t45]; omega, by simp [TD, t45]; omega, by simp [TD, t45]; omega⟩ (by simp [TD, t45]; omega) (by simp [TD, t45]; omega)
theorem c_SC_dealWith {k mc ms : Nat} (C : CX G own h D x u ml pl xs pk S) (hw : WF S) (hk : k < S.2.2.2.1.length) (hroom : mFate (mat (deal1 S k).2.2.2.1 k) = 1 → 3 ≤ mc ∧ 563 ≤ ms) : Cv G l M_SC_dealWith (d + 8) (w + 183) [.ref x, .ref (xs.getD k 0), .int (nI (mom (mat S.2.2.2.1 k)))] h mc ms (fun h' => (∃ own', CX G own' h' D x u ml pl xs pk (deal1 S k) ∧ FT own h h' T0 ∧ Ey own own' h) ∧ KF G h') := by
  refine Cv.kf (fun kf => ?_)
  have C0 := C
  obtain ⟨C1, U, ⟨A, B, e, r⟩, V⟩ := C
  have hat := mat_at hk
  have M := r k _ hat
  obtain ⟨hw1, hw2, hw3, hw4, hw5, hw6, hw7, hw8, hw9⟩ := hw
  have W := hw8 _ (List.mem_of_getElem? hat)
  have bd := W.bnd hw9
  have hroom' : ¬ mom (mat S.2.2.2.1 k) = sOld (mSub (mat S.2.2.2.1 k)) (mAcc (mat S.2.2.2.1 k)) → ∀ dd, hold S.1 (sTo (mSub (mat S.2.2.2.1 k))) = some dd → dOn (S.1 dd) = true ∧ (dInb (S.1 dd)).length < 6 → 3 ≤ mc ∧ 563 ≤ ms := fun z1 dd z2 z3 => by
    apply hroom
    unfold deal1
    rw [if_neg z1, z2]
    dsimp only
    rw [if_pos z3]
    show mFate (mat (S.2.2.2.1.set k _) k) = 1
    unfold mat
    rw [List.getD_eq_getElem?_getD, List.getElem?_set_self hk]
    rfl
  clear hroom
  unfold deal1
  generalize hm : mat S.2.2.2.1 k = m at *
  generalize ha : xs.getD k 0 = a at *
  have ht0 : ∀ t, t = (13, k) → T0 t := fun t z => by rw [z]; simp [T0]
  have hmle : mom m ≤ sOld (mSub m) (mAcc m) := by unfold mom; omega
  refine ok_SC_dealWith ?_
  unfold wp_SC_dealWith
  have hold6 : hI h a 6 = nI (sOld (mSub m) (mAcc m)) := M.2.2.2.2.2.2.2.2.2.1
  rw [hold6, nI_eq (by omega) (by omega)]
  refine ⟨M.1, fun c => ?_, fun c => ?_⟩
  · rw [if_neg c]
    have M1 := M.off (o := mOff m + 1)
    have hoff : hI h a 7 + 1 = nI (mOff m + 1) := by rw [M.2.2.2.2.2.2.2.2.2.2.1, nI_1]
    rw [hoff, M.2.2.2.2.2.2.2.2.1]
    have F1 := M1.2
    have K1 : CX G own (pI h a 7 (nI (mOff m + 1))) D x u ml pl xs pk (setMs S (S.2.2.2.1.set k (setOff m (mOff m + 1)))) := C0.msg hk F1 (by rw [ha]; exact M1.1)
    generalize pI h a 7 (nI (mOff m + 1)) = h1 at *
    have hto := Lg_to W.1
    have hset : ∀ m', setMs (setMs S (S.2.2.2.1.set k (setOff m (mOff m + 1)))) ((setMs S (S.2.2.2.1.set k (setOff m (mOff m + 1)))).2.2.2.1.set k m') = setMs S (S.2.2.2.1.set k m') := fun m' => setMs_set
    have hk1 : k < (setMs S (S.2.2.2.1.set k (setOff m (mOff m + 1)))).2.2.2.1.length := by
      show k < (S.2.2.2.1.set k (setOff m (mOff m + 1))).length
      rw [List.length_set]
      exact hk
    refine ⟨C1.1.1, _, c_SC_holderOf (S := setMs S (S.2.2.2.1.set k (setOff m (mOff m + 1)))) (to := sTo (mSub m)) K1.1 K1.2.2.2 (fun d hd => (hw1 d hd).1) hto.2, by omega, ?_⟩
    rintro _ _ ⟨rfl, rfl⟩
    show _ ∧ _
    have eh : hold (setMs S (S.2.2.2.1.set k (setOff m (mOff m + 1)))).1 (sTo (mSub m)) = hold S.1 (sTo (mSub m)) := rfl
    rw [eh]
    unfold wJ_SC_dealWith_92
    have putOff : ∀ q3, wJ_SC_dealWith_87 G l d w mc ms (fun h' => ∃ own', CX G own' h' D x u ml pl xs pk (setMs S (S.2.2.2.1.set k (setNxt (setOff m (mOff m + 1)) (offN (mOff m + 1) (mom m))))) ∧ FT own h h' T0 ∧ Ey own own' h) x a (nI (mom m)) q3 h1 0 0 := by
      intro q3
      unfold wJ_SC_dealWith_87 wJ_SC_dealWith_92
      refine ⟨M1.1.1, _, c_Me_putOff M1.1 (by show mOff m + 1 < _; omega), by omega, ?_⟩
      rintro _ rfl
      have M2 := M1.1.nxt (o := offN (mOff m + 1) (mom m))
      refine ⟨by omega, own, ?_, (F1.mono ht0).trans (M2.2.mono ht0) Ey.rfl, Ey.rfl⟩
      have := K1.msg hk1 M2.2 (by rw [ha]; exact M2.1)
      rw [hset] at this
      exact this
    cases hh : hold S.1 (sTo (mSub m)) with
    | none =>
      refine ⟨fun _ => ⟨M1.1.1, by omega, own, ?_, ?_, Ey.rfl⟩, fun q hq => by cases hq⟩
      · have M2 := M1.1.fate (f := 3) (by omega)
        have := K1.msg hk1 M2.2 (by rw [ha]; exact M2.1)
        rw [hset] at this
        exact this
      · exact (F1.mono ht0).trans ((M1.1.fate (f := 3) (by omega)).2.mono ht0) Ey.rfl
    | some dd =>
      refine ⟨fun z => (by cases z), fun q hq => ?_⟩
      cases hq
      have hdd := hold_lt hh
      have Vd : DV G own h1 D dd (S.1 dd) := K1.2.2.2 dd hdd
      have Vd0 := Vd
      obtain ⟨v1, v2, v3, v4, v5, v6, v7, v8, ⟨i, v9, L⟩, -⟩ := Vd
      have hll := L.len
      dsimp only
      refine ⟨v1, ?_⟩
      rw [v4]
      by_cases hon : dOn (S.1 dd) = true
      · rw [if_pos hon]
        refine ⟨fun z => absurd z (by decide), fun _ => ⟨i, v9, L.la, _, c_LN_room L, by omega, ?_⟩⟩
        rintro _ _ ⟨rfl, rfl⟩
        rw [leL (by omega) (by decide)]
        refine ⟨fun z => ?_, fun z => ?_⟩
        · rw [if_neg (fun y => by have := y.2; omega)]
          exact putOff _
        · have hrm := hroom' c dd hh ⟨hon, by omega⟩
          rw [if_pos ⟨hon, by omega⟩]
          have hDK := dlv_DK (frm := mFrm m) (acc := mAcc m) W.1 W.2.2.1 W.2.2.2.2.1 W.2.2.2.2.2.1
          refine ⟨v1, M1.1.1, 2, 163, _, c_Me_asDeliver M1.1 W.2.2.2.2.1 W.2.2.2.2.2.1 (by show mAcc m < _; omega) (by have := W.1.2.2.2.1; exact Nat.le_of_lt this) hDK.1, by omega, ?_⟩
          rintro _ h2 ⟨ra, rb, rfl, N⟩
          have N' : NewR h1 h2 ra rb (dlvR (mSub m) (mFrm m) (mAcc m)) := N
          have E2 : Ey own (owR own ra rb) h1 := N'.ey
          have F2 : FT own h1 h2 (fun _ => False) := N'.ft
          have nf : NB own (fun _ => False) := ⟨id, fun _ _ => id⟩
          have K2 : CX G (owR own ra rb) h2 D x u ml pl xs pk (setMs S (S.2.2.2.1.set k (setOff m (mOff m + 1)))) := ⟨K1.1.kept F2 E2.ex id id id id, K1.2.1.kept F2 E2 id id id id (fun _ => id), K1.2.2.1.kept F2 E2.ex nf ⟨id, id⟩ ⟨id, id⟩ (fun _ => id), fun j hj => (K1.2.2.2 j hj).kept F2 E2.ex nf id id ⟨id, id⟩ ⟨id, id, id⟩ ⟨id, id, id⟩ id (fun _ => id)⟩
          have L2 := L.kept F2 E2.ex nf id id id
          have s2 := F2.kp v1 v2 id
          have V2 : DV G (owR own ra rb) h2 D dd (S.1 dd) := K2.2.2.2 dd hdd
          refine ⟨ra, rfl, i, v9, L2.la, 1, 400, _, c_LN_append L2 (by omega) N'.rz, by omega, ?_⟩
          rintro h3 ⟨⟨own3, L3, F3, E3⟩, kf3⟩
          have V3 := V2.inb F3 E3.ex (by rw [s2.2.2.2]; exact v9) L3
          have K3 := K2.dev (F3.mono (TD.of45 (Or.inl rfl))) E3 hdd V3
          have M3 : MS G own3 h3 D k a (setOff m (mOff m + 1)) := by
            have := K3.2.2.1.2.2.2 k (setOff m (mOff m + 1)) (by
              show (S.2.2.2.1.set k (setOff m (mOff m + 1)))[k]? = _
              rw [List.getElem?_set_self hk])
            rw [ha] at this
            exact this
          refine ⟨M3.1, by omega, own3, ?_, ?_, ?_⟩
          · have M4 := M3.fate (f := 1) (by omega)
            have K4 := K3.msg (by
              show k < (S.2.2.2.1.set k (setOff m (mOff m + 1))).length
              rw [List.length_set]; exact hk) M4.2 (by rw [ha]; exact M4.1)
            have e4 : setMs (setDev (setMs S (S.2.2.2.1.set k (setOff m (mOff m + 1)))) (updD (setMs S (S.2.2.2.1.set k (setOff m (mOff m + 1)))).1 dd (setInb (S.1 dd) (dInb (S.1 dd) ++ [dlvR (mSub m) (mFrm m) (mAcc m)])))) ((setDev (setMs S (S.2.2.2.1.set k (setOff m (mOff m + 1)))) (updD (setMs S (S.2.2.2.1.set k (setOff m (mOff m + 1)))).1 dd (setInb (S.1 dd) (dInb (S.1 dd) ++ [dlvR (mSub m) (mFrm m) (mAcc m)])))).2.2.2.1.set k (setFate (setOff m (mOff m + 1)) 1)) = setDev (setMs S (S.2.2.2.1.set k (setFate (setOff m (mOff m + 1)) 1))) (updD S.1 dd (setInb (S.1 dd) (dInb (S.1 dd) ++ [dlvR (mSub m) (mFrm m) (mAcc m)]))) := by
              show ((updD S.1 dd _, S.2.1, S.2.2.1, ((S.2.2.2.1.set k (setOff m (mOff m + 1))).set k _), S.2.2.2.2) : SS) = _
              rw [List.set_set]
              rfl
            exact e4 ▸ K4
          · have M4 := M3.fate (f := 1) (by omega)
            have g1 : FT own h h2 T0 := (F1.mono ht0).trans (F2.mono (fun _ z => z.elim)) Ey.rfl
            have e12 : Ey own (owR own ra rb) h := fun y hy => E2 y (by rw [F1.1 y hy]; exact hy)
            have g2 : FT own h h3 T0 := g1.trans (F3.mono (t45_mono (by simp [T0]) (by simp [T0]))) e12
            exact g2.trans (M4.2.mono ht0) (e12.trans E3 g1.1)
          · have e12 : Ey own (owR own ra rb) h := fun y hy => E2 y (by rw [F1.1 y hy]; exact hy)
            refine e12.trans E3 (fun y hy => ?_)
            rw [F2.1 y (by rw [F1.1 y hy]; exact hy), F1.1 y hy]
      · rw [if_neg hon, if_neg (fun y => hon y.1)]
        exact ⟨fun _ => putOff _, fun z => absurd rfl z⟩
  · rw [if_pos c]
    have M2 := M.fate (f := 2) (by omega)
    exact ⟨by omega, own, C0.msg hk M2.2 (by rw [ha]; exact M2.1), M2.2.mono ht0, Ey.rfl⟩
end D3
