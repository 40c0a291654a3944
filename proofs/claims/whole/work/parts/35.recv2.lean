/-! receive -/
noncomputable def lgB (bs : List Nat) : Bool := @decide (Lg bs) (Classical.propDecidable _)
theorem lgB_iff {bs : List Nat} : lgB bs = true ↔ Lg bs := by
  unfold lgB
  exact @decide_eq_true_iff _ (Classical.propDecidable _)
noncomputable def sRcv (S : SS) : SS × Int32 := match S.2.1 with
  | [] => (S, -2)
  | p :: r => if 12 ≤ (pend S.2.2.2.1).length ∨ 100 ≤ S.2.2.2.1.length then (S, -3) else if lgB p.2 = true then ((S.1, r, S.2.2.1, S.2.2.2.1 ++ [rMsg S p], S.2.2.2.2), nI S.2.2.2.1.length) else ((S.1, r, S.2.2), -6)
section RC
variable {G : Gx} {l : Launch} {d w : Nat} {own own' : Nat → Tg} {h h' : Hp} {D : Nat → Nat} {x : Nat} {S : SS}
theorem c_SC_receive (C : CS G own h D x S) (hw : WF S) : Ci G l M_SC_receive (d + 7) (w + 162) [.ref x] h 3 809 (fun r h' => (r = (sRcv S).2 ∧ CQ G D x own h (sRcv S).1 h') ∧ KF G h') := by
  refine Ci.kf (fun kf => ?_)
  obtain ⟨u, ml, pl, C1, U, M, V⟩ := C.split
  have M0 := M
  obtain ⟨ps, A, e, nd, r⟩ := U
  obtain ⟨xs, B1, B2, ex, rm⟩ := M
  obtain ⟨hw1, hw2, hw3, hw4, hw5, hw6, hw7, hw8, hw9⟩ := hw
  refine ok_SC_receive ?_
  unfold wp_SC_receive wJ_SC_receive_39 wJ_SC_receive_66 sRcv
  refine ⟨C1.1.1, u, C1.2.2.1, A.1, _, c_LA_first A, by omega, ?_⟩
  rintro _ _ ⟨rfl, rfl⟩
  cases ps with
  | nil =>
    rw [e]
    exact ⟨fun _ => ⟨by omega, rfl, CQ.same C⟩, fun q hq => by cases hq⟩
  | cons p ps =>
    rw [List.map_cons] at e
    rw [e]
    refine ⟨fun z => (by cases z), fun q hq => ?_⟩
    cases hq
    refine ⟨C1.1.1, pl, C1.2.2.2.2.2, B2.hs, _, c_LJ_size B2, by omega, ?_⟩
    rintro _ _ ⟨rfl, rfl⟩
    rw [List.length_map, Lle (by omega) (by decide)]
    dsimp only
    refine ⟨fun c => ⟨by omega, by rw [if_pos (Or.inl c)]; exact ⟨rfl, CQ.same C⟩⟩, fun c12 => ⟨C1.1.1, ml, C1.2.2.2.2.1, B1.hs, _, c_LJ_size B1, by omega, ?_⟩⟩
    rintro _ _ ⟨rfl, rfl⟩
    rw [ex, ltL (by omega) (by decide)]
    refine ⟨fun c100 => ?_, fun c => ⟨by omega, by rw [if_pos (Or.inr (by omega))]; exact ⟨rfl, CQ.same C⟩⟩⟩
    rw [if_neg (by omega)]
    have A' : LA G own h 0 u 8 (p.1 :: ps.map (fun p => p.1)) := A
    refine ⟨C1.1.1, u, C1.2.2.1, A.1, _, c_LA_removeFirst A', by omega, ?_⟩
    rintro _ h1 ⟨⟨rfl, A1, F1⟩, kf1⟩
    obtain ⟨R, r2, r3, r4, r5⟩ := r p List.mem_cons_self
    have nb1 : NB own (t45 0) := ⟨by simp [t45], fun a _ => by simp [t45]⟩
    have s1 := F1.kp R.1 r2 (by simp [t45])
    have R1 : Rw h1 p.1 p.2.1 p.2.2.2 := R.same s1 (F1.kp R.2.2.1 r3 (by simp [t45]))
    have C2 := C1.kept F1 Ey.rfl.ex (by simp [t45]) (by simp [t45]) (by simp [t45]) (by simp [t45])
    have M2 := M0.kept F1 Ey.rfl.ex nb1 ⟨by simp [t45], by simp [t45]⟩ ⟨by simp [t45], by simp [t45]⟩ (by simp [t45])
    have V2 : ∀ k, k < 4 → DV G own h1 D k (S.1 k) := fun k hk => (V k hk).kept F1 Ey.rfl.ex nb1 (by simp [t45]) (by simp [t45]) ⟨by simp [t45], by simp [t45]⟩ ⟨by simp [t45], by simp [t45], by simp [t45]⟩ ⟨by simp [t45], by simp [t45], by simp [t45]⟩ (by simp [t45]) (by simp [t45] <;> omega)
    rw [List.map_cons, List.nodup_cons] at nd
    have r1' : ∀ q ∈ ps, Rw h1 q.1 q.2.1 q.2.2.2 ∧ own q.1 = (10, 0) ∧ own q.2.1 = (12, q.1) ∧ q.2.2.1 < 4 ∧ hR h1 q.1 2 = some (D q.2.2.1) := fun q hq => by
      obtain ⟨t1, t2, t3, t4, t5⟩ := r q (List.mem_cons_of_mem _ hq)
      have sq := F1.kp t1.1 t2 (by simp [t45])
      exact ⟨t1.same sq (F1.kp t1.2.2.1 t3 (by simp [t45])), t2, t3, t4, by rw [sq.2.2.2]; exact t5⟩
    have U2 : UP G own h1 D u (ps.map (fun p => p.2.2)) := ⟨ps, A1, rfl, nd.2, r1'⟩
    have r51 : hR h1 p.1 2 = some (D p.2.2.1) := by rw [s1.2.2.2]; exact r5
    refine ⟨R1.1, fun z => (by rw [r51] at z; cases z), fun q hq => ?_⟩
    rw [r51] at hq
    cases hq
    have huw := hw3 (p.2.2) (by rw [e]; exact List.mem_cons_self)
    refine ⟨_, c_Su_areKept R1 huw.2.1, by omega, ?_⟩
    rintro _ _ ⟨rfl, ⟨rfl, L⟩ | ⟨rfl, L⟩⟩
    · refine ⟨fun _ => ⟨by omega, fun q Fq => ?_⟩, fun z => absurd z (by decide)⟩
      have hlg : lgB p.2.2.2 = true := lgB_iff.mpr L
      rw [if_pos hlg]
      have Sm : ∀ y kd, hS h1 y = some kd → Same h1 (pN h1 q (16, 0)) y := fun y kd hy => same_pN (Fq.ne hy)
      have R2 : Rw (pN h1 q (16, 0)) p.1 p.2.1 p.2.2.2 := R1.same (Sm _ _ R1.1) (Sm _ _ R1.2.2.1)
      have Vo := V2 p.2.2.1 r4
      have hnow : hI h1 x 5 = nI S.2.2.2.2 := C2.1.2.2
      rw [hnow]
      refine ⟨Fq.old C2.1.1, _, c_Me_init Fre.new R2 (Fq.old Vo.1) L.2.1.2.2.1 (by have := L.2.2.2.1; omega), by omega, ?_⟩
      rintro h3 ⟨⟨i0, i1, i2, i3, i4, i5, i6, i7, i8⟩, F3⟩
      have F13 : FT own h1 h3 (fun _ => False) := by
        have := (fr_pN (h := h1) (a := q) (kd := (16, 0)) (F := fun y => y = q) Fq.1).trans F3 (fun y _ z => z)
        refine ⟨this.1, fun y hy _ => this.2 y hy (fun z => hy (by rw [z]; exact Fq.1))⟩
      have nqp : q ≠ p.1 := fun z => by have := R1.1; rw [← z, Fq.1] at this; cases this
      have E13 : Eo own (ow (ow own p.1 (11, 0)) q (13, S.2.2.2.1.length)) h1 := fun y hy n10 => by
        rw [ow_ne (fun z => hy (by rw [z]; exact Fq.1)), ow_ne (fun z => n10 (by rw [z]; exact r2))]
      have hq16 : hS h3 q = some (16, 0) := by rw [F3.1 q (by rw [Fre.new]; exact fun z => by cases z)]; exact Fre.new
      generalize hown : ow (ow own p.1 (11, 0)) q (13, S.2.2.2.1.length) = own1 at *
      have o1q : own1 q = (13, S.2.2.2.1.length) := by rw [← hown, ow_eq]
      have o1p : own1 p.1 = (11, 0) := by rw [← hown, ow_ne (fun z => nqp z.symm), ow_eq]
      have nf : NB own (fun _ => False) := ⟨id, fun _ _ => id⟩
      have C3 := C2.kept F13 E13 id id id id
      have M3 := M2.kept F13 E13 nf ⟨id, id⟩ ⟨id, id⟩ (fun _ => id)
      have V3 : ∀ k, k < 4 → DV G own1 h3 D k (S.1 k) := fun k hk => (V2 k hk).kept F13 E13 nf id id ⟨id, id⟩ ⟨id, id, id⟩ ⟨id, id, id⟩ id (fun _ => id)
      have U3 : UP G own1 h3 D u (ps.map (fun p => p.2.2)) := by
        refine ⟨ps, A1.kept F13 E13 id id id, rfl, nd.2, fun q' hq' => ?_⟩
        obtain ⟨t1, t2, t3, t4, t5⟩ := r1' q' hq'
        have sq := F13.kp t1.1 t2 id
        have nq' : q'.1 ≠ p.1 := fun z => nd.1 (by rw [← z]; exact List.mem_map.mpr ⟨q', hq', rfl⟩)
        have nq'' : q'.1 ≠ q := fun z => by have := t1.1; rw [z, Fq.1] at this; cases this
        exact ⟨t1.same sq (F13.kp t1.2.2.1 t3 id), by rw [← hown, ow_ne nq'', ow_ne nq']; exact t2, E13.at t1.2.2.1 t3 (by simp), t4, by rw [sq.2.2.2]; exact t5⟩
      have R3 : Rz own1 h3 (p.1, p.2.1, p.2.2.2) := ⟨R1.same (F13.kp R1.1 r2 id) (F13.kp R1.2.2.1 r3 id), o1p, E13.at R1.2.2.1 r3 (by simp)⟩
      have hNm : MS G own1 h3 D S.2.2.2.1.length q (rMsg S p.2.2) := by
        refine ⟨hq16, o1q, ⟨p.1, p.2.1, i0, R3⟩, r4, i1, ?_, i3, i4, i5, i6, ?_, i8, (show (0 : Nat) ≤ 3 by decide)⟩
        · rw [i2]
          exact Vo.2.2.1
        · rw [i7]
          show hI h1 q 7 = _
          rw [Fq.2.1]
          rfl
      obtain ⟨xs3, B31, B32, ex3, rm3⟩ := M3
      refine ⟨C3.1.1, ml, C3.2.2.2.2.1, B31.hs, 1, 400, _, c_LJ_add B31 (by omega) (obj_msg hq16) (fun z => ?_) (fun y hy => ?_), by omega, ?_⟩
      · have := B31.hs
        rw [← z, hq16] at this
        cases this
      · obtain ⟨k, hk, rfl⟩ := List.mem_iff_getElem.mp hy
        have := rm3 k _ (List.getElem?_eq_getElem (by omega))
        rw [List.getD_eq_getElem?_getD, List.getElem?_eq_getElem hk] at this
        exact obj_msg this.1
      rintro _ h4 ⟨⟨own4, B41, F34, E34⟩, kf4⟩
      have nb4 : NB own1 (t45 9) := ⟨by simp [t45], fun a _ => by simp [t45]⟩
      have C4 := C3.kept F34 E34.ex (by simp [t45]) (by simp [t45]) (by simp [t45]) (by simp [t45])
      have V4 : ∀ k, k < 4 → DV G own4 h4 D k (S.1 k) := fun k hk => (V3 k hk).kept F34 E34.ex nb4 (by simp [t45] <;> omega) (by simp [t45] <;> omega) ⟨by simp [t45] <;> omega, by simp [t45] <;> omega⟩ ⟨by simp [t45] <;> omega, by simp [t45] <;> omega, by simp [t45] <;> omega⟩ ⟨by simp [t45] <;> omega, by simp [t45] <;> omega, by simp [t45] <;> omega⟩ (by simp [t45] <;> omega) (by simp [t45] <;> omega)
      have U4 := U3.kept F34 E34 (by simp [t45]) (by simp [t45]) (by simp [t45]) (by simp [t45]) (by simp [t45])
      have B42 := B32.kept F34 E34.ex (by simp [t45]) (by simp [t45])
      have rm4 : ∀ k m, S.2.2.2.1[k]? = some m → MS G own4 h4 D k (xs3.getD k 0) m := fun k m hk => (rm3 k m hk).kept F34 E34.ex nb4 (by simp [t45])
      have hNm4 := hNm.kept F34 E34.ex nb4 (by simp [t45])
      refine ⟨C4.1.1, pl, C4.2.2.2.2.2, B42.hs, 1, 400, _, c_LJ_add B42 (by simp; omega) (obj_msg hNm4.1) (fun z => ?_) (fun y hy => ?_), by omega, ?_⟩
      · have := B42.hs
        rw [← z, hNm4.1] at this
        cases this
      · obtain ⟨k, hk, rfl⟩ := List.mem_map.mp hy
        obtain ⟨m, hm, -⟩ := pend_mem.mp hk
        exact obj_msg (rm4 k m hm).1
      rintro _ h5 ⟨⟨own5, B52, F45, E45⟩, kf5⟩
      have nb5 : NB own4 (t45 10) := ⟨by simp [t45], fun a _ => by simp [t45]⟩
      have C5 := C4.kept F45 E45.ex (by simp [t45]) (by simp [t45]) (by simp [t45]) (by simp [t45])
      have V5 : ∀ k, k < 4 → DV G own5 h5 D k (S.1 k) := fun k hk => (V4 k hk).kept F45 E45.ex nb5 (by simp [t45] <;> omega) (by simp [t45] <;> omega) ⟨by simp [t45] <;> omega, by simp [t45] <;> omega⟩ ⟨by simp [t45] <;> omega, by simp [t45] <;> omega, by simp [t45] <;> omega⟩ ⟨by simp [t45] <;> omega, by simp [t45] <;> omega, by simp [t45] <;> omega⟩ (by simp [t45] <;> omega) (by simp [t45] <;> omega)
      have U5 := U4.kept F45 E45 (by simp [t45]) (by simp [t45]) (by simp [t45]) (by simp [t45]) (by simp [t45])
      have B51 := B41.kept F45 E45.ex (by simp [t45]) (by simp [t45])
      have M5 : MG G own5 h5 D ml pl (S.2.2.2.1 ++ [rMsg S p.2.2]) := by
        refine ⟨xs3 ++ [q], B51, ?_, by simp [ex3], fun k m hk => ?_⟩
        · rw [pend_snoc]
          rw [if_pos (show mFate (rMsg S p.2.2) = 0 from rfl), List.map_append]
          have h1' : (pend S.2.2.2.1).map (fun k => (xs3 ++ [q]).getD k 0) = (pend S.2.2.2.1).map (fun k => xs3.getD k 0) := by
            apply List.map_congr_left
            intro k hk
            obtain ⟨m, hm, -⟩ := pend_mem.mp hk
            refine getD_snoc ?_
            rcases Nat.lt_or_ge k S.2.2.2.1.length with z | z
            · omega
            · rw [List.getElem?_eq_none z] at hm; cases hm
          rw [h1', List.map_cons, List.map_nil, ← ex3, getD_app_r]
          exact B52
        · rcases Nat.lt_or_ge k S.2.2.2.1.length with z | z
          · rw [List.getElem?_append_left z] at hk
            rw [getD_snoc (by omega)]
            exact (rm4 k m hk).kept F45 E45.ex nb5 (by simp [t45])
          · have hke : k = S.2.2.2.1.length := by
              rcases Nat.lt_or_ge S.2.2.2.1.length k with y | y
              · rw [List.getElem?_eq_none (by simp; omega)] at hk; cases hk
              · omega
            subst hke
            rw [List.getElem?_append_right (Nat.le_refl _), Nat.sub_self] at hk
            cases hk
            rw [← ex3, getD_app_r, ex3]
            exact hNm4.kept F45 E45.ex nb5 (by simp [t45])
      refine ⟨C5.1.1, ml, C5.2.2.2.2.1, B51.hs, _, c_LJ_size B51, by omega, ?_⟩
      rintro _ _ ⟨rfl, rfl⟩
      refine ⟨by omega, ?_, own5, CS.join C5 U5 M5 V5, ?_, ?_⟩
      · rw [List.length_append, List.length_singleton, ex3, show (1 : Int32) = nI 1 from rfl, pk_sub (by omega)]
        rfl
      · have Fa : FT own h h3 T0 := (F1.mono (t45_mono (by simp [T0]) (by simp [T0]))).trans (F13.mono (fun _ z => z.elim)) Ey.rfl
        have Ea : Eo own own1 h := fun y hy n => E13 y (by rw [F1.1 y hy]; exact hy) n
        have Fb : FT own h h4 T0 := Fa.transx (F34.mono (t45_mono (by simp [T0]) (by simp [T0]))) Ea (by simp [T0])
        exact Fb.transx (F45.mono (t45_mono (by simp [T0]) (by simp [T0]))) (Ea.trans E34.ex Fa.1) (by simp [T0])
      · have Ea : Eo own own1 h := fun y hy n => E13 y (by rw [F1.1 y hy]; exact hy) n
        have al3 : ∀ y, hS h y ≠ none → hS h3 y = hS h y := fun y hy => by rw [F13.1 y (by rw [F1.1 y hy]; exact hy), F1.1 y hy]
        have al4 : ∀ y, hS h y ≠ none → hS h4 y = hS h y := fun y hy => by rw [F34.1 y (by rw [al3 y hy]; exact hy), al3 y hy]
        exact (Ea.trans E34.ex al3).trans E45.ex al4
    · refine ⟨fun z => absurd rfl z, fun _ => ⟨by omega, ?_⟩⟩
      have hlg : ¬ lgB p.2.2.2 = true := fun z => L (lgB_iff.mp z)
      rw [if_neg hlg]
      exact ⟨rfl, own, CS.join C2 U2 M2 V2, F1.mono (t45_mono (by simp [T0]) (by simp [T0])), Ey.rfl.ex⟩
end RC
