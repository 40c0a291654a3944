/-! rows that come to a line; reports -/
section RP
variable {G : Gx} {l : Launch} {d w : Nat} {own own' : Nat → Tg} {h h' : Hp} {D : Nat → Nat}
/-- the owners when a row is new -/
def owR (own : Nat → Tg) (ra rb : Nat) : Nat → Tg := ow (ow own ra (11, 0)) rb (12, ra)
theorem NewR.ey {ra rb : Nat} {bs : List Nat} (N : NewR h h' ra rb bs) : Ey own (owR own ra rb) h := by
  intro x hx
  unfold owR
  rw [ow_ne (fun z => hx (by rw [z]; exact N.2.1)), ow_ne (fun z => hx (by rw [z]; exact N.1))]
theorem NewR.rz {ra rb : Nat} {bs : List Nat} (N : NewR h h' ra rb bs) : Rz (owR own ra rb) h' (ra, rb, bs) := by
  refine ⟨N.2.2.2.1, ?_, ?_⟩
  · show owR own ra rb ra = _
    unfold owR
    rw [ow_ne N.2.2.1, ow_eq]
  · show owR own ra rb rb = _
    unfold owR
    rw [ow_eq]
theorem NewR.ft {ra rb : Nat} {bs : List Nat} {T : Tg → Prop} (N : NewR h h' ra rb bs) : FT own h h' T := Fr.mono N.2.2.2.2.2 (fun x z => z.elim)
theorem LN.la {n a most : Nat} {rs : List (List Nat)} (L : LN G own h n a most rs) : hS h a = some (11, 0) := by
  obtain ⟨ps, A, e, r⟩ := L
  exact A.1
theorem LN.len {n a most : Nat} {rs : List (List Nat)} (L : LN G own h n a most rs) : rs.length ≤ most := by
  obtain ⟨ps, A, e, r⟩ := L
  have := A.2.2.2.2.2.1
  rw [e]
  simpa using this
theorem c_LN_append {n a most : Nat} {rs : List (List Nat)} {p : Nat × Nat × List Nat} (L : LN G own h n a most rs) (hl : rs.length < most) (R : Rz own h p) : Cv G l M_Li_append (d + 7) (w + 162) [.ref a, .ref p.1] h 1 400 (fun h' => (∃ own', LN G own' h' n a most (rs ++ [p.2.2]) ∧ FT own h h' (t45 n) ∧ Ey own own' h) ∧ KF G h') := by
  obtain ⟨ps, A, e, r⟩ := L
  refine (c_LA_append A (by rw [e] at hl; simpa using hl) R.1.1).mono ?_
  rintro h' ⟨⟨own', A', F, E⟩, kf⟩
  have nb : NB own (t45 n) := ⟨by simp [t45], fun a _ => by simp [t45]⟩
  refine ⟨⟨own', ⟨ps ++ [p], by simpa using A', by rw [e]; simp, fun q hq => ?_⟩, F, E⟩, kf⟩
  rw [List.mem_append] at hq
  rcases hq with hq | hq
  · exact (r q hq).kept F E.ex nb
  · rw [List.mem_singleton] at hq
    rw [hq]
    exact R.kept F E.ex nb
theorem c_LN_room {n a most : Nat} {rs : List (List Nat)} (L : LN G own h n a most rs) : Ci G l M_Li_room (d + 1) (w + 20) [.ref a] h 0 0 (Xi (nI (most - rs.length)) h) := by
  obtain ⟨ps, A, e, r⟩ := L
  have := c_LA_room (l := l) (d := d) (w := w) A
  rw [List.length_map] at this
  rw [e, List.length_map]
  exact this
theorem c_LN_size {n a most : Nat} {rs : List (List Nat)} (L : LN G own h n a most rs) : Ci G l M_Li_size (d + 1) (w + 20) [.ref a] h 0 0 (Xi (nI rs.length) h) := by
  obtain ⟨ps, A, e, r⟩ := L
  have := c_LA_size (l := l) (d := d) (w := w) A
  rw [List.length_map] at this
  rw [e, List.length_map]
  exact this
def setRep (v : SDv) (rep : List (List Nat)) : SDv := (v.1, v.2.1, v.2.2.1, rep, v.2.2.2.2)
def setInb (v : SDv) (inb : List (List Nat)) : SDv := (v.1, v.2.1, inb, v.2.2.2)
theorem DV.rep {dd r : Nat} {v : SDv} {rep : List (List Nat)} (V : DV G own h D dd v) (F : FT own h h' (t45 (5 + dd))) (E : Eo own own' h) (hr : hR h (D dd) 3 = some r) (L : LN G own' h' (5 + dd) r 6 rep) : DV G own' h' D dd (setRep v rep) := by
  obtain ⟨v1, v2, v3, v4, v5, v6, v7, v8, ⟨i, v9, v10⟩, ⟨r', v11, v12⟩, ⟨p, v13, v14⟩, t, v15, v16, v17, v18⟩ := V
  have s1 := F.kp v1 v2 (by simp [t45])
  have s2 := F.kp v16 v17 (by simp [t45])
  have nb : NB own (t45 (5 + dd)) := ⟨by simp [t45], fun a _ => by simp [t45]⟩
  exact ⟨by rw [s1.1]; exact v1, E.at v1 v2 (by simp), by rw [s1.2.2.1]; exact v3, by rw [s1.2.1]; exact v4, by rw [s1.2.1]; exact v5, by rw [s1.2.1]; exact v6, by rw [s1.2.1]; exact v7, by rw [s1.2.2.1]; exact v8, ⟨i, by rw [s1.2.2.2]; exact v9, v10.kept F E nb (by simp [t45]) (by simp [t45]) (by simp [t45])⟩, ⟨r, by rw [s1.2.2.2]; exact hr, L⟩, ⟨p, by rw [s1.2.2.2]; exact v13, v14.kept F E nb (by simp [t45]) (by simp [t45]) (by simp [t45]) (by simp [t45])⟩, t, by rw [s1.2.2.2]; exact v15, by rw [s2.1]; exact v16, E.at v16 v17 (by simp), fun j hj => by rw [s2.2.1]; exact v18 j hj⟩
theorem DV.inb {dd r : Nat} {v : SDv} {inb : List (List Nat)} (V : DV G own h D dd v) (F : FT own h h' (t45 (1 + dd))) (E : Eo own own' h) (hr : hR h (D dd) 2 = some r) (L : LN G own' h' (1 + dd) r 6 inb) : DV G own' h' D dd (setInb v inb) := by
  obtain ⟨v1, v2, v3, v4, v5, v6, v7, v8, ⟨i, v9, v10⟩, ⟨r', v11, v12⟩, ⟨p, v13, v14⟩, t, v15, v16, v17, v18⟩ := V
  have s1 := F.kp v1 v2 (by simp [t45])
  have s2 := F.kp v16 v17 (by simp [t45])
  have nb : NB own (t45 (1 + dd)) := ⟨by simp [t45], fun a _ => by simp [t45]⟩
  exact ⟨by rw [s1.1]; exact v1, E.at v1 v2 (by simp), by rw [s1.2.2.1]; exact v3, by rw [s1.2.1]; exact v4, by rw [s1.2.1]; exact v5, by rw [s1.2.1]; exact v6, by rw [s1.2.1]; exact v7, by rw [s1.2.2.1]; exact v8, ⟨r, by rw [s1.2.2.2]; exact hr, L⟩, ⟨r', by rw [s1.2.2.2]; exact v11, v12.kept F E nb (by simp [t45]) (by simp [t45]) (by simp [t45])⟩, ⟨p, by rw [s1.2.2.2]; exact v13, v14.kept F E nb (by simp [t45]) (by simp [t45]) (by simp [t45]) (by simp [t45])⟩, t, by rw [s1.2.2.2]; exact v15, by rw [s2.1]; exact v16, E.at v16 v17 (by simp), fun j hj => by rw [s2.2.1]; exact v18 j hj⟩
def fCode (t : Nat) : Nat := if t = 2 then 70 else if t = 3 then 73 else 0
/-- the reports when a message is settled -/
def repN (m : SMs) (at_ : Nat) (rep : List (List Nat)) : List (List Nat) := if wnt (mSub m) = true ∧ rep.length < 6 then rep ++ [rptR (mSub m) (mAcc m) at_ (fCode (mFate m))] else rep
theorem t45_mono {n : Nat} {T : Tg → Prop} (h4 : T (4, n)) (h5 : T (5, n)) : ∀ t, t45 n t → T t := by
  rintro t (z | z)
  · rw [z]; exact h4
  · rw [z]; exact h5
theorem c_Me_fileReport {k a t : Nat} {m : SMs} {v : SDv} (M : MS G own h D k a m) (V : DV G own h D (mOrg m) v) (hs : 2 < (mSub m).length) (t1 : 1 ≤ sTo (mSub m)) (t2 : sTo (mSub m) < 1000000000000) (ha : mAcc m < 2147483648) (ht : t < 2147483648) : Cv G l M_Me_fileReport (d + 8) (w + 183) [.ref a, .int (nI t)] h 3 428 (fun h' => (∃ own', DV G own' h' D (mOrg m) (setRep v (repN m t (dRep v))) ∧ FT own h h' (t45 (5 + mOrg m)) ∧ Ey own own' h) ∧ KF G h') := by
  refine Cv.kf (fun kf => ?_)
  have V0 := V
  have M0 := M
  obtain ⟨m1, m2, ⟨sa, sb, m3, ⟨R, -, -⟩⟩, m5, m6, m7, m8, m9, m10, m11, m12, m13, m14⟩ := M
  obtain ⟨v1, v2, v3, v4, v5, v6, v7, v8, ⟨i, v9, v10⟩, ⟨r, v11, L⟩, ⟨p, v13, v14⟩, tx, v15, v16, v17, v18⟩ := V
  dsimp only at R
  have hb := R.2.2.2.1
  refine ok_Me_fileReport ?_
  unfold wp_Me_fileReport
  rw [show (0 : Int32) = nI 0 from rfl]
  refine ⟨m1, sa, m3, R.1, _, c_Ro_at' R (by omega), by omega, ?_⟩
  rintro _ _ ⟨rfl, rfl⟩
  have same : ¬ (wnt (mSub m) = true ∧ (dRep v).length < 6) → wJ_Me_fileReport_27 G l d w 3 428 (fun h' => ∃ own', DV G own' h' D (mOrg m) (setRep v (repN m t (dRep v))) ∧ FT own h h' (t45 (5 + mOrg m)) ∧ Ey own own' h) a (nI t) h 0 0 := by
    intro n
    refine ⟨by omega, own, ?_, FT.rfl, Ey.rfl⟩
    unfold repN
    rw [if_neg n]
    exact V0
  rw [show nI 0 = (0 : Int32) from rfl, wnt_and (bt_lt R 0)]
  refine ⟨fun c => same (fun z => ?_), fun c => ⟨m1, D (mOrg m), m6, v1, r, v11, L.la, _, c_LN_room L, by omega, ?_⟩⟩
  · have := of_decide_eq_true z.1
    omega
  rintro _ _ ⟨rfl, rfl⟩
  have hrl := L.len
  rw [show (0 : Int32) = nI 0 from rfl, nI_eq (by omega) (by decide)]
  refine ⟨fun c2 => ⟨by omega, fun q F => ?_⟩, fun c2 => same (fun z => by have := z.2; omega)⟩
  have hw : wnt (mSub m) = true ∧ (dRep v).length < 6 := ⟨decide_eq_true (by omega), by omega⟩
  have Sm : ∀ x kd, hS h x = some kd → Same h (pN h q (15, 0)) x := fun x kd hx => same_pN (F.ne hx)
  rw [m10]
  refine ⟨F.old m1, _, c_Ro_reportSize t1 t2, by omega, ?_⟩
  rintro _ _ ⟨rfl, rfl⟩
  have hal := adr_len (sTo (mSub m))
  have hnd := (nd_ok t1 t2).2.1
  generalize hto : sTo (mSub m) = to at *
  refine ⟨1, 17 + (adr to).length, _, c_Ro_init (o := none) Fre.new (by show hI h q 1 = 0; exact F.2.1 1) (by omega), by omega, ?_⟩
  rintro h1 ⟨b, Fb, e1, B⟩
  have nqb : q ≠ b := fun z => by have := Fb.1; rw [← z, Fre.new] at this; cases this
  have Sm1 : ∀ x kd, hS h x = some kd → Same h h1 x := fun x kd hx => by
    have nq := F.ne hx
    have nb := Fb.ne (F.old (kd := (15, 0)) hx)
    rw [e1]
    exact (((Sm x kd hx).trans (same_pN nb)).trans (same_pR nq)).trans (same_pR nq)
  have R2 : Rw h1 sa sb (mSub m) := R.same (Sm1 _ _ R.1) (Sm1 _ _ R.2.2.1)
  have na := F.ne m1
  have nab := Fb.ne (F.old (kd := (15, 0)) m1)
  have nsb := F.ne R.2.2.1
  have nsbb := Fb.ne (F.old (kd := (15, 0)) R.2.2.1)
  have fb : hS h b = none := by
    have := Fb.1
    rw [show hS (pN h q (15, 0)) b = hS h b from (same_pN (fun z => nqb z.symm)).1] at this
    exact this
  have sm := Sm1 a _ m1
  have m1' : hS h1 a = some (16, 0) := by rw [sm.1]; exact m1
  refine ⟨B.1.1, _, c_RB_put2 (v := 2) (m := 16 + (adr to).length) (by omega) B.fst (by decide), ⟨by omega, by omega⟩, ?_⟩
  rintro h2 ⟨B2, W2⟩
  have R3 : Rw h2 sa sb (mSub m) := R2.wr W2 nsb nsbb
  rw [show (1 : Int32) = nI 1 from rfl]
  refine ⟨by rw [W2.1]; exact m1', sa, by rw [W2.2.2.1, sm.2.2.2]; exact m3, R3.1, _, c_Ro_at' R3 (by omega), ⟨by omega, by omega⟩, ?_⟩
  rintro _ _ ⟨rfl, rfl⟩
  refine ⟨B2.1.1, _, c_RB_put2 (m := 15 + (adr to).length) (by omega) B2 (bt_lt R 1), ⟨by omega, by omega⟩, ?_⟩
  rintro h3 ⟨B3, W3⟩
  have W := W2.trans W3
  refine ⟨by rw [W.1]; exact m1', B3.1.1, ?_⟩
  rw [W.2.1, sm.2.2.1, m10]
  refine ⟨_, c_RB_putAddress (m := 15) t1 t2 B3, ⟨by omega, by omega⟩, ?_⟩
  rintro h4 ⟨B4, W4⟩
  have W' := W.trans W4
  refine ⟨by rw [W'.1]; exact m1', B4.1.1, ?_⟩
  rw [W'.2.2.2 a na nab, sm.2.1, m8]
  refine ⟨_, c_RB_putTime (m := 8) ha B4, ⟨by omega, by omega⟩, ?_⟩
  rintro h5 ⟨B5, W5⟩
  refine ⟨B5.1.1, _, c_RB_putTime (m := 1) ht B5, ⟨by omega, by omega⟩, ?_⟩
  rintro h6 ⟨B6, W6⟩
  have W6' := (W'.trans W5).trans W6
  refine ⟨by rw [W6'.1]; exact m1', 4 + mFate m, ⟨by rw [W6'.2.2.1, sm.2.2.2]; exact m13, by omega, by omega⟩, B6.1.1, ?_⟩
  have fc : fateR (4 + mFate m) = nI (fCode (mFate m)) := by
    rcases (show mFate m = 0 ∨ mFate m = 1 ∨ mFate m = 2 ∨ mFate m = 3 by omega) with z | z | z | z <;> rw [z] <;> rfl
  rw [fc]
  refine ⟨_, c_RB_put2 (m := 0) (by omega) B6 (by unfold fCode; split <;> (try split) <;> omega), ⟨by omega, by omega⟩, ?_⟩
  rintro h7 ⟨B7, W7⟩
  have W7' := W6'.trans W7
  have N : NewR h h7 q b (rptR (mSub m) (mAcc m) t (fCode (mFate m))) := by
    refine ⟨F.1, fb, nqb, ?_, ?_, ?_⟩
    · have := B7.1
      rw [show zs 0 = ([] : List Nat) from rfl, List.append_nil] at this
      unfold rptR
      rw [hto]
      exact this
    · rw [W7'.2.2.1, e1]
      exact hR_pR_eq
    · refine ⟨fun x hx => ?_, fun x hx _ => ?_⟩
      · obtain ⟨kd, hkd⟩ := Option.ne_none_iff_exists'.mp hx
        rw [W7'.1]
        exact (Sm1 x kd hkd).1
      · obtain ⟨kd, hkd⟩ := Option.ne_none_iff_exists'.mp hx
        have nx1 := F.ne hkd
        have nx2 := Fb.ne (F.old (kd := (15, 0)) hkd)
        exact (Sm1 x kd hkd).trans ⟨by rw [W7'.1], W7'.2.2.2 x nx1 nx2, by rw [W7'.2.1], by rw [W7'.2.2.1]⟩
  have E1 : Ey own (owR own q b) h := N.ey
  have F1 : FT own h h7 (t45 (5 + mOrg m)) := N.ft
  have F0 : FT own h h7 (fun _ => False) := N.ft
  have V7 : DV G (owR own q b) h7 D (mOrg m) v := V0.kept F0 E1.ex ⟨id, fun _ _ => id⟩ id id ⟨id, id⟩ ⟨id, id, id⟩ ⟨id, id, id⟩ id (fun _ => id)
  have L7 : LN G (owR own q b) h7 (5 + mOrg m) r 6 (dRep v) := L.kept F0 E1.ex ⟨id, fun _ _ => id⟩ id id id
  have s7 := F0.kp v1 v2 id
  refine ⟨by rw [W7'.1]; exact m1', D (mOrg m), by rw [W7'.2.2.1, sm.2.2.2]; exact m6, V7.1, r, by rw [s7.2.2.2]; exact v11, L7.la, 1, 400, _, c_LN_append L7 hw.2 N.rz, ⟨by omega, by omega⟩, ?_⟩
  rintro h8 ⟨⟨own8, L8, F8, E8⟩, kf8⟩
  refine ⟨⟨by omega, by omega⟩, own8, ?_, F1.trans F8 E1, E1.trans E8 F1.1⟩
  unfold repN
  rw [if_pos hw]
  exact V7.rep F8 E8.ex (by rw [s7.2.2.2]; exact v11) L8
end RP
