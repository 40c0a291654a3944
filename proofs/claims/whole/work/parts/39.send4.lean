/-! send -/
section SW
variable {G : Gx} {l : Launch} {d w : Nat} {own own' : Nat → Tg} {h h' : Hp} {D : Nat → Nat} {x : Nat} {S : SS}
theorem c_SC_send {y v : Int32} {to : Int64} {rep : Bool} (C : CS G own h D x S) (hw : WF S) : Ci G l M_SC_send (d + 9) (w + 214) [.ref x, .int y, .long to, .int v, .int (if rep then 1 else 0)] h 9 1671 (fun r h' => r = (sSend S y to v rep).2 ∧ CQ G D x own h (sSend S y to v rep).1 h') := by
  refine ok_SC_send ?_
  unfold wp_SC_send wJ_SC_send_42 sSend
  rcases int_dev y with ⟨k, hk, rfl⟩ | hy
  · rw [devOf_nI hk]
    refine ⟨C.hs, _, c_dvY C hk, by omega, ?_⟩
    rintro _ _ ⟨rfl, rfl⟩
    refine ⟨fun z => (by cases z), fun q hq => ?_⟩
    cases hq
    dsimp only
    have bad : (¬ (1 ≤ to ∧ to ≤ 999999999999) ∨ v < 0 ∨ 143 < v ∨ dNum (S.1 k) = 0) → ((0 ≤ 9 ∧ 0 ≤ 1671) ∧ (-1 = (if ¬ (1 ≤ to ∧ to ≤ 999999999999) ∨ v < 0 ∨ 143 < v ∨ dNum (S.1 k) = 0 then (S, (-1 : Int32)) else if none ∈ S.2.2.1.map fm then (S, -4) else if 3 < pcN (S.2.2.1.filterMap fm) then (S, -5) else if 8 < S.2.1.length + pcN (S.2.2.1.filterMap fm) then (S, -3) else (sndS S k (lNat to) v.toNatClampNeg rep (S.2.2.1.filterMap fm), nI (pcN (S.2.2.1.filterMap fm)))).2 ∧ CQ G D x own h (if ¬ (1 ≤ to ∧ to ≤ 999999999999) ∨ v < 0 ∨ 143 < v ∨ dNum (S.1 k) = 0 then (S, (-1 : Int32)) else if none ∈ S.2.2.1.map fm then (S, -4) else if 3 < pcN (S.2.2.1.filterMap fm) then (S, -5) else if 8 < S.2.1.length + pcN (S.2.2.1.filterMap fm) then (S, -3) else (sndS S k (lNat to) v.toNatClampNeg rep (S.2.2.1.filterMap fm), nI (pcN (S.2.2.1.filterMap fm)))).1 h)) := by
      intro z
      rw [if_pos z]
      exact ⟨by omega, rfl, CQ.same C⟩
    refine ⟨_, c_isNum, by omega, ?_⟩
    rintro _ _ ⟨rfl, ⟨rfl, hn⟩ | ⟨rfl, hn⟩⟩
    · refine ⟨fun z => absurd z (by decide), fun _ => ⟨fun z => bad (Or.inr (Or.inl z)), fun z1 => ⟨fun z => bad (Or.inr (Or.inr (Or.inl z))), fun z2 => ?_⟩⟩⟩
      have V := C.dvv hk
      have W := hw.1 k hk
      obtain ⟨w1, w2, w3, w4, w5, w6, w7, w8, w9, w10, w11⟩ := W
      refine ⟨V.1, ?_⟩
      rw [V.2.2.1, cmp_eq, show (0 : Int64) = lN 0 from rfl, pk_lEQ (by omega) (by decide)]
      refine ⟨fun z3 => ?_, fun z => bad (Or.inr (Or.inr (Or.inr z)))⟩
      have nbad : ¬ (¬ (1 ≤ to ∧ to ≤ 999999999999) ∨ v < 0 ∨ 143 < v ∨ dNum (S.1 k) = 0) := by
        rintro (z | z | z | z)
        · exact z hn
        · exact z1 z
        · exact z2 z
        · exact z3 z
      rw [if_neg nbad]
      obtain ⟨t, rfl, t1, t2⟩ := num_of hn
      obtain ⟨vn, hvn, rfl⟩ := i_nat z1
      have hv143 : vn ≤ 143 := by
        rcases Nat.lt_or_ge 143 vn with z | z
        · exact absurd ((Llt (by omega) (by decide)).mpr z) z2
        · exact z
      rw [lNat_lN (by omega), nI_clamp (by omega)]
      obtain ⟨u, ml, pl, C1, U, -, -⟩ := C.split
      obtain ⟨⟨c1, -, -⟩, -, c8, ⟨da, db, c10, c11, -, -⟩, -, -⟩ := C1
      refine ⟨c1, da, c10, c11.1, _, c_Dr_hasAlien c11 (fun o ho f hf => ?_), by omega, ?_⟩
      · obtain ⟨c, -, hc⟩ := List.mem_map.mp ho
        rw [hf] at hc
        exact fm_lt hc
      rintro _ _ ⟨rfl, rfl⟩
      by_cases za : none ∈ S.2.2.1.map fm
      · rw [if_pos za, if_pos za]
        exact ⟨fun z => absurd z (by decide), fun _ => ⟨by omega, rfl, CQ.same C⟩⟩
      · rw [if_neg za, if_neg za]
        have hg := fm_gs za
        generalize S.2.2.1.filterMap fm = gs at hg
        refine ⟨fun _ => ?_, fun z => absurd rfl z⟩
        have c11' := c11
        rw [hg] at c11'
        have hgl := c11'.len.2
        have hpl := pcL_le 1 0 gs
        have hpc : pcN gs ≤ 1 + gs.length := by
          unfold pcN
          split
          · omega
          · exact hpl
        refine ⟨c1, da, c10, c11.1, _, c_Dr_partCount c11' (gs_lt hg), by omega, ?_⟩
        rintro _ _ ⟨rfl, rfl⟩
        rw [leL (by omega) (by decide)]
        refine ⟨fun z4 => ?_, fun z4 => ⟨by omega, by rw [if_pos (show 3 < pcN gs by omega)]; exact ⟨rfl, CQ.same C⟩⟩⟩
        rw [if_neg (show ¬ 3 < pcN gs by omega)]
        obtain ⟨ps, A, e, nd, r⟩ := U
        have hul := hw.2.1
        refine ⟨c1, u, c8, A.1, _, c_LA_room A, by omega, ?_⟩
        rintro _ _ ⟨rfl, rfl⟩
        have hpsl : (ps.map (fun p => p.1)).length = S.2.1.length := by rw [e]; simp
        rw [hpsl, nI_leI (by omega) (by omega)]
        refine ⟨fun z5 => ?_, fun z5 => ⟨by omega, by rw [if_pos (show 8 < S.2.1.length + pcN gs by omega)]; exact ⟨rfl, CQ.same C⟩⟩⟩
        rw [if_neg (show ¬ 8 < S.2.1.length + pcN gs by omega)]
        have fin : ∀ sx0 sx1 : Int32, sx1 + sx0 = nI (kndS rep (pcN gs)) → wJ_SC_send_116 G l d w 9 1671 (fun r h' => r = (sndS S k t vn rep gs, nI (pcN gs)).2 ∧ CQ G D x own h (sndS S k t vn rep gs, nI (pcN gs)).1 h') x (nI k) (lN t) (nI vn) (if rep then 1 else 0) (D k) (nI (pcN gs)) sx0 sx1 h 0 0 := by
          intro sx0 sx1 hsx
          unfold wJ_SC_send_116
          rw [hsx]
          rintro _ rfl
          refine ⟨c1, 9, 1671, _, c_SC_sendUp (rep := rep) C w7 w6 hk t1 t2 (by omega) hg z4 (by omega), by omega, ?_⟩
          intro h2 q2
          exact ⟨by omega, rfl, q2⟩
        have hN1 := pcN_pos gs
        have fin2 : ∀ sx0 : Int32, sx0 = (if rep then 32 else 0) → wJ_SC_send_103 G l d w 9 1671 (fun r h' => r = (sndS S k t vn rep gs, nI (pcN gs)).2 ∧ CQ G D x own h (sndS S k t vn rep gs, nI (pcN gs)).1 h') x (nI k) (lN t) (nI vn) (if rep then 1 else 0) (D k) (nI (pcN gs)) sx0 17 h 0 0 := by
          rintro _ rfl
          unfold wJ_SC_send_103
          rw [leL (by omega) (by decide)]
          refine ⟨fun z6 => fin _ _ ?_, fun z6 => fin _ _ ?_⟩
          · unfold kndS
            rw [if_pos (show pcN gs = 1 by omega)]
            cases rep <;> rfl
          · unfold kndS
            rw [if_neg (show ¬ pcN gs = 1 by omega)]
            cases rep <;> rfl
        cases rep with
        | true => exact ⟨fun z => absurd z (by decide), fun _ => fin2 32 rfl⟩
        | false => exact ⟨fun _ => fin2 0 rfl, fun z => absurd rfl z⟩
    · exact ⟨fun _ => bad (Or.inl hn), fun z => absurd rfl z⟩
  · rw [devOf_no hy]
    refine ⟨C.hs, _, c_dvN hy, by omega, ?_⟩
    rintro _ _ ⟨rfl, rfl⟩
    exact ⟨fun _ => ⟨by omega, rfl, CQ.same C⟩, fun q hq => by cases hq⟩
end SW
