/-! a message's own methods -/
def dlvR (sub : List Nat) (frm acc : Nat) : List Nat := [4 + (if hdr sub then 64 else 0)] ++ adr frm ++ [0] ++ [0] ++ dgs acc 14 ++ sub.drop (sda sub)
def wnt (sub : List Nat) : Bool := decide (bt sub 0 / 32 % 2 = 1)
def rptR (sub : List Nat) (acc at_ code : Nat) : List Nat := [2] ++ [bt sub 1] ++ adr (sTo sub) ++ dgs acc 14 ++ dgs at_ 14 ++ [code]
theorem wnt_and {x : Nat} (hx : x < 256) : (nI x &&& 32 = 0) ↔ x / 32 % 2 = 0 := by
  have : ∀ x : Fin 256, (nI x.val &&& 32 = 0) ↔ x.val / 32 % 2 = 0 := by decide +kernel
  exact this ⟨x, hx⟩
theorem Rw.wr {h h' : Hp} {a b a2 b2 : Nat} {bs : List Nat} (R : Rw h a2 b2 bs) (W : Wr h h' a b) (n1 : b2 ≠ a) (n2 : b2 ≠ b) : Rw h' a2 b2 bs := R.kept (by rw [W.1]) (by rw [W.2.2.1]) (by rw [W.1]) (W.2.2.2 _ n1 n2)
section ME
variable {G : Gx} {l : Launch} {d w : Nat} {own : Nat → Tg} {h : Hp} {D : Nat → Nat}
theorem c_Me_moment {k a : Nat} {m : SMs} (M : MS G own h D k a m) (h1 : mNxt m < 2147483648) (h2 : sOld (mSub m) (mAcc m) < 2147483648) : Ci G l M_Me_moment (d + 1) (w + 21) [.ref a] h 0 0 (Xi (nI (min (mNxt m) (sOld (mSub m) (mAcc m)))) h) := by
  obtain ⟨m1, m2, m3, m5, m6, m7, m8, m9, m10, m11, m12, m13, m14⟩ := M
  refine ok_Me_moment ⟨m1, ?_, rfl⟩
  rw [m11, m9]
  by_cases c : sOld (mSub m) (mAcc m) < mNxt m
  · rw [if_pos ((nI_ltI h2 h1).mpr c)]
    congr 1
    omega
  · rw [if_neg (fun z => c ((nI_ltI h2 h1).mp z))]
    congr 1
    omega
theorem c_Me_init {a ra rb dv acc : Nat} {bs : List Nat} (hs : hS h a = some (16, 0)) (R : Rw h ra rb bs) (hv : hS h dv = some (14, 0)) (h12 : bt bs 2 ≤ 12) (hl : sda bs ≤ bs.length) : Cv G l M_Me_init (d + 4) (w + 90) [.ref a, .ref ra, .ref dv, .int (nI acc)] h 0 0 (fun h' => (hR h' a 0 = some ra ∧ hR h' a 1 = some dv ∧ hL h' a 2 = hL h dv 0 ∧ hI h' a 3 = nI acc ∧ hI h' a 4 = nI acc ∧ hL h' a 5 = lN (sTo bs) ∧ hI h' a 6 = nI (sOld bs acc) ∧ hI h' a 7 = hI h a 7 ∧ hR h' a 8 = some (gK G 4)) ∧ Fr h h' (fun x => x = a)) := by
  have hb := R.2.2.2.1
  have n1 : ra ≠ a := fun z => by have := R.1; rw [z, hs] at this; cases this
  have n2 : rb ≠ a := fun z => by have := R.2.2.1; rw [z, hs] at this; cases this
  have nv : dv ≠ a := fun z => by rw [z, hs] at hv; cases hv
  have hsd : sda bs = 7 + (bt bs 2 + 1) / 2 := rfl
  refine ok_Me_init ?_
  unfold wp_Me_init
  have R1 : Rw (pI (pI (pL (pR (pR (pR h a 8 (some (gK G 4))) a 0 (some ra)) a 1 (some dv)) a 2 (hL h dv 0)) a 3 (nI acc)) a 4 (nI acc)) ra rb bs := by
    refine R.kept rfl ?_ rfl ?_
    · simp [hR, pI, pL, pR, up2, n1]
    · funext j
      simp [hI, pI, pL, pR, up2, n2]
  refine ⟨hs, hv, R.1, _, c_Ro_numberAt (s := 2) (n := bt bs 2) R1 rfl h12 (by omega), ?_⟩
  rintro _ _ ⟨rfl, rfl⟩
  have R2 : Rw (pL (pI (pI (pL (pR (pR (pR h a 8 (some (gK G 4))) a 0 (some ra)) a 1 (some dv)) a 2 (hL h dv 0)) a 3 (nI acc)) a 4 (nI acc)) a 5 (lN (numN bs 4 (bt bs 2)))) ra rb bs := R1.kept rfl rfl rfl rfl
  refine ⟨hs, R.1, _, c_Ro_submitDataAt R2 (by omega), ?_⟩
  rintro _ _ ⟨rfl, rfl⟩
  rw [show (1 : Int32) = nI 1 from rfl, pk_sub (by omega)]
  refine ⟨R.1, _, c_Ro_at' R2 (by omega), ?_⟩
  rintro _ _ ⟨rfl, rfl⟩
  refine ⟨hs, ⟨?_, ?_, ?_, ?_, ?_, ?_, ?_, ?_, ?_⟩, ?_⟩
  · simp [hR, pI, pL, pR, up2]
  · simp [hR, pI, pL, pR, up2]
  · simp [hL, pI, pL, pR, up2]
  · simp [hI, pI, pL, pR, up2]
  · simp [hI, pI, pL, pR, up2]
  · simp [hL, pI, pL, pR, up2, sTo]
  · rw [hI_pI_eq, show (5 : Int32) = nI 5 from rfl, nI_add, pk_mul, nI_add]
    rfl
  · simp [hI, pI, pL, pR, up2]
  · simp [hR, pI, pL, pR, up2]
  · exact (((((((fr_pR.trans fr_pR (fun x _ z => z)).trans fr_pR (fun x _ z => z)).trans fr_pL (fun x _ z => z)).trans fr_pI (fun x _ z => z)).trans fr_pI (fun x _ z => z)).trans fr_pL (fun x _ z => z)).trans fr_pI (fun x _ z => z))
/-- where a message is put off to -/
def offN (off at_ : Nat) : Nat := if off = 1 then at_ + 1 else if off = 2 then at_ + 4 else at_ + 16
theorem c_Me_putOff {k a t : Nat} {m : SMs} (M : MS G own h D k a m) (ho : mOff m < 2147483648) : Cv G l M_Me_putOff (d + 0) (w + 0) [.ref a, .int (nI t)] h 0 0 (Xv (pI h a 4 (nI (offN (mOff m) t)))) := by
  obtain ⟨m1, m2, m3, m5, m6, m7, m8, m9, m10, m11, m12, m13, m14⟩ := M
  refine ok_Me_putOff ?_
  unfold wp_Me_putOff wJ_Me_putOff_44
  rw [m12, eqL ho (by decide), eqL ho (by decide)]
  refine ⟨m1, fun c1 => ⟨fun c2 => ?_, fun c2 => ?_⟩, fun c1 => ?_⟩
  · show pI _ _ _ _ = pI _ _ _ _
    unfold offN
    rw [if_neg c1, if_neg c2, show (16 : Int32) = nI 16 from rfl, nI_add]
  · show pI _ _ _ _ = pI _ _ _ _
    unfold offN
    rw [if_neg c1, if_pos c2, show (4 : Int32) = nI 4 from rfl, nI_add]
  · show pI _ _ _ _ = pI _ _ _ _
    unfold offN
    rw [if_pos c1, show (1 : Int32) = nI 1 from rfl, nI_add]
/-- a new row of bytes -/
def NewR (h h' : Hp) (ra rb : Nat) (bs : List Nat) : Prop := hS h ra = none ∧ hS h rb = none ∧ ra ≠ rb ∧ Rw h' ra rb bs ∧ hR h' ra 2 = none ∧ Fr h h' (fun _ => False)
theorem RB.fst {h : Hp} {a b n : Nat} (B : RB h a b (zs n) 0) : RB h a b ([] ++ zs n) ([] : List Nat).length := B
theorem c_Me_asDeliver {k a : Nat} {m : SMs} (M : MS G own h D k a m) (f1 : 1 ≤ mFrm m) (f2 : mFrm m < 1000000000000) (ha : mAcc m < 2147483648) (hl : sda (mSub m) ≤ (mSub m).length) (hn : (dlvR (mSub m) (mFrm m) (mAcc m)).length ≤ 160) : Cr G l M_Me_asDeliver (d + 4) (w + 93) [.ref a] h 2 163 (fun x h' => ∃ ra rb, x = some ra ∧ NewR h h' ra rb (dlvR (mSub m) (mFrm m) (mAcc m))) := by
  obtain ⟨m1, m2, ⟨sa, sb, m3, ⟨R, -, -⟩⟩, m5, m6, m7, m8, m9, m10, m11, m12, m13, m14⟩ := M
  generalize hsub : mSub m = sub at *
  generalize hfrm : mFrm m = frm at *
  generalize hacc : mAcc m = acc at *
  dsimp only at R
  have hb := R.2.2.2.1
  have hsd : sda sub = 7 + (bt sub 2 + 1) / 2 := rfl
  have hsl : 2 < sub.length := by omega
  have hlen : (dlvR sub frm acc).length = 10 + (adr frm).length + (sub.length - sda sub) := by
    unfold dlvR
    simp only [List.length_append, List.length_cons, List.length_nil, dgs_len, List.length_drop]
    omega
  refine ok_Me_asDeliver ?_
  unfold wp_Me_asDeliver
  refine ⟨m1, sa, m3, R.1, _, c_Ro_submitDataAt R hsl, by omega, ?_⟩
  rintro _ _ ⟨rfl, rfl⟩
  refine ⟨by omega, fun q F => ?_⟩
  have Sm : ∀ x kd, hS h x = some kd → Same h (pN h q (15, 0)) x := fun x kd hx => same_pN (F.ne hx)
  have R1 : Rw (pN h q (15, 0)) sa sb sub := R.same (Sm _ _ R.1) (Sm _ _ R.2.2.1)
  refine ⟨F.old m1, sa, m3, R1.1, _, c_Ro_size R1, by omega, ?_⟩
  rintro _ _ ⟨rfl, rfl⟩
  rw [m7, ← hsd, pk_sub hl]
  refine ⟨_, c_Ro_deliverSize f1 f2, by omega, ?_⟩
  rintro _ _ ⟨rfl, rfl⟩
  refine ⟨1, 10 + (adr frm).length + (sub.length - sda sub), _, c_Ro_init (o := none) Fre.new (by show hI h q 1 = 0; exact F.2.1 1) (by omega), by omega, ?_⟩
  rintro h1 ⟨b, Fb, e1, B⟩
  have nqb : q ≠ b := fun z => by have := Fb.1; rw [← z, Fre.new] at this; cases this
  have Sm1 : ∀ x kd, hS h x = some kd → Same h h1 x := fun x kd hx => by
    have nq := F.ne hx
    have nb := Fb.ne (F.old (kd := (15, 0)) hx)
    rw [e1]
    exact (((Sm x kd hx).trans (same_pN nb)).trans (same_pR nq)).trans (same_pR nq)
  have R2 : Rw h1 sa sb sub := R.same (Sm1 _ _ R.1) (Sm1 _ _ R.2.2.1)
  have na := F.ne m1
  have nab := Fb.ne (F.old (kd := (15, 0)) m1)
  have nsb := F.ne R.2.2.1
  have nsbb := Fb.ne (F.old (kd := (15, 0)) R.2.2.1)
  have fb : hS h b = none := by
    have := Fb.1
    rw [show hS (pN h q (15, 0)) b = hS h b from (same_pN (fun z => nqb z.symm)).1] at this
    exact this
  have sm := Sm1 a _ m1
  have m11' : hS h1 a = some (16, 0) := by rw [sm.1]; exact m1
  refine ⟨m11', sa, by rw [sm.2.2.2]; exact m3, R2.1, _, c_Ro_hasHeader R2 (by omega), by omega, ?_⟩
  rintro _ _ ⟨rfl, rfl⟩
  have fin : ∀ z : Nat, z < 256 → z = 4 + (if hdr sub then 64 else 0) → ∀ sx0 sx1 : Int32, sx1 + sx0 = nI z → wJ_Me_asDeliver_51 G l d w 2 163 (fun x h' => ∃ ra rb, x = some ra ∧ NewR h h' ra rb (dlvR sub frm acc)) a (nI (7 + (bt sub 2 + 1) / 2)) q sx0 sx1 q h1 (0 + 1 + 1) (0 + 3 + (10 + (adr frm).length + (sub.length - sda sub))) := by
    intro z hz ez sx0 sx1 esx
    unfold wJ_Me_asDeliver_51
    rw [esx]
    refine ⟨B.1.1, _, c_RB_put2 (m := 9 + (adr frm).length + (sub.length - sda sub)) (by omega) B.fst hz, ⟨by omega, by omega⟩, ?_⟩
    rintro h2 ⟨B2, W2⟩
    refine ⟨by rw [W2.1]; exact m11', B2.1.1, ?_⟩
    rw [W2.2.1, sm.2.2.1, m7]
    refine ⟨_, c_RB_putAddress (m := 9 + (sub.length - sda sub)) f1 f2 (by rw [show 9 + (adr frm).length + (sub.length - sda sub) = 9 + (sub.length - sda sub) + (adr frm).length by omega] at B2; exact B2), ⟨by omega, by omega⟩, ?_⟩
    rintro h3 ⟨B3, W3⟩
    refine ⟨B3.1.1, _, c_RB_put2 (v := 0) (m := 8 + (sub.length - sda sub)) (by omega) B3 (by decide), ⟨by omega, by omega⟩, ?_⟩
    rintro h4 ⟨B4, W4⟩
    refine ⟨B4.1.1, _, c_RB_put2 (v := 0) (m := 7 + (sub.length - sda sub)) (by omega) B4 (by decide), ⟨by omega, by omega⟩, ?_⟩
    rintro h5 ⟨B5, W5⟩
    have W := ((W2.trans W3).trans W4).trans W5
    refine ⟨by rw [W.1]; exact m11', B5.1.1, ?_⟩
    rw [W.2.2.2 a na nab, sm.2.1, m8]
    refine ⟨_, c_RB_putTime (m := sub.length - sda sub) ha (by rw [show 7 + (sub.length - sda sub) = sub.length - sda sub + 7 by omega] at B5; exact B5), ⟨by omega, by omega⟩, ?_⟩
    rintro h6 ⟨B6, W6⟩
    have W' := W.trans W6
    have R3 : Rw h6 sa sb sub := R2.wr W' nsb nsbb
    refine ⟨by rw [W'.1]; exact m11', sa, by rw [W'.2.2.1, sm.2.2.2]; exact m3, B6.1.1, ?_⟩
    rw [← hsd]
    refine ⟨_, c_RB_putRest (m := 0) R3 nsb nsbb hl (by rw [Nat.zero_add]; exact B6), ⟨by omega, by omega⟩, ?_⟩
    rintro h7 ⟨B7, W7⟩
    have W'' := W'.trans W7
    refine ⟨⟨by omega, by omega⟩, q, b, rfl, F.1, fb, nqb, ?_, ?_, ?_⟩
    · have := B7.1
      rw [show zs 0 = ([] : List Nat) from rfl, List.append_nil] at this
      unfold dlvR
      rw [← ez]
      exact this
    · rw [W''.2.2.1, e1]
      exact hR_pR_eq
    · refine ⟨fun x hx => ?_, fun x hx _ => ?_⟩
      · obtain ⟨kd, hkd⟩ := Option.ne_none_iff_exists'.mp hx
        rw [W''.1]
        exact (Sm1 x kd hkd).1
      · obtain ⟨kd, hkd⟩ := Option.ne_none_iff_exists'.mp hx
        have nx1 := F.ne hkd
        have nx2 := Fb.ne (F.old (kd := (15, 0)) hkd)
        exact (Sm1 x kd hkd).trans ⟨by rw [W''.1], W''.2.2.2 x nx1 nx2, by rw [W''.2.1], by rw [W''.2.2.1]⟩
  by_cases hh : hdr sub = true
  · rw [if_pos hh]
    exact ⟨fun c => absurd c (by decide), fun _ => fin 68 (by decide) (by rw [if_pos hh]) _ _ rfl⟩
  · rw [if_neg hh]
    exact ⟨fun _ => fin 4 (by decide) (by rw [if_neg hh]) _ _ rfl, fun c => absurd rfl c⟩
end ME
