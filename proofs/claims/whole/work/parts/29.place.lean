/-! where a pile stands -/
def mtch (frm ref n : Nat) (pl : SPl) : Bool := decide (pl.1 = frm ∧ pl.2.1 = ref ∧ pl.2.2.length = n)
def plB (pls : List SPl) : List SPl := if pls.length < 3 then pls else pls.tail
def plc (pls : List SPl) (frm ref n : Nat) : List SPl × Nat := match pls.findIdx? (mtch frm ref n) with
  | some k => (pls, k)
  | none => (plB pls ++ [(frm, ref, List.replicate n none)], (plB pls).length)
theorem plc_some {pls : List SPl} {frm ref n k : Nat} (h : pls.findIdx? (mtch frm ref n) = some k) : plc pls frm ref n = (pls, k) := by unfold plc; rw [h]
theorem plc_none {pls : List SPl} {frm ref n : Nat} (h : pls.findIdx? (mtch frm ref n) = none) : plc pls frm ref n = (plB pls ++ [(frm, ref, List.replicate n none)], (plB pls).length) := by unfold plc; rw [h]
theorem plB_mem {pls : List SPl} {pl : SPl} (h : pl ∈ plB pls) : pl ∈ pls := by
  unfold plB at h
  split at h
  · exact h
  · exact List.mem_of_mem_tail h
theorem plc_mem {pls : List SPl} {frm ref n : Nat} {pl : SPl} (h : pl ∈ (plc pls frm ref n).1) : pl ∈ pls ∨ pl = (frm, ref, List.replicate n none) := by
  cases c : pls.findIdx? (mtch frm ref n) with
  | some k => rw [plc_some c] at h; exact Or.inl h
  | none =>
    rw [plc_none c] at h
    rcases List.mem_append.mp h with z | z
    · exact Or.inl (plB_mem z)
    · exact Or.inr (List.mem_singleton.mp z)
theorem plc_at (pls : List SPl) (frm ref n : Nat) : ∃ pl, (plc pls frm ref n).1[(plc pls frm ref n).2]? = some pl ∧ pl.1 = frm ∧ pl.2.1 = ref ∧ pl.2.2.length = n := by
  cases c : pls.findIdx? (mtch frm ref n) with
  | some k =>
    rw [plc_some c]
    obtain ⟨hk, h1, -⟩ := List.findIdx?_eq_some_iff_getElem.mp c
    exact ⟨pls[k], List.getElem?_eq_getElem hk, of_decide_eq_true h1⟩
  | none =>
    rw [plc_none c]
    exact ⟨(frm, ref, List.replicate n none), by simp, rfl, rfl, by simp⟩
theorem lack_rep (n : Nat) : lack (List.replicate n none) = n := by
  unfold lack
  rw [List.countP_replicate]
  simp
section PP
variable {G : Gx} {l : Launch} {d w : Nat} {own own' : Nat → Tg} {h h' : Hp} {D : Nat → Nat}
theorem c_De_pilePlace {dd a pa frm ref n : Nat} {pls : List SPl} (hs : hS h a = some (14, 0)) (ho : own a = (8, dd)) (hp : hR h a 6 = some pa) (P : PS G own h dd pa pls) (hl3 : pls.length ≤ 3) (hok : ∀ pl ∈ pls, pl.1 < 9223372036854775808 ∧ pl.2.1 < 2147483648 ∧ pl.2.2.length < 2147483648) (b2 : frm < 9223372036854775808) (b4 : ref < 2147483648) (b6 : n ≤ 3) : Ci G l M_De_pilePlace (d + 7) (w + 162) [.ref a, .long (lN frm), .int (nI ref), .int (nI n)] h 3 407 (fun x h' => (x = nI (plc pls frm ref n).2 ∧ ∃ own', PS G own' h' dd pa (plc pls frm ref n).1 ∧ FT own h h' (t45 (11 + dd)) ∧ Ey own own' h) ∧ KF G h') := by
  refine Ci.kf (fun kf => ?_)
  have P0 := P
  obtain ⟨ps, A, e, nd, r⟩ := P
  have hpl : (ps.map (fun p => p.1)).length = pls.length := by rw [e]; simp
  have hpl2 : ps.length = pls.length := by rw [e]; simp
  have nb : NB own (t45 (11 + dd)) := ⟨by simp [t45], fun a _ => by simp [t45]⟩
  refine ok_De_pilePlace ?_
  unfold wp_De_pilePlace wL_De_pilePlace_3
  refine ⟨fun x5 h' k n' => h = h' ∧ k = 0 ∧ n' = 0 ∧ ∃ j, j ≤ pls.length ∧ x5 = nI j ∧ ∀ i pl, i < j → pls[i]? = some pl → mtch frm ref n pl = false, fun x5 _ _ _ => 100 - x5.toNatClampNeg, ⟨rfl, rfl, rfl, 0, Nat.zero_le _, rfl, fun i pl hi => absurd hi (Nat.not_lt_zero _)⟩, ?_⟩
  rintro _ _ _ _ ⟨rfl, rfl, rfl, j, hj, rfl, hV⟩
  unfold wB_De_pilePlace_3
  refine ⟨hs, pa, hp, A.hs, _, c_LJ_size A, by omega, ?_⟩
  rintro _ _ ⟨rfl, rfl⟩
  rw [hpl]
  refine ⟨fun c => ?_, fun c => ?_⟩
  · have hjl : j = pls.length := by have := (nI_leI (by omega) (by omega)).mp c; omega
    have hnone : pls.findIdx? (mtch frm ref n) = none := by
      rw [List.findIdx?_eq_none_iff]
      intro pl hpl
      obtain ⟨i, hi, rfl⟩ := List.mem_iff_getElem.mp hpl
      exact hV i _ (by omega) (List.getElem?_eq_getElem hi)
    rw [plc_none hnone]
    have key : ∀ h1, ∀ ps1 : List (Nat × SPl), LJ G own h1 (11 + dd) pa (ps1.map (fun p => p.1)) → (ps1.map (fun p => p.1)).Nodup → (∀ p ∈ ps1, PZ own h1 dd p.1 p.2) → ps1.length < 3 → FT own h h1 (t45 (11 + dd)) → ps1.map (fun p => p.2) = plB pls → wJ_De_pilePlace_66 G l d w 3 407 (fun x h' => x = nI (plB pls).length ∧ ∃ own', PS G own' h' dd pa (plB pls ++ [(frm, ref, List.replicate n none)]) ∧ FT own h h' (t45 (11 + dd)) ∧ Ey own own' h) a (lN frm) (nI ref) (nI n) (nI j) h1 0 0 := by
      intro h1 ps1 A1 nd1 r1 hl1 F1 e1
      have sa := F1.kp hs ho (by simp [t45] <;> omega)
      have hs1 : hS h1 a = some (14, 0) := by rw [sa.1]; exact hs
      unfold wJ_De_pilePlace_66
      refine ⟨hs1, by omega, fun q Fq => ⟨1, n, _, ok_Pi_init (P := fun h' => ∃ q2, Fre (pI (pL (pN h1 q (17, 0)) q 0 (lN frm)) q 1 (nI ref)) q2 ∧ h' = pI (pR (pN (pI (pL (pN h1 q (17, 0)) q 0 (lN frm)) q 1 (nI ref)) q2 (4, n)) q 2 (some q2)) q 3 (nI n)) ?_, by omega, ?_⟩⟩
      · exact ⟨Fre.new, n, ⟨rfl, by omega⟩, by omega, fun q2 F2 => ⟨by omega, q2, F2, rfl⟩⟩
      rintro h2 ⟨q2, F2, e2⟩
      have Sm : ∀ x kd, hS h1 x = some kd → Same h1 h2 x := fun x kd hx => by
        have n1 := Fq.ne hx
        have n2 : x ≠ q2 := F2.ne (x := kd) (show hS (pN h1 q (17, 0)) x = some kd from Fq.old hx)
        rw [e2]
        exact (((((same_pN n1).trans (same_pL n1)).trans (same_pI n1)).trans (same_pN n2)).trans (same_pR n1)).trans (same_pI n1)
      have nq : q ≠ q2 := F2.ne (x := (17, 0)) (show hS (pN h1 q (17, 0)) q = some (17, 0) from Fre.new)
      have fq2 : hS h1 q2 = none := by
        have := F2.1
        rw [show hS (pI (pL (pN h1 q (17, 0)) q 0 (lN frm)) q 1 (nI ref)) q2 = hS h1 q2 from (same_pN (fun z => nq z.symm)).1] at this
        exact this
      have F12 : FT own h1 h2 (fun _ => False) := ⟨fun x hx => by
        obtain ⟨kd, hkd⟩ := Option.ne_none_iff_exists'.mp hx
        exact (Sm x kd hkd).1, fun x hx _ => by
        obtain ⟨kd, hkd⟩ := Option.ne_none_iff_exists'.mp hx
        exact Sm x kd hkd⟩
      have E12 : Ey own (ow (ow own q (14, dd)) q2 (100 + q, dd)) h1 := fun x hx => by
        rw [ow_ne (fun z => hx (by rw [z]; exact fq2)), ow_ne (fun z => hx (by rw [z]; exact Fq.1))]
      have hq17 : hS h2 q = some (17, 0) := by
        rw [e2]
        show hS (pN (pN h1 q (17, 0)) q2 (4, n)) q = _
        rw [(same_pN nq).1]
        exact Fre.new
      have hnew : PZ (ow (ow own q (14, dd)) q2 (100 + q, dd)) h2 dd q (frm, ref, List.replicate n none) := by
        refine ⟨hq17, ?_, ?_, ?_, ?_, q2, ?_, ?_, ow_eq, ?_⟩
        · rw [ow_ne nq, ow_eq]
        · rw [e2]; simp [hL, pI, pR, pN, pL, up2]
        · rw [e2]; simp [hI, pI, pR, pN, pL, up2]
        · rw [e2, hI_pI_eq]
          rw [lack_rep]
        · rw [e2]; simp [hR, pI, pR, pN, pL, up2]
        · rw [e2]
          simp [hS, pI, pR, pN, pL]
        · intro k o hko
          have hon : o = none := by
            have := List.mem_of_getElem? hko
            exact (List.mem_replicate.mp this).2
          subst hon
          refine ⟨fun _ => ?_, fun bs hb => by cases hb⟩
          rw [e2]
          show hR (pR (pN (pI (pL (pN h1 q (17, 0)) q 0 (lN frm)) q 1 (nI ref)) q2 (4, n)) q 2 (some q2)) q2 k = none
          rw [hR_pR_ne (fun z => nq z.1.symm)]
          exact F2.2.2.2 k
      have A2 : LJ G (ow (ow own q (14, dd)) q2 (100 + q, dd)) h2 (11 + dd) pa (ps1.map (fun p => p.1)) := A1.kept F12 E12.ex id id
      have r2 : ∀ p ∈ ps1, PZ (ow (ow own q (14, dd)) q2 (100 + q, dd)) h2 dd p.1 p.2 := fun p hp' => (r1 p hp').kept F12 E12.ex ⟨id, fun _ _ => id⟩ id (fun _ => id)
      refine ⟨pa, by rw [sa.2.2.2]; exact hp, A2.hs, 1, 400, _, c_LJ_add A2 (by simp; omega) (obj_pile hq17) (fun z => ?_) (fun x hx => ?_), by omega, ?_⟩
      · have := A2.hs
        rw [← z, hq17] at this
        cases this
      · obtain ⟨p, hp', rfl⟩ := List.mem_map.mp hx
        exact obj_pile (r2 p hp').1
      rintro _ h3 ⟨⟨own3, A3, F3, E3⟩, kf3⟩
      have F23 : FT own h h3 (t45 (11 + dd)) := (F1.trans (F12.mono (fun _ z => z.elim)) (Ey.rfl)).trans (own1 := ow (ow own q (14, dd)) q2 (100 + q, dd)) F3 (fun x hx => E12 x (by rw [F1.1 x hx]; exact hx))
      have nb2 : NB (ow (ow own q (14, dd)) q2 (100 + q, dd)) (t45 (11 + dd)) := ⟨by simp [t45], fun a _ => by simp [t45]⟩
      have hs3 : hS h3 a = some (14, 0) := by rw [F23.1 a (ne_none hs)]; exact hs
      have sa3 := F23.kp hs ho (by simp [t45] <;> omega)
      refine ⟨hs3, pa, by rw [sa3.2.2.2]; exact hp, A3.hs, _, c_LJ_size A3, by omega, ?_⟩
      rintro _ _ ⟨rfl, rfl⟩
      have hlen : (plB pls).length = ps1.length := by rw [← e1]; simp
      refine ⟨by omega, ?_, own3, ⟨ps1 ++ [(q, (frm, ref, List.replicate n none))], by simpa using A3, by simp [e1], ?_, ?_⟩, F23, fun x hx => ?_⟩
      · rw [List.length_append, List.length_singleton, List.length_map, show (1 : Int32) = nI 1 from rfl, pk_sub (by omega), hlen]
        congr 1
      · rw [List.map_append, List.nodup_append]
        refine ⟨nd1, by simp, ?_⟩
        intro x hx y hy z
        obtain ⟨p, hp', rfl⟩ := List.mem_map.mp hx
        simp only [List.map_cons, List.map_nil, List.mem_singleton] at hy
        have := (r1 p hp').1
        rw [z, hy, Fq.1] at this
        cases this
      · intro p hp'
        rcases List.mem_append.mp hp' with z | z
        · exact (r2 p z).kept F3 E3.ex nb2 (by simp [t45] <;> omega) (by simp [t45] <;> omega)
        · rw [List.mem_singleton] at z
          rw [z]
          exact hnew.kept F3 E3.ex nb2 (by simp [t45] <;> omega) (by simp [t45] <;> omega)
      · have h1x : hS h1 x ≠ none := by rw [F1.1 x hx]; exact hx
        rw [E3 x (by rw [F12.1 x h1x]; exact h1x), E12 x h1x]
    refine ⟨hs, pa, hp, A.hs, _, c_LJ_size A, by omega, ?_⟩
    rintro _ _ ⟨rfl, rfl⟩
    rw [hpl, ltL (by omega) (by decide)]
    refine ⟨fun c3 => key h ps A nd r (by omega) FT.rfl ?_, fun c3 => ⟨hs, pa, hp, A.hs, _, c_LJ_remove (j := 0) A (by omega) (fun x hx => ?_), by omega, ?_⟩⟩
    · unfold plB
      rw [if_pos c3, e]
    · obtain ⟨p, hp', rfl⟩ := List.mem_map.mp hx
      exact obj_pile (r p hp').1
    · rintro _ h1 ⟨⟨rfl, A1, F1⟩, kf1⟩
      refine key h1 ps.tail ?_ ?_ (fun p hp' => (r p (List.mem_of_mem_tail hp')).kept F1 Ey.rfl.ex nb (by simp [t45] <;> omega) (by simp [t45] <;> omega)) (by rw [List.length_tail]; omega) F1 ?_
      · rw [List.eraseIdx_zero] at A1
        rw [List.map_tail]
        exact A1
      · rw [List.map_tail]
        exact List.Nodup.sublist (List.tail_sublist _) nd
      · unfold plB
        rw [if_neg c3, e, List.map_tail]
  · have hjl : j < pls.length := by
      rcases Nat.lt_or_ge j pls.length with z | z
      · exact z
      · exact absurd (nI_le z (by omega)) c
    refine ⟨hs, pa, hp, A.hs, _, c_LJ_get A (by omega), by omega, ?_⟩
    rintro _ _ ⟨rfl, rfl⟩
    have hpj : j < ps.length := by omega
    have hgd : (ps.map (fun p => p.1)).getD j 0 = ps[j].1 := by simp [List.getD_eq_getElem?_getD, hpj]
    have hpe : pls[j]? = some ps[j].2 := by rw [e]; simp [hpj]
    have Z := r ps[j] (List.getElem_mem hpj)
    have hk := hok ps[j].2 (List.mem_of_getElem? hpe)
    rw [hgd]
    refine ⟨_, rfl, Z.1, _, c_Pi_gathers Z hk.1 b2 hk.2.1 b4 hk.2.2 (by omega), by omega, ?_⟩
    rintro _ _ ⟨rfl, ⟨rfl, y⟩ | ⟨rfl, y⟩⟩
    · refine ⟨fun c => absurd c (by decide), fun _ => ⟨by omega, ?_⟩⟩
      have hf : pls.findIdx? (mtch frm ref n) = some j := by
        rw [List.findIdx?_eq_some_iff_getElem]
        have hje : pls[j] = ps[j].2 := by
          have := List.getElem?_eq_getElem hjl
          rw [hpe] at this
          exact (Option.some.inj this).symm
        refine ⟨hjl, by rw [hje]; exact decide_eq_true y, fun i hi => ?_⟩
        rw [hV i _ hi (List.getElem?_eq_getElem (by omega))]
        decide
      rw [plc_some hf]
      exact ⟨rfl, own, P0, FT.rfl, Ey.rfl⟩
    · refine ⟨fun _ => ?_, fun c => absurd rfl c⟩
      rintro _ rfl
      refine ⟨⟨rfl, rfl, rfl, j + 1, hjl, nI_1 j, fun i pl hi hpi => ?_⟩, ?_⟩
      · rcases (show i < j ∨ i = j by omega) with z | z
        · exact hV i pl z hpi
        · rw [z, hpe] at hpi
          cases hpi
          exact decide_eq_false y
      · show 100 - (nI j + 1).toNatClampNeg < 100 - (nI j).toNatClampNeg
        rw [nI_1, nI_clamp (by omega), nI_clamp (by omega)]
        omega
end PP
