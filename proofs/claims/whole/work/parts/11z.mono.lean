/-! a contract that says less -/
theorem Ct.mono {G : Gx} {l : Launch} {M : MM} {d w : Nat} {av : List Value} {h : Hp} {mc ms : Nat} {P P' : Option Value → Hp → Prop} (C : Ct G l M d w av h mc ms P) (hP : ∀ r h', P r h' → P' r h') : Ct G l M d w av h mc ms P' := by
  intro p e ha hc hk s m args below hf happ hPc hK
  obtain ⟨n, o, h1, h2, h3, ⟨r, h', q1, q2, q3, q4⟩, hF⟩ := C p e ha hc hk s m args below hf happ hPc hK
  exact ⟨n, o, h1, h2, h3, ⟨r, h', q1, q2, q3, hP r h' q4⟩, hF⟩
theorem Ci.mono {G : Gx} {l : Launch} {M : MM} {d w : Nat} {av : List Value} {h : Hp} {mc ms : Nat} {P P' : Int32 → Hp → Prop} (C : Ci G l M d w av h mc ms P) (hP : ∀ r h', P r h' → P' r h') : Ci G l M d w av h mc ms P' := Ct.mono C (fun r h' ⟨x, e, q⟩ => ⟨x, e, hP x h' q⟩)
theorem Cl.mono {G : Gx} {l : Launch} {M : MM} {d w : Nat} {av : List Value} {h : Hp} {mc ms : Nat} {P P' : Int64 → Hp → Prop} (C : Cl G l M d w av h mc ms P) (hP : ∀ r h', P r h' → P' r h') : Cl G l M d w av h mc ms P' := Ct.mono C (fun r h' ⟨x, e, q⟩ => ⟨x, e, hP x h' q⟩)
theorem Cr.mono {G : Gx} {l : Launch} {M : MM} {d w : Nat} {av : List Value} {h : Hp} {mc ms : Nat} {P P' : Option Nat → Hp → Prop} (C : Cr G l M d w av h mc ms P) (hP : ∀ r h', P r h' → P' r h') : Cr G l M d w av h mc ms P' := Ct.mono C (fun r h' ⟨x, e, q⟩ => ⟨x, e, hP x h' q⟩)
theorem Cv.mono {G : Gx} {l : Launch} {M : MM} {d w : Nat} {av : List Value} {h : Hp} {mc ms : Nat} {P P' : Hp → Prop} (C : Cv G l M d w av h mc ms P) (hP : ∀ h', P h' → P' h') : Cv G l M d w av h mc ms P' := Ct.mono C (fun r h' ⟨e, q⟩ => ⟨e, hP h' q⟩)
/-- the lists' empty row is none of ours -/
def KF (G : Gx) (h : Hp) : Prop := hS h (gK G 0) = none
theorem KF.of {G : Gx} {h : Hp} {H : Heap} (hSy : SysF G) (R : Rf G h H) : KF G h := by
  obtain ⟨A0, hw, hcl, hz⟩ := hSy
  obtain ⟨c, hc, -⟩ := hz.2.2.2.2.2.1
  have hlt := (Array.getElem?_eq_some_iff.mp hc).1
  unfold KF hS
  cases hx : h.1 (gK G 0) with
  | none => rfl
  | some kd =>
    obtain ⟨-, -, -, h3⟩ := R.1 _ _ hx
    omega
theorem Ct.kf {G : Gx} {l : Launch} {M : MM} {d w : Nat} {av : List Value} {h : Hp} {mc ms : Nat} {P : Option Value → Hp → Prop} (C : KF G h → Ct G l M d w av h mc ms P) : Ct G l M d w av h mc ms (fun r h' => P r h' ∧ KF G h') := by
  intro p e ha hc hk s m args below hf happ hPc hK
  have kf : KF G h := KF.of hPc.2.1 hPc.2.2.2
  obtain ⟨n, o, h1, h2, h3, ⟨r, h', q1, q2, q3, q4⟩, hF⟩ := C kf p e ha hc hk s m args below hf happ hPc hK
  exact ⟨n, o, h1, h2, h3, ⟨r, h', q1, q2, q3, q4, KF.of hPc.2.1 q3⟩, hF⟩
theorem Ci.kf {G : Gx} {l : Launch} {M : MM} {d w : Nat} {av : List Value} {h : Hp} {mc ms : Nat} {P : Int32 → Hp → Prop} (C : KF G h → Ci G l M d w av h mc ms P) : Ci G l M d w av h mc ms (fun r h' => P r h' ∧ KF G h') := Ct.mono (Ct.kf C) (fun r h' ⟨⟨x, e, q⟩, k⟩ => ⟨x, e, q, k⟩)
theorem Cl.kf {G : Gx} {l : Launch} {M : MM} {d w : Nat} {av : List Value} {h : Hp} {mc ms : Nat} {P : Int64 → Hp → Prop} (C : KF G h → Cl G l M d w av h mc ms P) : Cl G l M d w av h mc ms (fun r h' => P r h' ∧ KF G h') := Ct.mono (Ct.kf C) (fun r h' ⟨⟨x, e, q⟩, k⟩ => ⟨x, e, q, k⟩)
theorem Cr.kf {G : Gx} {l : Launch} {M : MM} {d w : Nat} {av : List Value} {h : Hp} {mc ms : Nat} {P : Option Nat → Hp → Prop} (C : KF G h → Cr G l M d w av h mc ms P) : Cr G l M d w av h mc ms (fun r h' => P r h' ∧ KF G h') := Ct.mono (Ct.kf C) (fun r h' ⟨⟨x, e, q⟩, k⟩ => ⟨x, e, q, k⟩)
theorem Cv.kf {G : Gx} {l : Launch} {M : MM} {d w : Nat} {av : List Value} {h : Hp} {mc ms : Nat} {P : Hp → Prop} (C : KF G h → Cv G l M d w av h mc ms P) : Cv G l M d w av h mc ms (fun h' => P h' ∧ KF G h') := Ct.mono (Ct.kf C) (fun r h' ⟨⟨e, q⟩, k⟩ => ⟨e, q, k⟩)
