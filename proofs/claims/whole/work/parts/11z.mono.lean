/-! a contract that says less -/
theorem Ct.mono {G : Gx} {l : Launch} {M : MM} {d w : Nat} {av : List Value} {h : Hp} {mc ms : Nat} {P P' : Option Value → Hp → Prop} (C : Ct G l M d w av h mc ms P) (hP : ∀ r h', P r h' → P' r h') : Ct G l M d w av h mc ms P' := by
  intro p e ha hc hk s m args below hf happ hPc hK
  obtain ⟨n, o, h1, h2, h3, ⟨r, h', q1, q2, q3, q4⟩, hF⟩ := C p e ha hc hk s m args below hf happ hPc hK
  exact ⟨n, o, h1, h2, h3, ⟨r, h', q1, q2, q3, hP r h' q4⟩, hF⟩
theorem Ci.mono {G : Gx} {l : Launch} {M : MM} {d w : Nat} {av : List Value} {h : Hp} {mc ms : Nat} {P P' : Int32 → Hp → Prop} (C : Ci G l M d w av h mc ms P) (hP : ∀ r h', P r h' → P' r h') : Ci G l M d w av h mc ms P' := Ct.mono C (fun r h' ⟨x, e, q⟩ => ⟨x, e, hP x h' q⟩)
theorem Cl.mono {G : Gx} {l : Launch} {M : MM} {d w : Nat} {av : List Value} {h : Hp} {mc ms : Nat} {P P' : Int64 → Hp → Prop} (C : Cl G l M d w av h mc ms P) (hP : ∀ r h', P r h' → P' r h') : Cl G l M d w av h mc ms P' := Ct.mono C (fun r h' ⟨x, e, q⟩ => ⟨x, e, hP x h' q⟩)
theorem Cr.mono {G : Gx} {l : Launch} {M : MM} {d w : Nat} {av : List Value} {h : Hp} {mc ms : Nat} {P P' : Option Nat → Hp → Prop} (C : Cr G l M d w av h mc ms P) (hP : ∀ r h', P r h' → P' r h') : Cr G l M d w av h mc ms P' := Ct.mono C (fun r h' ⟨x, e, q⟩ => ⟨x, e, hP x h' q⟩)
theorem Cv.mono {G : Gx} {l : Launch} {M : MM} {d w : Nat} {av : List Value} {h : Hp} {mc ms : Nat} {P P' : Hp → Prop} (C : Cv G l M d w av h mc ms P) (hP : ∀ h', P h' → P' h') : Cv G l M d w av h mc ms P' := Ct.mono C (fun r h' ⟨e, q⟩ => ⟨e, hP h' q⟩)
