/-! the reference's side -/
section MPL
variable {G : Gx} {l : Launch} {d w : Nat} {h : Hp}
/-- what plain answers -/
def pl (c : Nat) : Int32 := if c = 27 then 27 else tabC.getD c 0
theorem nI_128 {c k : Nat} (hc : c < 128) (hk : k < 128) (e : nI c = nI k) : c = k := (nI_eq (by omega) (by omega)).mp e
theorem c_MO_escaped {c : Nat} (hc : c < 128) : Ci G l M_MO_escaped (d + 0) (w + 0) [.int (nI c)] h 0 0 (Xi (secN c) h) := by
  refine ok_MO_escaped ?_
  unfold wp_MO_escaped
  rintro _ rfl
  have b : ∀ k v, k < 128 → secN k = v → nI c = nI k → Xi (secN c) h v h := fun k v hk hv e => ⟨by rw [nI_128 hc hk e, hv], rfl⟩
  refine ⟨b 10 12 (by decide) (by decide +kernel), b 20 94 (by decide) (by decide +kernel), b 40 123 (by decide) (by decide +kernel), b 41 125 (by decide) (by decide +kernel), b 47 92 (by decide) (by decide +kernel), b 60 91 (by decide) (by decide +kernel), b 61 126 (by decide) (by decide +kernel), b 62 93 (by decide) (by decide +kernel), b 64 124 (by decide) (by decide +kernel), b 101 8364 (by decide) (by decide +kernel), fun n1 n2 n3 n4 n5 n6 n7 n8 n9 n10 => ⟨?_, rfl⟩⟩
  have t : ∀ c : Fin 128, secN c.val = -1 ∨ c.val = 10 ∨ c.val = 20 ∨ c.val = 40 ∨ c.val = 41 ∨ c.val = 47 ∨ c.val = 60 ∨ c.val = 61 ∨ c.val = 62 ∨ c.val = 64 ∨ c.val = 101 := by decide +kernel
  rcases t ⟨c, hc⟩ with e | e | e | e | e | e | e | e | e | e | e
  · exact e.symm
  · exact absurd (congrArg nI e) n1
  · exact absurd (congrArg nI e) n2
  · exact absurd (congrArg nI e) n3
  · exact absurd (congrArg nI e) n4
  · exact absurd (congrArg nI e) n5
  · exact absurd (congrArg nI e) n6
  · exact absurd (congrArg nI e) n7
  · exact absurd (congrArg nI e) n8
  · exact absurd (congrArg nI e) n9
  · exact absurd (congrArg nI e) n10
def upOk (c : Nat) : Bool := c == 10 || c == 13 || c == 27 || (decide (32 ≤ c) && decide (c ≤ 126))
theorem c_MO_upper {c : Nat} (hc : c < 128) (hu : upOk c = true) : Ci G l M_MO_upper (d + 0) (w + 0) [.int (nI c)] h 0 0 (Xi (pl c) h) := by
  refine ok_MO_upper ?_
  unfold wp_MO_upper
  rintro _ rfl
  have b : ∀ k v, k < 128 → pl k = v → nI c = nI k → Xi (pl c) h v h := fun k v hk hv e => ⟨by rw [nI_128 hc hk e, hv], rfl⟩
  refine ⟨b 36 164 (by decide) (by decide +kernel), b 64 161 (by decide) (by decide +kernel), b 91 196 (by decide) (by decide +kernel), b 92 214 (by decide) (by decide +kernel), b 93 209 (by decide) (by decide +kernel), b 94 220 (by decide) (by decide +kernel), b 95 167 (by decide) (by decide +kernel), b 96 191 (by decide) (by decide +kernel), b 123 228 (by decide) (by decide +kernel), b 124 246 (by decide) (by decide +kernel), b 125 241 (by decide) (by decide +kernel), b 126 252 (by decide) (by decide +kernel), fun n1 n2 n3 n4 n5 n6 n7 n8 n9 n10 n11 n12 => ⟨?_, rfl⟩⟩
  have t : ∀ c : Fin 128, upOk c.val = true → nI c.val = pl c.val ∨ c.val = 36 ∨ c.val = 64 ∨ c.val = 91 ∨ c.val = 92 ∨ c.val = 93 ∨ c.val = 94 ∨ c.val = 95 ∨ c.val = 96 ∨ c.val = 123 ∨ c.val = 124 ∨ c.val = 125 ∨ c.val = 126 := by decide +kernel
  rcases t ⟨c, hc⟩ hu with e | e | e | e | e | e | e | e | e | e | e | e | e
  · exact e
  · exact absurd (congrArg nI e) n1
  · exact absurd (congrArg nI e) n2
  · exact absurd (congrArg nI e) n3
  · exact absurd (congrArg nI e) n4
  · exact absurd (congrArg nI e) n5
  · exact absurd (congrArg nI e) n6
  · exact absurd (congrArg nI e) n7
  · exact absurd (congrArg nI e) n8
  · exact absurd (congrArg nI e) n9
  · exact absurd (congrArg nI e) n10
  · exact absurd (congrArg nI e) n11
  · exact absurd (congrArg nI e) n12
set_option maxRecDepth 20000 in
set_option maxHeartbeats 2000000 in
theorem c_MO_plain {c : Nat} (hc : c < 128) : Ci G l M_MO_plain (d + 1) (w + 20) [.int (nI c)] h 0 0 (Xi (pl c) h) := by
  refine ok_MO_plain ?_
  unfold wp_MO_plain
  rintro _ rfl
  have b : ∀ k v, k < 128 → pl k = v → nI c = nI k → Xi (pl c) h v h := fun k v hk hv e => ⟨by rw [nI_128 hc hk e, hv], rfl⟩
  have u : ∀ k, k < 128 → upOk k = true → nI c = nI k → ∃ P : Int32 → Hp → Prop, Ci G l M_MO_upper (d + 0) (w + 0) [.int (nI c)] h 0 0 P ∧ ∀ (x : Int32) (h' : Hp), P x h' → Xi (pl c) h x h' := fun k hk hu e => ⟨_, c_MO_upper hc (by rw [nI_128 hc hk e]; exact hu), fun _ _ z => z⟩
  refine ⟨b 0 64 (by decide) (by decide +kernel), ?_⟩
  refine ⟨b 1 163 (by decide) (by decide +kernel), ?_⟩
  refine ⟨b 2 36 (by decide) (by decide +kernel), ?_⟩
  refine ⟨b 3 165 (by decide) (by decide +kernel), ?_⟩
  refine ⟨b 4 232 (by decide) (by decide +kernel), ?_⟩
  refine ⟨b 5 233 (by decide) (by decide +kernel), ?_⟩
  refine ⟨b 6 249 (by decide) (by decide +kernel), ?_⟩
  refine ⟨b 7 236 (by decide) (by decide +kernel), ?_⟩
  refine ⟨b 8 242 (by decide) (by decide +kernel), ?_⟩
  refine ⟨b 9 199 (by decide) (by decide +kernel), ?_⟩
  refine ⟨u 10 (by decide) (by decide), ?_⟩
  refine ⟨b 11 216 (by decide) (by decide +kernel), ?_⟩
  refine ⟨b 12 248 (by decide) (by decide +kernel), ?_⟩
  refine ⟨u 13 (by decide) (by decide), ?_⟩
  refine ⟨b 14 197 (by decide) (by decide +kernel), ?_⟩
  refine ⟨b 15 229 (by decide) (by decide +kernel), ?_⟩
  refine ⟨b 16 916 (by decide) (by decide +kernel), ?_⟩
  refine ⟨b 17 95 (by decide) (by decide +kernel), ?_⟩
  refine ⟨b 18 934 (by decide) (by decide +kernel), ?_⟩
  refine ⟨b 19 915 (by decide) (by decide +kernel), ?_⟩
  refine ⟨b 20 923 (by decide) (by decide +kernel), ?_⟩
  refine ⟨b 21 937 (by decide) (by decide +kernel), ?_⟩
  refine ⟨b 22 928 (by decide) (by decide +kernel), ?_⟩
  refine ⟨b 23 936 (by decide) (by decide +kernel), ?_⟩
  refine ⟨b 24 931 (by decide) (by decide +kernel), ?_⟩
  refine ⟨b 25 920 (by decide) (by decide +kernel), ?_⟩
  refine ⟨b 26 926 (by decide) (by decide +kernel), ?_⟩
  refine ⟨u 27 (by decide) (by decide), ?_⟩
  refine ⟨b 28 198 (by decide) (by decide +kernel), ?_⟩
  refine ⟨b 29 230 (by decide) (by decide +kernel), ?_⟩
  refine ⟨b 30 223 (by decide) (by decide +kernel), ?_⟩
  refine ⟨b 31 201 (by decide) (by decide +kernel), ?_⟩
  refine ⟨u 32 (by decide) (by decide), ?_⟩
  refine ⟨u 33 (by decide) (by decide), ?_⟩
  refine ⟨u 34 (by decide) (by decide), ?_⟩
  refine ⟨u 35 (by decide) (by decide), ?_⟩
  refine ⟨u 36 (by decide) (by decide), ?_⟩
  refine ⟨u 37 (by decide) (by decide), ?_⟩
  refine ⟨u 38 (by decide) (by decide), ?_⟩
  refine ⟨u 39 (by decide) (by decide), ?_⟩
  refine ⟨u 40 (by decide) (by decide), ?_⟩
  refine ⟨u 41 (by decide) (by decide), ?_⟩
  refine ⟨u 42 (by decide) (by decide), ?_⟩
  refine ⟨u 43 (by decide) (by decide), ?_⟩
  refine ⟨u 44 (by decide) (by decide), ?_⟩
  refine ⟨u 45 (by decide) (by decide), ?_⟩
  refine ⟨u 46 (by decide) (by decide), ?_⟩
  refine ⟨u 47 (by decide) (by decide), ?_⟩
  refine ⟨u 48 (by decide) (by decide), ?_⟩
  refine ⟨u 49 (by decide) (by decide), ?_⟩
  refine ⟨u 50 (by decide) (by decide), ?_⟩
  refine ⟨u 51 (by decide) (by decide), ?_⟩
  refine ⟨u 52 (by decide) (by decide), ?_⟩
  refine ⟨u 53 (by decide) (by decide), ?_⟩
  refine ⟨u 54 (by decide) (by decide), ?_⟩
  refine ⟨u 55 (by decide) (by decide), ?_⟩
  refine ⟨u 56 (by decide) (by decide), ?_⟩
  refine ⟨u 57 (by decide) (by decide), ?_⟩
  refine ⟨u 58 (by decide) (by decide), ?_⟩
  refine ⟨u 59 (by decide) (by decide), ?_⟩
  refine ⟨u 60 (by decide) (by decide), ?_⟩
  refine ⟨u 61 (by decide) (by decide), ?_⟩
  refine ⟨u 62 (by decide) (by decide), ?_⟩
  refine ⟨u 63 (by decide) (by decide), ?_⟩
  refine ⟨u 64 (by decide) (by decide), ?_⟩
  refine ⟨u 65 (by decide) (by decide), ?_⟩
  refine ⟨u 66 (by decide) (by decide), ?_⟩
  refine ⟨u 67 (by decide) (by decide), ?_⟩
  refine ⟨u 68 (by decide) (by decide), ?_⟩
  refine ⟨u 69 (by decide) (by decide), ?_⟩
  refine ⟨u 70 (by decide) (by decide), ?_⟩
  refine ⟨u 71 (by decide) (by decide), ?_⟩
  refine ⟨u 72 (by decide) (by decide), ?_⟩
  refine ⟨u 73 (by decide) (by decide), ?_⟩
  refine ⟨u 74 (by decide) (by decide), ?_⟩
  refine ⟨u 75 (by decide) (by decide), ?_⟩
  refine ⟨u 76 (by decide) (by decide), ?_⟩
  refine ⟨u 77 (by decide) (by decide), ?_⟩
  refine ⟨u 78 (by decide) (by decide), ?_⟩
  refine ⟨u 79 (by decide) (by decide), ?_⟩
  refine ⟨u 80 (by decide) (by decide), ?_⟩
  refine ⟨u 81 (by decide) (by decide), ?_⟩
  refine ⟨u 82 (by decide) (by decide), ?_⟩
  refine ⟨u 83 (by decide) (by decide), ?_⟩
  refine ⟨u 84 (by decide) (by decide), ?_⟩
  refine ⟨u 85 (by decide) (by decide), ?_⟩
  refine ⟨u 86 (by decide) (by decide), ?_⟩
  refine ⟨u 87 (by decide) (by decide), ?_⟩
  refine ⟨u 88 (by decide) (by decide), ?_⟩
  refine ⟨u 89 (by decide) (by decide), ?_⟩
  refine ⟨u 90 (by decide) (by decide), ?_⟩
  refine ⟨u 91 (by decide) (by decide), ?_⟩
  refine ⟨u 92 (by decide) (by decide), ?_⟩
  refine ⟨u 93 (by decide) (by decide), ?_⟩
  refine ⟨u 94 (by decide) (by decide), ?_⟩
  refine ⟨u 95 (by decide) (by decide), ?_⟩
  refine ⟨u 96 (by decide) (by decide), ?_⟩
  refine ⟨u 97 (by decide) (by decide), ?_⟩
  refine ⟨u 98 (by decide) (by decide), ?_⟩
  refine ⟨u 99 (by decide) (by decide), ?_⟩
  refine ⟨u 100 (by decide) (by decide), ?_⟩
  refine ⟨u 101 (by decide) (by decide), ?_⟩
  refine ⟨u 102 (by decide) (by decide), ?_⟩
  refine ⟨u 103 (by decide) (by decide), ?_⟩
  refine ⟨u 104 (by decide) (by decide), ?_⟩
  refine ⟨u 105 (by decide) (by decide), ?_⟩
  refine ⟨u 106 (by decide) (by decide), ?_⟩
  refine ⟨u 107 (by decide) (by decide), ?_⟩
  refine ⟨u 108 (by decide) (by decide), ?_⟩
  refine ⟨u 109 (by decide) (by decide), ?_⟩
  refine ⟨u 110 (by decide) (by decide), ?_⟩
  refine ⟨u 111 (by decide) (by decide), ?_⟩
  refine ⟨u 112 (by decide) (by decide), ?_⟩
  refine ⟨u 113 (by decide) (by decide), ?_⟩
  refine ⟨u 114 (by decide) (by decide), ?_⟩
  refine ⟨u 115 (by decide) (by decide), ?_⟩
  refine ⟨u 116 (by decide) (by decide), ?_⟩
  refine ⟨u 117 (by decide) (by decide), ?_⟩
  refine ⟨u 118 (by decide) (by decide), ?_⟩
  refine ⟨u 119 (by decide) (by decide), ?_⟩
  refine ⟨u 120 (by decide) (by decide), ?_⟩
  refine ⟨u 121 (by decide) (by decide), ?_⟩
  refine ⟨u 122 (by decide) (by decide), ?_⟩
  refine ⟨u 123 (by decide) (by decide), ?_⟩
  refine ⟨u 124 (by decide) (by decide), ?_⟩
  refine ⟨u 125 (by decide) (by decide), ?_⟩
  refine ⟨u 126 (by decide) (by decide), ?_⟩
  refine ⟨b 127 224 (by decide) (by decide +kernel), ?_⟩
  intro n0 n1 n2 n3 n4 n5 n6 n7 n8 n9 n10 n11 n12 n13 n14 n15 n16 n17 n18 n19 n20 n21 n22 n23 n24 n25 n26 n27 n28 n29 n30 n31 n32 n33 n34 n35 n36 n37 n38 n39 n40 n41 n42 n43 n44 n45 n46 n47 n48 n49 n50 n51 n52 n53 n54 n55 n56 n57 n58 n59 n60 n61 n62 n63 n64 n65 n66 n67 n68 n69 n70 n71 n72 n73 n74 n75 n76 n77 n78 n79 n80 n81 n82 n83 n84 n85 n86 n87 n88 n89 n90 n91 n92 n93 n94 n95 n96 n97 n98 n99 n100 n101 n102 n103 n104 n105 n106 n107 n108 n109 n110 n111 n112 n113 n114 n115 n116 n117 n118 n119 n120 n121 n122 n123 n124 n125 n126 n127
  rcases Nat.lt_or_ge c 1 with z | y1
  · exact absurd (congrArg nI (Nat.le_antisymm (Nat.le_of_lt_succ z) (Nat.zero_le _) : c = 0)) n0
  rcases Nat.lt_or_ge c 2 with z | y2
  · exact absurd (congrArg nI (Nat.le_antisymm (Nat.le_of_lt_succ z) y1 : c = 1)) n1
  rcases Nat.lt_or_ge c 3 with z | y3
  · exact absurd (congrArg nI (Nat.le_antisymm (Nat.le_of_lt_succ z) y2 : c = 2)) n2
  rcases Nat.lt_or_ge c 4 with z | y4
  · exact absurd (congrArg nI (Nat.le_antisymm (Nat.le_of_lt_succ z) y3 : c = 3)) n3
  rcases Nat.lt_or_ge c 5 with z | y5
  · exact absurd (congrArg nI (Nat.le_antisymm (Nat.le_of_lt_succ z) y4 : c = 4)) n4
  rcases Nat.lt_or_ge c 6 with z | y6
  · exact absurd (congrArg nI (Nat.le_antisymm (Nat.le_of_lt_succ z) y5 : c = 5)) n5
  rcases Nat.lt_or_ge c 7 with z | y7
  · exact absurd (congrArg nI (Nat.le_antisymm (Nat.le_of_lt_succ z) y6 : c = 6)) n6
  rcases Nat.lt_or_ge c 8 with z | y8
  · exact absurd (congrArg nI (Nat.le_antisymm (Nat.le_of_lt_succ z) y7 : c = 7)) n7
  rcases Nat.lt_or_ge c 9 with z | y9
  · exact absurd (congrArg nI (Nat.le_antisymm (Nat.le_of_lt_succ z) y8 : c = 8)) n8
  rcases Nat.lt_or_ge c 10 with z | y10
  · exact absurd (congrArg nI (Nat.le_antisymm (Nat.le_of_lt_succ z) y9 : c = 9)) n9
  rcases Nat.lt_or_ge c 11 with z | y11
  · exact absurd (congrArg nI (Nat.le_antisymm (Nat.le_of_lt_succ z) y10 : c = 10)) n10
  rcases Nat.lt_or_ge c 12 with z | y12
  · exact absurd (congrArg nI (Nat.le_antisymm (Nat.le_of_lt_succ z) y11 : c = 11)) n11
  rcases Nat.lt_or_ge c 13 with z | y13
  · exact absurd (congrArg nI (Nat.le_antisymm (Nat.le_of_lt_succ z) y12 : c = 12)) n12
  rcases Nat.lt_or_ge c 14 with z | y14
  · exact absurd (congrArg nI (Nat.le_antisymm (Nat.le_of_lt_succ z) y13 : c = 13)) n13
  rcases Nat.lt_or_ge c 15 with z | y15
  · exact absurd (congrArg nI (Nat.le_antisymm (Nat.le_of_lt_succ z) y14 : c = 14)) n14
  rcases Nat.lt_or_ge c 16 with z | y16
  · exact absurd (congrArg nI (Nat.le_antisymm (Nat.le_of_lt_succ z) y15 : c = 15)) n15
  rcases Nat.lt_or_ge c 17 with z | y17
  · exact absurd (congrArg nI (Nat.le_antisymm (Nat.le_of_lt_succ z) y16 : c = 16)) n16
  rcases Nat.lt_or_ge c 18 with z | y18
  · exact absurd (congrArg nI (Nat.le_antisymm (Nat.le_of_lt_succ z) y17 : c = 17)) n17
  rcases Nat.lt_or_ge c 19 with z | y19
  · exact absurd (congrArg nI (Nat.le_antisymm (Nat.le_of_lt_succ z) y18 : c = 18)) n18
  rcases Nat.lt_or_ge c 20 with z | y20
  · exact absurd (congrArg nI (Nat.le_antisymm (Nat.le_of_lt_succ z) y19 : c = 19)) n19
  rcases Nat.lt_or_ge c 21 with z | y21
  · exact absurd (congrArg nI (Nat.le_antisymm (Nat.le_of_lt_succ z) y20 : c = 20)) n20
  rcases Nat.lt_or_ge c 22 with z | y22
  · exact absurd (congrArg nI (Nat.le_antisymm (Nat.le_of_lt_succ z) y21 : c = 21)) n21
  rcases Nat.lt_or_ge c 23 with z | y23
  · exact absurd (congrArg nI (Nat.le_antisymm (Nat.le_of_lt_succ z) y22 : c = 22)) n22
  rcases Nat.lt_or_ge c 24 with z | y24
  · exact absurd (congrArg nI (Nat.le_antisymm (Nat.le_of_lt_succ z) y23 : c = 23)) n23
  rcases Nat.lt_or_ge c 25 with z | y25
  · exact absurd (congrArg nI (Nat.le_antisymm (Nat.le_of_lt_succ z) y24 : c = 24)) n24
  rcases Nat.lt_or_ge c 26 with z | y26
  · exact absurd (congrArg nI (Nat.le_antisymm (Nat.le_of_lt_succ z) y25 : c = 25)) n25
  rcases Nat.lt_or_ge c 27 with z | y27
  · exact absurd (congrArg nI (Nat.le_antisymm (Nat.le_of_lt_succ z) y26 : c = 26)) n26
  rcases Nat.lt_or_ge c 28 with z | y28
  · exact absurd (congrArg nI (Nat.le_antisymm (Nat.le_of_lt_succ z) y27 : c = 27)) n27
  rcases Nat.lt_or_ge c 29 with z | y29
  · exact absurd (congrArg nI (Nat.le_antisymm (Nat.le_of_lt_succ z) y28 : c = 28)) n28
  rcases Nat.lt_or_ge c 30 with z | y30
  · exact absurd (congrArg nI (Nat.le_antisymm (Nat.le_of_lt_succ z) y29 : c = 29)) n29
  rcases Nat.lt_or_ge c 31 with z | y31
  · exact absurd (congrArg nI (Nat.le_antisymm (Nat.le_of_lt_succ z) y30 : c = 30)) n30
  rcases Nat.lt_or_ge c 32 with z | y32
  · exact absurd (congrArg nI (Nat.le_antisymm (Nat.le_of_lt_succ z) y31 : c = 31)) n31
  rcases Nat.lt_or_ge c 33 with z | y33
  · exact absurd (congrArg nI (Nat.le_antisymm (Nat.le_of_lt_succ z) y32 : c = 32)) n32
  rcases Nat.lt_or_ge c 34 with z | y34
  · exact absurd (congrArg nI (Nat.le_antisymm (Nat.le_of_lt_succ z) y33 : c = 33)) n33
  rcases Nat.lt_or_ge c 35 with z | y35
  · exact absurd (congrArg nI (Nat.le_antisymm (Nat.le_of_lt_succ z) y34 : c = 34)) n34
  rcases Nat.lt_or_ge c 36 with z | y36
  · exact absurd (congrArg nI (Nat.le_antisymm (Nat.le_of_lt_succ z) y35 : c = 35)) n35
  rcases Nat.lt_or_ge c 37 with z | y37
  · exact absurd (congrArg nI (Nat.le_antisymm (Nat.le_of_lt_succ z) y36 : c = 36)) n36
  rcases Nat.lt_or_ge c 38 with z | y38
  · exact absurd (congrArg nI (Nat.le_antisymm (Nat.le_of_lt_succ z) y37 : c = 37)) n37
  rcases Nat.lt_or_ge c 39 with z | y39
  · exact absurd (congrArg nI (Nat.le_antisymm (Nat.le_of_lt_succ z) y38 : c = 38)) n38
  rcases Nat.lt_or_ge c 40 with z | y40
  · exact absurd (congrArg nI (Nat.le_antisymm (Nat.le_of_lt_succ z) y39 : c = 39)) n39
  rcases Nat.lt_or_ge c 41 with z | y41
  · exact absurd (congrArg nI (Nat.le_antisymm (Nat.le_of_lt_succ z) y40 : c = 40)) n40
  rcases Nat.lt_or_ge c 42 with z | y42
  · exact absurd (congrArg nI (Nat.le_antisymm (Nat.le_of_lt_succ z) y41 : c = 41)) n41
  rcases Nat.lt_or_ge c 43 with z | y43
  · exact absurd (congrArg nI (Nat.le_antisymm (Nat.le_of_lt_succ z) y42 : c = 42)) n42
  rcases Nat.lt_or_ge c 44 with z | y44
  · exact absurd (congrArg nI (Nat.le_antisymm (Nat.le_of_lt_succ z) y43 : c = 43)) n43
  rcases Nat.lt_or_ge c 45 with z | y45
  · exact absurd (congrArg nI (Nat.le_antisymm (Nat.le_of_lt_succ z) y44 : c = 44)) n44
  rcases Nat.lt_or_ge c 46 with z | y46
  · exact absurd (congrArg nI (Nat.le_antisymm (Nat.le_of_lt_succ z) y45 : c = 45)) n45
  rcases Nat.lt_or_ge c 47 with z | y47
  · exact absurd (congrArg nI (Nat.le_antisymm (Nat.le_of_lt_succ z) y46 : c = 46)) n46
  rcases Nat.lt_or_ge c 48 with z | y48
  · exact absurd (congrArg nI (Nat.le_antisymm (Nat.le_of_lt_succ z) y47 : c = 47)) n47
  rcases Nat.lt_or_ge c 49 with z | y49
  · exact absurd (congrArg nI (Nat.le_antisymm (Nat.le_of_lt_succ z) y48 : c = 48)) n48
  rcases Nat.lt_or_ge c 50 with z | y50
  · exact absurd (congrArg nI (Nat.le_antisymm (Nat.le_of_lt_succ z) y49 : c = 49)) n49
  rcases Nat.lt_or_ge c 51 with z | y51
  · exact absurd (congrArg nI (Nat.le_antisymm (Nat.le_of_lt_succ z) y50 : c = 50)) n50
  rcases Nat.lt_or_ge c 52 with z | y52
  · exact absurd (congrArg nI (Nat.le_antisymm (Nat.le_of_lt_succ z) y51 : c = 51)) n51
  rcases Nat.lt_or_ge c 53 with z | y53
  · exact absurd (congrArg nI (Nat.le_antisymm (Nat.le_of_lt_succ z) y52 : c = 52)) n52
  rcases Nat.lt_or_ge c 54 with z | y54
  · exact absurd (congrArg nI (Nat.le_antisymm (Nat.le_of_lt_succ z) y53 : c = 53)) n53
  rcases Nat.lt_or_ge c 55 with z | y55
  · exact absurd (congrArg nI (Nat.le_antisymm (Nat.le_of_lt_succ z) y54 : c = 54)) n54
  rcases Nat.lt_or_ge c 56 with z | y56
  · exact absurd (congrArg nI (Nat.le_antisymm (Nat.le_of_lt_succ z) y55 : c = 55)) n55
  rcases Nat.lt_or_ge c 57 with z | y57
  · exact absurd (congrArg nI (Nat.le_antisymm (Nat.le_of_lt_succ z) y56 : c = 56)) n56
  rcases Nat.lt_or_ge c 58 with z | y58
  · exact absurd (congrArg nI (Nat.le_antisymm (Nat.le_of_lt_succ z) y57 : c = 57)) n57
  rcases Nat.lt_or_ge c 59 with z | y59
  · exact absurd (congrArg nI (Nat.le_antisymm (Nat.le_of_lt_succ z) y58 : c = 58)) n58
  rcases Nat.lt_or_ge c 60 with z | y60
  · exact absurd (congrArg nI (Nat.le_antisymm (Nat.le_of_lt_succ z) y59 : c = 59)) n59
  rcases Nat.lt_or_ge c 61 with z | y61
  · exact absurd (congrArg nI (Nat.le_antisymm (Nat.le_of_lt_succ z) y60 : c = 60)) n60
  rcases Nat.lt_or_ge c 62 with z | y62
  · exact absurd (congrArg nI (Nat.le_antisymm (Nat.le_of_lt_succ z) y61 : c = 61)) n61
  rcases Nat.lt_or_ge c 63 with z | y63
  · exact absurd (congrArg nI (Nat.le_antisymm (Nat.le_of_lt_succ z) y62 : c = 62)) n62
  rcases Nat.lt_or_ge c 64 with z | y64
  · exact absurd (congrArg nI (Nat.le_antisymm (Nat.le_of_lt_succ z) y63 : c = 63)) n63
  rcases Nat.lt_or_ge c 65 with z | y65
  · exact absurd (congrArg nI (Nat.le_antisymm (Nat.le_of_lt_succ z) y64 : c = 64)) n64
  rcases Nat.lt_or_ge c 66 with z | y66
  · exact absurd (congrArg nI (Nat.le_antisymm (Nat.le_of_lt_succ z) y65 : c = 65)) n65
  rcases Nat.lt_or_ge c 67 with z | y67
  · exact absurd (congrArg nI (Nat.le_antisymm (Nat.le_of_lt_succ z) y66 : c = 66)) n66
  rcases Nat.lt_or_ge c 68 with z | y68
  · exact absurd (congrArg nI (Nat.le_antisymm (Nat.le_of_lt_succ z) y67 : c = 67)) n67
  rcases Nat.lt_or_ge c 69 with z | y69
  · exact absurd (congrArg nI (Nat.le_antisymm (Nat.le_of_lt_succ z) y68 : c = 68)) n68
  rcases Nat.lt_or_ge c 70 with z | y70
  · exact absurd (congrArg nI (Nat.le_antisymm (Nat.le_of_lt_succ z) y69 : c = 69)) n69
  rcases Nat.lt_or_ge c 71 with z | y71
  · exact absurd (congrArg nI (Nat.le_antisymm (Nat.le_of_lt_succ z) y70 : c = 70)) n70
  rcases Nat.lt_or_ge c 72 with z | y72
  · exact absurd (congrArg nI (Nat.le_antisymm (Nat.le_of_lt_succ z) y71 : c = 71)) n71
  rcases Nat.lt_or_ge c 73 with z | y73
  · exact absurd (congrArg nI (Nat.le_antisymm (Nat.le_of_lt_succ z) y72 : c = 72)) n72
  rcases Nat.lt_or_ge c 74 with z | y74
  · exact absurd (congrArg nI (Nat.le_antisymm (Nat.le_of_lt_succ z) y73 : c = 73)) n73
  rcases Nat.lt_or_ge c 75 with z | y75
  · exact absurd (congrArg nI (Nat.le_antisymm (Nat.le_of_lt_succ z) y74 : c = 74)) n74
  rcases Nat.lt_or_ge c 76 with z | y76
  · exact absurd (congrArg nI (Nat.le_antisymm (Nat.le_of_lt_succ z) y75 : c = 75)) n75
  rcases Nat.lt_or_ge c 77 with z | y77
  · exact absurd (congrArg nI (Nat.le_antisymm (Nat.le_of_lt_succ z) y76 : c = 76)) n76
  rcases Nat.lt_or_ge c 78 with z | y78
  · exact absurd (congrArg nI (Nat.le_antisymm (Nat.le_of_lt_succ z) y77 : c = 77)) n77
  rcases Nat.lt_or_ge c 79 with z | y79
  · exact absurd (congrArg nI (Nat.le_antisymm (Nat.le_of_lt_succ z) y78 : c = 78)) n78
  rcases Nat.lt_or_ge c 80 with z | y80
  · exact absurd (congrArg nI (Nat.le_antisymm (Nat.le_of_lt_succ z) y79 : c = 79)) n79
  rcases Nat.lt_or_ge c 81 with z | y81
  · exact absurd (congrArg nI (Nat.le_antisymm (Nat.le_of_lt_succ z) y80 : c = 80)) n80
  rcases Nat.lt_or_ge c 82 with z | y82
  · exact absurd (congrArg nI (Nat.le_antisymm (Nat.le_of_lt_succ z) y81 : c = 81)) n81
  rcases Nat.lt_or_ge c 83 with z | y83
  · exact absurd (congrArg nI (Nat.le_antisymm (Nat.le_of_lt_succ z) y82 : c = 82)) n82
  rcases Nat.lt_or_ge c 84 with z | y84
  · exact absurd (congrArg nI (Nat.le_antisymm (Nat.le_of_lt_succ z) y83 : c = 83)) n83
  rcases Nat.lt_or_ge c 85 with z | y85
  · exact absurd (congrArg nI (Nat.le_antisymm (Nat.le_of_lt_succ z) y84 : c = 84)) n84
  rcases Nat.lt_or_ge c 86 with z | y86
  · exact absurd (congrArg nI (Nat.le_antisymm (Nat.le_of_lt_succ z) y85 : c = 85)) n85
  rcases Nat.lt_or_ge c 87 with z | y87
  · exact absurd (congrArg nI (Nat.le_antisymm (Nat.le_of_lt_succ z) y86 : c = 86)) n86
  rcases Nat.lt_or_ge c 88 with z | y88
  · exact absurd (congrArg nI (Nat.le_antisymm (Nat.le_of_lt_succ z) y87 : c = 87)) n87
  rcases Nat.lt_or_ge c 89 with z | y89
  · exact absurd (congrArg nI (Nat.le_antisymm (Nat.le_of_lt_succ z) y88 : c = 88)) n88
  rcases Nat.lt_or_ge c 90 with z | y90
  · exact absurd (congrArg nI (Nat.le_antisymm (Nat.le_of_lt_succ z) y89 : c = 89)) n89
  rcases Nat.lt_or_ge c 91 with z | y91
  · exact absurd (congrArg nI (Nat.le_antisymm (Nat.le_of_lt_succ z) y90 : c = 90)) n90
  rcases Nat.lt_or_ge c 92 with z | y92
  · exact absurd (congrArg nI (Nat.le_antisymm (Nat.le_of_lt_succ z) y91 : c = 91)) n91
  rcases Nat.lt_or_ge c 93 with z | y93
  · exact absurd (congrArg nI (Nat.le_antisymm (Nat.le_of_lt_succ z) y92 : c = 92)) n92
  rcases Nat.lt_or_ge c 94 with z | y94
  · exact absurd (congrArg nI (Nat.le_antisymm (Nat.le_of_lt_succ z) y93 : c = 93)) n93
  rcases Nat.lt_or_ge c 95 with z | y95
  · exact absurd (congrArg nI (Nat.le_antisymm (Nat.le_of_lt_succ z) y94 : c = 94)) n94
  rcases Nat.lt_or_ge c 96 with z | y96
  · exact absurd (congrArg nI (Nat.le_antisymm (Nat.le_of_lt_succ z) y95 : c = 95)) n95
  rcases Nat.lt_or_ge c 97 with z | y97
  · exact absurd (congrArg nI (Nat.le_antisymm (Nat.le_of_lt_succ z) y96 : c = 96)) n96
  rcases Nat.lt_or_ge c 98 with z | y98
  · exact absurd (congrArg nI (Nat.le_antisymm (Nat.le_of_lt_succ z) y97 : c = 97)) n97
  rcases Nat.lt_or_ge c 99 with z | y99
  · exact absurd (congrArg nI (Nat.le_antisymm (Nat.le_of_lt_succ z) y98 : c = 98)) n98
  rcases Nat.lt_or_ge c 100 with z | y100
  · exact absurd (congrArg nI (Nat.le_antisymm (Nat.le_of_lt_succ z) y99 : c = 99)) n99
  rcases Nat.lt_or_ge c 101 with z | y101
  · exact absurd (congrArg nI (Nat.le_antisymm (Nat.le_of_lt_succ z) y100 : c = 100)) n100
  rcases Nat.lt_or_ge c 102 with z | y102
  · exact absurd (congrArg nI (Nat.le_antisymm (Nat.le_of_lt_succ z) y101 : c = 101)) n101
  rcases Nat.lt_or_ge c 103 with z | y103
  · exact absurd (congrArg nI (Nat.le_antisymm (Nat.le_of_lt_succ z) y102 : c = 102)) n102
  rcases Nat.lt_or_ge c 104 with z | y104
  · exact absurd (congrArg nI (Nat.le_antisymm (Nat.le_of_lt_succ z) y103 : c = 103)) n103
  rcases Nat.lt_or_ge c 105 with z | y105
  · exact absurd (congrArg nI (Nat.le_antisymm (Nat.le_of_lt_succ z) y104 : c = 104)) n104
  rcases Nat.lt_or_ge c 106 with z | y106
  · exact absurd (congrArg nI (Nat.le_antisymm (Nat.le_of_lt_succ z) y105 : c = 105)) n105
  rcases Nat.lt_or_ge c 107 with z | y107
  · exact absurd (congrArg nI (Nat.le_antisymm (Nat.le_of_lt_succ z) y106 : c = 106)) n106
  rcases Nat.lt_or_ge c 108 with z | y108
  · exact absurd (congrArg nI (Nat.le_antisymm (Nat.le_of_lt_succ z) y107 : c = 107)) n107
  rcases Nat.lt_or_ge c 109 with z | y109
  · exact absurd (congrArg nI (Nat.le_antisymm (Nat.le_of_lt_succ z) y108 : c = 108)) n108
  rcases Nat.lt_or_ge c 110 with z | y110
  · exact absurd (congrArg nI (Nat.le_antisymm (Nat.le_of_lt_succ z) y109 : c = 109)) n109
  rcases Nat.lt_or_ge c 111 with z | y111
  · exact absurd (congrArg nI (Nat.le_antisymm (Nat.le_of_lt_succ z) y110 : c = 110)) n110
  rcases Nat.lt_or_ge c 112 with z | y112
  · exact absurd (congrArg nI (Nat.le_antisymm (Nat.le_of_lt_succ z) y111 : c = 111)) n111
  rcases Nat.lt_or_ge c 113 with z | y113
  · exact absurd (congrArg nI (Nat.le_antisymm (Nat.le_of_lt_succ z) y112 : c = 112)) n112
  rcases Nat.lt_or_ge c 114 with z | y114
  · exact absurd (congrArg nI (Nat.le_antisymm (Nat.le_of_lt_succ z) y113 : c = 113)) n113
  rcases Nat.lt_or_ge c 115 with z | y115
  · exact absurd (congrArg nI (Nat.le_antisymm (Nat.le_of_lt_succ z) y114 : c = 114)) n114
  rcases Nat.lt_or_ge c 116 with z | y116
  · exact absurd (congrArg nI (Nat.le_antisymm (Nat.le_of_lt_succ z) y115 : c = 115)) n115
  rcases Nat.lt_or_ge c 117 with z | y117
  · exact absurd (congrArg nI (Nat.le_antisymm (Nat.le_of_lt_succ z) y116 : c = 116)) n116
  rcases Nat.lt_or_ge c 118 with z | y118
  · exact absurd (congrArg nI (Nat.le_antisymm (Nat.le_of_lt_succ z) y117 : c = 117)) n117
  rcases Nat.lt_or_ge c 119 with z | y119
  · exact absurd (congrArg nI (Nat.le_antisymm (Nat.le_of_lt_succ z) y118 : c = 118)) n118
  rcases Nat.lt_or_ge c 120 with z | y120
  · exact absurd (congrArg nI (Nat.le_antisymm (Nat.le_of_lt_succ z) y119 : c = 119)) n119
  rcases Nat.lt_or_ge c 121 with z | y121
  · exact absurd (congrArg nI (Nat.le_antisymm (Nat.le_of_lt_succ z) y120 : c = 120)) n120
  rcases Nat.lt_or_ge c 122 with z | y122
  · exact absurd (congrArg nI (Nat.le_antisymm (Nat.le_of_lt_succ z) y121 : c = 121)) n121
  rcases Nat.lt_or_ge c 123 with z | y123
  · exact absurd (congrArg nI (Nat.le_antisymm (Nat.le_of_lt_succ z) y122 : c = 122)) n122
  rcases Nat.lt_or_ge c 124 with z | y124
  · exact absurd (congrArg nI (Nat.le_antisymm (Nat.le_of_lt_succ z) y123 : c = 123)) n123
  rcases Nat.lt_or_ge c 125 with z | y125
  · exact absurd (congrArg nI (Nat.le_antisymm (Nat.le_of_lt_succ z) y124 : c = 124)) n124
  rcases Nat.lt_or_ge c 126 with z | y126
  · exact absurd (congrArg nI (Nat.le_antisymm (Nat.le_of_lt_succ z) y125 : c = 125)) n125
  rcases Nat.lt_or_ge c 127 with z | y127
  · exact absurd (congrArg nI (Nat.le_antisymm (Nat.le_of_lt_succ z) y126 : c = 126)) n126
  rcases Nat.lt_or_ge c 128 with z | y128
  · exact absurd (congrArg nI (Nat.le_antisymm (Nat.le_of_lt_succ z) y127 : c = 127)) n127
  exact absurd hc (Nat.not_lt.mpr y128)
end MPL
