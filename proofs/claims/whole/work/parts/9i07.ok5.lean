/-! the tables are the class files' code, by computing: methods 135 to 161 -/
set_option maxRecDepth 100000 in
theorem okY_45 : [135, 136, 137].all okY = true := by decide +kernel
set_option maxRecDepth 100000 in
theorem okY_46 : [138, 139, 140].all okY = true := by decide +kernel
set_option maxRecDepth 100000 in
theorem okY_47 : [141, 142, 143].all okY = true := by decide +kernel
set_option maxRecDepth 100000 in
theorem roY144_0 : [0, 1, 2, 3].all (rowY 144) = true := by decide +kernel
set_option maxRecDepth 100000 in
theorem roY144_4 : [4, 5, 6, 7].all (rowY 144) = true := by decide +kernel
set_option maxRecDepth 100000 in
theorem roY144_8 : [8, 9, 10, 11].all (rowY 144) = true := by decide +kernel
set_option maxRecDepth 100000 in
theorem roY144_12 : [12, 13, 14, 15].all (rowY 144) = true := by decide +kernel
set_option maxRecDepth 100000 in
theorem roY144_16 : [16, 17, 18, 19].all (rowY 144) = true := by decide +kernel
set_option maxRecDepth 100000 in
theorem roY144_20 : [20, 21, 22, 23].all (rowY 144) = true := by decide +kernel
set_option maxRecDepth 100000 in
theorem roY144_24 : [24, 25, 26, 27].all (rowY 144) = true := by decide +kernel
set_option maxRecDepth 100000 in
theorem roY144_28 : [28, 29, 30, 31].all (rowY 144) = true := by decide +kernel
set_option maxRecDepth 100000 in
theorem roY144_32 : [32, 33].all (rowY 144) = true := by decide +kernel
theorem roAY144 : ∀ j, j < 34 → (rowY 144) j = true := by
  have h0 : ∀ j, j < 0 → (rowY 144) j = true := fun j h => absurd h (Nat.not_lt_zero j)
  have h4 := rowS (k := 4) h0 rfl roY144_0
  have h8 := rowS (k := 4) h4 rfl roY144_4
  have h12 := rowS (k := 4) h8 rfl roY144_8
  have h16 := rowS (k := 4) h12 rfl roY144_12
  have h20 := rowS (k := 4) h16 rfl roY144_16
  have h24 := rowS (k := 4) h20 rfl roY144_20
  have h28 := rowS (k := 4) h24 rfl roY144_24
  have h32 := rowS (k := 4) h28 rfl roY144_28
  have h34 := rowS (k := 2) h32 rfl roY144_32
  exact h34
set_option maxRecDepth 100000 in
theorem okYq_144 : okYr 144 = true ∧ (tbm 144).1.length = 34 := by decide +kernel
theorem okYs_144 : okY 144 = true := okY_rows okYq_144.1 okYq_144.2 roAY144
set_option maxRecDepth 100000 in
theorem okYs_145 : okY 145 = true := by decide +kernel
set_option maxRecDepth 100000 in
theorem okYs_146 : okY 146 = true := by decide +kernel
theorem okY_48 : [144, 145, 146].all okY = true := by
  simp only [List.all_cons, List.all_nil, Bool.and_true, okYs_144, okYs_145, okYs_146]
set_option maxRecDepth 100000 in
theorem okY_49 : [147, 148, 149].all okY = true := by decide +kernel
set_option maxRecDepth 100000 in
theorem okY_50 : [150, 151, 152].all okY = true := by decide +kernel
set_option maxRecDepth 100000 in
theorem okY_51 : [153, 154, 155].all okY = true := by decide +kernel
set_option maxRecDepth 100000 in
theorem roY156_0 : [0, 1, 2, 3].all (rowY 156) = true := by decide +kernel
set_option maxRecDepth 100000 in
theorem roY156_4 : [4, 5, 6, 7].all (rowY 156) = true := by decide +kernel
set_option maxRecDepth 100000 in
theorem roY156_8 : [8, 9].all (rowY 156) = true := by decide +kernel
theorem roAY156 : ∀ j, j < 10 → (rowY 156) j = true := by
  have h0 : ∀ j, j < 0 → (rowY 156) j = true := fun j h => absurd h (Nat.not_lt_zero j)
  have h4 := rowS (k := 4) h0 rfl roY156_0
  have h8 := rowS (k := 4) h4 rfl roY156_4
  have h10 := rowS (k := 2) h8 rfl roY156_8
  exact h10
set_option maxRecDepth 100000 in
theorem okYq_156 : okYr 156 = true ∧ (tbm 156).1.length = 10 := by decide +kernel
theorem okYs_156 : okY 156 = true := okY_rows okYq_156.1 okYq_156.2 roAY156
set_option maxRecDepth 100000 in
theorem roY157_0 : [0, 1, 2, 3].all (rowY 157) = true := by decide +kernel
set_option maxRecDepth 100000 in
theorem roY157_4 : [4, 5, 6, 7].all (rowY 157) = true := by decide +kernel
set_option maxRecDepth 100000 in
theorem roY157_8 : [8, 9, 10].all (rowY 157) = true := by decide +kernel
theorem roAY157 : ∀ j, j < 11 → (rowY 157) j = true := by
  have h0 : ∀ j, j < 0 → (rowY 157) j = true := fun j h => absurd h (Nat.not_lt_zero j)
  have h4 := rowS (k := 4) h0 rfl roY157_0
  have h8 := rowS (k := 4) h4 rfl roY157_4
  have h11 := rowS (k := 3) h8 rfl roY157_8
  exact h11
set_option maxRecDepth 100000 in
theorem okYq_157 : okYr 157 = true ∧ (tbm 157).1.length = 11 := by decide +kernel
theorem okYs_157 : okY 157 = true := okY_rows okYq_157.1 okYq_157.2 roAY157
set_option maxRecDepth 100000 in
theorem okYs_158 : okY 158 = true := by decide +kernel
theorem okY_52 : [156, 157, 158].all okY = true := by
  simp only [List.all_cons, List.all_nil, Bool.and_true, okYs_156, okYs_157, okYs_158]
set_option maxRecDepth 100000 in
theorem okY_53 : [159, 160, 161].all okY = true := by decide +kernel
