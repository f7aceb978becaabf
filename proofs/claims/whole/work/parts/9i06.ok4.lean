/-! the tables are the class files' code, by computing: methods 108 to 134 -/
set_option maxRecDepth 100000 in
theorem okY_36 : [108, 109, 110].all okY = true := by decide +kernel
set_option maxRecDepth 100000 in
theorem okY_37 : [111, 112, 113].all okY = true := by decide +kernel
set_option maxRecDepth 100000 in
theorem okY_38 : [114, 115, 116].all okY = true := by decide +kernel
set_option maxRecDepth 100000 in
theorem okY_39 : [117, 118, 119].all okY = true := by decide +kernel
set_option maxRecDepth 100000 in
theorem okY_40 : [120, 121, 122].all okY = true := by decide +kernel
set_option maxRecDepth 100000 in
theorem okY_41 : [123, 124, 125].all okY = true := by decide +kernel
set_option maxRecDepth 100000 in
theorem okY_42 : [126, 127, 128].all okY = true := by decide +kernel
set_option maxRecDepth 100000 in
theorem okY_43 : [129, 130, 131].all okY = true := by decide +kernel
set_option maxRecDepth 100000 in
theorem roY132_0 : [0, 1, 2, 3].all (rowY 132) = true := by decide +kernel
set_option maxRecDepth 100000 in
theorem roY132_4 : [4, 5, 6, 7].all (rowY 132) = true := by decide +kernel
set_option maxRecDepth 100000 in
theorem roY132_8 : [8, 9, 10, 11].all (rowY 132) = true := by decide +kernel
set_option maxRecDepth 100000 in
theorem roY132_12 : [12, 13, 14].all (rowY 132) = true := by decide +kernel
theorem roAY132 : ∀ j, j < 15 → (rowY 132) j = true := by
  have h0 : ∀ j, j < 0 → (rowY 132) j = true := fun j h => absurd h (Nat.not_lt_zero j)
  have h4 := rowS (k := 4) h0 rfl roY132_0
  have h8 := rowS (k := 4) h4 rfl roY132_4
  have h12 := rowS (k := 4) h8 rfl roY132_8
  have h15 := rowS (k := 3) h12 rfl roY132_12
  exact h15
set_option maxRecDepth 100000 in
theorem okYq_132 : okYr 132 = true ∧ (tbm 132).1.length = 15 := by decide +kernel
theorem okYs_132 : okY 132 = true := okY_rows okYq_132.1 okYq_132.2 roAY132
set_option maxRecDepth 100000 in
theorem okYs_133 : okY 133 = true := by decide +kernel
set_option maxRecDepth 100000 in
theorem okYs_134 : okY 134 = true := by decide +kernel
theorem okY_44 : [132, 133, 134].all okY = true := by
  simp only [List.all_cons, List.all_nil, Bool.and_true, okYs_132, okYs_133, okYs_134]
