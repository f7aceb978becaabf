/-! x -/
set_option maxRecDepth 100000 in
theorem roY144_0 : [0, 1, 2, 3].all (rowY 144) = true := by decide +kernel
set_option maxRecDepth 100000 in
theorem roY144_4 : [4, 5, 6, 7].all (rowY 144) = true := by decide +kernel
set_option maxRecDepth 100000 in
theorem roY144_8 : [8, 9, 10, 11].all (rowY 144) = true := by decide +kernel
set_option maxRecDepth 100000 in
theorem roY144_12 : [12, 13, 14, 15].all (rowY 144) = true := by decide +kernel
set_option maxRecDepth 100000 in
theorem roY144_16 : [16, 17, 18, 19].all (rowY 144) = true := by decide +kernel
set_option maxRecDepth 100000 in
theorem roY144_20 : [20, 21, 22, 23].all (rowY 144) = true := by decide +kernel
set_option maxRecDepth 100000 in
theorem roY144_24 : [24, 25, 26, 27].all (rowY 144) = true := by decide +kernel
set_option maxRecDepth 100000 in
theorem roY144_28 : [28, 29, 30, 31].all (rowY 144) = true := by decide +kernel
set_option maxRecDepth 100000 in
theorem roY144_32 : [32, 33].all (rowY 144) = true := by decide +kernel
theorem roAY144 : ∀ j, j < 34 → (rowY 144) j = true := by
  have h0 : ∀ j, j < 0 → (rowY 144) j = true := fun j h => absurd h (Nat.not_lt_zero j)
  have h4 := rowS (k := 4) h0 rfl roY144_0
  have h8 := rowS (k := 4) h4 rfl roY144_4
  have h12 := rowS (k := 4) h8 rfl roY144_8
  have h16 := rowS (k := 4) h12 rfl roY144_12
  have h20 := rowS (k := 4) h16 rfl roY144_16
  have h24 := rowS (k := 4) h20 rfl roY144_20
  have h28 := rowS (k := 4) h24 rfl roY144_24
  have h32 := rowS (k := 4) h28 rfl roY144_28
  have h34 := rowS (k := 2) h32 rfl roY144_32
  exact h34
set_option maxRecDepth 100000 in
theorem okYq_144 : okYr 144 = true ∧ (tbm 144).1.length = 34 := by decide +kernel
theorem okYs_144 : okY 144 = true := okY_rows okYq_144.1 okYq_144.2 roAY144
