/-! the tables are the class files' code, by computing: methods 0 to 26 -/
set_option maxRecDepth 100000 in
theorem okY_0 : [0, 1, 2].all okY = true := by decide +kernel
set_option maxRecDepth 100000 in
theorem roY3_0 : [0, 1, 2, 3].all (rowY 3) = true := by decide +kernel
set_option maxRecDepth 100000 in
theorem roY3_4 : [4, 5, 6, 7].all (rowY 3) = true := by decide +kernel
set_option maxRecDepth 100000 in
theorem roY3_8 : [8, 9, 10].all (rowY 3) = true := by decide +kernel
theorem roAY3 : ∀ j, j < 11 → (rowY 3) j = true := by
  have h0 : ∀ j, j < 0 → (rowY 3) j = true := fun j h => absurd h (Nat.not_lt_zero j)
  have h4 := rowS (k := 4) h0 rfl roY3_0
  have h8 := rowS (k := 4) h4 rfl roY3_4
  have h11 := rowS (k := 3) h8 rfl roY3_8
  exact h11
set_option maxRecDepth 100000 in
theorem okYq_3 : okYr 3 = true ∧ (tbm 3).1.length = 11 := by decide +kernel
theorem okYs_3 : okY 3 = true := okY_rows okYq_3.1 okYq_3.2 roAY3
set_option maxRecDepth 100000 in
theorem okYs_4 : okY 4 = true := by decide +kernel
set_option maxRecDepth 100000 in
theorem okYs_5 : okY 5 = true := by decide +kernel
theorem okY_1 : [3, 4, 5].all okY = true := by
  simp only [List.all_cons, List.all_nil, Bool.and_true, okYs_3, okYs_4, okYs_5]
set_option maxRecDepth 100000 in
theorem roY6_0 : [0, 1, 2, 3].all (rowY 6) = true := by decide +kernel
set_option maxRecDepth 100000 in
theorem roY6_4 : [4, 5, 6, 7].all (rowY 6) = true := by decide +kernel
set_option maxRecDepth 100000 in
theorem roY6_8 : [8, 9, 10].all (rowY 6) = true := by decide +kernel
theorem roAY6 : ∀ j, j < 11 → (rowY 6) j = true := by
  have h0 : ∀ j, j < 0 → (rowY 6) j = true := fun j h => absurd h (Nat.not_lt_zero j)
  have h4 := rowS (k := 4) h0 rfl roY6_0
  have h8 := rowS (k := 4) h4 rfl roY6_4
  have h11 := rowS (k := 3) h8 rfl roY6_8
  exact h11
set_option maxRecDepth 100000 in
theorem okYq_6 : okYr 6 = true ∧ (tbm 6).1.length = 11 := by decide +kernel
theorem okYs_6 : okY 6 = true := okY_rows okYq_6.1 okYq_6.2 roAY6
set_option maxRecDepth 100000 in
theorem okYs_7 : okY 7 = true := by decide +kernel
set_option maxRecDepth 100000 in
theorem okYs_8 : okY 8 = true := by decide +kernel
theorem okY_2 : [6, 7, 8].all okY = true := by
  simp only [List.all_cons, List.all_nil, Bool.and_true, okYs_6, okYs_7, okYs_8]
set_option maxRecDepth 100000 in
theorem okY_3 : [9, 10, 11].all okY = true := by decide +kernel
set_option maxRecDepth 100000 in
theorem okY_4 : [12, 13, 14].all okY = true := by decide +kernel
set_option maxRecDepth 100000 in
theorem okY_5 : [15, 16, 17].all okY = true := by decide +kernel
set_option maxRecDepth 100000 in
theorem okYs_18 : okY 18 = true := by decide +kernel
set_option maxRecDepth 100000 in
theorem roY19_0 : [0, 1, 2, 3].all (rowY 19) = true := by decide +kernel
set_option maxRecDepth 100000 in
theorem roY19_4 : [4, 5, 6, 7].all (rowY 19) = true := by decide +kernel
set_option maxRecDepth 100000 in
theorem roY19_8 : [8, 9, 10, 11].all (rowY 19) = true := by decide +kernel
set_option maxRecDepth 100000 in
theorem roY19_12 : [12].all (rowY 19) = true := by decide +kernel
theorem roAY19 : ∀ j, j < 13 → (rowY 19) j = true := by
  have h0 : ∀ j, j < 0 → (rowY 19) j = true := fun j h => absurd h (Nat.not_lt_zero j)
  have h4 := rowS (k := 4) h0 rfl roY19_0
  have h8 := rowS (k := 4) h4 rfl roY19_4
  have h12 := rowS (k := 4) h8 rfl roY19_8
  have h13 := rowS (k := 1) h12 rfl roY19_12
  exact h13
set_option maxRecDepth 100000 in
theorem okYq_19 : okYr 19 = true ∧ (tbm 19).1.length = 13 := by decide +kernel
theorem okYs_19 : okY 19 = true := okY_rows okYq_19.1 okYq_19.2 roAY19
set_option maxRecDepth 100000 in
theorem okYs_20 : okY 20 = true := by decide +kernel
theorem okY_6 : [18, 19, 20].all okY = true := by
  simp only [List.all_cons, List.all_nil, Bool.and_true, okYs_18, okYs_19, okYs_20]
set_option maxRecDepth 100000 in
theorem okY_7 : [21, 22, 23].all okY = true := by decide +kernel
set_option maxRecDepth 100000 in
theorem okY_8 : [24, 25, 26].all okY = true := by decide +kernel
