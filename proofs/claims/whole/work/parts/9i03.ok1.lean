/-! the tables are the class files' code, by computing: methods 27 to 53 -/
set_option maxRecDepth 100000 in
theorem okY_9 : [27, 28, 29].all okY = true := by decide +kernel
set_option maxRecDepth 100000 in
theorem roY30_0 : [0, 1, 2, 3].all (rowY 30) = true := by decide +kernel
set_option maxRecDepth 100000 in
theorem roY30_4 : [4, 5, 6, 7].all (rowY 30) = true := by decide +kernel
set_option maxRecDepth 100000 in
theorem roY30_8 : [8, 9, 10, 11].all (rowY 30) = true := by decide +kernel
set_option maxRecDepth 100000 in
theorem roY30_12 : [12].all (rowY 30) = true := by decide +kernel
theorem roAY30 : ∀ j, j < 13 → (rowY 30) j = true := by
  have h0 : ∀ j, j < 0 → (rowY 30) j = true := fun j h => absurd h (Nat.not_lt_zero j)
  have h4 := rowS (k := 4) h0 rfl roY30_0
  have h8 := rowS (k := 4) h4 rfl roY30_4
  have h12 := rowS (k := 4) h8 rfl roY30_8
  have h13 := rowS (k := 1) h12 rfl roY30_12
  exact h13
set_option maxRecDepth 100000 in
theorem okYq_30 : okYr 30 = true ∧ (tbm 30).1.length = 13 := by decide +kernel
theorem okYs_30 : okY 30 = true := okY_rows okYq_30.1 okYq_30.2 roAY30
set_option maxRecDepth 100000 in
theorem okYs_31 : okY 31 = true := by decide +kernel
set_option maxRecDepth 100000 in
theorem okYs_32 : okY 32 = true := by decide +kernel
theorem okY_10 : [30, 31, 32].all okY = true := by
  simp only [List.all_cons, List.all_nil, Bool.and_true, okYs_30, okYs_31, okYs_32]
set_option maxRecDepth 100000 in
theorem roY33_0 : [0, 1, 2, 3].all (rowY 33) = true := by decide +kernel
set_option maxRecDepth 100000 in
theorem roY33_4 : [4, 5, 6, 7].all (rowY 33) = true := by decide +kernel
set_option maxRecDepth 100000 in
theorem roY33_8 : [8, 9].all (rowY 33) = true := by decide +kernel
theorem roAY33 : ∀ j, j < 10 → (rowY 33) j = true := by
  have h0 : ∀ j, j < 0 → (rowY 33) j = true := fun j h => absurd h (Nat.not_lt_zero j)
  have h4 := rowS (k := 4) h0 rfl roY33_0
  have h8 := rowS (k := 4) h4 rfl roY33_4
  have h10 := rowS (k := 2) h8 rfl roY33_8
  exact h10
set_option maxRecDepth 100000 in
theorem okYq_33 : okYr 33 = true ∧ (tbm 33).1.length = 10 := by decide +kernel
theorem okYs_33 : okY 33 = true := okY_rows okYq_33.1 okYq_33.2 roAY33
set_option maxRecDepth 100000 in
theorem okYs_34 : okY 34 = true := by decide +kernel
set_option maxRecDepth 100000 in
theorem okYs_35 : okY 35 = true := by decide +kernel
theorem okY_11 : [33, 34, 35].all okY = true := by
  simp only [List.all_cons, List.all_nil, Bool.and_true, okYs_33, okYs_34, okYs_35]
set_option maxRecDepth 100000 in
theorem okY_12 : [36, 37, 38].all okY = true := by decide +kernel
set_option maxRecDepth 100000 in
theorem okY_13 : [39, 40, 41].all okY = true := by decide +kernel
set_option maxRecDepth 100000 in
theorem okY_14 : [42, 43, 44].all okY = true := by decide +kernel
set_option maxRecDepth 100000 in
theorem okY_15 : [45, 46, 47].all okY = true := by decide +kernel
set_option maxRecDepth 100000 in
theorem okY_16 : [48, 49, 50].all okY = true := by decide +kernel
set_option maxRecDepth 100000 in
theorem okYs_51 : okY 51 = true := by decide +kernel
set_option maxRecDepth 100000 in
theorem roY52_0 : [0, 1, 2, 3].all (rowY 52) = true := by decide +kernel
set_option maxRecDepth 100000 in
theorem roY52_4 : [4, 5, 6, 7].all (rowY 52) = true := by decide +kernel
set_option maxRecDepth 100000 in
theorem roY52_8 : [8, 9, 10].all (rowY 52) = true := by decide +kernel
theorem roAY52 : ∀ j, j < 11 → (rowY 52) j = true := by
  have h0 : ∀ j, j < 0 → (rowY 52) j = true := fun j h => absurd h (Nat.not_lt_zero j)
  have h4 := rowS (k := 4) h0 rfl roY52_0
  have h8 := rowS (k := 4) h4 rfl roY52_4
  have h11 := rowS (k := 3) h8 rfl roY52_8
  exact h11
set_option maxRecDepth 100000 in
theorem okYq_52 : okYr 52 = true ∧ (tbm 52).1.length = 11 := by decide +kernel
theorem okYs_52 : okY 52 = true := okY_rows okYq_52.1 okYq_52.2 roAY52
set_option maxRecDepth 100000 in
theorem okYs_53 : okY 53 = true := by decide +kernel
theorem okY_17 : [51, 52, 53].all okY = true := by
  simp only [List.all_cons, List.all_nil, Bool.and_true, okYs_51, okYs_52, okYs_53]
