/-! the tables are the class files' code, by computing: methods 270 to 296 -/
set_option maxRecDepth 100000 in
theorem okYs_270 : okY 270 = true := by decide +kernel
set_option maxRecDepth 100000 in
theorem roY271_0 : [0, 1, 2, 3].all (rowY 271) = true := by decide +kernel
set_option maxRecDepth 100000 in
theorem roY271_4 : [4, 5, 6, 7].all (rowY 271) = true := by decide +kernel
set_option maxRecDepth 100000 in
theorem roY271_8 : [8, 9, 10, 11].all (rowY 271) = true := by decide +kernel
set_option maxRecDepth 100000 in
theorem roY271_12 : [12, 13].all (rowY 271) = true := by decide +kernel
theorem roAY271 : ∀ j, j < 14 → (rowY 271) j = true := by
  have h0 : ∀ j, j < 0 → (rowY 271) j = true := fun j h => absurd h (Nat.not_lt_zero j)
  have h4 := rowS (k := 4) h0 rfl roY271_0
  have h8 := rowS (k := 4) h4 rfl roY271_4
  have h12 := rowS (k := 4) h8 rfl roY271_8
  have h14 := rowS (k := 2) h12 rfl roY271_12
  exact h14
set_option maxRecDepth 100000 in
theorem okYq_271 : okYr 271 = true ∧ (tbm 271).1.length = 14 := by decide +kernel
theorem okYs_271 : okY 271 = true := okY_rows okYq_271.1 okYq_271.2 roAY271
set_option maxRecDepth 100000 in
theorem okYs_272 : okY 272 = true := by decide +kernel
theorem okY_90 : [270, 271, 272].all okY = true := by
  simp only [List.all_cons, List.all_nil, Bool.and_true, okYs_270, okYs_271, okYs_272]
set_option maxRecDepth 100000 in
theorem okY_91 : [273, 274, 275].all okY = true := by decide +kernel
set_option maxRecDepth 100000 in
theorem okY_92 : [276, 277, 278].all okY = true := by decide +kernel
set_option maxRecDepth 100000 in
theorem okY_93 : [279, 280, 281].all okY = true := by decide +kernel
set_option maxRecDepth 100000 in
theorem okY_94 : [282, 283, 284].all okY = true := by decide +kernel
set_option maxRecDepth 100000 in
theorem okY_95 : [285, 286, 287].all okY = true := by decide +kernel
set_option maxRecDepth 100000 in
theorem okY_96 : [288, 289, 290].all okY = true := by decide +kernel
set_option maxRecDepth 100000 in
theorem okY_97 : [291, 292, 293].all okY = true := by decide +kernel
set_option maxRecDepth 100000 in
theorem okY_98 : [294, 295, 296].all okY = true := by decide +kernel
