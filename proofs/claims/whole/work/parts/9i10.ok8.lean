/-! the tables are the class files' code, by computing: methods 216 to 242 -/
set_option maxRecDepth 100000 in
theorem okYs_216 : okY 216 = true := by decide +kernel
set_option maxRecDepth 100000 in
theorem okYs_217 : okY 217 = true := by decide +kernel
set_option maxRecDepth 100000 in
theorem roY218_0 : [0, 1, 2, 3].all (rowY 218) = true := by decide +kernel
set_option maxRecDepth 100000 in
theorem roY218_4 : [4, 5, 6, 7].all (rowY 218) = true := by decide +kernel
set_option maxRecDepth 100000 in
theorem roY218_8 : [8, 9, 10, 11].all (rowY 218) = true := by decide +kernel
set_option maxRecDepth 100000 in
theorem roY218_12 : [12, 13, 14, 15].all (rowY 218) = true := by decide +kernel
theorem roAY218 : ∀ j, j < 16 → (rowY 218) j = true := by
  have h0 : ∀ j, j < 0 → (rowY 218) j = true := fun j h => absurd h (Nat.not_lt_zero j)
  have h4 := rowS (k := 4) h0 rfl roY218_0
  have h8 := rowS (k := 4) h4 rfl roY218_4
  have h12 := rowS (k := 4) h8 rfl roY218_8
  have h16 := rowS (k := 4) h12 rfl roY218_12
  exact h16
set_option maxRecDepth 100000 in
theorem okYq_218 : okYr 218 = true ∧ (tbm 218).1.length = 16 := by decide +kernel
theorem okYs_218 : okY 218 = true := okY_rows okYq_218.1 okYq_218.2 roAY218
theorem okY_72 : [216, 217, 218].all okY = true := by
  simp only [List.all_cons, List.all_nil, Bool.and_true, okYs_216, okYs_217, okYs_218]
set_option maxRecDepth 100000 in
theorem okYs_219 : okY 219 = true := by decide +kernel
set_option maxRecDepth 100000 in
theorem okYs_220 : okY 220 = true := by decide +kernel
set_option maxRecDepth 100000 in
theorem roY221_0 : [0, 1, 2, 3].all (rowY 221) = true := by decide +kernel
set_option maxRecDepth 100000 in
theorem roY221_4 : [4, 5, 6, 7].all (rowY 221) = true := by decide +kernel
set_option maxRecDepth 100000 in
theorem roY221_8 : [8, 9, 10, 11].all (rowY 221) = true := by decide +kernel
theorem roAY221 : ∀ j, j < 12 → (rowY 221) j = true := by
  have h0 : ∀ j, j < 0 → (rowY 221) j = true := fun j h => absurd h (Nat.not_lt_zero j)
  have h4 := rowS (k := 4) h0 rfl roY221_0
  have h8 := rowS (k := 4) h4 rfl roY221_4
  have h12 := rowS (k := 4) h8 rfl roY221_8
  exact h12
set_option maxRecDepth 100000 in
theorem okYq_221 : okYr 221 = true ∧ (tbm 221).1.length = 12 := by decide +kernel
theorem okYs_221 : okY 221 = true := okY_rows okYq_221.1 okYq_221.2 roAY221
theorem okY_73 : [219, 220, 221].all okY = true := by
  simp only [List.all_cons, List.all_nil, Bool.and_true, okYs_219, okYs_220, okYs_221]
set_option maxRecDepth 100000 in
theorem roY222_0 : [0, 1, 2, 3].all (rowY 222) = true := by decide +kernel
set_option maxRecDepth 100000 in
theorem roY222_4 : [4, 5, 6, 7].all (rowY 222) = true := by decide +kernel
set_option maxRecDepth 100000 in
theorem roY222_8 : [8, 9, 10, 11].all (rowY 222) = true := by decide +kernel
set_option maxRecDepth 100000 in
theorem roY222_12 : [12, 13].all (rowY 222) = true := by decide +kernel
theorem roAY222 : ∀ j, j < 14 → (rowY 222) j = true := by
  have h0 : ∀ j, j < 0 → (rowY 222) j = true := fun j h => absurd h (Nat.not_lt_zero j)
  have h4 := rowS (k := 4) h0 rfl roY222_0
  have h8 := rowS (k := 4) h4 rfl roY222_4
  have h12 := rowS (k := 4) h8 rfl roY222_8
  have h14 := rowS (k := 2) h12 rfl roY222_12
  exact h14
set_option maxRecDepth 100000 in
theorem okYq_222 : okYr 222 = true ∧ (tbm 222).1.length = 14 := by decide +kernel
theorem okYs_222 : okY 222 = true := okY_rows okYq_222.1 okYq_222.2 roAY222
set_option maxRecDepth 100000 in
theorem okYs_223 : okY 223 = true := by decide +kernel
set_option maxRecDepth 100000 in
theorem roY224_0 : [0, 1, 2, 3].all (rowY 224) = true := by decide +kernel
set_option maxRecDepth 100000 in
theorem roY224_4 : [4, 5, 6, 7].all (rowY 224) = true := by decide +kernel
set_option maxRecDepth 100000 in
theorem roY224_8 : [8, 9, 10, 11].all (rowY 224) = true := by decide +kernel
theorem roAY224 : ∀ j, j < 12 → (rowY 224) j = true := by
  have h0 : ∀ j, j < 0 → (rowY 224) j = true := fun j h => absurd h (Nat.not_lt_zero j)
  have h4 := rowS (k := 4) h0 rfl roY224_0
  have h8 := rowS (k := 4) h4 rfl roY224_4
  have h12 := rowS (k := 4) h8 rfl roY224_8
  exact h12
set_option maxRecDepth 100000 in
theorem okYq_224 : okYr 224 = true ∧ (tbm 224).1.length = 12 := by decide +kernel
theorem okYs_224 : okY 224 = true := okY_rows okYq_224.1 okYq_224.2 roAY224
theorem okY_74 : [222, 223, 224].all okY = true := by
  simp only [List.all_cons, List.all_nil, Bool.and_true, okYs_222, okYs_223, okYs_224]
set_option maxRecDepth 100000 in
theorem okY_75 : [225, 226, 227].all okY = true := by decide +kernel
set_option maxRecDepth 100000 in
theorem okY_76 : [228, 229, 230].all okY = true := by decide +kernel
set_option maxRecDepth 100000 in
theorem okY_77 : [231, 232, 233].all okY = true := by decide +kernel
set_option maxRecDepth 100000 in
theorem okYs_234 : okY 234 = true := by decide +kernel
set_option maxRecDepth 100000 in
theorem roY235_0 : [0, 1, 2, 3].all (rowY 235) = true := by decide +kernel
set_option maxRecDepth 100000 in
theorem roY235_4 : [4, 5, 6, 7].all (rowY 235) = true := by decide +kernel
theorem roAY235 : ∀ j, j < 8 → (rowY 235) j = true := by
  have h0 : ∀ j, j < 0 → (rowY 235) j = true := fun j h => absurd h (Nat.not_lt_zero j)
  have h4 := rowS (k := 4) h0 rfl roY235_0
  have h8 := rowS (k := 4) h4 rfl roY235_4
  exact h8
set_option maxRecDepth 100000 in
theorem okYq_235 : okYr 235 = true ∧ (tbm 235).1.length = 8 := by decide +kernel
theorem okYs_235 : okY 235 = true := okY_rows okYq_235.1 okYq_235.2 roAY235
set_option maxRecDepth 100000 in
theorem okYs_236 : okY 236 = true := by decide +kernel
theorem okY_78 : [234, 235, 236].all okY = true := by
  simp only [List.all_cons, List.all_nil, Bool.and_true, okYs_234, okYs_235, okYs_236]
set_option maxRecDepth 100000 in
theorem okY_79 : [237, 238, 239].all okY = true := by decide +kernel
set_option maxRecDepth 100000 in
theorem okYs_240 : okY 240 = true := by decide +kernel
set_option maxRecDepth 100000 in
theorem okYs_241 : okY 241 = true := by decide +kernel
set_option maxRecDepth 100000 in
theorem roY242_0 : [0, 1, 2, 3].all (rowY 242) = true := by decide +kernel
set_option maxRecDepth 100000 in
theorem roY242_4 : [4, 5, 6, 7].all (rowY 242) = true := by decide +kernel
set_option maxRecDepth 100000 in
theorem roY242_8 : [8, 9, 10, 11].all (rowY 242) = true := by decide +kernel
set_option maxRecDepth 100000 in
theorem roY242_12 : [12, 13].all (rowY 242) = true := by decide +kernel
theorem roAY242 : ∀ j, j < 14 → (rowY 242) j = true := by
  have h0 : ∀ j, j < 0 → (rowY 242) j = true := fun j h => absurd h (Nat.not_lt_zero j)
  have h4 := rowS (k := 4) h0 rfl roY242_0
  have h8 := rowS (k := 4) h4 rfl roY242_4
  have h12 := rowS (k := 4) h8 rfl roY242_8
  have h14 := rowS (k := 2) h12 rfl roY242_12
  exact h14
set_option maxRecDepth 100000 in
theorem okYq_242 : okYr 242 = true ∧ (tbm 242).1.length = 14 := by decide +kernel
theorem okYs_242 : okY 242 = true := okY_rows okYq_242.1 okYq_242.2 roAY242
theorem okY_80 : [240, 241, 242].all okY = true := by
  simp only [List.all_cons, List.all_nil, Bool.and_true, okYs_240, okYs_241, okYs_242]
