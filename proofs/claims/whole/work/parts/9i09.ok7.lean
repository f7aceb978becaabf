/-! the tables are the class files' code, by computing: methods 189 to 215 -/
set_option maxRecDepth 100000 in
theorem okYs_189 : okY 189 = true := by decide +kernel
set_option maxRecDepth 100000 in
theorem okYs_190 : okY 190 = true := by decide +kernel
set_option maxRecDepth 100000 in
theorem roY191_0 : [0, 1, 2, 3].all (rowY 191) = true := by decide +kernel
set_option maxRecDepth 100000 in
theorem roY191_4 : [4, 5, 6, 7].all (rowY 191) = true := by decide +kernel
set_option maxRecDepth 100000 in
theorem roY191_8 : [8, 9, 10].all (rowY 191) = true := by decide +kernel
theorem roAY191 : ∀ j, j < 11 → (rowY 191) j = true := by
  have h0 : ∀ j, j < 0 → (rowY 191) j = true := fun j h => absurd h (Nat.not_lt_zero j)
  have h4 := rowS (k := 4) h0 rfl roY191_0
  have h8 := rowS (k := 4) h4 rfl roY191_4
  have h11 := rowS (k := 3) h8 rfl roY191_8
  exact h11
set_option maxRecDepth 100000 in
theorem okYq_191 : okYr 191 = true ∧ (tbm 191).1.length = 11 := by decide +kernel
theorem okYs_191 : okY 191 = true := okY_rows okYq_191.1 okYq_191.2 roAY191
theorem okY_63 : [189, 190, 191].all okY = true := by
  simp only [List.all_cons, List.all_nil, Bool.and_true, okYs_189, okYs_190, okYs_191]
set_option maxRecDepth 100000 in
theorem okYs_192 : okY 192 = true := by decide +kernel
set_option maxRecDepth 100000 in
theorem okYs_193 : okY 193 = true := by decide +kernel
set_option maxRecDepth 100000 in
theorem roY194_0 : [0, 1, 2, 3].all (rowY 194) = true := by decide +kernel
set_option maxRecDepth 100000 in
theorem roY194_4 : [4, 5, 6, 7].all (rowY 194) = true := by decide +kernel
set_option maxRecDepth 100000 in
theorem roY194_8 : [8, 9].all (rowY 194) = true := by decide +kernel
theorem roAY194 : ∀ j, j < 10 → (rowY 194) j = true := by
  have h0 : ∀ j, j < 0 → (rowY 194) j = true := fun j h => absurd h (Nat.not_lt_zero j)
  have h4 := rowS (k := 4) h0 rfl roY194_0
  have h8 := rowS (k := 4) h4 rfl roY194_4
  have h10 := rowS (k := 2) h8 rfl roY194_8
  exact h10
set_option maxRecDepth 100000 in
theorem okYq_194 : okYr 194 = true ∧ (tbm 194).1.length = 10 := by decide +kernel
theorem okYs_194 : okY 194 = true := okY_rows okYq_194.1 okYq_194.2 roAY194
theorem okY_64 : [192, 193, 194].all okY = true := by
  simp only [List.all_cons, List.all_nil, Bool.and_true, okYs_192, okYs_193, okYs_194]
set_option maxRecDepth 100000 in
theorem okYs_195 : okY 195 = true := by decide +kernel
set_option maxRecDepth 100000 in
theorem roY196_0 : [0, 1, 2, 3].all (rowY 196) = true := by decide +kernel
set_option maxRecDepth 100000 in
theorem roY196_4 : [4, 5, 6, 7].all (rowY 196) = true := by decide +kernel
set_option maxRecDepth 100000 in
theorem roY196_8 : [8].all (rowY 196) = true := by decide +kernel
theorem roAY196 : ∀ j, j < 9 → (rowY 196) j = true := by
  have h0 : ∀ j, j < 0 → (rowY 196) j = true := fun j h => absurd h (Nat.not_lt_zero j)
  have h4 := rowS (k := 4) h0 rfl roY196_0
  have h8 := rowS (k := 4) h4 rfl roY196_4
  have h9 := rowS (k := 1) h8 rfl roY196_8
  exact h9
set_option maxRecDepth 100000 in
theorem okYq_196 : okYr 196 = true ∧ (tbm 196).1.length = 9 := by decide +kernel
theorem okYs_196 : okY 196 = true := okY_rows okYq_196.1 okYq_196.2 roAY196
set_option maxRecDepth 100000 in
theorem okYs_197 : okY 197 = true := by decide +kernel
theorem okY_65 : [195, 196, 197].all okY = true := by
  simp only [List.all_cons, List.all_nil, Bool.and_true, okYs_195, okYs_196, okYs_197]
set_option maxRecDepth 100000 in
theorem okYs_198 : okY 198 = true := by decide +kernel
set_option maxRecDepth 100000 in
theorem okYs_199 : okY 199 = true := by decide +kernel
set_option maxRecDepth 100000 in
theorem roY200_0 : [0, 1, 2, 3].all (rowY 200) = true := by decide +kernel
set_option maxRecDepth 100000 in
theorem roY200_4 : [4, 5, 6, 7].all (rowY 200) = true := by decide +kernel
set_option maxRecDepth 100000 in
theorem roY200_8 : [8, 9, 10, 11].all (rowY 200) = true := by decide +kernel
theorem roAY200 : ∀ j, j < 12 → (rowY 200) j = true := by
  have h0 : ∀ j, j < 0 → (rowY 200) j = true := fun j h => absurd h (Nat.not_lt_zero j)
  have h4 := rowS (k := 4) h0 rfl roY200_0
  have h8 := rowS (k := 4) h4 rfl roY200_4
  have h12 := rowS (k := 4) h8 rfl roY200_8
  exact h12
set_option maxRecDepth 100000 in
theorem okYq_200 : okYr 200 = true ∧ (tbm 200).1.length = 12 := by decide +kernel
theorem okYs_200 : okY 200 = true := okY_rows okYq_200.1 okYq_200.2 roAY200
theorem okY_66 : [198, 199, 200].all okY = true := by
  simp only [List.all_cons, List.all_nil, Bool.and_true, okYs_198, okYs_199, okYs_200]
set_option maxRecDepth 100000 in
theorem okY_67 : [201, 202, 203].all okY = true := by decide +kernel
set_option maxRecDepth 100000 in
theorem okYs_204 : okY 204 = true := by decide +kernel
set_option maxRecDepth 100000 in
theorem okYs_205 : okY 205 = true := by decide +kernel
set_option maxRecDepth 100000 in
theorem roY206_0 : [0, 1, 2, 3].all (rowY 206) = true := by decide +kernel
set_option maxRecDepth 100000 in
theorem roY206_4 : [4, 5, 6, 7].all (rowY 206) = true := by decide +kernel
set_option maxRecDepth 100000 in
theorem roY206_8 : [8, 9, 10, 11].all (rowY 206) = true := by decide +kernel
set_option maxRecDepth 100000 in
theorem roY206_12 : [12].all (rowY 206) = true := by decide +kernel
theorem roAY206 : ∀ j, j < 13 → (rowY 206) j = true := by
  have h0 : ∀ j, j < 0 → (rowY 206) j = true := fun j h => absurd h (Nat.not_lt_zero j)
  have h4 := rowS (k := 4) h0 rfl roY206_0
  have h8 := rowS (k := 4) h4 rfl roY206_4
  have h12 := rowS (k := 4) h8 rfl roY206_8
  have h13 := rowS (k := 1) h12 rfl roY206_12
  exact h13
set_option maxRecDepth 100000 in
theorem okYq_206 : okYr 206 = true ∧ (tbm 206).1.length = 13 := by decide +kernel
theorem okYs_206 : okY 206 = true := okY_rows okYq_206.1 okYq_206.2 roAY206
theorem okY_68 : [204, 205, 206].all okY = true := by
  simp only [List.all_cons, List.all_nil, Bool.and_true, okYs_204, okYs_205, okYs_206]
set_option maxRecDepth 100000 in
theorem okY_69 : [207, 208, 209].all okY = true := by decide +kernel
set_option maxRecDepth 100000 in
theorem okYs_210 : okY 210 = true := by decide +kernel
set_option maxRecDepth 100000 in
theorem roY211_0 : [0, 1, 2, 3].all (rowY 211) = true := by decide +kernel
set_option maxRecDepth 100000 in
theorem roY211_4 : [4, 5, 6, 7].all (rowY 211) = true := by decide +kernel
set_option maxRecDepth 100000 in
theorem roY211_8 : [8, 9, 10].all (rowY 211) = true := by decide +kernel
theorem roAY211 : ∀ j, j < 11 → (rowY 211) j = true := by
  have h0 : ∀ j, j < 0 → (rowY 211) j = true := fun j h => absurd h (Nat.not_lt_zero j)
  have h4 := rowS (k := 4) h0 rfl roY211_0
  have h8 := rowS (k := 4) h4 rfl roY211_4
  have h11 := rowS (k := 3) h8 rfl roY211_8
  exact h11
set_option maxRecDepth 100000 in
theorem okYq_211 : okYr 211 = true ∧ (tbm 211).1.length = 11 := by decide +kernel
theorem okYs_211 : okY 211 = true := okY_rows okYq_211.1 okYq_211.2 roAY211
set_option maxRecDepth 100000 in
theorem okYs_212 : okY 212 = true := by decide +kernel
theorem okY_70 : [210, 211, 212].all okY = true := by
  simp only [List.all_cons, List.all_nil, Bool.and_true, okYs_210, okYs_211, okYs_212]
set_option maxRecDepth 100000 in
theorem okY_71 : [213, 214, 215].all okY = true := by decide +kernel
