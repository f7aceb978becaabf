/-! the tables are the class files' code, by computing: methods 162 to 188 -/
set_option maxRecDepth 100000 in
theorem okY_54 : [162, 163, 164].all okY = true := by decide +kernel
set_option maxRecDepth 100000 in
theorem okY_55 : [165, 166, 167].all okY = true := by decide +kernel
set_option maxRecDepth 100000 in
theorem okY_56 : [168, 169, 170].all okY = true := by decide +kernel
set_option maxRecDepth 100000 in
theorem okY_57 : [171, 172, 173].all okY = true := by decide +kernel
set_option maxRecDepth 100000 in
theorem okY_58 : [174, 175, 176].all okY = true := by decide +kernel
set_option maxRecDepth 100000 in
theorem okYs_177 : okY 177 = true := by decide +kernel
set_option maxRecDepth 100000 in
theorem roY178_0 : [0, 1, 2, 3].all (rowY 178) = true := by decide +kernel
set_option maxRecDepth 100000 in
theorem roY178_4 : [4, 5, 6, 7].all (rowY 178) = true := by decide +kernel
set_option maxRecDepth 100000 in
theorem roY178_8 : [8, 9, 10].all (rowY 178) = true := by decide +kernel
theorem roAY178 : ∀ j, j < 11 → (rowY 178) j = true := by
  have h0 : ∀ j, j < 0 → (rowY 178) j = true := fun j h => absurd h (Nat.not_lt_zero j)
  have h4 := rowS (k := 4) h0 rfl roY178_0
  have h8 := rowS (k := 4) h4 rfl roY178_4
  have h11 := rowS (k := 3) h8 rfl roY178_8
  exact h11
set_option maxRecDepth 100000 in
theorem okYq_178 : okYr 178 = true ∧ (tbm 178).1.length = 11 := by decide +kernel
theorem okYs_178 : okY 178 = true := okY_rows okYq_178.1 okYq_178.2 roAY178
set_option maxRecDepth 100000 in
theorem okYs_179 : okY 179 = true := by decide +kernel
theorem okY_59 : [177, 178, 179].all okY = true := by
  simp only [List.all_cons, List.all_nil, Bool.and_true, okYs_177, okYs_178, okYs_179]
set_option maxRecDepth 100000 in
theorem okYs_180 : okY 180 = true := by decide +kernel
set_option maxRecDepth 100000 in
theorem roY181_0 : [0, 1, 2, 3].all (rowY 181) = true := by decide +kernel
set_option maxRecDepth 100000 in
theorem roY181_4 : [4, 5, 6, 7].all (rowY 181) = true := by decide +kernel
set_option maxRecDepth 100000 in
theorem roY181_8 : [8].all (rowY 181) = true := by decide +kernel
theorem roAY181 : ∀ j, j < 9 → (rowY 181) j = true := by
  have h0 : ∀ j, j < 0 → (rowY 181) j = true := fun j h => absurd h (Nat.not_lt_zero j)
  have h4 := rowS (k := 4) h0 rfl roY181_0
  have h8 := rowS (k := 4) h4 rfl roY181_4
  have h9 := rowS (k := 1) h8 rfl roY181_8
  exact h9
set_option maxRecDepth 100000 in
theorem okYq_181 : okYr 181 = true ∧ (tbm 181).1.length = 9 := by decide +kernel
theorem okYs_181 : okY 181 = true := okY_rows okYq_181.1 okYq_181.2 roAY181
set_option maxRecDepth 100000 in
theorem okYs_182 : okY 182 = true := by decide +kernel
theorem okY_60 : [180, 181, 182].all okY = true := by
  simp only [List.all_cons, List.all_nil, Bool.and_true, okYs_180, okYs_181, okYs_182]
set_option maxRecDepth 100000 in
theorem roY183_0 : [0, 1, 2, 3].all (rowY 183) = true := by decide +kernel
set_option maxRecDepth 100000 in
theorem roY183_4 : [4, 5, 6, 7].all (rowY 183) = true := by decide +kernel
set_option maxRecDepth 100000 in
theorem roY183_8 : [8, 9, 10, 11].all (rowY 183) = true := by decide +kernel
set_option maxRecDepth 100000 in
theorem roY183_12 : [12].all (rowY 183) = true := by decide +kernel
theorem roAY183 : ∀ j, j < 13 → (rowY 183) j = true := by
  have h0 : ∀ j, j < 0 → (rowY 183) j = true := fun j h => absurd h (Nat.not_lt_zero j)
  have h4 := rowS (k := 4) h0 rfl roY183_0
  have h8 := rowS (k := 4) h4 rfl roY183_4
  have h12 := rowS (k := 4) h8 rfl roY183_8
  have h13 := rowS (k := 1) h12 rfl roY183_12
  exact h13
set_option maxRecDepth 100000 in
theorem okYq_183 : okYr 183 = true ∧ (tbm 183).1.length = 13 := by decide +kernel
theorem okYs_183 : okY 183 = true := okY_rows okYq_183.1 okYq_183.2 roAY183
set_option maxRecDepth 100000 in
theorem okYs_184 : okY 184 = true := by decide +kernel
set_option maxRecDepth 100000 in
theorem okYs_185 : okY 185 = true := by decide +kernel
theorem okY_61 : [183, 184, 185].all okY = true := by
  simp only [List.all_cons, List.all_nil, Bool.and_true, okYs_183, okYs_184, okYs_185]
set_option maxRecDepth 100000 in
theorem okYs_186 : okY 186 = true := by decide +kernel
set_option maxRecDepth 100000 in
theorem roY187_0 : [0, 1, 2, 3].all (rowY 187) = true := by decide +kernel
set_option maxRecDepth 100000 in
theorem roY187_4 : [4, 5, 6, 7].all (rowY 187) = true := by decide +kernel
set_option maxRecDepth 100000 in
theorem roY187_8 : [8, 9, 10, 11].all (rowY 187) = true := by decide +kernel
set_option maxRecDepth 100000 in
theorem roY187_12 : [12, 13, 14, 15].all (rowY 187) = true := by decide +kernel
set_option maxRecDepth 100000 in
theorem roY187_16 : [16].all (rowY 187) = true := by decide +kernel
theorem roAY187 : ∀ j, j < 17 → (rowY 187) j = true := by
  have h0 : ∀ j, j < 0 → (rowY 187) j = true := fun j h => absurd h (Nat.not_lt_zero j)
  have h4 := rowS (k := 4) h0 rfl roY187_0
  have h8 := rowS (k := 4) h4 rfl roY187_4
  have h12 := rowS (k := 4) h8 rfl roY187_8
  have h16 := rowS (k := 4) h12 rfl roY187_12
  have h17 := rowS (k := 1) h16 rfl roY187_16
  exact h17
set_option maxRecDepth 100000 in
theorem okYq_187 : okYr 187 = true ∧ (tbm 187).1.length = 17 := by decide +kernel
theorem okYs_187 : okY 187 = true := okY_rows okYq_187.1 okYq_187.2 roAY187
set_option maxRecDepth 100000 in
theorem okYs_188 : okY 188 = true := by decide +kernel
theorem okY_62 : [186, 187, 188].all okY = true := by
  simp only [List.all_cons, List.all_nil, Bool.and_true, okYs_186, okYs_187, okYs_188]
