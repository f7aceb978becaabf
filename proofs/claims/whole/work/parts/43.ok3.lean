/-! the tables are the class files' code, by computing: methods 117 to 155 -/
set_option maxRecDepth 100000 in
theorem okY_39 : [117, 118, 119].all okY = true := by decide +kernel
set_option maxRecDepth 100000 in
theorem okY_40 : [120, 121, 122].all okY = true := by decide +kernel
set_option maxRecDepth 100000 in
theorem okY_41 : [123, 124, 125].all okY = true := by decide +kernel
set_option maxRecDepth 100000 in
theorem okY_42 : [126, 127, 128].all okY = true := by decide +kernel
set_option maxRecDepth 100000 in
theorem okY_43 : [129, 130, 131].all okY = true := by decide +kernel
set_option maxRecDepth 100000 in
theorem okY_44 : [132, 133, 134].all okY = true := by decide +kernel
set_option maxRecDepth 100000 in
theorem okY_45 : [135, 136, 137].all okY = true := by decide +kernel
set_option maxRecDepth 100000 in
theorem okY_46 : [138, 139, 140].all okY = true := by decide +kernel
set_option maxRecDepth 100000 in
theorem okY_47 : [141, 142, 143].all okY = true := by decide +kernel
set_option maxRecDepth 100000 in
theorem okYs_144 : [144].all okY = true := by decide +kernel
set_option maxRecDepth 100000 in
theorem okYs_145 : [145].all okY = true := by decide +kernel
set_option maxRecDepth 100000 in
theorem okYs_146 : [146].all okY = true := by decide +kernel
theorem okY_48 : [144, 145, 146].all okY = true := by
  have a := okYs_144
  simp only [List.all_cons, List.all_nil, Bool.and_true, Bool.and_eq_true] at *
  exact ⟨by simpa using okYs_144, by simpa using okYs_145, by simpa using okYs_146⟩
set_option maxRecDepth 100000 in
theorem okY_49 : [147, 148, 149].all okY = true := by decide +kernel
set_option maxRecDepth 100000 in
theorem okY_50 : [150, 151, 152].all okY = true := by decide +kernel
set_option maxRecDepth 100000 in
theorem okY_51 : [153, 154, 155].all okY = true := by decide +kernel
