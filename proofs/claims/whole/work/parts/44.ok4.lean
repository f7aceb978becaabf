/-! the tables are the class files' code, by computing: methods 156 to 194 -/
set_option maxRecDepth 100000 in
theorem okY_52 : [156, 157, 158].all okY = true := by decide +kernel
set_option maxRecDepth 100000 in
theorem okY_53 : [159, 160, 161].all okY = true := by decide +kernel
set_option maxRecDepth 100000 in
theorem okY_54 : [162, 163, 164].all okY = true := by decide +kernel
set_option maxRecDepth 100000 in
theorem okY_55 : [165, 166, 167].all okY = true := by decide +kernel
set_option maxRecDepth 100000 in
theorem okY_56 : [168, 169, 170].all okY = true := by decide +kernel
set_option maxRecDepth 100000 in
theorem okY_57 : [171, 172, 173].all okY = true := by decide +kernel
set_option maxRecDepth 100000 in
theorem okY_58 : [174, 175, 176].all okY = true := by decide +kernel
set_option maxRecDepth 100000 in
theorem okY_59 : [177, 178, 179].all okY = true := by decide +kernel
set_option maxRecDepth 100000 in
theorem okY_60 : [180, 181, 182].all okY = true := by decide +kernel
set_option maxRecDepth 100000 in
theorem okY_61 : [183, 184, 185].all okY = true := by decide +kernel
set_option maxRecDepth 100000 in
theorem okY_62 : [186, 187, 188].all okY = true := by decide +kernel
set_option maxRecDepth 100000 in
theorem okY_63 : [189, 190, 191].all okY = true := by decide +kernel
set_option maxRecDepth 100000 in
theorem okY_64 : [192, 193, 194].all okY = true := by decide +kernel
