/-! the tables are the class files' code, by computing: methods 39 to 77 -/
set_option maxRecDepth 100000 in
theorem okY_13 : [39, 40, 41].all okY = true := by decide +kernel
set_option maxRecDepth 100000 in
theorem okY_14 : [42, 43, 44].all okY = true := by decide +kernel
set_option maxRecDepth 100000 in
theorem okY_15 : [45, 46, 47].all okY = true := by decide +kernel
set_option maxRecDepth 100000 in
theorem okY_16 : [48, 49, 50].all okY = true := by decide +kernel
set_option maxRecDepth 100000 in
theorem okY_17 : [51, 52, 53].all okY = true := by decide +kernel
set_option maxRecDepth 100000 in
theorem okY_18 : [54, 55, 56].all okY = true := by decide +kernel
set_option maxRecDepth 100000 in
theorem okY_19 : [57, 58, 59].all okY = true := by decide +kernel
set_option maxRecDepth 100000 in
theorem okY_20 : [60, 61, 62].all okY = true := by decide +kernel
set_option maxRecDepth 100000 in
theorem okY_21 : [63, 64, 65].all okY = true := by decide +kernel
set_option maxRecDepth 100000 in
theorem okY_22 : [66, 67, 68].all okY = true := by decide +kernel
set_option maxRecDepth 100000 in
theorem okY_23 : [69, 70, 71].all okY = true := by decide +kernel
set_option maxRecDepth 100000 in
theorem okY_24 : [72, 73, 74].all okY = true := by decide +kernel
set_option maxRecDepth 100000 in
theorem okY_25 : [75, 76, 77].all okY = true := by decide +kernel
