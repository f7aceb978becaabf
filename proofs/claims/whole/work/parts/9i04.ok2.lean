/-! the tables are the class files' code, by computing: methods 54 to 80 -/
set_option maxRecDepth 100000 in
theorem okY_18 : [54, 55, 56].all okY = true := by decide +kernel
set_option maxRecDepth 100000 in
theorem okY_19 : [57, 58, 59].all okY = true := by decide +kernel
set_option maxRecDepth 100000 in
theorem okY_20 : [60, 61, 62].all okY = true := by decide +kernel
set_option maxRecDepth 100000 in
theorem okY_21 : [63, 64, 65].all okY = true := by decide +kernel
set_option maxRecDepth 100000 in
theorem okY_22 : [66, 67, 68].all okY = true := by decide +kernel
set_option maxRecDepth 100000 in
theorem okY_23 : [69, 70, 71].all okY = true := by decide +kernel
set_option maxRecDepth 100000 in
theorem okY_24 : [72, 73, 74].all okY = true := by decide +kernel
set_option maxRecDepth 100000 in
theorem okY_25 : [75, 76, 77].all okY = true := by decide +kernel
set_option maxRecDepth 100000 in
theorem okY_26 : [78, 79, 80].all okY = true := by decide +kernel
