/-! the tables are the class files' code, by computing: methods 81 to 107 -/
set_option maxRecDepth 100000 in
theorem okY_27 : [81, 82, 83].all okY = true := by decide +kernel
set_option maxRecDepth 100000 in
theorem okY_28 : [84, 85, 86].all okY = true := by decide +kernel
set_option maxRecDepth 100000 in
theorem okY_29 : [87, 88, 89].all okY = true := by decide +kernel
set_option maxRecDepth 100000 in
theorem okY_30 : [90, 91, 92].all okY = true := by decide +kernel
set_option maxRecDepth 100000 in
theorem okY_31 : [93, 94, 95].all okY = true := by decide +kernel
set_option maxRecDepth 100000 in
theorem okY_32 : [96, 97, 98].all okY = true := by decide +kernel
set_option maxRecDepth 100000 in
theorem okY_33 : [99, 100, 101].all okY = true := by decide +kernel
set_option maxRecDepth 100000 in
theorem okY_34 : [102, 103, 104].all okY = true := by decide +kernel
set_option maxRecDepth 100000 in
theorem okY_35 : [105, 106, 107].all okY = true := by decide +kernel
