/-! the tables are the class files' code, by computing: methods 0 to 38 -/
set_option maxRecDepth 100000 in
theorem okY_0 : [0, 1, 2].all okY = true := by decide +kernel
set_option maxRecDepth 100000 in
theorem okY_1 : [3, 4, 5].all okY = true := by decide +kernel
set_option maxRecDepth 100000 in
theorem okY_2 : [6, 7, 8].all okY = true := by decide +kernel
set_option maxRecDepth 100000 in
theorem okY_3 : [9, 10, 11].all okY = true := by decide +kernel
set_option maxRecDepth 100000 in
theorem okY_4 : [12, 13, 14].all okY = true := by decide +kernel
set_option maxRecDepth 100000 in
theorem okY_5 : [15, 16, 17].all okY = true := by decide +kernel
set_option maxRecDepth 100000 in
theorem okY_6 : [18, 19, 20].all okY = true := by decide +kernel
set_option maxRecDepth 100000 in
theorem okY_7 : [21, 22, 23].all okY = true := by decide +kernel
set_option maxRecDepth 100000 in
theorem okY_8 : [24, 25, 26].all okY = true := by decide +kernel
set_option maxRecDepth 100000 in
theorem okY_9 : [27, 28, 29].all okY = true := by decide +kernel
set_option maxRecDepth 100000 in
theorem okY_10 : [30, 31, 32].all okY = true := by decide +kernel
set_option maxRecDepth 100000 in
theorem okY_11 : [33, 34, 35].all okY = true := by decide +kernel
set_option maxRecDepth 100000 in
theorem okY_12 : [36, 37, 38].all okY = true := by decide +kernel
