/-! the tables are the class files' code, by computing: methods 297 to 300 -/
set_option maxRecDepth 100000 in
theorem okY_99 : [297, 298, 299].all okY = true := by decide +kernel
set_option maxRecDepth 100000 in
theorem okY_100 : [300].all okY = true := by decide +kernel
