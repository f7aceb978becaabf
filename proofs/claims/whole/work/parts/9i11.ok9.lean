/-! the tables are the class files' code, by computing: methods 243 to 269 -/
set_option maxRecDepth 100000 in
theorem okY_81 : [243, 244, 245].all okY = true := by decide +kernel
set_option maxRecDepth 100000 in
theorem okY_82 : [246, 247, 248].all okY = true := by decide +kernel
set_option maxRecDepth 100000 in
theorem okY_83 : [249, 250, 251].all okY = true := by decide +kernel
set_option maxRecDepth 100000 in
theorem okY_84 : [252, 253, 254].all okY = true := by decide +kernel
set_option maxRecDepth 100000 in
theorem okY_85 : [255, 256, 257].all okY = true := by decide +kernel
set_option maxRecDepth 100000 in
theorem okY_86 : [258, 259, 260].all okY = true := by decide +kernel
set_option maxRecDepth 100000 in
theorem okY_87 : [261, 262, 263].all okY = true := by decide +kernel
set_option maxRecDepth 100000 in
theorem okY_88 : [264, 265, 266].all okY = true := by decide +kernel
set_option maxRecDepth 100000 in
theorem okY_89 : [267, 268, 269].all okY = true := by decide +kernel
