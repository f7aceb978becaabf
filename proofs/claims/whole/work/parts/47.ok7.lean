/-! the tables are the class files' code, by computing: methods 273 to 300 -/
set_option maxRecDepth 100000 in
theorem okY_91 : [273, 274, 275].all okY = true := by decide +kernel
set_option maxRecDepth 100000 in
theorem okY_92 : [276, 277, 278].all okY = true := by decide +kernel
set_option maxRecDepth 100000 in
theorem okY_93 : [279, 280, 281].all okY = true := by decide +kernel
set_option maxRecDepth 100000 in
theorem okY_94 : [282, 283, 284].all okY = true := by decide +kernel
set_option maxRecDepth 100000 in
theorem okY_95 : [285, 286, 287].all okY = true := by decide +kernel
set_option maxRecDepth 100000 in
theorem okY_96 : [288, 289, 290].all okY = true := by decide +kernel
set_option maxRecDepth 100000 in
theorem okY_97 : [291, 292, 293].all okY = true := by decide +kernel
set_option maxRecDepth 100000 in
theorem okY_98 : [294, 295, 296].all okY = true := by decide +kernel
set_option maxRecDepth 100000 in
theorem okY_99 : [297, 298, 299].all okY = true := by decide +kernel
set_option maxRecDepth 100000 in
theorem okY_100 : [300].all okY = true := by decide +kernel
