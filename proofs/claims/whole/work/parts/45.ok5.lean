/-! the tables are the class files' code, by computing: methods 195 to 233 -/
set_option maxRecDepth 100000 in
theorem okY_65 : [195, 196, 197].all okY = true := by decide +kernel
set_option maxRecDepth 100000 in
theorem okY_66 : [198, 199, 200].all okY = true := by decide +kernel
set_option maxRecDepth 100000 in
theorem okY_67 : [201, 202, 203].all okY = true := by decide +kernel
set_option maxRecDepth 100000 in
theorem okY_68 : [204, 205, 206].all okY = true := by decide +kernel
set_option maxRecDepth 100000 in
theorem okY_69 : [207, 208, 209].all okY = true := by decide +kernel
set_option maxRecDepth 100000 in
theorem okY_70 : [210, 211, 212].all okY = true := by decide +kernel
set_option maxRecDepth 100000 in
theorem okY_71 : [213, 214, 215].all okY = true := by decide +kernel
set_option maxRecDepth 100000 in
theorem okY_72 : [216, 217, 218].all okY = true := by decide +kernel
set_option maxRecDepth 100000 in
theorem okY_73 : [219, 220, 221].all okY = true := by decide +kernel
set_option maxRecDepth 100000 in
theorem okY_74 : [222, 223, 224].all okY = true := by decide +kernel
set_option maxRecDepth 100000 in
theorem okY_75 : [225, 226, 227].all okY = true := by decide +kernel
set_option maxRecDepth 100000 in
theorem okY_76 : [228, 229, 230].all okY = true := by decide +kernel
set_option maxRecDepth 100000 in
theorem okY_77 : [231, 232, 233].all okY = true := by decide +kernel
