/-! the further checks of the tables, by computing: chunks 50 to 100 -/
set_option maxRecDepth 100000 in
theorem okZ_50 : [150, 151, 152].all okZT = true := by decide +kernel
set_option maxRecDepth 100000 in
theorem okZ_51 : [153, 154, 155].all okZT = true := by decide +kernel
set_option maxRecDepth 100000 in
theorem okZ_52 : [156, 157, 158].all okZT = true := by decide +kernel
set_option maxRecDepth 100000 in
theorem okZ_53 : [159, 160, 161].all okZT = true := by decide +kernel
set_option maxRecDepth 100000 in
theorem okZ_54 : [162, 163, 164].all okZT = true := by decide +kernel
set_option maxRecDepth 100000 in
theorem okZ_55 : [165, 166, 167].all okZT = true := by decide +kernel
set_option maxRecDepth 100000 in
theorem okZ_56 : [168, 169, 170].all okZT = true := by decide +kernel
set_option maxRecDepth 100000 in
theorem okZ_57 : [171, 172, 173].all okZT = true := by decide +kernel
set_option maxRecDepth 100000 in
theorem okZ_58 : [174, 175, 176].all okZT = true := by decide +kernel
set_option maxRecDepth 100000 in
theorem okZ_59 : [177, 178, 179].all okZT = true := by decide +kernel
set_option maxRecDepth 100000 in
theorem okZ_60 : [180, 181, 182].all okZT = true := by decide +kernel
set_option maxRecDepth 100000 in
theorem okZ_61 : [183, 184, 185].all okZT = true := by decide +kernel
set_option maxRecDepth 100000 in
theorem okZ_62 : [186, 187, 188].all okZT = true := by decide +kernel
set_option maxRecDepth 100000 in
theorem okZ_63 : [189, 190, 191].all okZT = true := by decide +kernel
set_option maxRecDepth 100000 in
theorem okZ_64 : [192, 193, 194].all okZT = true := by decide +kernel
set_option maxRecDepth 100000 in
theorem okZ_65 : [195, 196, 197].all okZT = true := by decide +kernel
set_option maxRecDepth 100000 in
theorem okZ_66 : [198, 199, 200].all okZT = true := by decide +kernel
set_option maxRecDepth 100000 in
theorem okZ_67 : [201, 202, 203].all okZT = true := by decide +kernel
set_option maxRecDepth 100000 in
theorem okZ_68 : [204, 205, 206].all okZT = true := by decide +kernel
set_option maxRecDepth 100000 in
theorem okZ_69 : [207, 208, 209].all okZT = true := by decide +kernel
set_option maxRecDepth 100000 in
theorem okZ_70 : [210, 211, 212].all okZT = true := by decide +kernel
set_option maxRecDepth 100000 in
theorem okZ_71 : [213, 214, 215].all okZT = true := by decide +kernel
set_option maxRecDepth 100000 in
theorem okZ_72 : [216, 217, 218].all okZT = true := by decide +kernel
set_option maxRecDepth 100000 in
theorem okZ_73 : [219, 220, 221].all okZT = true := by decide +kernel
set_option maxRecDepth 100000 in
theorem okZ_74 : [222, 223, 224].all okZT = true := by decide +kernel
set_option maxRecDepth 100000 in
theorem okZ_75 : [225, 226, 227].all okZT = true := by decide +kernel
set_option maxRecDepth 100000 in
theorem okZ_76 : [228, 229, 230].all okZT = true := by decide +kernel
set_option maxRecDepth 100000 in
theorem okZ_77 : [231, 232, 233].all okZT = true := by decide +kernel
set_option maxRecDepth 100000 in
theorem okZ_78 : [234, 235, 236].all okZT = true := by decide +kernel
set_option maxRecDepth 100000 in
theorem okZ_79 : [237, 238, 239].all okZT = true := by decide +kernel
set_option maxRecDepth 100000 in
theorem okZ_80 : [240, 241, 242].all okZT = true := by decide +kernel
set_option maxRecDepth 100000 in
theorem okZ_81 : [243, 244, 245].all okZT = true := by decide +kernel
set_option maxRecDepth 100000 in
theorem okZ_82 : [246, 247, 248].all okZT = true := by decide +kernel
set_option maxRecDepth 100000 in
theorem okZ_83 : [249, 250, 251].all okZT = true := by decide +kernel
set_option maxRecDepth 100000 in
theorem okZ_84 : [252, 253, 254].all okZT = true := by decide +kernel
set_option maxRecDepth 100000 in
theorem okZ_85 : [255, 256, 257].all okZT = true := by decide +kernel
set_option maxRecDepth 100000 in
theorem okZ_86 : [258, 259, 260].all okZT = true := by decide +kernel
set_option maxRecDepth 100000 in
theorem okZ_87 : [261, 262, 263].all okZT = true := by decide +kernel
set_option maxRecDepth 100000 in
theorem okZ_88 : [264, 265, 266].all okZT = true := by decide +kernel
set_option maxRecDepth 100000 in
theorem okZ_89 : [267, 268, 269].all okZT = true := by decide +kernel
set_option maxRecDepth 100000 in
theorem okZ_90 : [270, 271, 272].all okZT = true := by decide +kernel
set_option maxRecDepth 100000 in
theorem okZ_91 : [273, 274, 275].all okZT = true := by decide +kernel
set_option maxRecDepth 100000 in
theorem okZ_92 : [276, 277, 278].all okZT = true := by decide +kernel
set_option maxRecDepth 100000 in
theorem okZ_93 : [279, 280, 281].all okZT = true := by decide +kernel
set_option maxRecDepth 100000 in
theorem okZ_94 : [282, 283, 284].all okZT = true := by decide +kernel
set_option maxRecDepth 100000 in
theorem okZ_95 : [285, 286, 287].all okZT = true := by decide +kernel
set_option maxRecDepth 100000 in
theorem okZ_96 : [288, 289, 290].all okZT = true := by decide +kernel
set_option maxRecDepth 100000 in
theorem okZ_97 : [291, 292, 293].all okZT = true := by decide +kernel
set_option maxRecDepth 100000 in
theorem okZ_98 : [294, 295, 296].all okZT = true := by decide +kernel
set_option maxRecDepth 100000 in
theorem okZ_99 : [297, 298, 299].all okZT = true := by decide +kernel
set_option maxRecDepth 100000 in
theorem okZ_100 : [300].all okZT = true := by decide +kernel
