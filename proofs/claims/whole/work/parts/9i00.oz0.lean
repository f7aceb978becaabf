/-! the further checks of the tables, by computing: chunks 0 to 49 -/
set_option maxRecDepth 100000 in
theorem okZ_0 : [0, 1, 2].all okZT = true := by decide +kernel
set_option maxRecDepth 100000 in
theorem okZ_1 : [3, 4, 5].all okZT = true := by decide +kernel
set_option maxRecDepth 100000 in
theorem okZ_2 : [6, 7, 8].all okZT = true := by decide +kernel
set_option maxRecDepth 100000 in
theorem okZ_3 : [9, 10, 11].all okZT = true := by decide +kernel
set_option maxRecDepth 100000 in
theorem okZ_4 : [12, 13, 14].all okZT = true := by decide +kernel
set_option maxRecDepth 100000 in
theorem okZ_5 : [15, 16, 17].all okZT = true := by decide +kernel
set_option maxRecDepth 100000 in
theorem okZ_6 : [18, 19, 20].all okZT = true := by decide +kernel
set_option maxRecDepth 100000 in
theorem okZ_7 : [21, 22, 23].all okZT = true := by decide +kernel
set_option maxRecDepth 100000 in
theorem okZ_8 : [24, 25, 26].all okZT = true := by decide +kernel
set_option maxRecDepth 100000 in
theorem okZ_9 : [27, 28, 29].all okZT = true := by decide +kernel
set_option maxRecDepth 100000 in
theorem okZ_10 : [30, 31, 32].all okZT = true := by decide +kernel
set_option maxRecDepth 100000 in
theorem okZ_11 : [33, 34, 35].all okZT = true := by decide +kernel
set_option maxRecDepth 100000 in
theorem okZ_12 : [36, 37, 38].all okZT = true := by decide +kernel
set_option maxRecDepth 100000 in
theorem okZ_13 : [39, 40, 41].all okZT = true := by decide +kernel
set_option maxRecDepth 100000 in
theorem okZ_14 : [42, 43, 44].all okZT = true := by decide +kernel
set_option maxRecDepth 100000 in
theorem okZ_15 : [45, 46, 47].all okZT = true := by decide +kernel
set_option maxRecDepth 100000 in
theorem okZ_16 : [48, 49, 50].all okZT = true := by decide +kernel
set_option maxRecDepth 100000 in
theorem okZ_17 : [51, 52, 53].all okZT = true := by decide +kernel
set_option maxRecDepth 100000 in
theorem okZ_18 : [54, 55, 56].all okZT = true := by decide +kernel
set_option maxRecDepth 100000 in
theorem okZ_19 : [57, 58, 59].all okZT = true := by decide +kernel
set_option maxRecDepth 100000 in
theorem okZ_20 : [60, 61, 62].all okZT = true := by decide +kernel
set_option maxRecDepth 100000 in
theorem okZ_21 : [63, 64, 65].all okZT = true := by decide +kernel
set_option maxRecDepth 100000 in
theorem okZ_22 : [66, 67, 68].all okZT = true := by decide +kernel
set_option maxRecDepth 100000 in
theorem okZ_23 : [69, 70, 71].all okZT = true := by decide +kernel
set_option maxRecDepth 100000 in
theorem okZ_24 : [72, 73, 74].all okZT = true := by decide +kernel
set_option maxRecDepth 100000 in
theorem okZ_25 : [75, 76, 77].all okZT = true := by decide +kernel
set_option maxRecDepth 100000 in
theorem okZ_26 : [78, 79, 80].all okZT = true := by decide +kernel
set_option maxRecDepth 100000 in
theorem okZ_27 : [81, 82, 83].all okZT = true := by decide +kernel
set_option maxRecDepth 100000 in
theorem okZ_28 : [84, 85, 86].all okZT = true := by decide +kernel
set_option maxRecDepth 100000 in
theorem okZ_29 : [87, 88, 89].all okZT = true := by decide +kernel
set_option maxRecDepth 100000 in
theorem okZ_30 : [90, 91, 92].all okZT = true := by decide +kernel
set_option maxRecDepth 100000 in
theorem okZ_31 : [93, 94, 95].all okZT = true := by decide +kernel
set_option maxRecDepth 100000 in
theorem okZ_32 : [96, 97, 98].all okZT = true := by decide +kernel
set_option maxRecDepth 100000 in
theorem okZ_33 : [99, 100, 101].all okZT = true := by decide +kernel
set_option maxRecDepth 100000 in
theorem okZ_34 : [102, 103, 104].all okZT = true := by decide +kernel
set_option maxRecDepth 100000 in
theorem okZ_35 : [105, 106, 107].all okZT = true := by decide +kernel
set_option maxRecDepth 100000 in
theorem okZ_36 : [108, 109, 110].all okZT = true := by decide +kernel
set_option maxRecDepth 100000 in
theorem okZ_37 : [111, 112, 113].all okZT = true := by decide +kernel
set_option maxRecDepth 100000 in
theorem okZ_38 : [114, 115, 116].all okZT = true := by decide +kernel
set_option maxRecDepth 100000 in
theorem okZ_39 : [117, 118, 119].all okZT = true := by decide +kernel
set_option maxRecDepth 100000 in
theorem okZ_40 : [120, 121, 122].all okZT = true := by decide +kernel
set_option maxRecDepth 100000 in
theorem okZ_41 : [123, 124, 125].all okZT = true := by decide +kernel
set_option maxRecDepth 100000 in
theorem okZ_42 : [126, 127, 128].all okZT = true := by decide +kernel
set_option maxRecDepth 100000 in
theorem okZ_43 : [129, 130, 131].all okZT = true := by decide +kernel
set_option maxRecDepth 100000 in
theorem okZ_44 : [132, 133, 134].all okZT = true := by decide +kernel
set_option maxRecDepth 100000 in
theorem okZ_45 : [135, 136, 137].all okZT = true := by decide +kernel
set_option maxRecDepth 100000 in
theorem okZ_46 : [138, 139, 140].all okZT = true := by decide +kernel
set_option maxRecDepth 100000 in
theorem okZ_47 : [141, 142, 143].all okZT = true := by decide +kernel
set_option maxRecDepth 100000 in
theorem okZ_48 : [144, 145, 146].all okZT = true := by decide +kernel
set_option maxRecDepth 100000 in
theorem okZ_49 : [147, 148, 149].all okZT = true := by decide +kernel
