/-! the law's own table, row by row -/
set_option maxRecDepth 100000 in
theorem roL_0 : [0, 1, 2, 3].all (rowT R_law code 0 (tbm 301).1 ht_L_law) = true := by decide +kernel
set_option maxRecDepth 100000 in
theorem roL_4 : [4, 5, 6, 7].all (rowT R_law code 0 (tbm 301).1 ht_L_law) = true := by decide +kernel
set_option maxRecDepth 100000 in
theorem roL_8 : [8, 9, 10, 11].all (rowT R_law code 0 (tbm 301).1 ht_L_law) = true := by decide +kernel
set_option maxRecDepth 100000 in
theorem roL_12 : [12, 13, 14, 15].all (rowT R_law code 0 (tbm 301).1 ht_L_law) = true := by decide +kernel
set_option maxRecDepth 100000 in
theorem roL_16 : [16, 17, 18, 19].all (rowT R_law code 0 (tbm 301).1 ht_L_law) = true := by decide +kernel
set_option maxRecDepth 100000 in
theorem roL_20 : [20, 21, 22, 23].all (rowT R_law code 0 (tbm 301).1 ht_L_law) = true := by decide +kernel
set_option maxRecDepth 100000 in
theorem roL_24 : [24, 25, 26, 27].all (rowT R_law code 0 (tbm 301).1 ht_L_law) = true := by decide +kernel
set_option maxRecDepth 100000 in
theorem roL_28 : [28, 29, 30, 31].all (rowT R_law code 0 (tbm 301).1 ht_L_law) = true := by decide +kernel
set_option maxRecDepth 100000 in
theorem roL_32 : [32, 33, 34, 35].all (rowT R_law code 0 (tbm 301).1 ht_L_law) = true := by decide +kernel
set_option maxRecDepth 100000 in
theorem roL_36 : [36, 37, 38, 39].all (rowT R_law code 0 (tbm 301).1 ht_L_law) = true := by decide +kernel
set_option maxRecDepth 100000 in
theorem roL_40 : [40, 41, 42, 43].all (rowT R_law code 0 (tbm 301).1 ht_L_law) = true := by decide +kernel
set_option maxRecDepth 100000 in
theorem roL_44 : [44, 45, 46, 47].all (rowT R_law code 0 (tbm 301).1 ht_L_law) = true := by decide +kernel
set_option maxRecDepth 100000 in
theorem roL_48 : [48, 49, 50, 51].all (rowT R_law code 0 (tbm 301).1 ht_L_law) = true := by decide +kernel
set_option maxRecDepth 100000 in
theorem roL_52 : [52, 53, 54, 55].all (rowT R_law code 0 (tbm 301).1 ht_L_law) = true := by decide +kernel
set_option maxRecDepth 100000 in
theorem roL_56 : [56, 57, 58, 59].all (rowT R_law code 0 (tbm 301).1 ht_L_law) = true := by decide +kernel
set_option maxRecDepth 100000 in
theorem roL_60 : [60, 61, 62, 63].all (rowT R_law code 0 (tbm 301).1 ht_L_law) = true := by decide +kernel
set_option maxRecDepth 100000 in
theorem roL_64 : [64, 65, 66, 67].all (rowT R_law code 0 (tbm 301).1 ht_L_law) = true := by decide +kernel
set_option maxRecDepth 100000 in
theorem roL_68 : [68, 69, 70, 71].all (rowT R_law code 0 (tbm 301).1 ht_L_law) = true := by decide +kernel
set_option maxRecDepth 100000 in
theorem roL_72 : [72, 73, 74, 75].all (rowT R_law code 0 (tbm 301).1 ht_L_law) = true := by decide +kernel
set_option maxRecDepth 100000 in
theorem roL_76 : [76, 77, 78, 79].all (rowT R_law code 0 (tbm 301).1 ht_L_law) = true := by decide +kernel
set_option maxRecDepth 100000 in
theorem roL_80 : [80, 81, 82, 83].all (rowT R_law code 0 (tbm 301).1 ht_L_law) = true := by decide +kernel
set_option maxRecDepth 100000 in
theorem roL_84 : [84, 85, 86, 87].all (rowT R_law code 0 (tbm 301).1 ht_L_law) = true := by decide +kernel
set_option maxRecDepth 100000 in
theorem roL_88 : [88, 89, 90, 91].all (rowT R_law code 0 (tbm 301).1 ht_L_law) = true := by decide +kernel
set_option maxRecDepth 100000 in
theorem roL_92 : [92, 93, 94, 95].all (rowT R_law code 0 (tbm 301).1 ht_L_law) = true := by decide +kernel
set_option maxRecDepth 100000 in
theorem roL_96 : [96, 97, 98, 99].all (rowT R_law code 0 (tbm 301).1 ht_L_law) = true := by decide +kernel
set_option maxRecDepth 100000 in
theorem roL_100 : [100, 101, 102, 103].all (rowT R_law code 0 (tbm 301).1 ht_L_law) = true := by decide +kernel
set_option maxRecDepth 100000 in
theorem roL_104 : [104, 105, 106, 107].all (rowT R_law code 0 (tbm 301).1 ht_L_law) = true := by decide +kernel
set_option maxRecDepth 100000 in
theorem roL_108 : [108, 109, 110, 111].all (rowT R_law code 0 (tbm 301).1 ht_L_law) = true := by decide +kernel
set_option maxRecDepth 100000 in
theorem roL_112 : [112, 113, 114, 115].all (rowT R_law code 0 (tbm 301).1 ht_L_law) = true := by decide +kernel
set_option maxRecDepth 100000 in
theorem roL_116 : [116, 117, 118, 119].all (rowT R_law code 0 (tbm 301).1 ht_L_law) = true := by decide +kernel
set_option maxRecDepth 100000 in
theorem roL_120 : [120, 121, 122, 123].all (rowT R_law code 0 (tbm 301).1 ht_L_law) = true := by decide +kernel
set_option maxRecDepth 100000 in
theorem roL_124 : [124, 125, 126, 127].all (rowT R_law code 0 (tbm 301).1 ht_L_law) = true := by decide +kernel
set_option maxRecDepth 100000 in
theorem roL_128 : [128, 129].all (rowT R_law code 0 (tbm 301).1 ht_L_law) = true := by decide +kernel
theorem roAL : ∀ j, j < 130 → (rowT R_law code 0 (tbm 301).1 ht_L_law) j = true := by
  have h0 : ∀ j, j < 0 → (rowT R_law code 0 (tbm 301).1 ht_L_law) j = true := fun j h => absurd h (Nat.not_lt_zero j)
  have h4 := rowS (k := 4) h0 rfl roL_0
  have h8 := rowS (k := 4) h4 rfl roL_4
  have h12 := rowS (k := 4) h8 rfl roL_8
  have h16 := rowS (k := 4) h12 rfl roL_12
  have h20 := rowS (k := 4) h16 rfl roL_16
  have h24 := rowS (k := 4) h20 rfl roL_20
  have h28 := rowS (k := 4) h24 rfl roL_24
  have h32 := rowS (k := 4) h28 rfl roL_28
  have h36 := rowS (k := 4) h32 rfl roL_32
  have h40 := rowS (k := 4) h36 rfl roL_36
  have h44 := rowS (k := 4) h40 rfl roL_40
  have h48 := rowS (k := 4) h44 rfl roL_44
  have h52 := rowS (k := 4) h48 rfl roL_48
  have h56 := rowS (k := 4) h52 rfl roL_52
  have h60 := rowS (k := 4) h56 rfl roL_56
  have h64 := rowS (k := 4) h60 rfl roL_60
  have h68 := rowS (k := 4) h64 rfl roL_64
  have h72 := rowS (k := 4) h68 rfl roL_68
  have h76 := rowS (k := 4) h72 rfl roL_72
  have h80 := rowS (k := 4) h76 rfl roL_76
  have h84 := rowS (k := 4) h80 rfl roL_80
  have h88 := rowS (k := 4) h84 rfl roL_84
  have h92 := rowS (k := 4) h88 rfl roL_88
  have h96 := rowS (k := 4) h92 rfl roL_92
  have h100 := rowS (k := 4) h96 rfl roL_96
  have h104 := rowS (k := 4) h100 rfl roL_100
  have h108 := rowS (k := 4) h104 rfl roL_104
  have h112 := rowS (k := 4) h108 rfl roL_108
  have h116 := rowS (k := 4) h112 rfl roL_112
  have h120 := rowS (k := 4) h116 rfl roL_116
  have h124 := rowS (k := 4) h120 rfl roL_120
  have h128 := rowS (k := 4) h124 rfl roL_124
  have h130 := rowS (k := 2) h128 rfl roL_128
  exact h130
set_option maxRecDepth 100000 in
theorem lawLen : (tbm 301).1.length = 130 := by decide +kernel
theorem okT_law : okT R_law code 0 (tbm 301).1 ht_L_law = true := okT_rows _ _ _ _ _ (fun j hj => roAL j (by rw [lawLen] at hj; exact hj))
