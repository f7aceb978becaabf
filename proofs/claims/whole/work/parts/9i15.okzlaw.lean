/-! the further checks of the law's table -/
set_option maxRecDepth 100000 in
theorem okZ_law : okTF (okZ R_law "" code 9 ret []) 0 (tbm 301).1 ht_L_law = true := by decide +kernel
