/-! the law's own table -/
set_option maxRecDepth 100000 in
theorem okT_law : (match mtm 301 with | some (_, b, _, _, _, _, ht) => okT "TangramBoardLaw" b 0 (tbm 301).1 ht | _ => false) = true := by decide +kernel
set_option maxRecDepth 100000 in
theorem okZ_law : (match mtm 301 with | some (_, b, rt, hh, _, _, ht) => okTF (okZ "TangramBoardLaw" "" b 9 rt hh) 0 (tbm 301).1 ht | _ => false) = true := by decide +kernel
