/-! THE LAW ITSELF, 1: what the statement gives of the start -/
noncomputable def fl : List Cond := flatC (Jvm.Cond.and given_1 narrow_1)
abbrev sN : List (String × String) := [("TangramBoard", "DX"), ("TangramBoard", "DY"), ("TangramBoard", "BOX_WIDTH"), ("TangramBoard", "BOX_HEIGHT"), ("TangramBoard", "CORNER_COUNT"), ("TangramBoard", "CORNERS"), ("TangramBoard", "LOWER_TWIN"), ("TangramBoardModel", "EAST"), ("TangramBoardModel", "SOUTH")]
abbrev sV : List (List Int32) := [[1, 1, 0, -1, -1, -1, 0, 1], [0, 1, 1, 1, 0, -1, -1, -1], [4, 4, 2, 2, 3, 2, 2], [2, 2, 2, 2, 1, 1, 1], [3, 3, 3, 4, 4, 3, 3],
  [0, 0, 4, 0, 2, 2, 0, 0, 0, 0, 4, 0, 2, 2, 0, 0, 0, 0, 2, 0, 0, 2, 0, 0, 1, 0, 2, 1, 1, 2, 0, 1, 0, 0, 2, 0, 3, 1, 1, 1, 0, 0, 2, 0, 1, 1, 0, 0, 0, 0, 2, 0, 1, 1, 0, 0],
  [-1, 0, -1, -1, -1, -1, 5], [1, 1, 0, -1, -1, -1, 0, 1], [0, 1, 1, 1, 0, -1, -1, -1]]
abbrev tkN : List String := ["END", "INVALID", "NUMBER", "SEMICOLON", "BOARD", "PIECE", "AT", "TURN", "FLIP", "SHAPE", "EAST", "SOUTH_EAST", "SOUTH", "SOUTH_WEST", "WEST", "NORTH_WEST", "NORTH", "NORTH_EAST"]
abbrev tkD : List Int32 := [-1, -1, -1, -1, -1, -1, -1, -1, -1, -1, 0, 1, 2, 3, 4, 5, 6, 7]
abbrev tkX : List Nat := [0, 0, 0, 0, 1, 2, 3, 4, 5, 6, 7, 8, 9, 10, 11, 12, 13, 14]
abbrev txN : List Nat := [88, 97, 100, 103, 106, 109, 112, 115, 118, 121, 124, 127, 130, 133, 136]
abbrev sC (i : Nat) : String := (sN.getD i ("", "")).1
abbrev sF9 (i : Nat) : String := (sN.getD i ("", "")).2
abbrev sT (i : Nat) : Term := .static (sC i) (sF9 i) "[I"
abbrev tkT (i : Nat) : Term := .static RX9 (tkN.getD i "") "LTangramBoard$Token;"
abbrev txT (k : Nat) : Term := .string RX9 (txN.getD k 0)
abbrev tkA : Term := .static "TangramBoard" "TOKENS" "[LTangramBoard$Token;"
/-- what is outside, of a script -/
def XX (L : Nat) (xs : Nat → Int32) : Ext := (fun r j => bif Nat.beq r 10100 then xs j else (sV.getD (r - 10000) []).getD j 0, fun r => tkD.getD (r - 10020) 0, fun r => 10050 + tkX.getD (r - 10020) 0, fun r => lenS.getD (r - 10050) 0, fun r j => (bytS.getD (r - 10050) []).getD j 0, L)
noncomputable def inF (w : Cond) : Bool := decide (w ∈ fl)
noncomputable def inT (w : Cond) : Bool := decide (w ∈ lw_tbl)
set_option maxRecDepth 100000 in
theorem w_sta : (List.range 9).all (fun i => inF (.arrayOf (sT i) .int) && inF (.eq (.length (sT i)) (.int (Int32.ofNat (sV.getD i []).length))) && (List.range (sV.getD i []).length).all (fun j => inF (.eq (.elem (sT i) (.int (Int32.ofNat j))) (.int ((sV.getD i []).getD j 0)))) && inT (.laysStatic (sC i) (sF9 i) "[I") && inT (.initialized (sC i))) = true := by decide +kernel
set_option maxRecDepth 100000 in
theorem w_tok : (List.range 18).all (fun i => inF (.exactly (tkT i) RX9) && inF (.eq (.field (tkT i) RX9 "direction" "I") (.int (tkD.getD i 0))) && inF (.eq (.field (tkT i) RX9 "text" "Ljava/lang/String;") (txT (tkX.getD i 0))) && inT (.laysStatic RX9 (tkN.getD i "") "LTangramBoard$Token;") && inF (.eq (.elem tkA (.int (Int32.ofNat i))) (tkT i)) && (List.range i).all (fun j => inF (.not (.eq (tkT j) (tkT i))))) = true := by decide +kernel
set_option maxRecDepth 100000 in
theorem w_txt : (List.range 15).all (fun i => inF (.exactly (txT i) "java/lang/String") && inF (.eq (.field (txT i) "java/lang/String" "coder" "B") (.int 0)) && inF (.arrayOf (.field (txT i) "java/lang/String" "value" "[B") .byte) && inF (.eq (.length (.field (txT i) "java/lang/String" "value" "[B")) (.int (Int32.ofNat (lenS.getD i 0)))) && (List.range (lenS.getD i 0)).all (fun j => inF (.eq (.elem (.field (txT i) "java/lang/String" "value" "[B") (.int (Int32.ofNat j))) (.int ((bytS.getD i []).getD j 0))))) = true := by decide +kernel
set_option maxRecDepth 100000 in
theorem w_ld : ldL.all (fun q => inT (.stringRef q.1 q.2.1 q.2.2.1) && inF (.eq (.string q.1 q.2.1) (txT (q.2.2.2 - 10050))) && Nat.ble 10050 q.2.2.2 && Nat.blt q.2.2.2 10065) = true := by decide +kernel
set_option maxRecDepth 100000 in
theorem w_ms : msL.all (fun q => inT (.stringRef q.1 q.2.1 q.2.2) && inF (.exactly (.string q.1 q.2.1) "java/lang/String")) = true := by decide +kernel
set_option maxRecDepth 100000 in
theorem w_cl : amCl.all (fun q => (u_ws q.1 q.2.1 q.2.2).all inT && inT (.instantiable q.1 q.2.2)) = true := by decide +kernel
set_option maxRecDepth 100000 in
theorem w_ar : [FieldType.int, .boolean, .byte, .long].all (fun t => inT (.arrayClass t)) = true ∧ [RX1, RX6, RX8, RX9].all (fun C => inT (.arrayOver (.object C))) = true := by decide +kernel
set_option maxRecDepth 100000 in
theorem w_ex : (List.range 4).all (fun i => (List.range 4).all (fun j => Nat.beq i j || inF (.not (.castable (exN (i + 1)) (exN (j + 1)))))) = true := by decide +kernel
abbrev miL : List Cond := [Cond.eq (.static "java/lang/String" "COMPACT_STRINGS" "Z") (.int 1), .isRef (.static "jdk/internal/util/Preconditions" "SIOOBE_FORMATTER" "Ljava/util/function/BiFunction;"), .isRef (.static Bundle.tN "UNASSIGNED_STACK" Bundle.steD), .isRef (.static Bundle.tN "SUPPRESSED_SENTINEL" Bundle.listD), .arrayOf tkA (.object RX9), .eq (.length tkA) (.int (Int32.ofNat 18))]
abbrev mtL : List Cond := [Cond.laysStatic "java/lang/String" "COMPACT_STRINGS" "Z", .initialized "java/lang/String", .laysStatic "jdk/internal/util/Preconditions" "SIOOBE_FORMATTER" "Ljava/util/function/BiFunction;", .initialized "jdk/internal/util/Preconditions", .laysStatic Bundle.tN "UNASSIGNED_STACK" Bundle.steD, .initialized Bundle.tN, .laysStatic Bundle.tN "SUPPRESSED_SENTINEL" Bundle.listD, .laysStatic "TangramBoard" "TOKENS" "[LTangramBoard$Token;", .initialized "TangramBoard", .initialized RX9]
set_option maxRecDepth 100000 in
theorem w_mi : miL.all inF = true := by decide +kernel
set_option maxRecDepth 100000 in
theorem w_mt : mtL.all inT = true := by decide +kernel
theorem mi {w : Cond} (i : Nat) (h : miL[i]? = some w) : inF w = true := List.all_eq_true.mp w_mi w (List.mem_of_getElem? h)
theorem mt {w : Cond} (i : Nat) (h : mtL[i]? = some w) : inT w = true := List.all_eq_true.mp w_mt w (List.mem_of_getElem? h)
