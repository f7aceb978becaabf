/-! THE LAW ITSELF, 1: what the statement gives of the start -/
noncomputable def fl : List Cond := flatC (Jvm.Cond.and given_1 narrow_1)
abbrev sN9 : List (String × String) := [("TangramBoard", "DX"), ("TangramBoard", "DY"), ("TangramBoard", "BOX_WIDTH"), ("TangramBoard", "BOX_HEIGHT"), ("TangramBoard", "CORNER_COUNT"), ("TangramBoard", "CORNERS"), ("TangramBoard", "LOWER_TWIN"), ("TangramBoardModel", "EAST"), ("TangramBoardModel", "SOUTH")]
abbrev sV : List (List Int32) := [[1, 1, 0, -1, -1, -1, 0, 1], [0, 1, 1, 1, 0, -1, -1, -1], [4, 4, 2, 2, 3, 2, 2], [2, 2, 2, 2, 1, 1, 1], [3, 3, 3, 4, 4, 3, 3],
  [0, 0, 4, 0, 2, 2, 0, 0, 0, 0, 4, 0, 2, 2, 0, 0, 0, 0, 2, 0, 0, 2, 0, 0, 1, 0, 2, 1, 1, 2, 0, 1, 0, 0, 2, 0, 3, 1, 1, 1, 0, 0, 2, 0, 1, 1, 0, 0, 0, 0, 2, 0, 1, 1, 0, 0],
  [-1, 0, -1, -1, -1, -1, 5], [1, 1, 0, -1, -1, -1, 0, 1], [0, 1, 1, 1, 0, -1, -1, -1]]
abbrev tkN : List String := ["END", "INVALID", "NUMBER", "SEMICOLON", "BOARD", "PIECE", "AT", "TURN", "FLIP", "SHAPE", "EAST", "SOUTH_EAST", "SOUTH", "SOUTH_WEST", "WEST", "NORTH_WEST", "NORTH", "NORTH_EAST"]
abbrev tkD : List Int32 := [-1, -1, -1, -1, -1, -1, -1, -1, -1, -1, 0, 1, 2, 3, 4, 5, 6, 7]
abbrev tkX : List Nat := [0, 0, 0, 0, 1, 2, 3, 4, 5, 6, 7, 8, 9, 10, 11, 12, 13, 14]
abbrev txN : List Nat := [88, 97, 100, 103, 106, 109, 112, 115, 118, 121, 124, 127, 130, 133, 136]
abbrev sC (i : Nat) : String := (sN9.getD i ("", "")).1
abbrev sF9 (i : Nat) : String := (sN9.getD i ("", "")).2
abbrev sT (i : Nat) : Term := .static (sC i) (sF9 i) "[I"
abbrev tkT (i : Nat) : Term := .static RX9 (tkN.getD i "") "LTangramBoard$Token;"
abbrev txT (k : Nat) : Term := .string RX9 (txN.getD k 0)
abbrev tkA : Term := .static "TangramBoard" "TOKENS" "[LTangramBoard$Token;"
/-- what is outside, of a script -/
def XX (L : Nat) (xs : Nat → Int32) : Ext := (fun r j => bif Nat.beq r 10100 then xs j else (sV.getD (r - 10000) []).getD j 0, fun r => tkD.getD (r - 10020) 0, fun r => 10050 + tkX.getD (r - 10020) 0, fun r => lenS.getD (r - 10050) 0, fun r j => (bytS.getD (r - 10050) []).getD j 0, L)
abbrev sS : List Nat := [98, 109, 74, 84, 5, 15, 231, 241, 252]
abbrev sP9 : List (List Nat) := [[3037, 1001], [3039, 1001], [1097, 1001], [1099, 1001], [1089, 1001], [1091, 1001], [5202, 1001], [7209, 1018], [7211, 1018]]
abbrev kS9 : List Nat := [93, 149, 154, 160, 167, 175, 184, 194, 205, 217, 262, 276, 291, 307, 324, 342, 361, 381]
abbrev kP9 : List Nat := [2146, 4235, 4237, 5003, 5005, 5038, 5049, 5051, 5053, 5073, 9103, 9104, 9105, 9106, 9107, 9108, 9109, 9110]
abbrev kN9 : List (List Nat) := [[], [153], [158, 159], [164, 165, 166], [171, 172, 173, 174], [179, 180, 181, 182, 183], [188, 189, 190, 191, 192, 193], [198, 199, 200, 201, 202, 203, 204], [209, 210, 211, 212, 213, 214, 215, 216], [221, 222, 223, 224, 225, 226, 227, 228, 229], [266, 267, 268, 269, 270, 271, 272, 273, 274, 275], [280, 281, 282, 283, 284, 285, 286, 287, 288, 289, 290], [295, 296, 297, 298, 299, 300, 301, 302, 303, 304, 305, 306], [311, 312, 313, 314, 315, 316, 317, 318, 319, 320, 321, 322, 323], [328, 329, 330, 331, 332, 333, 334, 335, 336, 337, 338, 339, 340, 341], [346, 347, 348, 349, 350, 351, 352, 353, 354, 355, 356, 357, 358, 359, 360], [365, 366, 367, 368, 369, 370, 371, 372, 373, 374, 375, 376, 377, 378, 379, 380], [385, 386, 387, 388, 389, 390, 391, 392, 393, 394, 395, 396, 397, 398, 399, 400, 401]]
abbrev xS9 : List Nat := [851, 855, 865, 875, 882, 891, 900, 910, 916, 923, 929, 936, 942, 949, 955]
abbrev ldP : List (List Nat) := [[7130, 864], [7157, 874], [7163, 881], [7164, 890], [7165, 899], [7186, 909], [7199, 915], [7200, 922], [7201, 928], [7202, 935], [7203, 941], [7204, 948], [7205, 954], [7206, 961]]
abbrev msP : List (List Nat) := [[4150, 639], [5142, 688], [6065, 737], [4045, 538], [5109, 664], [6047, 713], [4092, 562], [4141, 613], [4125, 588]]
abbrev clP : List (List Nat × Nat) := [([2118, 2120, 2122, 2124, 2126, 2128], 2101), ([1148, 1150, 1152, 1154, 1156, 1158], 1044), ([2097], 2089), ([2061, 2063, 2065, 2067, 2069, 2071, 2073, 2075, 2077, 2079, 2081, 2083, 2085], 2033), ([2180, 2182, 2184, 2186, 2188, 2190], 2132), ([1200, 1202, 1204], 1176), ([1073, 1075, 1077, 1079, 1081, 1083], 1050), ([2018, 2020, 2022, 2024, 2026, 2028], 2001), ([1225, 1227, 1229, 1231, 1233], 1170), ([1225, 1227, 1229, 1231, 1233], 1170), ([2154, 2156, 2158, 2160, 2162, 2164], 2138), ([2204, 2206, 2208, 2210, 2212, 2214, 2216, 2218, 2220, 2222, 2224], 1032), ([6205, 6207, 6209, 6211, 6213, 6215, 6217, 6219, 6221, 6223, 6225, 6227, 6229, 6231, 6233, 6235, 6237, 6239, 7001, 7003, 7005, 7007, 7009, 7011, 7013, 7015, 7017, 7019, 7021, 7023, 7025, 7027, 7029, 7031, 7033, 7035, 7037, 7039, 7041, 7043, 7045, 7047, 7049, 7051, 7053, 7055, 7057, 7059, 7061, 7063, 7065, 7067, 7069, 7071, 7073, 7075, 7077, 7079, 7081, 7083, 7085, 7087], 6073)]
abbrev eP9 : List (List Nat) := [[0, 431, 447, 463], [415, 0, 448, 464], [416, 432, 0, 465], [417, 433, 449, 0]]
abbrev miL : List Cond := [.eq (.static "java/lang/String" "COMPACT_STRINGS" "Z") (.int 1), .isRef (.static "jdk/internal/util/Preconditions" "SIOOBE_FORMATTER" "Ljava/util/function/BiFunction;"), .isRef (.static Bundle.tN "UNASSIGNED_STACK" Bundle.steD), .isRef (.static Bundle.tN "SUPPRESSED_SENTINEL" Bundle.listD), .arrayOf tkA (.object RX9), .eq (.length tkA) (.int (Int32.ofNat 18))]
abbrev mtL : List Cond := [.laysStatic "java/lang/String" "COMPACT_STRINGS" "Z", .initialized "java/lang/String", .laysStatic "jdk/internal/util/Preconditions" "SIOOBE_FORMATTER" "Ljava/util/function/BiFunction;", .initialized "jdk/internal/util/Preconditions", .laysStatic Bundle.tN "UNASSIGNED_STACK" Bundle.steD, .initialized Bundle.tN, .laysStatic Bundle.tN "SUPPRESSED_SENTINEL" Bundle.listD, .laysStatic "TangramBoard" "TOKENS" "[LTangramBoard$Token;", .initialized "TangramBoard", .initialized RX9]
noncomputable def inF (i j : Nat) (w : Cond) : Bool := match nth (List.drop i fl) j with
  | some v => decide (v = w)
  | none => false
noncomputable def inT (q : Nat) (w : Cond) : Bool := decide (wt q = some w)
noncomputable def allT : List Cond → List Nat → Bool
  | [], _ => true
  | w :: ws, q :: qs => inT q w && allT ws qs
  | _, _ => false
noncomputable def allF : List Cond → List Nat → Bool
  | [], _ => true
  | w :: ws, q :: qs => inF q 0 w && allF ws qs
  | _, _ => false
set_option maxRecDepth 100000 in
theorem w_sta : (List.range 9).all (fun i => inF (sS.getD i 0) 0 (.arrayOf (sT i) .int) && inF (sS.getD i 0) 1 (.eq (.length (sT i)) (.int (Int32.ofNat (sV.getD i []).length))) && (List.range (sV.getD i []).length).all (fun j => inF (sS.getD i 0) (2 + j) (.eq (.elem (sT i) (.int (Int32.ofNat j))) (.int ((sV.getD i []).getD j 0)))) && inT ((sP9.getD i []).getD 0 0) (.laysStatic (sC i) (sF9 i) "[I") && inT ((sP9.getD i []).getD 1 0) (.initialized (sC i))) = true := by decide +kernel
set_option maxRecDepth 100000 in
theorem w_tok : (List.range 18).all (fun i => inF (kS9.getD i 0) 0 (.exactly (tkT i) RX9) && inF (kS9.getD i 0) 3 (.eq (.field (tkT i) RX9 "direction" "I") (.int (tkD.getD i 0))) && inF (kS9.getD i 0) 2 (.eq (.field (tkT i) RX9 "text" "Ljava/lang/String;") (txT (tkX.getD i 0))) && inT (kP9.getD i 0) (.laysStatic RX9 (tkN.getD i "") "LTangramBoard$Token;") && inF 123 (3 + i) (.eq (.elem tkA (.int (Int32.ofNat i))) (tkT i)) && (List.range i).all (fun j => inF ((kN9.getD i []).getD j 0) 0 (.not (.eq (tkT j) (tkT i))))) = true := by decide +kernel
set_option maxRecDepth 100000 in
theorem w_txt : (List.range 15).all (fun i => inF (xS9.getD i 0) 0 (.exactly (txT i) "java/lang/String") && inF (xS9.getD i 0) 1 (.eq (.field (txT i) "java/lang/String" "coder" "B") (.int 0)) && inF (xS9.getD i 0) 2 (.arrayOf (.field (txT i) "java/lang/String" "value" "[B") .byte) && inF (xS9.getD i 0) 3 (.eq (.length (.field (txT i) "java/lang/String" "value" "[B")) (.int (Int32.ofNat (lenS.getD i 0)))) && (List.range (lenS.getD i 0)).all (fun j => inF (xS9.getD i 0) (4 + j) (.eq (.elem (.field (txT i) "java/lang/String" "value" "[B") (.int (Int32.ofNat j))) (.int ((bytS.getD i []).getD j 0))))) = true := by decide +kernel
set_option maxRecDepth 100000 in
theorem w_ld : (List.range 14).all (fun i => match nth ldL i with | some q => inT ((ldP.getD i []).getD 0 0) (.stringRef q.1 q.2.1 q.2.2.1) && inF ((ldP.getD i []).getD 1 0) 0 (.eq (.string q.1 q.2.1) (txT (q.2.2.2 - 10050))) && Nat.ble 10050 q.2.2.2 && Nat.blt q.2.2.2 10065 | none => false) = true := by decide +kernel
set_option maxRecDepth 100000 in
theorem w_ms : (List.range 9).all (fun i => match nth msL i with | some q => inT ((msP.getD i []).getD 0 0) (.stringRef q.1 q.2.1 q.2.2) && inF ((msP.getD i []).getD 1 0) 0 (.exactly (.string q.1 q.2.1) "java/lang/String") | none => false) = true := by decide +kernel
set_option maxRecDepth 100000 in
theorem w_cl : (List.range 13).all (fun i => match nth amCl i, nth clP i with | some q, some r => allT (u_ws q.1 q.2.1 q.2.2) r.1 && inT r.2 (.instantiable q.1 q.2.2) | _, _ => false) = true := by decide +kernel
set_option maxRecDepth 100000 in
theorem w_ar : allT [.arrayClass .int, .arrayClass .boolean, .arrayClass .byte, .arrayClass .long] [1086, 2031, 2167, 1087] = true := by decide +kernel
set_option maxRecDepth 100000 in
theorem w_ao : allT [.arrayOver (.object RX1), .arrayOver (.object RX6), .arrayOver (.object RX8), .arrayOver (.object RX9)] [1043, 1208, 1239, 2144] = true := by decide +kernel
set_option maxRecDepth 100000 in
theorem w_ex : (List.range 4).all (fun i => (List.range 4).all (fun j => Nat.beq i j || inF ((eP9.getD i []).getD j 0) 0 (.not (.castable (exN (i + 1)) (exN (j + 1)))))) = true := by decide +kernel
set_option maxRecDepth 100000 in
theorem w_mi : allF miL [144, 145, 119, 120, 123, 124] = true := by decide +kernel
set_option maxRecDepth 100000 in
theorem w_mt : allT mtL [4195, 1023, 4211, 1025, 4030, 1019, 4032, 4181, 1001, 1017] = true := by decide +kernel
theorem inF_mem {i j : Nat} {w : Cond} (h : inF i j w = true) : w ∈ fl := by
  unfold inF at h
  rw [nth_eq] at h
  cases hn : (List.drop i fl)[j]? with
  | none => rw [hn] at h; cases h
  | some v =>
    rw [hn] at h
    have h : v = w := of_decide_eq_true h
    subst h
    exact List.mem_of_mem_drop (List.mem_of_getElem? hn)
theorem inT_mem {q : Nat} {w : Cond} (h : inT q w = true) : w ∈ lw_tbl := wt_mem (of_decide_eq_true h)
theorem allT_mem (ws : List Cond) : ∀ (qs : List Nat), allT ws qs = true → ∀ w ∈ ws, w ∈ lw_tbl := by
  induction ws with
  | nil => intro qs _ w h; cases h
  | cons x ws ih =>
    intro qs h w hw
    cases qs with
    | nil => cases h
    | cons q qs =>
      have h : (inT q x && allT ws qs) = true := h
      rw [Bool.and_eq_true] at h
      rcases List.mem_cons.mp hw with rfl | hw
      · exact inT_mem h.1
      · exact ih qs h.2 w hw
theorem allF_mem (ws : List Cond) : ∀ (qs : List Nat), allF ws qs = true → ∀ w ∈ ws, w ∈ fl := by
  induction ws with
  | nil => intro qs _ w h; cases h
  | cons x ws ih =>
    intro qs h w hw
    cases qs with
    | nil => cases h
    | cons q qs =>
      have h : (inF q 0 x && allF ws qs) = true := h
      rw [Bool.and_eq_true] at h
      rcases List.mem_cons.mp hw with rfl | hw
      · exact inF_mem h.1
      · exact ih qs h.2 w hw
theorem mi9 {w : Cond} (i : Nat) (h : miL[i]? = some w) : w ∈ fl := allF_mem _ _ w_mi w (List.mem_of_getElem? h)
theorem mt9 {w : Cond} (i : Nat) (h : mtL[i]? = some w) : w ∈ lw_tbl := allT_mem _ _ w_mt w (List.mem_of_getElem? h)
