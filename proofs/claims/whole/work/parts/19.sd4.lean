/-! SOUNDNESS, 4: the world outside of what is made: statics, constants, texts, the script -/
abbrev tysL (G : GE) : List (ClassId × FieldType) := [(G.2.1 1, .int), (G.2.1 2, .boolean), (G.2.1 3, .byte), (G.2.1 4, .long), (G.2.1 11, .object RX1), (G.2.1 11, .object RX1), (G.2.1 11, .object RX1), (G.2.1 11, .object RX1), (G.2.1 11, .object RX1), (G.2.1 11, .object RX1), (G.2.1 16, .object RX6), (G.2.1 11, .object RX1), (G.2.1 18, .object RX8), (G.2.1 19, .object RX9), (G.2.1 11, .object RX1), (G.2.1 11, .object RX1), (G.2.1 11, .object RX1)]
abbrev stL : List (String × String × String × Nat × Nat) := [("TangramBoard", "DX", "[I", 10000, 60008),
  ("TangramBoard", "DY", "[I", 10001, 60008),
  ("TangramBoard", "BOX_WIDTH", "[I", 10002, 60007),
  ("TangramBoard", "BOX_HEIGHT", "[I", 10003, 60007),
  ("TangramBoard", "CORNER_COUNT", "[I", 10004, 60007),
  ("TangramBoard", "CORNERS", "[I", 10005, 60056),
  ("TangramBoard", "LOWER_TWIN", "[I", 10006, 60007),
  ("TangramBoardModel", "EAST", "[I", 10007, 60008),
  ("TangramBoardModel", "SOUTH", "[I", 10008, 60008),
  ("TangramBoard", "TOKENS", "[LTangramBoard$Token;", 10009, 70018),
  ("TangramBoard$Token", "END", "LTangramBoard$Token;", 10020, 10),
  ("TangramBoard$Token", "INVALID", "LTangramBoard$Token;", 10021, 10),
  ("TangramBoard$Token", "NUMBER", "LTangramBoard$Token;", 10022, 10),
  ("TangramBoard$Token", "SEMICOLON", "LTangramBoard$Token;", 10023, 10),
  ("TangramBoard$Token", "BOARD", "LTangramBoard$Token;", 10024, 10),
  ("TangramBoard$Token", "PIECE", "LTangramBoard$Token;", 10025, 10),
  ("TangramBoard$Token", "AT", "LTangramBoard$Token;", 10026, 10),
  ("TangramBoard$Token", "TURN", "LTangramBoard$Token;", 10027, 10),
  ("TangramBoard$Token", "FLIP", "LTangramBoard$Token;", 10028, 10),
  ("TangramBoard$Token", "SHAPE", "LTangramBoard$Token;", 10029, 10),
  ("TangramBoard$Token", "EAST", "LTangramBoard$Token;", 10030, 10),
  ("TangramBoard$Token", "SOUTH_EAST", "LTangramBoard$Token;", 10031, 10),
  ("TangramBoard$Token", "SOUTH", "LTangramBoard$Token;", 10032, 10),
  ("TangramBoard$Token", "SOUTH_WEST", "LTangramBoard$Token;", 10033, 10),
  ("TangramBoard$Token", "WEST", "LTangramBoard$Token;", 10034, 10),
  ("TangramBoard$Token", "NORTH_WEST", "LTangramBoard$Token;", 10035, 10),
  ("TangramBoard$Token", "NORTH", "LTangramBoard$Token;", 10036, 10),
  ("TangramBoard$Token", "NORTH_EAST", "LTangramBoard$Token;", 10037, 10)]
abbrev ldL : List (String × Nat × String × Nat) := [("TangramBoardModel", 472, "board", 10051),
  ("TangramBoardModel", 474, "piece", 10052),
  ("TangramBoardModel", 419, "at", 10053),
  ("TangramBoardModel", 428, "turn", 10054),
  ("TangramBoardModel", 430, "flip", 10055),
  ("TangramBoardModel", 479, "shape", 10056),
  ("TangramBoardModel", 436, "e", 10057),
  ("TangramBoardModel", 438, "se", 10058),
  ("TangramBoardModel", 440, "s", 10059),
  ("TangramBoardModel", 441, "sw", 10060),
  ("TangramBoardModel", 443, "w", 10061),
  ("TangramBoardModel", 445, "nw", 10062),
  ("TangramBoardModel", 447, "n", 10063),
  ("TangramBoardModel", 449, "ne", 10064)]
abbrev msL : List (String × Nat × String) := [("TangramBoard", 109, "bytes is out of range"),
  ("TangramBoard", 264, "there is no such edge"),
  ("TangramBoard", 354, "the slot is empty"),
  ("TangramBoard", 384, "what is out of range"),
  ("TangramBoard", 386, "turn is out of range"),
  ("TangramBoard", 388, "slot is out of range"),
  ("TangramBoard", 392, "there is no such piece"),
  ("TangramBoard", 395, "there is no such shape"),
  ("TangramBoard", 397, "there is no such loop")]
abbrev lenS : List Nat := [0, 5, 5, 2, 4, 4, 5, 1, 2, 1, 2, 1, 2, 1, 2]
abbrev bytS : List (List Int32) := [[], [98, 111, 97, 114, 100], [112, 105, 101, 99, 101], [97, 116], [116, 117, 114, 110], [102, 108, 105, 112], [115, 104, 97, 112, 101], [101], [115, 101], [115], [115, 119], [119], [110, 119], [110], [110, 101]]
def exN : Nat → String
  | 1 => "java/lang/IllegalArgumentException"
  | 2 => "java/lang/IndexOutOfBoundsException"
  | 3 => "java/util/NoSuchElementException"
  | _ => "java/lang/IllegalStateException"
/-- the sorts of arrays that there are: of references those of four classes -/
def srtB (s : Nat) : Bool := Nat.blt s 10 || Nat.beq s 11 || Nat.beq s 16 || Nat.beq s 18 || Nat.beq s 19
theorem srtB_no {s : Nat} (h : srtB s = true) (h0 : 10 ≤ s) : s = 11 ∨ s = 16 ∨ s = 18 ∨ s = 19 := by
  unfold srtB at h
  simp only [Bool.or_eq_true] at h
  rcases h with (((h | h) | h) | h) | h
  · exact absurd (Nat.le_of_ble_eq_true h) (by omega)
  all_goals (have h := Nat.eq_of_beq_eq_true h; omega)
def isNest : Cond → Bool
  | .methodLinkNest .. => true
  | .fieldLinkNest .. => true
  | .castable .. => true
  | .declares _ => true
  | _ => false
noncomputable def tg : List Cond := lw_tbl.filter goodWord
noncomputable def tn : List Cond := lw_tbl.filter isNest
abbrev Af (G : GE) : Nat → Prop := fun q => G.1 ≤ q
/-- what is so of the places outside -/
def Gd (G : GE) (X : Ext) : Prop :=
  (∀ i, i < 18 → ∃ k, k < 15 ∧ X.2.2.1 (10020 + i) = 10050 + k) ∧ (∀ i j, i < 18 → j < 18 → G.2.2.1 (10020 + i) = G.2.2.1 (10020 + j) → i = j) ∧
  (∀ k, k < 15 → X.2.2.2.1 (10050 + k) = lenS.getD k 0 ∧ ∀ j, j < lenS.getD k 0 → X.2.2.2.2.1 (10050 + k) j = (bytS.getD k []).getD j 0) ∧
  G.2.2.1 10100 < G.1 ∧ (∀ r r', G.2.2.2 r = 0 → r ≤ r' → G.2.2.2 r' = 0) ∧ X.2.2.2.2.2 < 2 ^ 31
def Wd (G : GE) (D : va_G) (X : Ext) (s : State) : Prop :=
  va_K D amCl (tysL G) s ∧
  (∀ q ∈ stL, va_Z q.1 q.2.1 q.2.2.1 (.ref (G.2.2.1 q.2.2.2.1)) (Af G) s s.heap) ∧
  (∀ q ∈ statL, kSort q.2 = 6 → va_T .int (G.2.2.1 q.1) (kLen q.2) (fun j => .int (X.1 q.1 j)) (Af G) s s.heap) ∧
  va_T (.object RX9) (G.2.2.1 10009) 18 (fun j => .ref (G.2.2.1 (10020 + j))) (Af G) s s.heap ∧
  (∀ i, i < 18 → va_OF RX9 "direction" "I" (.int (X.2.1 (10020 + i))) (G.2.2.1 (10020 + i)) (Af G) s s.heap ∧ va_OF RX9 "text" "Ljava/lang/String;" (.ref (G.2.2.1 (X.2.2.1 (10020 + i)))) (G.2.2.1 (10020 + i)) (Af G) s s.heap ∧ va_O RX9 (G.2.2.1 (10020 + i)) (Af G) s s.heap) ∧
  (∀ q ∈ ldL, vk_R q.1 q.2.1 q.2.2.1 (G.2.2.1 q.2.2.2) s) ∧
  vk_S 15 lenS bytS (fun i => G.2.2.1 (10050 + i)) (fun i => G.2.2.1 (10070 + i)) (Af G) s s.heap ∧
  va_Z "java/lang/String" "COMPACT_STRINGS" "Z" (.int 1) (Af G) s s.heap ∧
  va_Zq "jdk/internal/util/Preconditions" "SIOOBE_FORMATTER" "Ljava/util/function/BiFunction;" (Af G) s s.heap ∧
  va_X (G.2.2.1 10100) X.2.2.2.2.2 (X.1 10100) s s.heap ∧
  vx_Zq Bundle.tN "UNASSIGNED_STACK" Bundle.steD (Af G) s s.heap ∧ vx_Zq Bundle.tN "SUPPRESSED_SENTINEL" Bundle.listD (Af G) s s.heap ∧
  (∀ q ∈ msL, ∃ sa, vk_R q.1 q.2.1 q.2.2 sa s) ∧
  (∀ w ∈ tn, va_Nw w s) ∧
  (∀ C ∈ [RX1, RX6, RX8, RX9], va_AO C s) ∧
  (∀ i j, i < 4 → j < 4 → ¬ i = j → va_Nc (exN (i + 1)) (exN (j + 1)) s) ∧ G.1 ≤ s.heap.size
theorem warmN {w : Cond} (hw : isNest w = true) {s U : State} (hW : s.WarmedH U.vm) (h : va_Nw w s) : va_Nw w U := by
  cases w <;> first | exact va_Nw.warmM hW h | exact va_Nw.warmF hW h | exact va_Nw.warmC hW h | exact va_Nw.warmD hW h | cases hw
theorem Wd.to {G : GE} {D : va_G} {X : Ext} {s U : State} (g : Gd G X) (h : Wd G D X s) (hW : s.WarmedH U.vm) (hq : ∀ a : Nat, a < s.heap.size → ¬ Af G a → U.heap[a]? = s.heap[a]?) (hz : G.1 ≤ U.heap.size) : Wd G D X U := by
  obtain ⟨h1, h2, h3, h4, h5, h6, h7, h8, h9, h10, h11, h12, h13, h14, h15, h16, h17⟩ := h
  have hvm := hW.alike
  refine ⟨va_K.moved hvm h1, fun q hm => (va_Z.moved hvm (h2 q hm)).kept hq, fun q hm hk => (va_T.moved hvm (h3 q hm hk)).kept hq, (va_T.moved hvm h4).kept hq, fun i hi => ⟨(va_OF.moved hvm (h5 i hi).1).kept hq, (va_OF.moved hvm (h5 i hi).2.1).kept hq, (va_O.moved hvm (h5 i hi).2.2).kept hq⟩, fun q hm => vk_R.warm hW (h6 q hm), (vk_S.moved hvm h7).kept hq, (va_Z.moved hvm h8).kept hq, (va_Zq.moved hvm h9).kept hq, ?_, (vx_Zq.moved hvm h11).kept hq, (vx_Zq.moved hvm h12).kept hq, ?_, ?_, fun C hC => va_AO.moved hvm (h15 C hC), fun i j hi hj hn => va_Nc.moved hvm (h16 i j hi hj hn), hz⟩
  · refine (va_X.moved hvm h10).kept (hq _ (Nat.lt_of_lt_of_le g.2.2.2.1 h17) (fun z => ?_))
    have := g.2.2.2.1
    have z : G.1 ≤ G.2.2.1 10100 := z
    omega
  · intro q hm
    obtain ⟨sa, h⟩ := h13 q hm
    exact ⟨sa, vk_R.warm hW h⟩
  · intro w hw
    exact warmN (List.mem_filter.mp hw).2 hW (h14 w hw)
theorem wt_mem {q : Nat} {w : Cond} (h : wt q = some w) : w ∈ lw_tbl := by
  unfold wt at h
  rw [nth_eq] at h
  cases hr : tblc[q / 1000]? with
  | none => rw [hr] at h; cases h
  | some r =>
    rw [hr] at h
    have h : nth r (q % 1000) = some w := h
    rw [nth_eq] at h
    have hw := List.mem_of_getElem? h
    have hr := List.mem_of_getElem? hr
    unfold tblc at hr
    unfold lw_tbl tables_1
    simp only [List.mem_cons, List.not_mem_nil, or_false] at hr
    simp only [List.mem_append]
    rcases hr with rfl | rfl | rfl | rfl | rfl | rfl | rfl | rfl | rfl | rfl <;> simp only [hw, true_or, or_true]
theorem wt_tg {q : Nat} {w : Cond} (h : wt q = some w) (hg : goodWord w = true) : w ∈ tg := List.mem_filter.mpr ⟨wt_mem h, hg⟩
theorem wOK_tg {q : Nat} {w : Cond} (h : wOK q w = true) : w ∈ tg := by
  unfold wOK at h
  simp only [Bool.and_eq_true, decide_eq_true_eq] at h
  exact wt_tg h.1 h.2
theorem wt_tn {q : Nat} {w : Cond} (h : wt q = some w) (hg : isNest w = true) : w ∈ tn := List.mem_filter.mpr ⟨wt_mem h, hg⟩
theorem vcd_good (y : MethodName) (b : ByteArray) (mx : Nat) (rt : Option FieldType) (hh : List (Nat × Nat × Nat × Nat)) : goodWord (vcd y b mx rt hh) = true := by
  cases hh <;> rfl
theorem tg_good : GoodIn tg tg := fun w hw => ⟨hw, good_of_word (List.mem_filter.mp hw).2⟩
