/-! SOUNDNESS, 13: the four exceptions -/
abbrev exNm : List String := ["java/lang/RuntimeException", "java/lang/Exception"]
def ikE : Nat → Nat
  | 0 => 107
  | 1 => 390
  | 2 => 262
  | _ => 352
def icE : Nat → Nat
  | 0 => 111
  | 1 => 394
  | 2 => 266
  | _ => 356
def ixE : Nat → Nat
  | 2 => 13
  | _ => 7
def rxE : Nat → ByteArray
  | 2 => ⟨#[0x2a, 0x2b, 0xb7, 0x00, 0x0d, 0xb1]⟩
  | _ => ⟨#[0x2a, 0x2b, 0xb7, 0x00, 0x07, 0xb1]⟩
theorem rx_ok {i : Nat} (h : i < 4) : decode (rxE i) 0 = .ok (.aload_n 0, 1) ∧ decode (rxE i) 1 = .ok (.aload_n 1, 1) ∧ decode (rxE i) 2 = .ok (.invokespecial (ixE i), 3) ∧ decode (rxE i) 5 = .ok (.return_, 1) := by
  rcases (show i = 0 ∨ i = 1 ∨ i = 2 ∨ i = 3 by omega) with rfl | rfl | rfl | rfl <;> decide +kernel
abbrev atE (i : Nat) : List Cond := tx_at "TangramBoard" (icE i) (exN (i + 1)) (ixE i) (rxE i) exNm
set_option maxRecDepth 100000 in
theorem at_in : (List.range 4).all (fun i => (atE i).all (fun w => decide (w ∈ lw_tbl) && (goodWord w || isNest w))) = true := by decide +kernel
set_option maxRecDepth 100000 in
theorem at_ot : (List.range 4).all (fun i => (Cond.classLink "TangramBoard" (ikE i) (exN (i + 1)) :: Cond.initialized (exN (i + 1)) :: atE i).all vx_ot) = true := by decide +kernel
set_option maxRecDepth 100000 in
theorem at_lk : (List.range 4).all (fun i => decide (Cond.classLink "TangramBoard" (ikE i) (exN (i + 1)) ∈ lw_tbl) && decide (Cond.initialized (exN (i + 1)) ∈ lw_tbl) && Bundle.fit (exN (i + 1))) = true := by decide +kernel
theorem at_nm : ∀ n ∈ exNm, Bundle.fit n = true := by decide +kernel
theorem at_w {i : Nat} (h : i < 4) : ∀ w ∈ atE i, w ∈ tg ∨ w ∈ tn := by
  intro w hw
  have h1 := List.all_eq_true.mp (List.all_eq_true.mp at_in i (List.mem_range.mpr h)) w hw
  simp only [Bool.and_eq_true, Bool.or_eq_true, decide_eq_true_eq] at h1
  exact h1.2.imp (fun z => List.mem_filter.mpr ⟨h1.1, z⟩) (fun z => List.mem_filter.mpr ⟨h1.1, z⟩)
theorem at_o {i : Nat} (h : i < 4) : ∀ w ∈ Cond.classLink "TangramBoard" (ikE i) (exN (i + 1)) :: Cond.initialized (exN (i + 1)) :: atE i, vx_ot w = true :=
  fun w hw => List.all_eq_true.mp (List.all_eq_true.mp at_ot i (List.mem_range.mpr h)) w hw
theorem at_l {i : Nat} (h : i < 4) : Cond.classLink "TangramBoard" (ikE i) (exN (i + 1)) ∈ tg ∧ Cond.initialized (exN (i + 1)) ∈ tg ∧ Bundle.fit (exN (i + 1)) = true := by
  have h1 := List.all_eq_true.mp at_lk i (List.mem_range.mpr h)
  simp only [Bool.and_eq_true, decide_eq_true_eq] at h1
  exact ⟨List.mem_filter.mpr ⟨h1.1.1, rfl⟩, List.mem_filter.mpr ⟨h1.1.2, rfl⟩, h1.2⟩
