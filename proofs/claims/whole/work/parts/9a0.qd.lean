/-! QUESTIONS, 13 -/
section
variable {Ln : Nat} {xs : Nat → Int32} {CZ : Nat → ZC} {RZ : Nat → Nat → ZQ → ZP}
def n64t (q a : Nat) : Bool := decide (FP.dadd (FP.i2d (i3 q)) (FP.dmul (FP.i2d (i3 a)) 4604544271217802189) &&& 0x7fffffffffffffff ≤ 0x7ff0000000000000)
def n64m (a : Nat) : Bool := decide (FP.dmul (FP.i2d (i3 a)) 4604544271217802189 &&& 0x7fffffffffffffff ≤ 0x7ff0000000000000)
theorem n64m_all : (List.range 193).all n64m = true := by decide +kernel
theorem n64_0 : (List.range 8).all (fun i => (List.range (193 - (0 + i))).all (fun a => n64t (0 + i) a)) = true := by decide +kernel
theorem n64_1 : (List.range 8).all (fun i => (List.range (193 - (8 + i))).all (fun a => n64t (8 + i) a)) = true := by decide +kernel
theorem n64_2 : (List.range 8).all (fun i => (List.range (193 - (16 + i))).all (fun a => n64t (16 + i) a)) = true := by decide +kernel
theorem n64_3 : (List.range 8).all (fun i => (List.range (193 - (24 + i))).all (fun a => n64t (24 + i) a)) = true := by decide +kernel
theorem n64_4 : (List.range 8).all (fun i => (List.range (193 - (32 + i))).all (fun a => n64t (32 + i) a)) = true := by decide +kernel
theorem n64_5 : (List.range 8).all (fun i => (List.range (193 - (40 + i))).all (fun a => n64t (40 + i) a)) = true := by decide +kernel
theorem n64_6 : (List.range 8).all (fun i => (List.range (193 - (48 + i))).all (fun a => n64t (48 + i) a)) = true := by decide +kernel
theorem n64_7 : (List.range 8).all (fun i => (List.range (193 - (56 + i))).all (fun a => n64t (56 + i) a)) = true := by decide +kernel
theorem n64_8 : (List.range 8).all (fun i => (List.range (193 - (64 + i))).all (fun a => n64t (64 + i) a)) = true := by decide +kernel
theorem n64_9 : (List.range 8).all (fun i => (List.range (193 - (72 + i))).all (fun a => n64t (72 + i) a)) = true := by decide +kernel
theorem n64_10 : (List.range 8).all (fun i => (List.range (193 - (80 + i))).all (fun a => n64t (80 + i) a)) = true := by decide +kernel
theorem n64_11 : (List.range 8).all (fun i => (List.range (193 - (88 + i))).all (fun a => n64t (88 + i) a)) = true := by decide +kernel
theorem n64_12 : (List.range 8).all (fun i => (List.range (193 - (96 + i))).all (fun a => n64t (96 + i) a)) = true := by decide +kernel
theorem n64_13 : (List.range 8).all (fun i => (List.range (193 - (104 + i))).all (fun a => n64t (104 + i) a)) = true := by decide +kernel
theorem n64_14 : (List.range 8).all (fun i => (List.range (193 - (112 + i))).all (fun a => n64t (112 + i) a)) = true := by decide +kernel
theorem n64_15 : (List.range 8).all (fun i => (List.range (193 - (120 + i))).all (fun a => n64t (120 + i) a)) = true := by decide +kernel
theorem n64_16 : (List.range 8).all (fun i => (List.range (193 - (128 + i))).all (fun a => n64t (128 + i) a)) = true := by decide +kernel
theorem n64_17 : (List.range 8).all (fun i => (List.range (193 - (136 + i))).all (fun a => n64t (136 + i) a)) = true := by decide +kernel
theorem n64_18 : (List.range 8).all (fun i => (List.range (193 - (144 + i))).all (fun a => n64t (144 + i) a)) = true := by decide +kernel
theorem n64_19 : (List.range 8).all (fun i => (List.range (193 - (152 + i))).all (fun a => n64t (152 + i) a)) = true := by decide +kernel
theorem n64_20 : (List.range 8).all (fun i => (List.range (193 - (160 + i))).all (fun a => n64t (160 + i) a)) = true := by decide +kernel
theorem n64_21 : (List.range 8).all (fun i => (List.range (193 - (168 + i))).all (fun a => n64t (168 + i) a)) = true := by decide +kernel
theorem n64_22 : (List.range 8).all (fun i => (List.range (193 - (176 + i))).all (fun a => n64t (176 + i) a)) = true := by decide +kernel
theorem n64_23 : (List.range 8).all (fun i => (List.range (193 - (184 + i))).all (fun a => n64t (184 + i) a)) = true := by decide +kernel
theorem n64_24 : (List.range 8).all (fun i => (List.range (193 - (192 + i))).all (fun a => n64t (192 + i) a)) = true := by decide +kernel
theorem n64m_at {a : Nat} (ha : a ≤ 192) : vf_n64 (FP.dmul (FP.i2d (i3 a)) 4604544271217802189) := by
  have e := List.all_eq_true.mp n64m_all a (List.mem_range.mpr (by omega))
  unfold n64m at e
  unfold vf_n64
  exact of_decide_eq_true e
theorem n64_c {q a : Nat} (h : q + a ≤ 192) : n64t q a = true := by
  have hk : ∀ k j : Nat, (List.range 8).all (fun i => (List.range (193 - (8 * k + i))).all (fun a => n64t (8 * k + i) a)) = true → j < 8 → q = 8 * k + j → n64t q a = true := fun k j e hj hq => by
    have e1 := List.all_eq_true.mp (List.all_eq_true.mp e j (List.mem_range.mpr hj)) a (List.mem_range.mpr (by omega))
    rw [hq]; exact e1
  have hq : q / 8 < 25 := by omega
  have hqq : q = 8 * (q / 8) + q % 8 := by omega
  have hm : q % 8 < 8 := by omega
  generalize q / 8 = k at *
  match k, hq with
  | 0, _ => exact hk 0 _ n64_0 hm hqq
  | 1, _ => exact hk 1 _ n64_1 hm hqq
  | 2, _ => exact hk 2 _ n64_2 hm hqq
  | 3, _ => exact hk 3 _ n64_3 hm hqq
  | 4, _ => exact hk 4 _ n64_4 hm hqq
  | 5, _ => exact hk 5 _ n64_5 hm hqq
  | 6, _ => exact hk 6 _ n64_6 hm hqq
  | 7, _ => exact hk 7 _ n64_7 hm hqq
  | 8, _ => exact hk 8 _ n64_8 hm hqq
  | 9, _ => exact hk 9 _ n64_9 hm hqq
  | 10, _ => exact hk 10 _ n64_10 hm hqq
  | 11, _ => exact hk 11 _ n64_11 hm hqq
  | 12, _ => exact hk 12 _ n64_12 hm hqq
  | 13, _ => exact hk 13 _ n64_13 hm hqq
  | 14, _ => exact hk 14 _ n64_14 hm hqq
  | 15, _ => exact hk 15 _ n64_15 hm hqq
  | 16, _ => exact hk 16 _ n64_16 hm hqq
  | 17, _ => exact hk 17 _ n64_17 hm hqq
  | 18, _ => exact hk 18 _ n64_18 hm hqq
  | 19, _ => exact hk 19 _ n64_19 hm hqq
  | 20, _ => exact hk 20 _ n64_20 hm hqq
  | 21, _ => exact hk 21 _ n64_21 hm hqq
  | 22, _ => exact hk 22 _ n64_22 hm hqq
  | 23, _ => exact hk 23 _ n64_23 hm hqq
  | 24, _ => exact hk 24 _ n64_24 hm hqq
  | k + 25, h => omega
theorem n64_at {q a : Nat} (h : q + a ≤ 192) : vf_n64 (FP.dadd (FP.i2d (i3 q)) (FP.dmul (FP.i2d (i3 a)) 4604544271217802189)) := by
  have e := n64_c h
  unfold n64t at e
  unfold vf_n64
  exact of_decide_eq_true e
end
