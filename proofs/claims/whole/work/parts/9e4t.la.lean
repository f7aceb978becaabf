/-! THE LAW, 0: a table -/
section
variable {Ln : Nat} {xs : Nat → Int32} {CZ : Nat → ZC} {RZ : Nat → Nat → ZQ → ZP}
def n2dt (q a : Nat) : Bool := decide (FP.f2d (FP.fdiv (FP.i2f (i3 q)) (FP.i2f (i3 (4 * a)))) &&& 0x7fffffffffffffff ≤ 0x7ff0000000000000)
theorem n2d_all : (List.range 65).all (fun q => (List.range 145).all (fun a => a == 0 || n2dt q a)) = true := by decide +kernel
theorem n2d_at {q a : Nat} (hq : q < 65) (ha : a < 145) (h0 : a ≠ 0) : vf_n64 (FP.f2d (FP.fdiv (FP.i2f (i3 q)) (FP.i2f (i3 (4 * a))))) := by
  have h := List.all_eq_true.mp (List.all_eq_true.mp n2d_all q (List.mem_range.mpr hq)) a (List.mem_range.mpr ha)
  rw [Bool.or_eq_true] at h
  rcases h with e | e
  · exact absurd (eq_of_beq e) h0
  · unfold n2dt at e
    unfold vf_n64
    exact of_decide_eq_true e
theorem n2d_0 : vf_n64 (FP.f2d 0) := by
  unfold vf_n64
  decide +kernel

end
