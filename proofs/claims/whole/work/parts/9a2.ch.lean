/-! CHANGES, 1 -/
section
variable {Ln : Nat} {xs : Nat → Int32} {CZ : Nat → ZC} {RZ : Nat → Nat → ZQ → ZP}
theorem why0_in {W H : Nat} {M : Mo} {p n : Nat} {x y : Int} (h : why W H M p n x y = 0) : InB W H n x y ∧ ∀ j, j < 7 → ovp M p n x y j = false := by
  by_cases hi : InB W H n x y
  · refine ⟨hi, fun j hj => ?_⟩
    unfold why at h
    rw [dc_iff.mpr hi, cond_true] at h
    by_cases hc : cn (ovp M p n x y) 7 = 0
    · exact cn_zero hc j hj
    · rw [if_neg hc] at h
      have := (lo_bound (ovp M p n x y) 7).1
      omega
  · rw [why_1 hi] at h
    omega
theorem putM_F {M : Mo} {p : Nat} {x y f : Int} (j : Nat) : mF (putM M p x y f) (j : Int) = if j = p then f else mF M j := by
  show (if (j : Int) = (p : Int) then f else mF M j) = _
  by_cases e : j = p
  · rw [if_pos e, if_pos (by omega)]
  · rw [if_neg e, if_neg (by omega)]
theorem putM_X {M : Mo} {p : Nat} {x y f : Int} (j : Nat) : mX (putM M p x y f) (j : Int) = if j = p then x else mX M j := by
  show (if (j : Int) = (p : Int) then x else mX M j) = _
  by_cases e : j = p
  · rw [if_pos e, if_pos (by omega)]
  · rw [if_neg e, if_neg (by omega)]
theorem putM_Y {M : Mo} {p : Nat} {x y f : Int} (j : Nat) : mY (putM M p x y f) (j : Int) = if j = p then y else mY M j := by
  show (if (j : Int) = (p : Int) then y else mY M j) = _
  by_cases e : j = p
  · rw [if_pos e, if_pos (by omega)]
  · rw [if_neg e, if_neg (by omega)]
theorem Wq.put {W H : Nat} {M : Mo} (h : Wq W H M) {p k : Nat} (hp : p < 7) (hk : k < 8) {x y : Int} (h0 : why W H M p (8 * p + k) x y = 0) : Wq W H (putM M p x y k) := by
  obtain ⟨a1, a2, a3⟩ := h
  obtain ⟨b1, b2⟩ := why0_in h0
  have hfi : fi (putM M p x y k) p = 8 * p + k := by
    unfold fi
    rw [putM_F, if_pos rfl]
    omega
  have hcp : ∀ q, cvr (putM M p x y k) p q = shf (fS (8 * p + k)) (48 * y.toNat + 4 * x.toNat) q := fun q => by
    unfold cvr fo
    rw [hfi, putM_X, putM_Y, if_pos rfl, if_pos rfl]
  have hcn : ∀ j q, j ≠ p → cvr (putM M p x y k) j q = cvr M j q := fun j q hj => by
    unfold cvr fo fi
    rw [putM_F, putM_X, putM_Y, if_neg hj, if_neg hj, if_neg hj]
  have hov : ∀ j q, j < 7 → j ≠ p → mF M j ≠ -1 → cvr M j q = true → shf (fS (8 * p + k)) (48 * y.toNat + 4 * x.toNat) q = true → False := fun j q hj hjp hf hc hs => dc_not.mp (b2 j hj) ⟨hjp, hf, q, hs, hc⟩
  refine ⟨a1, fun j hj => ?_, fun i j hi hj hij hfi hfj q hci hcj => ?_⟩
  · rw [putM_F, putM_X, putM_Y]
    by_cases e : j = p
    · subst e
      rw [if_pos rfl, if_pos rfl, if_pos rfl, hfi]
      exact Or.inr ⟨by omega, by omega, b1⟩
    · rw [if_neg e, if_neg e, if_neg e]
      have : fi (putM M p x y k) j = fi M j := by
        unfold fi
        rw [putM_F, if_neg e]
      rw [this]
      exact a2 j hj
  · rw [putM_F] at hfi hfj
    by_cases e : i = p
    · have ej : j ≠ p := by omega
      rw [if_neg ej] at hfj
      rw [hcn j q ej] at hcj
      rw [e, hcp] at hci
      exact hov j q hj ej hfj hcj hci
    · rw [if_neg e] at hfi
      rw [hcn i q e] at hci
      by_cases ej : j = p
      · rw [ej, hcp] at hcj
        exact hov i q hi e hfi hci hcj
      · rw [if_neg ej] at hfj
        rw [hcn j q ej] at hcj
        exact a3 i j hi hj hij hfi hfj q hci hcj
end
