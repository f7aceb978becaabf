/-! CHANGES, 5 -/
section
variable {Ln : Nat} {xs : Nat → Int32} {CZ : Nat → ZC} {RZ : Nat → Nat → ZQ → ZP}
/-- M without piece p -/
def offP (M : Mo) (p : Nat) : Mo := putM M p (mX M p) (mY M p) (-1)
theorem Wq.off {W H : Nat} {M : Mo} (h : Wq W H M) (p : Nat) : Wq W H (offP M p) := by
  obtain ⟨a1, a2, a3⟩ := h
  have hcn : ∀ j q, j ≠ p → cvr (offP M p) j q = cvr M j q := fun j q hj => by
    unfold offP cvr fo fi
    rw [putM_F, putM_X, putM_Y, if_neg hj, if_neg hj, if_neg hj]
  refine ⟨a1, fun j hj => ?_, fun i j hi hj hij hfi hfj q hci hcj => ?_⟩
  · by_cases e : j = p
    · refine Or.inl ?_
      unfold offP
      rw [putM_F, if_pos e]
    · have e1 : mF (offP M p) j = mF M j := by unfold offP; rw [putM_F, if_neg e]
      have e2 : mX (offP M p) j = mX M j := by unfold offP; rw [putM_X, if_neg e]
      have e3 : mY (offP M p) j = mY M j := by unfold offP; rw [putM_Y, if_neg e]
      have e4 : fi (offP M p) j = fi M j := by unfold fi; rw [e1]
      rw [e1, e2, e3, e4]
      exact a2 j hj
  · have h1 : i ≠ p := fun e => hfi (by unfold offP; rw [putM_F, if_pos e])
    have h2 : j ≠ p := fun e => hfj (by unfold offP; rw [putM_F, if_pos e])
    rw [hcn i q h1] at hci
    rw [hcn j q h2] at hcj
    refine a3 i j hi hj hij (fun e => hfi ?_) (fun e => hfj ?_) q hci hcj
    · unfold offP; rw [putM_F, if_neg h1]; exact e
    · unfold offP; rw [putM_F, if_neg h2]; exact e
end
