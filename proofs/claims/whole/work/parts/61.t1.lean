section
variable {X : Ext} {CZ : Nat → ZC} {RZ : Nat → Nat → ZQ → ZP}
theorem s_rowAt (T : ZTh X CZ RZ) {d b r : Nat} {y : Int} {I : ZI} {L : ZL} {Q : ZQ} (hy : zR y) (hr : za r 0 = r + 2) (h : 0 ≤ y → y < 12 → Q (.inl (some (.inr (.long (L (r + 1) y), 0)))) I L) (h' : ¬ (0 ≤ y ∧ y < 12) → Q (.inl (some (.inr (.long 0, 0)))) I L) : CZ (d + 1) k_X6_rowAt [.inr (.ref r, 7), .inl y] b I L Q := by
  refine T.call rfl ?_
  refine T.go [] 50 ?_
  conv => whnf
  trace_state
  sorry
end
