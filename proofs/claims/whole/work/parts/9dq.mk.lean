/-! THE REFERENCE, TEXTS 3 -/
section
variable {Ln : Nat} {xs : Nat → Int32} {CZ : Nat → ZC} {RZ : Nat → Nat → ZQ → ZP}
theorem s_X12_putsFour (T : ZTh (XX Ln xs) CZ RZ) {d b : Nat} {a : Int} {bl : Nat} (u : Nat → Int) {I : ZI} {L : ZL} {Q : ZQ} (hb : bl + 4 ≤ 700) (ha : zR a) (h51 : I 603 51 = bl) (hu : ∀ i : Nat, i < bl → I 641 (i : Int) = u i) (h : ∀ I', Fr P51 I I' → I' 603 51 = (bl : Int) + 4 → (∀ i : Nat, i < bl + 4 → I' 641 (i : Int) = apB u bl a i) → Q (.inl none) I' L) : CZ (d + 1) k_X12_putsFour [.inr (.ref 603, 13), .inl a] b I L Q := by
  refine T.call rfl ?_
  refine T.go [3] 90 ?_
  conv => whnf
  refine l_p4 T (bl := bl) (u := u) (I0 := I) hb ha h 5 0 I (by omega) (Fr.refl I) (by rw [h51]; omega) (fun i hi => ?_) (by omega)
  rw [hu i (by omega)]
  unfold apB
  rw [if_neg (by omega)]
end
