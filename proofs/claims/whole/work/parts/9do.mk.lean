/-! THE REFERENCE, TEXTS 1 -/
section
variable {Ln : Nat} {xs : Nat → Int32} {CZ : Nat → ZC} {RZ : Nat → Nat → ZQ → ZP}
theorem s_X12_byteAt (T : ZTh (XX Ln xs) CZ RZ) {d b : Nat} {k : Int} {n : Nat} {u : Nat → Int} {I : ZI} {L : ZL} {Q : ZQ} (hk : 0 ≤ k ∧ k ≤ 800) (hn : I 603 52 = n ∧ n ≤ 700) (hu : ∀ i : Nat, i < n → I 641 (i : Int) = u i) (h : Q (.inl (some (.inl ((if k < n then u k.toNat else -1))))) I L) : CZ (d + 1) k_X12_byteAt [.inr (.ref 603, 13), .inl k] b I L Q := by
  refine T.call rfl ?_
  obtain ⟨n1, n2⟩ := id hn
  obtain ⟨kn, rfl⟩ := Int.eq_ofNat_of_zero_le hk.1
  rw [Int.toNat_natCast] at h
  refine T.go [] 90 ?_
  conv => whnf
  refine ⟨by decide, ?_⟩
  conv => whnf
  refine ⟨by obtain ⟨n1, n2⟩ := hn; rw [n1]; exact ⟨⟨by omega, by omega⟩, ⟨by omega, by omega⟩⟩, fun c5 => ?_, fun c5 => ?_⟩
  · conv => whnf
    rw [n1] at c5
    rw [if_neg (by omega)] at h
    exact h
  · conv => whnf
    refine ⟨by decide, _, rfl, ?_⟩
    conv => whnf
    refine ⟨by omega, by decide, ?_⟩
    conv => whnf
    rw [n1] at c5
    rw [if_pos (by omega)] at h
    rw [hu kn (by omega)]
    exact h
end
