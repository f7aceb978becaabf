/-! THE REFERENCE, TEXTS 2 -/
section
variable {Ln : Nat} {xs : Nat → Int32} {CZ : Nat → ZC} {RZ : Nat → Nat → ZQ → ZP}
theorem zand_255 (w : Int) : zand w 255 = w % 256 := by
  unfold zand
  have h : (i3 w &&& i3 255).toBitVec.toNat = (w % 256).toNat := by
    show ((BitVec.ofInt 32 w) &&& (255#32)).toNat = _
    rw [BitVec.toNat_and, BitVec.toNat_ofInt]
    show (w % (2 ^ 32 : Nat)).toNat &&& 255 = _
    rw [show (255 : Nat) = 2 ^ 8 - 1 from rfl, Nat.and_two_pow_sub_one_eq_mod]
    omega
  have h2 : (i3 w &&& i3 255).toInt = ((i3 w &&& i3 255).toBitVec.toNat : Int) := by
    show (i3 w &&& i3 255).toBitVec.toInt = _
    rw [BitVec.toInt_eq_toNat_of_lt (by rw [h]; omega)]
  rw [h2, h]
  omega
def P51 : Nat → Int → Prop := fun a b => a = 641 ∨ (a = 603 ∧ b = 51)
theorem l_p4 (T : ZTh (XX Ln xs) CZ RZ) {d b : Nat} {Q : ZQ} {a : Int} {bl : Nat} {u : Nat → Int} {I0 : ZI} {L : ZL} (hb : bl + 4 ≤ 700) (ha : zR a) (h : ∀ I', Fr P51 I0 I' → I' 603 51 = (bl : Int) + 4 → (∀ i : Nat, i < bl + 4 → I' 641 (i : Int) = apB u bl a i) → Q (.inl none) I' L) (m : Nat) : ∀ (k : Nat) (I : ZI), (k ≤ 4) → (Fr P51 I0 I) → (I 603 51 = (bl : Int) + k) → (∀ i : Nat, i < bl + k → I 641 (i : Int) = apB u bl a i) → 4 - (k : Int) < (m : Int) → RZ d k_X12_putsFour Q 3 [.inr (.ref 603, 13), .inl a, .inl (24 - 8 * (k : Int))] [] b I L := by
  induction m with
  | zero =>
    intro k I hk hfr h51 hv hm
    exfalso
    omega
  | succ m ih =>
    intro k I hk hfr h51 hv hm
    refine T.go [3] 90 ?_
    conv => whnf
    refine ⟨by omega, fun c4 => ?_, fun c4 => ?_⟩
    · conv => whnf
      obtain rfl : k = 4 := by omega
      exact h I hfr (by rw [h51]; rfl) hv
    · conv => whnf
      refine ⟨by decide, _, rfl, ?_⟩
      conv => whnf
      refine ⟨by decide, ?_⟩
      conv => whnf
      refine ⟨by omega, ?_⟩
      conv => whnf
      refine ⟨by omega, by decide, ?_⟩
      conv => whnf
      refine ⟨by decide, ?_⟩
      conv => whnf
      refine ⟨by decide, ?_⟩
      conv => whnf
      rw [h51, zand_255]
      have e8 : (24 : Int) - 8 * (k : Int) + (-8) = 24 - 8 * ((k + 1 : Nat) : Int) := by omega
      rw [e8]
      refine ih (k + 1) _ (by omega) ((hfr.v2 (Or.inl rfl)).v2 (Or.inr ⟨rfl, rfl⟩)) (by rw [v2_eq, v2_ne (by omega), h51]; omega) (fun i hi => ?_) (by omega)
      rw [v2_ne (by omega)]
      by_cases e : i = bl + k
      · rw [show (i : Int) = (bl : Int) + (k : Int) by omega, v2_eq]
        unfold apB byB
        rw [if_pos (by omega), show i - bl = k by omega]
      · rw [v2_ne (by omega)]
        exact hv i (by omega)
end
