/-! THE REFERENCE CHANGES, 6: remove -/
section
variable {Ln : Nat} {xs : Nat → Int32} {CZ : Nat → ZC} {RZ : Nat → Nat → ZQ → ZP}
theorem l_mre (T : ZTh (XX Ln xs) CZ RZ) {d b : Nat} {Q : ZQ} {k n : Nat} {I0 : ZI} {L : ZL} (hk : k ≤ n ∧ n < 8) (h : ∀ I', Fr (fun a _ => a = 604) I0 I' → I' 604 0 = n → (∀ i : Nat, 1 ≤ i → I' 604 (i : Int) = if 29 + 18 * k ≤ i ∧ i < 29 + 18 * n then I0 604 ((i : Int) + 18) else I0 604 (i : Int)) → Q (.inl (some (.inl (n : Int)))) I' L) (m : Nat) : ∀ (j : Nat) (I : ZI), (29 + 18 * k ≤ j ∧ (j ≤ 29 + 18 * n ∨ j = 29 + 18 * k)) → (Fr (fun a _ => a = 604) I0 I) → (I 604 0 = n) → (∀ i : Nat, 1 ≤ i → I 604 (i : Int) = if 29 + 18 * k ≤ i ∧ i < j then I0 604 ((i : Int) + 18) else I0 604 (i : Int)) → 200 - (j : Int) < (m : Int) → RZ (d + 2) k_X12_remove Q 44 [.inr (.ref 603, 13), zj, .inl ((j : Int))] [] b I L := by
  induction m with
  | zero =>
    intro j I hj hfr h0 hv hm
    exfalso
    omega
  | succ m ih =>
    intro j I hj hfr h0 hv hm
    refine T.go [44] 90 ?_
    conv => whnf
    refine ⟨by decide, _, rfl, ?_⟩
    conv => whnf
    refine ⟨by omega, by decide, ?_⟩
    conv => whnf
    refine ⟨by rw [h0]; exact ⟨⟨by omega, by omega⟩, ⟨by omega, by omega⟩⟩, fun c57 => ?_, fun c57 => ?_⟩
    · conv => whnf
      refine ⟨by decide, _, rfl, ?_⟩
      conv => whnf
      refine ⟨by omega, by decide, ?_⟩
      conv => whnf
      rw [h0] at c57 ⊢
      obtain rfl : j = 29 + 18 * n := by omega
      exact h I hfr h0 hv
    · conv => whnf
      refine ⟨by decide, _, rfl, ?_⟩
      conv => whnf
      refine ⟨by decide, _, rfl, ?_⟩
      conv => whnf
      rw [h0] at c57
      refine ⟨by omega, by decide, ?_⟩
      conv => whnf
      refine ⟨by omega, by decide, ?_⟩
      conv => whnf
      refine ih (j + 1) _ (by omega) (hfr.v2 rfl) (by rw [v2_ne (by omega)]; exact h0) (fun i hi => ?_) (by omega)
      by_cases e : i = j
      · rw [e, v2_eq, if_pos ⟨hj.1, by omega⟩]
        have := hv (j + 18) (by omega)
        rw [if_neg (by omega)] at this
        rw [show (j : Int) + 18 = ((j + 18 : Nat) : Int) by omega]
        exact this
      · rw [v2_ne (by omega), hv i hi]
        by_cases c : 29 + 18 * k ≤ i ∧ i < j
        · rw [if_pos c, if_pos ⟨c.1, by omega⟩]
        · rw [if_neg c, if_neg (fun g => c ⟨g.1, by omega⟩)]
theorem RowM.dr {I I' : ZI} {M : Mo} (h : RowM I 604 0 M) {k n : Nat} (hn : mN M = n + 1) (hk : k ≤ n) (hn8 : n < 8) (h0 : I' 604 0 = n) (hv : ∀ i : Nat, 1 ≤ i → I' 604 (i : Int) = if 29 + 18 * k ≤ i ∧ i < 29 + 18 * n then I 604 ((i : Int) + 18) else I 604 (i : Int)) : RowM I' 604 0 (drS M k) := by
  obtain ⟨a1, a2, a3⟩ := h
  refine ⟨?_, fun p w hp hw => ?_, fun i hi q hq => ?_⟩
  · show I' 604 0 = ((mN M - 1 : Nat) : Int)
    rw [h0]
    omega
  · have := hv (1 + 4 * p + w) (by omega)
    rw [if_neg (by omega)] at this
    rw [Int.zero_add, this]
    have := a2 p w hp hw
    rw [Int.zero_add] at this
    rw [this]
    rfl
  · have hi2 : i < n := by
      have : i < mN M - 1 := hi
      omega
    have hd : mS (drS M k) i = if i < k then mS M i else mS M (i + 1) := rfl
    rw [hd]
    have := hv (29 + 18 * i + q / 32) (by omega)
    by_cases c : i < k
    · rw [if_neg (by omega)] at this
      rw [if_pos c, Int.zero_add, this]
      have := a3 i (by omega) q hq
      rw [Int.zero_add] at this
      exact this
    · rw [if_pos (by omega)] at this
      rw [if_neg c, Int.zero_add, this]
      have := a3 (i + 1) (by omega) q hq
      rw [Int.zero_add] at this
      rw [show ((29 + 18 * i + q / 32 : Nat) : Int) + 18 = ((29 + 18 * (i + 1) + q / 32 : Nat) : Int) by omega]
      exact this
theorem s_X12_remove (T : ZTh (XX Ln xs) CZ RZ) {d b : Nat} {W H n bl : Nat} {M : Mo} {P SL : Nat → Mo} {v u : Nat → Int} {k : Int} {I : ZI} {L : ZL} {Q : ZQ} (hC : MB I W H M P n SL v bl u) (hA : WfA W H M P n SL v) (hk : zR k) (h : 0 ≤ k → k < mN M → ∀ I', Fr PMd I I' → I' 603 8 = 0 → MB I' W H (drS M k.toNat) (psh P n M) (psn n) SL v bl u → Q (.inl (some (.inl (((mN M - 1 : Nat) : Int))))) I' L) (h2 : ¬ (0 ≤ k ∧ k < mN M) → ∀ I', Fr PSc I I' → I' 603 8 = 1 → MB I' W H M P n SL v bl u → Q (.inl (some (.inl (0)))) I' L) : CZ (d + 3) k_X12_remove [.inr (.ref 603, 13), .inl k] b I L Q := by
  refine T.call rfl ?_
  obtain ⟨mT, mR, ⟨mW, mH⟩, ⟨mn, mn8⟩, mP, mS9, ⟨mb1, mb2, mb3⟩, mz⟩ := id hC
  obtain ⟨⟨⟨⟨w1, w2, w3, w4⟩, -⟩, w5, w6⟩, wP, wS⟩ := id hA
  refine T.go [44] 120 ?_
  conv => whnf
  refine zinv0 (s_X12_isShape T (n := mN M) (by first | assumption | omega | rfl | decide) (by exact ⟨mR.1, w5⟩) ?_ ?_)
  · intro cha_3
    conv => whnf
    refine ⟨by decide, fun _ => ?_, fun c => absurd c (by decide)⟩
    conv => whnf
    refine zinv0 (s_fails0 T   ?_)
    conv => whnf
    refine ⟨by decide, fun _ => ?_, fun c => absurd c (by decide)⟩
    conv => whnf
    refine zinv0 (s_X12_keeps T (W := W) (H := H) (M := M) (P := P) (SL := SL) (v := v) (u := u) (by exact hC.th hA 0) (by exact hA) ?_)
    intro I_23 hf_23 hC_23 hA_23
    obtain ⟨kn, rfl⟩ := Int.eq_ofNat_of_zero_le cha_3.1
    have hkn : ((kn : Nat) : Int).toNat = kn := Int.toNat_natCast kn
    have hr0 : I_23 604 0 = mN M := hC_23.2.1.1
    obtain ⟨n9, hn9⟩ : ∃ n9, mN M = n9 + 1 := ⟨mN M - 1, by omega⟩
    conv => whnf
    refine ⟨by decide, _, rfl, ?_⟩
    conv => whnf
    refine ⟨by omega, by decide, ?_⟩
    conv => whnf
    refine ⟨by omega, by decide, ?_⟩
    conv => whnf
    refine T.fg [1] ?_
    refine l_mre T (k := kn) (n := n9) (I0 := I_23) ⟨by omega, by omega⟩ (fun I2 f2 z2 v9 => ?_) 300 (29 + 18 * kn) _ ⟨Nat.le_refl _, Or.inr rfl⟩ ((Fr.refl _).v2 rfl) (by rw [v2_eq, hr0]; omega) (fun i hi => by rw [v2_ne (by omega), if_neg (by omega)]) (by omega)
    rw [show ((mN M - 1 : Nat) : Int) = n9 by omega] at h
    refine h cha_3.1 cha_3.2 I2 ((((frTh I 0).mono PSc_d).trans (hf_23.mono PKe_d)).trans (f2.mono (fun a b c => by unfold PMd; omega))) ?_ (hC_23.row hA_23 ?_ (fun a b _ _ g => f2 a b g))
    · rw [f2 _ _ (by show ¬ (603 : Nat) = 604; omega)]
      exact (hf_23 _ _ (by unfold PKe; omega)).trans (v2_eq _ _ _ _)
    · rw [hkn]
      exact hC_23.2.1.dr hn9 (by omega) (by omega) z2 v9
  · intro ch2a_3
    conv => whnf
    refine ⟨by decide, fun c => absurd c (by decide), fun _ => ?_⟩
    conv => whnf
    refine zinv0 (s_fails1 T   ?_)
    conv => whnf
    refine ⟨by decide, fun c => absurd c (by decide), fun _ => ?_⟩
    conv => whnf
    exact h2 ch2a_3 _ (frTh I 1) (v2_eq _ _ _ _) (hC.th hA 1)
end
