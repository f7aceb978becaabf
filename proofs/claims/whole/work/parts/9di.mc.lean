/-! THE REFERENCE CHANGES, 7: keep -/
section
variable {Ln : Nat} {xs : Nat → Int32} {CZ : Nat → ZC} {RZ : Nat → Nat → ZQ → ZP}
/-- a row gets one shape more, its first q quarters so far -/
def KpR (I0 I : ZI) (M : Mo) (q : Nat) : Prop := I 604 0 = mN M ∧ (∀ i : Nat, i < 29 + 18 * mN M → I 604 (i : Int) = I0 604 (i : Int)) ∧ ∀ z : Nat, z < 576 → zR (I 604 ((29 + 18 * mN M + z / 32 : Nat) : Int)) ∧ bW1 (I 604 ((29 + 18 * mN M + z / 32 : Nat) : Int)) (z % 32) = (decide (z < q) && sil M z)
theorem KpR.no {I0 I : ZI} {M : Mo} {q : Nat} (h : KpR I0 I M q) (hq : sil M q = false) : KpR I0 I M (q + 1) := by
  obtain ⟨a1, a2, a3⟩ := h
  refine ⟨a1, a2, fun z hz => ⟨(a3 z hz).1, ?_⟩⟩
  rw [(a3 z hz).2]
  by_cases e : z = q
  · rw [e, hq, Bool.and_false, Bool.and_false]
  · rw [decide_eq_decide.mpr (show z < q ↔ z < q + 1 by omega)]
theorem KpR.yes {I0 I : ZI} {M : Mo} {q : Nat} (h : KpR I0 I M q) (hq : sil M q = true) (hq5 : q < 576) : KpR I0 (v2 I 604 (29 + 18 * (mN M : Int) + (q : Int) / 32) (zor (I 604 (29 + 18 * (mN M : Int) + (q : Int) / 32)) (1 * 2 ^ ((q : Int) % 32).toNat))) M (q + 1) := by
  obtain ⟨a1, a2, a3⟩ := h
  have ex : 29 + 18 * (mN M : Int) + (q : Int) / 32 = ((29 + 18 * mN M + q / 32 : Nat) : Int) := by omega
  rw [ex]
  refine ⟨by rw [v2_ne (by omega)]; exact a1, fun i hi => by rw [v2_ne (by omega)]; exact a2 i hi, fun z hz => ?_⟩
  by_cases e : z / 32 = q / 32
  · rw [e, v2_eq]
    refine ⟨zor_R _ _, ?_⟩
    rw [bW1_or _ _ (Nat.mod_lt _ (by decide)), show ((q : Int) % 32).toNat = q % 32 by omega, bW1_p (Nat.mod_lt _ (by decide)) (Nat.mod_lt _ (by decide))]
    have := (a3 z hz).2
    rw [e] at this
    rw [this]
    by_cases c : z = q
    · rw [c, hq, decide_eq_true (rfl : q % 32 = q % 32), Bool.or_true, decide_eq_true (show q < q + 1 by omega)]
      rfl
    · rw [decide_eq_false (show ¬ z % 32 = q % 32 by omega), Bool.or_false, decide_eq_decide.mpr (show z < q ↔ z < q + 1 by omega)]
  · rw [v2_ne (by omega), (a3 z hz).2]
    refine ⟨(a3 z hz).1, ?_⟩
    rw [decide_eq_decide.mpr (show z < q ↔ z < q + 1 by omega)]
theorem KpR.fin {I0 I I' : ZI} {M : Mo} (h : KpR I0 I M 576) (hR : RowM I0 604 0 M) (h0 : I' 604 0 = (mN M : Int) + 1) (h1 : ∀ i : Nat, 1 ≤ i → I' 604 (i : Int) = I 604 (i : Int)) : RowM I' 604 0 (kpM M) := by
  obtain ⟨a1, a2, a3⟩ := h
  obtain ⟨b1, b2, b3⟩ := hR
  refine ⟨by rw [h0]; show _ = ((mN M + 1 : Nat) : Int); omega, fun p w hp hw => ?_, fun k hk q hq => ?_⟩
  · rw [Int.zero_add, h1 _ (by omega), a2 _ (by omega)]
    have := b2 p w hp hw
    rw [Int.zero_add] at this
    rw [this]
    rfl
  · have hd : mS (kpM M) k = if k = mN M then sil M else mS M k := rfl
    have hk2 : k < mN M + 1 := hk
    rw [hd, Int.zero_add, h1 _ (by omega)]
    by_cases c : k = mN M
    · rw [if_pos c, c]
      obtain ⟨g1, g2⟩ := a3 q hq
      refine ⟨g1, ?_⟩
      rw [g2, decide_eq_true hq]
      rfl
    · rw [if_neg c, a2 _ (by omega)]
      have := b3 k (by omega) q hq
      rw [Int.zero_add] at this
      exact this
theorem l_mk1 (T : ZTh (XX Ln xs) CZ RZ) {d b : Nat} {Q : ZQ} {n : Nat} {I0 : ZI} {L : ZL} (hn : n < 8) (hk : ∀ I', Fr (fun a _ => a = 604) I0 I' → (∀ i : Nat, i < 29 + 18 * n → I' 604 (i : Int) = I0 604 (i : Int)) → (∀ i : Nat, i < 18 → I' 604 ((29 + 18 * n + i : Nat) : Int) = 0) → RZ (d + 4) k_X12_keep Q 67 [.inr (.ref 603, 13), .inl (n : Int), .inl 0] [] b I' L) (m : Nat) : ∀ (w : Nat) (I : ZI), (w ≤ 18) → (Fr (fun a _ => a = 604) I0 I) → (∀ i : Nat, i < 29 + 18 * n → I 604 (i : Int) = I0 604 (i : Int)) → (∀ i : Nat, i < w → I 604 ((29 + 18 * n + i : Nat) : Int) = 0) → 18 - (w : Int) < (m : Int) → RZ (d + 4) k_X12_keep Q 38 [.inr (.ref 603, 13), .inl ((n : Int)), .inl ((w : Int))] [] b I L := by
  induction m with
  | zero =>
    intro w I hw hfr hv hz hm
    exfalso
    omega
  | succ m ih =>
    intro w I hw hfr hv hz hm
    refine T.go [38, 67] 90 ?_
    conv => whnf
    refine ⟨by omega, fun c41 => ?_, fun c41 => ?_⟩
    · conv => whnf
      obtain rfl : w = 18 := by omega
      exact hk I hfr hv hz
    · conv => whnf
      refine ⟨by decide, _, rfl, ?_⟩
      conv => whnf
      refine ⟨by omega, by decide, ?_⟩
      conv => whnf
      refine ih (w + 1) _ (by omega) (hfr.v2 rfl) (fun i hi => by rw [v2_ne (by omega)]; exact hv i hi) (fun i hi => ?_) (by omega)
      by_cases e : i = w
      · rw [e, show ((29 + 18 * n + w : Nat) : Int) = 29 + 18 * (n : Int) + (w : Int) by omega, v2_eq]
      · rw [v2_ne (by omega)]; exact hz i (by omega)
theorem l_mk2 (T : ZTh (XX Ln xs) CZ RZ) {d b : Nat} {Q : ZQ} {M : Mo} {I0 : ZI} {L : ZL} (hn : mN M < 8) (hO : OwM I0 M) (h : ∀ I', Fr (fun a _ => a = 604) I0 I' → RowM I' 604 0 (kpM M) → Q (.inl (some (.inl (mN M : Int)))) I' L) (hR : RowM I0 604 0 M) (m : Nat) : ∀ (q : Nat) (I : ZI), (q ≤ 576) → (Fr (fun a _ => a = 604) I0 I) → (KpR I0 I M q) → 576 - (q : Int) < (m : Int) → RZ (d + 4) k_X12_keep Q 67 [.inr (.ref 603, 13), .inl ((mN M : Int)), .inl ((q : Int))] [] b I L := by
  induction m with
  | zero =>
    intro q I hq hfr hK hm
    exfalso
    omega
  | succ m ih =>
    intro q I hq hfr hK hm
    have hob := own_b M q
    have h620 := fun g : q < 576 => (hfr 620 (q : Int) (by show ¬ (620 : Nat) = 604; omega)).trans (hO q g)
    refine T.go [67] 90 ?_
    conv => whnf
    refine ⟨by omega, fun c71 => ?_, fun c71 => ?_⟩
    · conv => whnf
      refine ⟨by decide, _, rfl, ?_⟩
      conv => whnf
      refine ⟨by omega, by decide, ?_⟩
      conv => whnf
      refine ⟨by omega, by decide, ?_⟩
      conv => whnf
      obtain rfl : q = 576 := by omega
      exact h _ (hfr.v2 rfl) (hK.fin hR (by rw [v2_eq, hK.1]) (fun i hi => v2_ne (by omega)))
    · conv => whnf
      refine ⟨by decide, _, rfl, ?_⟩
      conv => whnf
      refine ⟨by omega, by decide, ?_⟩
      conv => whnf
      rw [h620 (by omega)]
      refine ⟨by omega, fun c81 => ?_, fun c81 => ?_⟩
      · conv => whnf
        exact ih (q + 1) I (by omega) hfr (hK.no (by unfold sil; rw [decide_eq_true c81]; rfl)) (by omega)
      · conv => whnf
        refine ⟨by decide, _, rfl, ?_⟩
        conv => whnf
        refine zinv0 (s_X12_setsBit T (k := mN M) (q := q) (by decide) (by exact hn) (by omega) ?_)
        conv => whnf
        exact ih (q + 1) _ (by omega) (hfr.v2 rfl) (hK.yes (by unfold sil; rw [decide_eq_false c81]; rfl) (by omega)) (by omega)
theorem s_X12_keep (T : ZTh (XX Ln xs) CZ RZ) {d b : Nat} {W H n bl : Nat} {M : Mo} {P SL : Nat → Mo} {v u : Nat → Int}  {I : ZI} {L : ZL} {Q : ZQ} (hC : MB I W H M P n SL v bl u) (hA : WfA W H M P n SL v) (h : mN M < 8 → ¬ cn (sil M) 576 = 0 → ∀ I', Fr PMd I I' → I' 603 8 = 0 → MB I' W H (kpM M) (psh P n M) (psn n) SL v bl u → Q (.inl (some (.inl ((mN M : Int))))) I' L) (h2 : ¬ (mN M < 8 ∧ ¬ cn (sil M) 576 = 0) → ∀ I', Fr PSc I I' → I' 603 8 = 0 → MB I' W H M P n SL v bl u → Q (.inl (some (.inl ((-1))))) I' L) : CZ (d + 5) k_X12_keep [.inr (.ref 603, 13)] b I L Q := by
  refine T.call rfl ?_
  obtain ⟨mT, mR, ⟨mW, mH⟩, ⟨mn, mn8⟩, mP, mS9, ⟨mb1, mb2, mb3⟩, mz⟩ := id hC
  obtain ⟨⟨⟨⟨w1, w2, w3, w4⟩, -⟩, w5, w6⟩, wP, wS⟩ := id hA
  have hC0 := hC.th hA 0
  have e0 : v2 I 603 8 0 604 0 = mN M := hC0.2.1.1
  have hcS := cn_nonneg (sil M) 576
  have hcS2 := cn_le (sil M) 576
  refine T.go [38] 120 ?_
  conv => whnf
  refine ⟨by decide, ?_⟩
  conv => whnf
  refine ⟨by decide, _, rfl, ?_⟩
  conv => whnf
  refine ⟨by omega, by decide, ?_⟩
  conv => whnf
  rw [e0]
  refine ⟨by omega, fun c13 => ?_, fun c13 => ?_⟩
  · conv => whnf
    exact h2 (fun g => by omega) _ (frTh I 0) (v2_eq _ _ _ _) hC0
  · conv => whnf
    refine zinv0 (s_X12_covered T (W := W) (H := H) M (by exact hC0.1) (by exact hC0.2.1) (by exact hA.1.1) ?_)
    intro I_17 hf_17 hO_17
    have hfr9 : Fr PSc I I_17 := (frTh I 0).trans (hf_17.mono PSc620)
    have hC9 := hC0.fr hA (fun a b _ g => hf_17 a b (fun c => g (PSc620 a b c)))
    have ht9 : I_17 603 8 = 0 := (hf_17 _ _ (by omega)).trans (v2_eq _ _ _ _)
    conv => whnf
    refine ⟨by exact ⟨by omega, by omega⟩, fun c20 => ?_, fun c20 => ?_⟩
    · conv => whnf
      refine zinv0 (s_X12_keeps T (W := W) (H := H) (M := M) (P := P) (SL := SL) (v := v) (u := u) (by exact hC9) (by exact hA) ?_)
      intro I_26 hf_26 hC_26 hA_26
      have hr0 : I_26 604 0 = mN M := hC_26.2.1.1
      have hOw : OwM I_26 M := fun q hq => (hf_26 _ _ (by unfold PKe; omega)).trans (hO_17 q hq)
      conv => whnf
      refine ⟨by decide, _, rfl, ?_⟩
      conv => whnf
      refine ⟨by omega, by decide, ?_⟩
      conv => whnf
      rw [hr0]
      refine l_mk1 T (n := mN M) (I0 := I_26) (by omega) (fun I1 f1 v1 z1 => ?_) 19 0 I_26 (by omega) (Fr.refl _) (fun i hi => rfl) (fun i hi => absurd hi (Nat.not_lt_zero i)) (by omega)
      refine l_mk2 T (M := M) (I0 := I_26) (by omega) hOw (fun I2 f2 r2 => ?_) hC_26.2.1 577 0 I1 (by omega) f1 ⟨(v1 0 (by omega)).trans hr0, v1, fun z hz => ?_⟩ (by omega)
      · refine h (by omega) c20 I2 (((hfr9.mono PSc_d).trans (hf_26.mono PKe_d)).trans (f2.mono (fun a b c => by unfold PMd; omega))) ?_ (hC_26.row hA_26 r2 (fun a b _ _ g => f2 a b g))
        rw [f2 _ _ (by show ¬ (603 : Nat) = 604; omega)]
        exact (hf_26 _ _ (by unfold PKe; omega)).trans ht9
      · have hz0 := z1 (z / 32) (by omega)
        rw [hz0]
        refine ⟨by decide, ?_⟩
        rw [decide_eq_false (by omega), Bool.false_and, bW1_n3 _ (Nat.mod_lt _ (by decide))]
        exact Nat.zero_testBit _
    · conv => whnf
      exact h2 (fun g => g.2 c20) I_17 hfr9 ht9 hC9
end
