/-! THE REFERENCE ANSWERS, 11: isSimple, size -/
section
variable {Ln : Nat} {xs : Nat → Int32} {CZ : Nat → ZC} {RZ : Nat → Nat → ZQ → ZP}
theorem partsO_z (O : Nat → Bool) : zR (partsO O) := by
  unfold partsO
  have h1 := cn_nonneg (fun q => O q && dc (∀ p, p < q → O p = true → ¬ cc O p q)) 576
  have h2 := cn_le (fun q => O q && dc (∀ p, p < q → O p = true → ¬ cc O p q)) 576
  exact ⟨by omega, by omega⟩
theorem hoN_z {W H : Nat} {M : Mo} (hw : Wq W H M) : zR (hoN M) := by
  unfold hoN
  have h1 := cn_nonneg (fun j => decide (oAR (olM M) j < 0)) (oL (olM M))
  have h2 := cn_le (fun j => decide (oAR (olM M) j < 0)) (oL (olM M))
  have h3 := (ol_ok hw).2.2.2.1
  generalize cn (fun j => decide (oAR (olM M) j < 0)) (oL (olM M)) = x at *
  exact ⟨by omega, by omega⟩
theorem s_X12_isSimple (T : ZTh (XX Ln xs) CZ RZ) {d b : Nat} {W H n bl : Nat} {M : Mo} {P SL : Nat → Mo} {v u : Nat → Int}  {I : ZI} {L : ZL} {Q : ZQ} (hC : MB I W H M P n SL v bl u) (hA : WfA W H M P n SL v) (h : partsO (sil M) = 1 → hoN M = 0 → ¬ crs (bs (sil M)) → ∀ I', Fr PSc I I' → I' 603 8 = 0 → MB I' W H M P n SL v bl u → Q (.inl (some (.inl (1)))) I' L) (h2 : ¬ (partsO (sil M) = 1 ∧ hoN M = 0 ∧ ¬ crs (bs (sil M))) → ∀ I', Fr PSc I I' → I' 603 8 = 0 → MB I' W H M P n SL v bl u → Q (.inl (some (.inl (0)))) I' L) : CZ (d + 6) k_X12_isSimple [.inr (.ref 603, 13)] b I L Q := by
  refine T.call rfl ?_
  obtain ⟨mT, mR, ⟨mW, mH⟩, ⟨mn, mn8⟩, mP, mS9, ⟨mb1, mb2, mb3⟩, mz⟩ := id hC
  obtain ⟨⟨⟨⟨w1, w2, w3, w4⟩, -⟩, w5, w6⟩, wP, wS⟩ := id hA
  have hC0 := hC.th hA 0
  have hbb := bi_b (dc (crs (bs (sil M))))
  have hhz := hoN_z hA.1.1
  have hpz := partsO_z (sil M)
  refine T.go [] 120 ?_
  conv => whnf
  refine ⟨by decide, ?_⟩
  conv => whnf
  refine zinv0 (s_X12_laysLoops T (W := W) (H := H) (M := M) (P := P) (SL := SL) (v := v) (u := u) (by exact hC0) (by exact hA) ?_)
  intro I_6 hf_6 hO_6
  have hfr6 : Fr PSc I I_6 := (frTh I 0).trans (hf_6.mono PLo_c)
  have hC6 := hC0.fr hA (fun a b _ g => hf_6 a b (fun c => g (PLo_c _ _ c)))
  have ht6 : I_6 603 8 = 0 := (hf_6 _ _ (by unfold PLo; omega)).trans (v2_eq _ _ _ _)
  obtain ⟨o1, o2, o3, o4, o5⟩ := ol_ok hA.1.1
  have h34 := hO_6.1.2.1
  conv => whnf
  refine zinv0 (s_X12_isCrossed T (bs (sil M)) (by exact hO_6.2.2) ?_)
  conv => whnf
  refine ⟨by omega, fun c13 => ?_, fun c13 => ?_⟩
  · conv => whnf
    refine ⟨by omega, ?_⟩
    exact h2 (fun g => g.2.2 (dc_iff.mp (by
      cases e : dc (crs (bs (sil M))) with
      | true => rfl
      | false => rw [e] at c13; exact absurd rfl c13))) I_6 hfr6 ht6 hC6
  · conv => whnf
    refine zinv0 (s_X12_holes T (W := W) (H := H) (M := M) (by exact hO_6) (by exact hA.1.1) ?_)
    conv => whnf
    refine ⟨by omega, fun c20 => ?_, fun c20 => ?_⟩
    · conv => whnf
      refine ⟨by omega, ?_⟩
      exact h2 (fun g => c20 g.2.1) I_6 hfr6 ht6 hC6
    · conv => whnf
      refine zinv0 (s_X12_parts T (W := W) (H := H) (M := M) (P := P) (SL := SL) (v := v) (u := u) (by exact hC6) (by exact hA) ?_)
      intro I_24 hf_24
      have hfr24 := hfr6.trans (hf_24.mono PPt_c)
      have hC24 := hC6.fr hA (fun a b _ g => hf_24 a b (fun c => g (PPt_c _ _ c)))
      have ht24 : I_24 603 8 = 0 := (hf_24 _ _ (by unfold PPt; omega)).trans ht6
      conv => whnf
      refine ⟨by omega, fun c28 => ?_, fun c28 => ?_⟩
      · conv => whnf
        refine ⟨by omega, ?_⟩
        exact h2 (fun g => c28 g.1) I_24 hfr24 ht24 hC24
      · conv => whnf
        refine ⟨by omega, ?_⟩
        exact h c28 c20 (dc_not.mp (by
          cases e : dc (crs (bs (sil M))) with
          | false => rfl
          | true => rw [e] at c13; exact absurd c13 (by decide))) I_24 hfr24 ht24 hC24
theorem PSc620 : ∀ (a : Nat) (b : Int), (fun a _ => a = 620 : Nat → Int → Prop) a b → PSc a b := fun a b h => by
  have h' : a = 620 := h
  unfold PSc
  omega
theorem s_X12_sizeBy (T : ZTh (XX Ln xs) CZ RZ) {d b : Nat} {W H n bl : Nat} {M : Mo} {P SL : Nat → Mo} {v u : Nat → Int} {w : Int} {I : ZI} {L : ZL} {Q : ZQ} (hC : MB I W H M P n SL v bl u) (hA : WfA W H M P n SL v) (hw9 : 0 ≤ w ∧ w ≤ 10) (h : ∀ I', Fr PSc I I' → I' 603 8 = I 603 8 → MB I' W H M P n SL v bl u → Q (.inl (some (.inl (aSize W H M n bl w)))) I' L) : CZ (d + 6) k_X12_sizeBy [.inr (.ref 603, 13), .inl w] b I L Q := by
  refine T.call rfl ?_
  obtain ⟨mT, mR, ⟨mW, mH⟩, ⟨mn, mn8⟩, mP, mS9, ⟨mb1, mb2, mb3⟩, mz⟩ := id hC
  obtain ⟨⟨⟨⟨w1, w2, w3, w4⟩, -⟩, w5, w6⟩, wP, wS⟩ := id hA
  have mR1 : I 604 0 = mN M := mR.1
  refine T.go [] 120 ?_
  conv => whnf
  refine ⟨by omega, fun c1 => ?_, ?_⟩
  · conv => whnf
    refine zinv0 (s_X12_laysLoops T (W := W) (H := H) (M := M) (P := P) (SL := SL) (v := v) (u := u) (by exact hC) (by exact hA) ?_)
    intro I_103 hf_103 hO_103
    have hfr6 : Fr PSc I I_103 := hf_103.mono PLo_c
    have hC6 := hC.fr hA (fun a b _ g => hf_103 a b (fun c => g (PLo_c _ _ c)))
    have ht6 : I_103 603 8 = I 603 8 := hf_103 _ _ (by unfold PLo; omega)
    have h34 := hO_103.1.2.1
    have h35 := hO_103.1.2.2.1
    conv => whnf
    refine ⟨by omega, fun c108 => ?_, fun c108 => ?_⟩
    · conv => whnf
      refine ⟨by omega, fun c121 => ?_, fun c121 => ?_⟩
      · conv => whnf
        refine ⟨by decide, ?_⟩
        conv => whnf
        have e1 : w = 7 := by omega
        subst e1
        rw [h35]
        exact h I_103 hfr6 ht6 hC6
      · conv => whnf
        refine zinv0 (s_X12_holes T (W := W) (H := H) (M := M) (by exact hO_103) (by exact hA.1.1) ?_)
        conv => whnf
        have e1 : w = 6 := by omega
        subst e1
        exact h I_103 hfr6 ht6 hC6
    · conv => whnf
      refine ⟨by decide, ?_⟩
      conv => whnf
      have e1 : w = 5 := by omega
      subst e1
      rw [h34]
      exact h I_103 hfr6 ht6 hC6
  refine ⟨fun c1 => ?_, ?_⟩
  · conv => whnf
    refine ⟨by decide, ?_⟩
    conv => whnf
    have e1 : w = 0 := by omega
    subst e1
    rw [mW]
    exact h I (Fr.refl I) rfl hC
  refine ⟨fun c1 => ?_, ?_⟩
  · conv => whnf
    refine ⟨by decide, ?_⟩
    conv => whnf
    have e1 : w = 1 := by omega
    subst e1
    rw [mH]
    exact h I (Fr.refl I) rfl hC
  refine ⟨fun c1 => ?_, ?_⟩
  · conv => whnf
    refine zinv0 (s_X12_onBoard T (W := W) (H := H) M (by exact mR) (by exact hA.1.1) ?_)
    conv => whnf
    have e1 : w = 2 := by omega
    subst e1
    exact h I (Fr.refl I) rfl hC
  refine ⟨fun c1 => ?_, ?_⟩
  · conv => whnf
    refine zinv0 (s_X12_covered T (W := W) (H := H) M (by exact mT) (by exact mR) (by exact hA.1.1) ?_)
    intro I_76 hf_76 hO_76
    conv => whnf
    have e1 : w = 3 := by omega
    subst e1
    exact h I_76 (hf_76.mono PSc620) (hf_76 _ _ (by omega)) (hC.fr hA (fun a b _ g => hf_76 a b (fun c => g (PSc620 a b c))))
  refine ⟨fun c1 => ?_, ?_⟩
  · conv => whnf
    refine zinv0 (s_X12_parts T (W := W) (H := H) (M := M) (P := P) (SL := SL) (v := v) (u := u) (by exact hC) (by exact hA) ?_)
    intro I_81 hf_81
    conv => whnf
    have e1 : w = 4 := by omega
    subst e1
    exact h I_81 (hf_81.mono PPt_c) (hf_81 _ _ (by unfold PPt; omega)) (hC.fr hA (fun a b _ g => hf_81 a b (fun c => g (PPt_c _ _ c))))
  refine ⟨fun c1 => ?_, ?_⟩
  · conv => whnf
    refine zinv0 (s_X12_laysLoops T (W := W) (H := H) (M := M) (P := P) (SL := SL) (v := v) (u := u) (by exact hC) (by exact hA) ?_)
    intro I_103 hf_103 hO_103
    have hfr6 : Fr PSc I I_103 := hf_103.mono PLo_c
    have hC6 := hC.fr hA (fun a b _ g => hf_103 a b (fun c => g (PLo_c _ _ c)))
    have ht6 : I_103 603 8 = I 603 8 := hf_103 _ _ (by unfold PLo; omega)
    have h34 := hO_103.1.2.1
    have h35 := hO_103.1.2.2.1
    conv => whnf
    refine ⟨by omega, fun c108 => ?_, fun c108 => ?_⟩
    · conv => whnf
      refine ⟨by omega, fun c121 => ?_, fun c121 => ?_⟩
      · conv => whnf
        refine ⟨by decide, ?_⟩
        conv => whnf
        have e1 : w = 7 := by omega
        subst e1
        rw [h35]
        exact h I_103 hfr6 ht6 hC6
      · conv => whnf
        refine zinv0 (s_X12_holes T (W := W) (H := H) (M := M) (by exact hO_103) (by exact hA.1.1) ?_)
        conv => whnf
        have e1 : w = 6 := by omega
        subst e1
        exact h I_103 hfr6 ht6 hC6
    · conv => whnf
      refine ⟨by decide, ?_⟩
      conv => whnf
      have e1 : w = 5 := by omega
      subst e1
      rw [h34]
      exact h I_103 hfr6 ht6 hC6
  refine ⟨fun c1 => ?_, ?_⟩
  · conv => whnf
    refine zinv0 (s_X12_laysLoops T (W := W) (H := H) (M := M) (P := P) (SL := SL) (v := v) (u := u) (by exact hC) (by exact hA) ?_)
    intro I_103 hf_103 hO_103
    have hfr6 : Fr PSc I I_103 := hf_103.mono PLo_c
    have hC6 := hC.fr hA (fun a b _ g => hf_103 a b (fun c => g (PLo_c _ _ c)))
    have ht6 : I_103 603 8 = I 603 8 := hf_103 _ _ (by unfold PLo; omega)
    have h34 := hO_103.1.2.1
    have h35 := hO_103.1.2.2.1
    conv => whnf
    refine ⟨by omega, fun c108 => ?_, fun c108 => ?_⟩
    · conv => whnf
      refine ⟨by omega, fun c121 => ?_, fun c121 => ?_⟩
      · conv => whnf
        refine ⟨by decide, ?_⟩
        conv => whnf
        have e1 : w = 7 := by omega
        subst e1
        rw [h35]
        exact h I_103 hfr6 ht6 hC6
      · conv => whnf
        refine zinv0 (s_X12_holes T (W := W) (H := H) (M := M) (by exact hO_103) (by exact hA.1.1) ?_)
        conv => whnf
        have e1 : w = 6 := by omega
        subst e1
        exact h I_103 hfr6 ht6 hC6
    · conv => whnf
      refine ⟨by decide, ?_⟩
      conv => whnf
      have e1 : w = 5 := by omega
      subst e1
      rw [h34]
      exact h I_103 hfr6 ht6 hC6
  refine ⟨fun c1 => ?_, ?_⟩
  · conv => whnf
    refine zinv0 (s_X12_laysLoops T (W := W) (H := H) (M := M) (P := P) (SL := SL) (v := v) (u := u) (by exact hC) (by exact hA) ?_)
    intro I_103 hf_103 hO_103
    have hfr6 : Fr PSc I I_103 := hf_103.mono PLo_c
    have hC6 := hC.fr hA (fun a b _ g => hf_103 a b (fun c => g (PLo_c _ _ c)))
    have ht6 : I_103 603 8 = I 603 8 := hf_103 _ _ (by unfold PLo; omega)
    have h34 := hO_103.1.2.1
    have h35 := hO_103.1.2.2.1
    conv => whnf
    refine ⟨by omega, fun c108 => ?_, fun c108 => ?_⟩
    · conv => whnf
      refine ⟨by omega, fun c121 => ?_, fun c121 => ?_⟩
      · conv => whnf
        refine ⟨by decide, ?_⟩
        conv => whnf
        have e1 : w = 7 := by omega
        subst e1
        rw [h35]
        exact h I_103 hfr6 ht6 hC6
      · conv => whnf
        refine zinv0 (s_X12_holes T (W := W) (H := H) (M := M) (by exact hO_103) (by exact hA.1.1) ?_)
        conv => whnf
        have e1 : w = 6 := by omega
        subst e1
        exact h I_103 hfr6 ht6 hC6
    · conv => whnf
      refine ⟨by decide, ?_⟩
      conv => whnf
      have e1 : w = 5 := by omega
      subst e1
      rw [h34]
      exact h I_103 hfr6 ht6 hC6
  refine ⟨fun c1 => ?_, ?_⟩
  · conv => whnf
    refine ⟨by decide, _, rfl, ?_⟩
    conv => whnf
    refine ⟨by omega, by decide, ?_⟩
    conv => whnf
    have e1 : w = 8 := by omega
    subst e1
    rw [mR1]
    exact h I (Fr.refl I) rfl hC
  refine ⟨fun c1 => ?_, ?_⟩
  · conv => whnf
    refine ⟨by decide, ?_⟩
    conv => whnf
    have e1 : w = 9 := by omega
    subst e1
    rw [mn]
    exact h I (Fr.refl I) rfl hC
  refine ⟨fun c1 => ?_, ?_⟩
  · conv => whnf
    refine ⟨by decide, ?_⟩
    conv => whnf
    have e1 : w = 10 := by omega
    subst e1
    rw [mb1]
    exact h I (Fr.refl I) rfl hC
  exact trivial
theorem s_X12_size (T : ZTh (XX Ln xs) CZ RZ) {d b : Nat} {W H n bl : Nat} {M : Mo} {P SL : Nat → Mo} {v u : Nat → Int} {w : Int} {I : ZI} {L : ZL} {Q : ZQ} (hC : MB I W H M P n SL v bl u) (hA : WfA W H M P n SL v) (hw9 : zR w) (h : 0 ≤ w → w ≤ 10 → ∀ I', Fr PSc I I' → I' 603 8 = 0 → MB I' W H M P n SL v bl u → Q (.inl (some (.inl (aSize W H M n bl w)))) I' L) (h2 : ¬ (0 ≤ w ∧ w ≤ 10) → ∀ I', Fr PSc I I' → I' 603 8 = 1 → MB I' W H M P n SL v bl u → Q (.inl (some (.inl (0)))) I' L) : CZ (d + 7) k_X12_size [.inr (.ref 603, 13), .inl w] b I L Q := by
  refine T.call rfl ?_
  obtain ⟨mT, mR, ⟨mW, mH⟩, ⟨mn, mn8⟩, mP, mS9, ⟨mb1, mb2, mb3⟩, mz⟩ := id hC
  obtain ⟨⟨⟨⟨w1, w2, w3, w4⟩, -⟩, w5, w6⟩, wP, wS⟩ := id hA
  refine T.go [] 120 ?_
  conv => whnf
  refine ⟨by omega, ?_⟩
  conv => whnf
  refine zinv0 (s_X12_isIn T (v := w) (a := 0) (z := 10) (by omega) (by omega) (by omega) ?_ ?_)
  · intro cha_7
    conv => whnf
    refine ⟨by decide, fun _ => ?_, fun c => absurd c (by decide)⟩
    conv => whnf
    refine zinv0 (s_fails0 T   ?_)
    conv => whnf
    refine ⟨by decide, fun _ => ?_, fun c => absurd c (by decide)⟩
    conv => whnf
    refine zinv0 (s_X12_sizeBy T (W := W) (H := H) (M := M) (P := P) (SL := SL) (v := v) (u := u) (by exact hC.th hA 0) (by exact hA) (by exact cha_7) ?_)
    intro I_30 hf_30 ht_30 hC_30
    conv => whnf
    exact h cha_7.1 cha_7.2 I_30 ((frTh I 0).trans hf_30) (ht_30.trans (v2_eq _ _ _ _)) hC_30
  · intro ch2a_7
    conv => whnf
    refine ⟨by decide, fun c => absurd c (by decide), fun _ => ?_⟩
    conv => whnf
    refine zinv0 (s_fails1 T   ?_)
    conv => whnf
    refine ⟨by decide, fun c => absurd c (by decide), fun _ => ?_⟩
    conv => whnf
    exact h2 ch2a_7 _ (frTh I 1) (v2_eq _ _ _ _) (hC.th hA 1)
end
