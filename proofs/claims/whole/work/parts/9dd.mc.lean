/-! THE REFERENCE CHANGES, 2: turn, flip -/
section
variable {Ln : Nat} {xs : Nat → Int32} {CZ : Nat → ZC} {RZ : Nat → Nat → ZQ → ZP}
theorem s_X12_becomes (T : ZTh (XX Ln xs) CZ RZ) {d b : Nat} {W H n bl : Nat} {M : Mo} {P SL : Nat → Mo} {v u : Nat → Int} {p t f : Nat} {I : ZI} {L : ZL} {Q : ZQ} (hC : MB I W H M P n SL v bl u) (hA : WfA W H M P n SL v) (hp : p < 7) (hon : ¬ mF M p = -1) (ht : t < 4 ∧ f < 2) (h : why W H M p (8 * p + (2 * t + f)) (mX M p) (mY M p) = 0 → ∀ I', Fr PMd I I' → I' 603 8 = I 603 8 → MB I' W H (putM M p (mX M p) (mY M p) (2 * (t : Int) + (f : Int))) (psh P n M) (psn n) SL v bl u → Q (.inl (some (.inl (1)))) I' L) (h2 : ¬ why W H M p (8 * p + (2 * t + f)) (mX M p) (mY M p) = 0 → ∀ I', Fr PSc I I' → I' 603 8 = I 603 8 → MB I' W H M P n SL v bl u → Q (.inl (some (.inl (0)))) I' L) : CZ (d + 4) k_X12_becomes [.inr (.ref 603, 13), .inl ((p : Int)), .inl ((t : Int)), .inl ((f : Int))] b I L Q := by
  refine T.call rfl ?_
  obtain ⟨mT, mR, ⟨mW, mH⟩, ⟨mn, mn8⟩, mP, mS9, ⟨mb1, mb2, mb3⟩, mz⟩ := id hC
  obtain ⟨⟨⟨⟨w1, w2, w3, w4⟩, -⟩, w5, w6⟩, wP, wS⟩ := id hA
  obtain ⟨tq0, tq1, tq2, tq3⟩ := tlM_0 (p := p) hon
  obtain ⟨f1, f2, f3, f4, f5, f6, f7, f8⟩ := hA.1.1.form hp hon
  have hwb := why_b (W := W) (H := H) (M := M) (p := p) (n := 8 * p + (2 * t + f)) (x := mX M p) (y := mY M p)
  refine T.go [] 120 ?_
  conv => whnf
  refine ⟨by decide, _, rfl, ?_⟩
  conv => whnf
  refine zinv0 (s_X12_laysOwners T (W := W) (H := H) (M := M) (by exact mT) (by decide) (by exact mR) (by exact hA.1.1) ?_)
  intro I_5 hf_5 hv_5
  have hC5 := hC.fr hA (fun a b _ g => hf_5 a b (fun c => g (by unfold PSc; omega)))
  have HR := hC5.2.1
  conv => whnf
  refine zinv0 (s_X12_of T (p := p) (w := 0) (M := M) (by exact HR) (by omega) (by omega) ?_)
  rw [tq0]
  conv => whnf
  refine zinv0 (s_X12_of T (p := p) (w := 1) (M := M) (by exact HR) (by omega) (by omega) ?_)
  rw [tq1]
  conv => whnf
  refine zinv0 (s_X12_reason T (p := p) (t := t) (f := f) (W := W) (H := H) M (by exact hC5.1) (by exact hv_5) (by exact hA.1.1) (by exact hC5.2.2.1.1) (by exact hC5.2.2.1.2) (by exact hp) (by exact ht) (by exact ⟨by omega, by omega⟩) (by exact ⟨by omega, by omega⟩) ?_)
  conv => whnf
  refine ⟨by omega, fun c27 => ?_, fun c27 => ?_⟩
  · conv => whnf
    refine zinv0 (s_X12_keeps T (W := W) (H := H) (M := M) (P := P) (SL := SL) (v := v) (u := u) (by exact hC5) (by exact hA) ?_)
    intro I_33 hf_33 hC_33 hA_33
    have HR2 := hC_33.2.1
    conv => whnf
    refine ⟨by decide, _, rfl, ?_⟩
    conv => whnf
    refine zinv0 (s_X12_of T (p := p) (w := 0) (M := M) (by exact HR2) (by omega) (by omega) ?_)
    rw [tq0]
    conv => whnf
    refine zinv0 (s_X12_of T (p := p) (w := 1) (M := M) (by exact HR2) (by omega) (by omega) ?_)
    rw [tq1]
    conv => whnf
    refine zinv0 (s_X12_puts T (p := p) (by decide) (by exact hp) ?_)
    have hRp := hC_33.2.1.put w5 (p := p) (x := mX M p) (y := mY M p) (t := t) (f := f) hp (by omega) (by omega)
    have hCp := hC_33.row hA_33 hRp (fun a b g1 g2 g3 => by rw [v2_ne (by omega), v2_ne (by omega), v2_ne (by omega), v2_ne (by omega)])
    conv => whnf
    refine ⟨by omega, ?_⟩
    refine h c27 _ ((((((hf_5.mono (fun a b c => by unfold PMd; omega)).trans (hf_33.mono PKe_d)).v2 (by unfold PMd; omega)).v2 (by unfold PMd; omega)).v2 (by unfold PMd; omega)).v2 (by unfold PMd; omega)) ?_ hCp
    rw [v2_ne (by omega), v2_ne (by omega), v2_ne (by omega), v2_ne (by omega)]
    exact (hf_33 _ _ (by unfold PKe; omega)).trans (hf_5 _ _ (by omega))
  · conv => whnf
    refine ⟨by omega, ?_⟩
    exact h2 c27 I_5 (hf_5.mono (fun a b c => by unfold PSc; omega)) (hf_5 _ _ (by omega)) hC5
theorem s_X12_turn (T : ZTh (XX Ln xs) CZ RZ) {d b : Nat} {W H n bl : Nat} {M : Mo} {P SL : Nat → Mo} {v u : Nat → Int} {p : Int} {I : ZI} {L : ZL} {Q : ZQ} (hC : MB I W H M P n SL v bl u) (hA : WfA W H M P n SL v) (hp : zR p) (h : 0 ≤ p ∧ p < 7 → ¬ mF M p = -1 → why W H M p.toNat (8 * p.toNat + ((mF M p + 2) % 8).toNat) (mX M p) (mY M p) = 0 → ∀ I', Fr PMd I I' → I' 603 8 = 0 → MB I' W H (putM M p.toNat (mX M p) (mY M p) ((mF M p + 2) % 8)) (psh P n M) (psn n) SL v bl u → Q (.inl (some (.inl ((mF M p + 2) % 8 / 2)))) I' L) (h1 : 0 ≤ p ∧ p < 7 → mF M p = -1 → ∀ I', Fr PSc I I' → I' 603 8 = 0 → MB I' W H M P n SL v bl u → Q (.inl (some (.inl ((-1))))) I' L) (h4 : 0 ≤ p ∧ p < 7 → ¬ mF M p = -1 → ¬ why W H M p.toNat (8 * p.toNat + ((mF M p + 2) % 8).toNat) (mX M p) (mY M p) = 0 → ∀ I', Fr PSc I I' → I' 603 8 = 0 → MB I' W H M P n SL v bl u → Q (.inl (some (.inl ((-1))))) I' L) (h2 : ¬ (0 ≤ p ∧ p < 7) → ∀ I', Fr PSc I I' → I' 603 8 = 1 → MB I' W H M P n SL v bl u → Q (.inl (some (.inl (0)))) I' L) : CZ (d + 5) k_X12_turn [.inr (.ref 603, 13), .inl p] b I L Q := by
  refine T.call rfl ?_
  obtain ⟨mT, mR, ⟨mW, mH⟩, ⟨mn, mn8⟩, mP, mS9, ⟨mb1, mb2, mb3⟩, mz⟩ := id hC
  obtain ⟨⟨⟨⟨w1, w2, w3, w4⟩, -⟩, w5, w6⟩, wP, wS⟩ := id hA
  refine T.go [] 150 ?_
  conv => whnf
  refine zinv0 (s_X12_isPiece T  (by first | assumption | omega | rfl | decide) ?_ ?_)
  · intro cha_3
    conv => whnf
    refine ⟨by decide, fun _ => ?_, fun c => absurd c (by decide)⟩
    conv => whnf
    refine zinv0 (s_fails0 T   ?_)
    have hC1 := hC.th hA 0
    obtain ⟨pn, rfl⟩ := Int.eq_ofNat_of_zero_le cha_3.1
    have hp7 : pn < 7 := by omega
    have hpm : ((pn : Nat) : Int).toNat = pn := Int.toNat_natCast pn
    have hp := hp7
    have HR := hC1.2.1
    have hz8 : v2 I 603 8 0 603 8 = 0 := v2_eq _ _ _ _
    conv => whnf
    refine ⟨by decide, fun c => absurd c (by decide), fun _ => ?_⟩
    conv => whnf
    refine zinv0 (s_X12_isOn T (p := pn) (W := W) (H := H) (M := M) (by exact HR) (by exact hp7) (by exact hA.1.1) ?_ ?_)
    · intro cha_22
      have hon := cha_22
      obtain ⟨tq0, tq1, tq2, tq3⟩ := tlM_0 (p := pn) hon
      obtain ⟨f1, f2, f3, f4, f5, f6, f7, f8⟩ := hA.1.1.form hp hon
      conv => whnf
      refine ⟨by decide, fun _ => ?_, fun c => absurd c (by decide)⟩
      conv => whnf
      refine zinv0 (s_X12_of T (p := pn) (w := 2) (M := M) (by exact HR) (by omega) (by omega) ?_)
      rw [tq2]
      conv => whnf
      refine ⟨by omega, ?_⟩
      conv => whnf
      refine zinv0 (s_X12_of T (p := pn) (w := 3) (M := M) (by exact HR) (by omega) (by omega) ?_)
      rw [tq3]
      conv => whnf
      obtain ⟨tn, ht1, ht2⟩ : ∃ tn : Nat, tn < 4 ∧ (mF M pn / 2 + 1) % 4 = (tn : Int) := ⟨((mF M pn / 2 + 1) % 4).toNat, by omega, by omega⟩
      obtain ⟨fn, hf1, hf2⟩ : ∃ fn : Nat, fn < 2 ∧ mF M pn % 2 = (fn : Int) := ⟨(mF M pn % 2).toNat, by omega, by omega⟩
      have eI : 2 * (tn : Int) + (fn : Int) = (mF M pn + 2) % 8 := by omega
      have eN : 2 * tn + fn = ((mF M pn + 2) % 8).toNat := by omega
      rw [ht2, hf2]
      refine zinv0 (s_X12_becomes T (p := pn) (t := tn) (f := fn) (W := W) (H := H) (M := M) (P := P) (SL := SL) (v := v) (u := u) (by exact hC1) (by exact hA) (by exact hp7) (by exact hon) (by exact ⟨ht1, hf1⟩) ?_ ?_)
      · intro hz_61 I_61 hf_61 ht_61 hC_61
        conv => whnf
        refine ⟨by decide, fun c => absurd c (by decide), fun _ => ?_⟩
        conv => whnf
        rw [eN] at hz_61
        rw [eI] at hC_61
        have h9 := h cha_3 hon (by rw [hpm]; exact hz_61) I_61 (((frTh I 0).mono PSc_d).trans hf_61) (ht_61.trans (v2_eq _ _ _ _)) (by rw [hpm]; exact hC_61)
        rw [show (tn : Int) = ((mF M pn + 2) % 8 / 2 : Int) by omega]
        exact h9
      · intro hz_61 I_61 hf_61 ht_61 hC_61
        conv => whnf
        refine ⟨by decide, fun _ => ?_, fun c => absurd c (by decide)⟩
        conv => whnf
        rw [eN] at hz_61
        exact h4 cha_3 hon (by rw [hpm]; exact hz_61) I_61 ((frTh I 0).trans hf_61) (ht_61.trans (v2_eq _ _ _ _)) hC_61
    · intro ch2a_22
      conv => whnf
      refine ⟨by decide, fun c => absurd c (by decide), fun _ => ?_⟩
      conv => whnf
      refine ⟨by decide, ?_⟩
      conv => whnf
      rw [v2_eq]
      refine ⟨by omega, fun c32 => ?_, fun c32 => by exfalso; omega⟩
      conv => whnf
      exact h1 cha_3 ch2a_22 _ (frTh I 0) (v2_eq _ _ _ _) hC1
  · intro ch2a_3
    conv => whnf
    refine ⟨by decide, fun c => absurd c (by decide), fun _ => ?_⟩
    conv => whnf
    refine zinv0 (s_fails1 T   ?_)
    conv => whnf
    refine ⟨by decide, fun _ => ?_, fun c => absurd c (by decide)⟩
    conv => whnf
    refine ⟨by decide, ?_⟩
    conv => whnf
    rw [v2_eq]
    refine ⟨by omega, fun c32 => by exfalso; omega, fun c32 => ?_⟩
    conv => whnf
    exact h2 ch2a_3 _ (frTh I 1) (v2_eq _ _ _ _) (hC.th hA 1)
theorem s_X12_flip (T : ZTh (XX Ln xs) CZ RZ) {d b : Nat} {W H n bl : Nat} {M : Mo} {P SL : Nat → Mo} {v u : Nat → Int} {p : Int} {I : ZI} {L : ZL} {Q : ZQ} (hC : MB I W H M P n SL v bl u) (hA : WfA W H M P n SL v) (hp : zR p) (h : 0 ≤ p ∧ p < 7 → ¬ mF M p = -1 → why W H M p.toNat (8 * p.toNat + (mF M p + 1 - 2 * (mF M p % 2)).toNat) (mX M p) (mY M p) = 0 → ∀ I', Fr PMd I I' → I' 603 8 = 0 → MB I' W H (putM M p.toNat (mX M p) (mY M p) (mF M p + 1 - 2 * (mF M p % 2))) (psh P n M) (psn n) SL v bl u → Q (.inl (some (.inl ((mF M p + 1 - 2 * (mF M p % 2)) % 2)))) I' L) (h1 : 0 ≤ p ∧ p < 7 → mF M p = -1 → ∀ I', Fr PSc I I' → I' 603 8 = 0 → MB I' W H M P n SL v bl u → Q (.inl (some (.inl ((-1))))) I' L) (h4 : 0 ≤ p ∧ p < 7 → ¬ mF M p = -1 → ¬ why W H M p.toNat (8 * p.toNat + (mF M p + 1 - 2 * (mF M p % 2)).toNat) (mX M p) (mY M p) = 0 → ∀ I', Fr PSc I I' → I' 603 8 = 0 → MB I' W H M P n SL v bl u → Q (.inl (some (.inl ((-1))))) I' L) (h2 : ¬ (0 ≤ p ∧ p < 7) → ∀ I', Fr PSc I I' → I' 603 8 = 1 → MB I' W H M P n SL v bl u → Q (.inl (some (.inl (0)))) I' L) : CZ (d + 5) k_X12_flip [.inr (.ref 603, 13), .inl p] b I L Q := by
  refine T.call rfl ?_
  obtain ⟨mT, mR, ⟨mW, mH⟩, ⟨mn, mn8⟩, mP, mS9, ⟨mb1, mb2, mb3⟩, mz⟩ := id hC
  obtain ⟨⟨⟨⟨w1, w2, w3, w4⟩, -⟩, w5, w6⟩, wP, wS⟩ := id hA
  refine T.go [] 150 ?_
  conv => whnf
  refine zinv0 (s_X12_isPiece T  (by first | assumption | omega | rfl | decide) ?_ ?_)
  · intro cha_3
    conv => whnf
    refine ⟨by decide, fun _ => ?_, fun c => absurd c (by decide)⟩
    conv => whnf
    refine zinv0 (s_fails0 T   ?_)
    have hC1 := hC.th hA 0
    obtain ⟨pn, rfl⟩ := Int.eq_ofNat_of_zero_le cha_3.1
    have hp7 : pn < 7 := by omega
    have hpm : ((pn : Nat) : Int).toNat = pn := Int.toNat_natCast pn
    have hp := hp7
    have HR := hC1.2.1
    have hz8 : v2 I 603 8 0 603 8 = 0 := v2_eq _ _ _ _
    conv => whnf
    refine ⟨by decide, fun c => absurd c (by decide), fun _ => ?_⟩
    conv => whnf
    refine zinv0 (s_X12_isOn T (p := pn) (W := W) (H := H) (M := M) (by exact HR) (by exact hp7) (by exact hA.1.1) ?_ ?_)
    · intro cha_22
      have hon := cha_22
      obtain ⟨tq0, tq1, tq2, tq3⟩ := tlM_0 (p := pn) hon
      obtain ⟨f1, f2, f3, f4, f5, f6, f7, f8⟩ := hA.1.1.form hp hon
      conv => whnf
      refine ⟨by decide, fun _ => ?_, fun c => absurd c (by decide)⟩
      conv => whnf
      refine zinv0 (s_X12_of T (p := pn) (w := 3) (M := M) (by exact HR) (by omega) (by omega) ?_)
      rw [tq3]
      conv => whnf
      refine zinv0 (s_X12_of T (p := pn) (w := 2) (M := M) (by exact HR) (by omega) (by omega) ?_)
      rw [tq2]
      conv => whnf
      obtain ⟨tn, ht1, ht2⟩ : ∃ tn : Nat, tn < 4 ∧ mF M pn / 2 = (tn : Int) := ⟨(mF M pn / 2).toNat, by omega, by omega⟩
      obtain ⟨fn, hf1, hf2⟩ : ∃ fn : Nat, fn < 2 ∧ 1 - mF M pn % 2 = (fn : Int) := ⟨(1 - mF M pn % 2).toNat, by omega, by omega⟩
      have eI : 2 * (tn : Int) + (fn : Int) = mF M pn + 1 - 2 * (mF M pn % 2) := by omega
      have eN : 2 * tn + fn = (mF M pn + 1 - 2 * (mF M pn % 2)).toNat := by omega
      rw [ht2, hf2]
      refine zinv0 (s_X12_becomes T (p := pn) (t := tn) (f := fn) (W := W) (H := H) (M := M) (P := P) (SL := SL) (v := v) (u := u) (by exact hC1) (by exact hA) (by exact hp7) (by exact hon) (by exact ⟨ht1, hf1⟩) ?_ ?_)
      · intro hz_59 I_59 hf_59 ht_59 hC_59
        conv => whnf
        refine ⟨by decide, fun c => absurd c (by decide), fun _ => ?_⟩
        conv => whnf
        rw [eN] at hz_59
        rw [eI] at hC_59
        have h9 := h cha_3 hon (by rw [hpm]; exact hz_59) I_59 (((frTh I 0).mono PSc_d).trans hf_59) (ht_59.trans (v2_eq _ _ _ _)) (by rw [hpm]; exact hC_59)
        rw [show (fn : Int) = ((mF M pn + 1 - 2 * (mF M pn % 2)) % 2 : Int) by omega]
        exact h9
      · intro hz_59 I_59 hf_59 ht_59 hC_59
        conv => whnf
        refine ⟨by decide, fun _ => ?_, fun c => absurd c (by decide)⟩
        conv => whnf
        rw [eN] at hz_59
        exact h4 cha_3 hon (by rw [hpm]; exact hz_59) I_59 ((frTh I 0).trans hf_59) (ht_59.trans (v2_eq _ _ _ _)) hC_59
    · intro ch2a_22
      conv => whnf
      refine ⟨by decide, fun c => absurd c (by decide), fun _ => ?_⟩
      conv => whnf
      refine ⟨by decide, ?_⟩
      conv => whnf
      rw [v2_eq]
      refine ⟨by omega, fun c32 => ?_, fun c32 => by exfalso; omega⟩
      conv => whnf
      exact h1 cha_3 ch2a_22 _ (frTh I 0) (v2_eq _ _ _ _) hC1
  · intro ch2a_3
    conv => whnf
    refine ⟨by decide, fun c => absurd c (by decide), fun _ => ?_⟩
    conv => whnf
    refine zinv0 (s_fails1 T   ?_)
    conv => whnf
    refine ⟨by decide, fun _ => ?_, fun c => absurd c (by decide)⟩
    conv => whnf
    refine ⟨by decide, ?_⟩
    conv => whnf
    rw [v2_eq]
    refine ⟨by omega, fun c32 => by exfalso; omega, fun c32 => ?_⟩
    conv => whnf
    exact h2 ch2a_3 _ (frTh I 1) (v2_eq _ _ _ _) (hC.th hA 1)
end
