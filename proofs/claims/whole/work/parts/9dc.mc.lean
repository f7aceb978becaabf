/-! THE REFERENCE CHANGES, 1: place, takeOff -/
section
variable {Ln : Nat} {xs : Nat → Int32} {CZ : Nat → ZC} {RZ : Nat → Nat → ZQ → ZP}
theorem MB.row {I I' : ZI} {W H : Nat} {M : Mo} {P : Nat → Mo} {n : Nat} {SL : Nat → Mo} {v : Nat → Int} {bl : Nat} {u : Nat → Int} (h : MB I W H M P n SL v bl u) (hW : WfA W H M P n SL v) {M' : Mo} (hR : RowM I' 604 0 M') (h1 : ∀ (a : Nat) (b : Int), 603 ≤ a → ¬ PSc a b → a ≠ 604 → I' a b = I a b) : MB I' W H M' P n SL v bl u := by
  obtain ⟨a1, a2, ⟨a3, a4⟩, ⟨a5, a6⟩, a7, a8, ⟨a9, a10, a11⟩, a12⟩ := h
  have e : ∀ (a : Nat) (b : Int), 605 < a → ¬ (620 ≤ a ∧ a ≤ 640) → a ≠ 642 → I' a b = I a b := fun a b g1 g2 g3 => h1 a b (by omega) (by unfold PSc; omega) (by omega)
  refine ⟨a1.fr (fun a b _ _ => e a b (by omega) (by omega) (by omega)), hR, ⟨?_, ?_⟩, ⟨?_, a6⟩, fun i hi => (a7 i hi).fr (hW.2.1 i hi).2.1 (fun j _ _ => e _ _ (by omega) (by omega) (by omega)), fun t ht => ?_, ⟨?_, a10, fun i hi => ?_⟩, ?_⟩
  · rw [h1 _ _ (by omega) (by unfold PSc; omega) (by omega)]; exact a3
  · rw [h1 _ _ (by omega) (by unfold PSc; omega) (by omega)]; exact a4
  · rw [h1 _ _ (by omega) (by unfold PSc; omega) (by omega)]; exact a5
  · rw [e _ _ (by omega) (by omega) (by omega)]
    obtain ⟨b1, b2, b3⟩ := a8 t ht
    exact ⟨b1, b2, fun g => (b3 g).fr (hW.2.2 t ht g).2.1 (fun j _ _ => e _ _ (by omega) (by omega) (by omega))⟩
  · rw [h1 _ _ (by omega) (by unfold PSc; omega) (by omega)]; exact a9
  · rw [e _ _ (by omega) (by omega) (by omega)]; exact a11 i hi
  · rw [h1 _ _ (by omega) (by unfold PSc; omega) (by omega)]; exact a12
/-- what a change of the reference may change -/
def PMd : Nat → Int → Prop := fun a _ => 603 ≤ a
theorem PSc_d : ∀ a b, PSc a b → PMd a b := fun a b h => by unfold PSc at h; unfold PMd; omega
theorem PKe_d : ∀ a b, PKe a b → PMd a b := fun a b h => by unfold PKe at h; unfold PMd; omega
theorem tlM_0 {M : Mo} {p : Nat} (h : ¬ mF M p = -1) : tlM M p ((0 : Nat) : Int) = mX M p ∧ tlM M p ((1 : Nat) : Int) = mY M p ∧ tlM M p ((2 : Nat) : Int) = mF M p / 2 ∧ tlM M p ((3 : Nat) : Int) = mF M p % 2 := by
  unfold tlM
  refine ⟨?_, ?_, ?_, ?_⟩
  · rw [if_neg h, if_pos (by omega)]
  · rw [if_neg h, if_neg (by omega), if_pos (by omega)]
  · rw [if_neg h, if_neg (by omega), if_neg (by omega), if_pos (by omega)]
  · rw [if_neg h, if_neg (by omega), if_neg (by omega), if_neg (by omega)]
theorem s_X12_place (T : ZTh (XX Ln xs) CZ RZ) {d b : Nat} {W H n bl : Nat} {M : Mo} {P SL : Nat → Mo} {v u : Nat → Int} {p x y t f : Int} {I : ZI} {L : ZL} {Q : ZQ} (hC : MB I W H M P n SL v bl u) (hA : WfA W H M P n SL v) (hp : zR p) (hx : zR x) (hy : zR y) (ht : zR t) (hf : f = 0 ∨ f = 1) (h : 0 ≤ p ∧ p < 7 → 0 ≤ t ∧ t < 4 → aWhy W H M p x y t f = 0 → ∀ I', Fr PMd I I' → I' 603 8 = 0 → MB I' W H (putM M p.toNat x y (2 * t + f)) (psh P n M) (psn n) SL v bl u → Q (.inl (some (.inl (cn (sil (putM M p.toNat x y (2 * t + f))) 576)))) I' L) (h4 : 0 ≤ p ∧ p < 7 → 0 ≤ t ∧ t < 4 → ¬ aWhy W H M p x y t f = 0 → ∀ I', Fr PSc I I' → I' 603 8 = 0 → MB I' W H M P n SL v bl u → Q (.inl (some (.inl (-aWhy W H M p x y t f)))) I' L) (h2 : ¬ (0 ≤ p ∧ p < 7) → ∀ I', Fr PSc I I' → I' 603 8 = 1 → MB I' W H M P n SL v bl u → Q (.inl (some (.inl (0)))) I' L) (h3 : 0 ≤ p ∧ p < 7 → ¬ (0 ≤ t ∧ t < 4) → ∀ I', Fr PSc I I' → I' 603 8 = 2 → MB I' W H M P n SL v bl u → Q (.inl (some (.inl (0)))) I' L) : CZ (d + 5) k_X12_place [.inr (.ref 603, 13), .inl p, .inl x, .inl y, .inl t, .inl f] b I L Q := by
  refine T.call rfl ?_
  obtain ⟨mT, mR, ⟨mW, mH⟩, ⟨mn, mn8⟩, mP, mS9, ⟨mb1, mb2, mb3⟩, mz⟩ := id hC
  obtain ⟨⟨⟨⟨w1, w2, w3, w4⟩, -⟩, w5, w6⟩, wP, wS⟩ := id hA
  refine T.go [] 150 ?_
  conv => whnf
  refine zinv0 (s_X12_noTurn T (p := p) (t := t) (by exact hC) (by exact hA) (by first | assumption | omega | rfl | decide) (by first | assumption | omega | rfl | decide) ?_ ?_ ?_)
  · intro cha_4 chb_4
    conv => whnf
    refine ⟨by decide, fun _ => ?_, fun c => absurd c (by decide)⟩
    conv => whnf
    refine ⟨by exact ⟨by omega, by omega⟩, fun c14 => ?_, fun c14 => ?_⟩
    · conv => whnf
      refine ⟨by decide, _, rfl, ?_⟩
      conv => whnf
      have hC1 := hC.th hA 0
      refine zinv0 (s_X12_laysOwners T (W := W) (H := H) (M := M) (by exact hC1.1) (by decide) (by exact hC1.2.1) (by exact hA.1.1) ?_)
      intro I_29 hf_29 hv_29
      have hfr : Fr PSc I I_29 := (frTh I 0).trans (hf_29.mono (fun a b c => by unfold PSc; omega))
      have hC17 := hC.fr hA (fun a b _ g => hfr a b g)
      have ht17 : I_29 603 8 = 0 := by rw [hf_29 _ _ (by omega), v2_eq]
      obtain ⟨pn, rfl⟩ := Int.eq_ofNat_of_zero_le cha_4.1
      obtain ⟨tn, rfl⟩ := Int.eq_ofNat_of_zero_le chb_4.1
      have hpm : ((pn : Nat) : Int).toNat = pn := Int.toNat_natCast pn
      have hwb := why_b (W := W) (H := H) (M := M) (p := pn) (n := 8 * pn + (2 * (tn : Int) + f).toNat) (x := x) (y := y)
      have eW : aWhy W H M pn x y tn f = why W H M pn (8 * pn + (2 * (tn : Int) + f).toNat) x y := by unfold aWhy; rw [hpm]
      obtain ⟨fn, hfn, hfe⟩ : ∃ fn : Nat, fn < 2 ∧ f = fn := ⟨f.toNat, by omega, by omega⟩
      have eN : (2 * (tn : Int) + f).toNat = 2 * tn + fn := by omega
      have eI : ((2 * tn + fn : Nat) : Int) = 2 * (tn : Int) + f := by omega
      conv => whnf
      refine zinv0 (s_X12_reason T (p := pn) (t := tn) (f := 0) (W := W) (H := H) M (by exact hC17.1) (by exact hv_29) (by exact hA.1.1) (by exact hC17.2.2.1.1) (by exact hC17.2.2.1.2) (by omega) (by omega) (by exact hx) (by exact hy) ?_)
      obtain rfl : fn = 0 := by omega
      rw [eN] at eW hwb
      rw [← eW]
      rw [← eW] at hwb
      conv => whnf
      refine ⟨by omega, fun c47 => ?_, fun c47 => ?_⟩
      · conv => whnf
        refine zinv0 (s_X12_keeps T (W := W) (H := H) (M := M) (P := P) (SL := SL) (v := v) (u := u) (by exact hC17) (by exact hA) ?_)
        intro I_55 hf_55 hC_55 hA_55
        conv => whnf
        refine ⟨by decide, _, rfl, ?_⟩
        conv => whnf
        refine zinv0 (s_X12_puts T (p := pn) (by decide) (by omega) ?_)
        have hRp : RowM _ 604 0 (putM M pn x y (2 * (tn : Int) + 0)) := hC_55.2.1.put w5 (p := pn) (x := x) (y := y) (t := tn) (f := 0) (by omega) (by omega) (by omega)
        have hCp := hC_55.row hA_55 hRp (fun a b g1 g2 g3 => by rw [v2_ne (by omega), v2_ne (by omega), v2_ne (by omega), v2_ne (by omega)])
        have hWp := hA.1.1.put (p := pn) (k := 2 * tn + 0) (x := x) (y := y) (by omega) (by omega) (by rw [← eW]; exact c47)
        rw [show ((2 * tn + 0 : Nat) : Int) = 2 * (tn : Int) + 0 by omega] at hWp
        conv => whnf
        refine zinv0 (s_X12_covered T (W := W) (H := H) (putM M pn x y (2 * (tn : Int) + 0)) (by exact hCp.1) (by exact hCp.2.1) (by exact hWp) ?_)
        intro I_73 hf_73 hO_73
        conv => whnf
        obtain rfl : f = 0 := by omega
        have hfp : Fr PMd I _ := ((hfr.mono PSc_d).trans (hf_55.mono PKe_d))
        have e55 : I_55 603 8 = 0 := (hf_55 _ _ (by unfold PKe; omega)).trans ht17
        have hCq := hCp.fr ⟨⟨hWp, hA.1.2⟩, hA_55.2⟩ (I' := I_73) (fun a b _ g => hf_73 a b (fun c => g (PSc620 a b c)))
        refine h cha_4 chb_4 c47 I_73 ((((((hfp).v2 (by unfold PMd; omega)).v2 (by unfold PMd; omega)).v2 (by unfold PMd; omega)).v2 (by unfold PMd; omega)).trans (hf_73.mono (fun a b c => PSc_d _ _ (PSc620 a b c)))) ?_ hCq
        rw [hf_73 _ _ (by omega), v2_ne (by omega), v2_ne (by omega), v2_ne (by omega), v2_ne (by omega)]
        exact e55
      · conv => whnf
        obtain rfl : f = 0 := by omega
        exact h4 cha_4 chb_4 c47 I_29 hfr ht17 hC17
    · conv => whnf
      refine ⟨by decide, _, rfl, ?_⟩
      conv => whnf
      have hC1 := hC.th hA 0
      refine zinv0 (s_X12_laysOwners T (W := W) (H := H) (M := M) (by exact hC1.1) (by decide) (by exact hC1.2.1) (by exact hA.1.1) ?_)
      intro I_29 hf_29 hv_29
      have hfr : Fr PSc I I_29 := (frTh I 0).trans (hf_29.mono (fun a b c => by unfold PSc; omega))
      have hC17 := hC.fr hA (fun a b _ g => hfr a b g)
      have ht17 : I_29 603 8 = 0 := by rw [hf_29 _ _ (by omega), v2_eq]
      obtain ⟨pn, rfl⟩ := Int.eq_ofNat_of_zero_le cha_4.1
      obtain ⟨tn, rfl⟩ := Int.eq_ofNat_of_zero_le chb_4.1
      have hpm : ((pn : Nat) : Int).toNat = pn := Int.toNat_natCast pn
      have hwb := why_b (W := W) (H := H) (M := M) (p := pn) (n := 8 * pn + (2 * (tn : Int) + f).toNat) (x := x) (y := y)
      have eW : aWhy W H M pn x y tn f = why W H M pn (8 * pn + (2 * (tn : Int) + f).toNat) x y := by unfold aWhy; rw [hpm]
      obtain ⟨fn, hfn, hfe⟩ : ∃ fn : Nat, fn < 2 ∧ f = fn := ⟨f.toNat, by omega, by omega⟩
      have eN : (2 * (tn : Int) + f).toNat = 2 * tn + fn := by omega
      have eI : ((2 * tn + fn : Nat) : Int) = 2 * (tn : Int) + f := by omega
      conv => whnf
      refine zinv0 (s_X12_reason T (p := pn) (t := tn) (f := 1) (W := W) (H := H) M (by exact hC17.1) (by exact hv_29) (by exact hA.1.1) (by exact hC17.2.2.1.1) (by exact hC17.2.2.1.2) (by omega) (by omega) (by exact hx) (by exact hy) ?_)
      obtain rfl : fn = 1 := by omega
      rw [eN] at eW hwb
      rw [← eW]
      rw [← eW] at hwb
      conv => whnf
      refine ⟨by omega, fun c47 => ?_, fun c47 => ?_⟩
      · conv => whnf
        refine zinv0 (s_X12_keeps T (W := W) (H := H) (M := M) (P := P) (SL := SL) (v := v) (u := u) (by exact hC17) (by exact hA) ?_)
        intro I_55 hf_55 hC_55 hA_55
        conv => whnf
        refine ⟨by decide, _, rfl, ?_⟩
        conv => whnf
        refine zinv0 (s_X12_puts T (p := pn) (by decide) (by omega) ?_)
        have hRp : RowM _ 604 0 (putM M pn x y (2 * (tn : Int) + 1)) := hC_55.2.1.put w5 (p := pn) (x := x) (y := y) (t := tn) (f := 1) (by omega) (by omega) (by omega)
        have hCp := hC_55.row hA_55 hRp (fun a b g1 g2 g3 => by rw [v2_ne (by omega), v2_ne (by omega), v2_ne (by omega), v2_ne (by omega)])
        have hWp := hA.1.1.put (p := pn) (k := 2 * tn + 1) (x := x) (y := y) (by omega) (by omega) (by rw [← eW]; exact c47)
        rw [show ((2 * tn + 1 : Nat) : Int) = 2 * (tn : Int) + 1 by omega] at hWp
        conv => whnf
        refine zinv0 (s_X12_covered T (W := W) (H := H) (putM M pn x y (2 * (tn : Int) + 1)) (by exact hCp.1) (by exact hCp.2.1) (by exact hWp) ?_)
        intro I_73 hf_73 hO_73
        conv => whnf
        obtain rfl : f = 1 := by omega
        have hfp : Fr PMd I _ := ((hfr.mono PSc_d).trans (hf_55.mono PKe_d))
        have e55 : I_55 603 8 = 0 := (hf_55 _ _ (by unfold PKe; omega)).trans ht17
        have hCq := hCp.fr ⟨⟨hWp, hA.1.2⟩, hA_55.2⟩ (I' := I_73) (fun a b _ g => hf_73 a b (fun c => g (PSc620 a b c)))
        refine h cha_4 chb_4 c47 I_73 ((((((hfp).v2 (by unfold PMd; omega)).v2 (by unfold PMd; omega)).v2 (by unfold PMd; omega)).v2 (by unfold PMd; omega)).trans (hf_73.mono (fun a b c => PSc_d _ _ (PSc620 a b c)))) ?_ hCq
        rw [hf_73 _ _ (by omega), v2_ne (by omega), v2_ne (by omega), v2_ne (by omega), v2_ne (by omega)]
        exact e55
      · conv => whnf
        obtain rfl : f = 1 := by omega
        exact h4 cha_4 chb_4 c47 I_29 hfr ht17 hC17
  · intro ch2a_4
    conv => whnf
    refine ⟨by decide, fun c => absurd c (by decide), fun _ => ?_⟩
    conv => whnf
    exact h2 ch2a_4 _ (frTh I 1) (v2_eq _ _ _ _) (hC.th hA 1)
  · intro ch3a_4 ch3b_4
    conv => whnf
    refine ⟨by decide, fun c => absurd c (by decide), fun _ => ?_⟩
    conv => whnf
    exact h3 ch3a_4 ch3b_4 _ ((frTh I 0).v2 PSc8) (v2_eq _ _ _ _) ((hC.th hA 0).th hA 2)
theorem s_X12_takeOff (T : ZTh (XX Ln xs) CZ RZ) {d b : Nat} {W H n bl : Nat} {M : Mo} {P SL : Nat → Mo} {v u : Nat → Int} {p : Int} {I : ZI} {L : ZL} {Q : ZQ} (hC : MB I W H M P n SL v bl u) (hA : WfA W H M P n SL v) (hp : zR p) (h : 0 ≤ p ∧ p < 7 → ∀ I', Fr PMd I I' → I' 603 8 = 0 → MB I' W H (offP M p.toNat) (psh P n M) (psn n) SL v bl u → Q (.inl (some (.inl ((if mF M p = -1 then 0 else 1))))) I' L) (h2 : ¬ (0 ≤ p ∧ p < 7) → ∀ I', Fr PSc I I' → I' 603 8 = 1 → MB I' W H M P n SL v bl u → Q (.inl (some (.inl (0)))) I' L) : CZ (d + 3) k_X12_takeOff [.inr (.ref 603, 13), .inl p] b I L Q := by
  refine T.call rfl ?_
  obtain ⟨mT, mR, ⟨mW, mH⟩, ⟨mn, mn8⟩, mP, mS9, ⟨mb1, mb2, mb3⟩, mz⟩ := id hC
  obtain ⟨⟨⟨⟨w1, w2, w3, w4⟩, -⟩, w5, w6⟩, wP, wS⟩ := id hA
  refine T.go [] 120 ?_
  conv => whnf
  refine zinv0 (s_X12_isPiece T  (by first | assumption | omega | rfl | decide) ?_ ?_)
  · intro cha_3
    conv => whnf
    refine ⟨by decide, fun _ => ?_, fun c => absurd c (by decide)⟩
    conv => whnf
    refine zinv0 (s_fails0 T   ?_)
    have hC1 := hC.th hA 0
    obtain ⟨pn, rfl⟩ := Int.eq_ofNat_of_zero_le cha_3.1
    have hp7 : pn < 7 := by omega
    have hpm : ((pn : Nat) : Int).toNat = pn := Int.toNat_natCast pn
    conv => whnf
    refine ⟨by decide, fun _ => ?_, fun c => absurd c (by decide)⟩
    conv => whnf
    refine zinv0 (s_X12_isOn T (p := pn) (W := W) (H := H) (M := M) (by exact hC1.2.1) (by exact hp7) (by exact hA.1.1) ?_ ?_)
    · intro cha_24
      conv => whnf
      refine zinv0 (s_X12_keeps T (W := W) (H := H) (M := M) (P := P) (SL := SL) (v := v) (u := u) (by exact hC1) (by exact hA) ?_)
      intro I_29 hf_29 hC_29 hA_29
      conv => whnf
      refine ⟨by decide, _, rfl, ?_⟩
      conv => whnf
      refine zinv0 (s_X12_putsOff T (p := pn) (by decide) (by omega) ?_)
      have hRp := hC_29.2.1.off w5 (p := pn) (by omega)
      have hCp := hC_29.row hA_29 hRp (fun a b g1 g2 g3 => by rw [v2_ne (by omega), v2_ne (by omega), v2_ne (by omega), v2_ne (by omega)])
      conv => whnf
      refine ⟨by omega, ?_⟩
      rw [if_neg cha_24] at h
      refine h cha_3 _ (((((((frTh I 0).mono PSc_d).trans (hf_29.mono PKe_d)).v2 (by unfold PMd; omega)).v2 (by unfold PMd; omega)).v2 (by unfold PMd; omega)).v2 (by unfold PMd; omega)) ?_ (by rw [hpm]; exact hCp)
      rw [v2_ne (by omega), v2_ne (by omega), v2_ne (by omega), v2_ne (by omega)]
      exact (hf_29 _ _ (by unfold PKe; omega)).trans (v2_eq _ _ _ _)
    · intro ch2a_24
      conv => whnf
      refine zinv0 (s_X12_keeps T (W := W) (H := H) (M := M) (P := P) (SL := SL) (v := v) (u := u) (by exact hC1) (by exact hA) ?_)
      intro I_29 hf_29 hC_29 hA_29
      conv => whnf
      refine ⟨by decide, _, rfl, ?_⟩
      conv => whnf
      refine zinv0 (s_X12_putsOff T (p := pn) (by decide) (by omega) ?_)
      have hRp := hC_29.2.1.off w5 (p := pn) (by omega)
      have hCp := hC_29.row hA_29 hRp (fun a b g1 g2 g3 => by rw [v2_ne (by omega), v2_ne (by omega), v2_ne (by omega), v2_ne (by omega)])
      conv => whnf
      refine ⟨by omega, ?_⟩
      rw [if_pos ch2a_24] at h
      refine h cha_3 _ (((((((frTh I 0).mono PSc_d).trans (hf_29.mono PKe_d)).v2 (by unfold PMd; omega)).v2 (by unfold PMd; omega)).v2 (by unfold PMd; omega)).v2 (by unfold PMd; omega)) ?_ (by rw [hpm]; exact hCp)
      rw [v2_ne (by omega), v2_ne (by omega), v2_ne (by omega), v2_ne (by omega)]
      exact (hf_29 _ _ (by unfold PKe; omega)).trans (v2_eq _ _ _ _)
  · intro ch2a_3
    conv => whnf
    refine ⟨by decide, fun c => absurd c (by decide), fun _ => ?_⟩
    conv => whnf
    refine zinv0 (s_fails1 T   ?_)
    conv => whnf
    refine ⟨by decide, fun c => absurd c (by decide), fun _ => ?_⟩
    conv => whnf
    refine ⟨by omega, ?_⟩
    exact h2 ch2a_3 _ (frTh I 1) (v2_eq _ _ _ _) (hC.th hA 1)
end
