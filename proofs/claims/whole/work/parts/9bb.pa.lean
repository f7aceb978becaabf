/-! TEXTS, 9: a shape -/
section
variable {Ln : Nat} {xs : Nat → Int32} {CZ : Nat → ZC} {RZ : Nat → Nat → ZQ → ZP}
def s0Sh (u : Nat → Int) (n : Nat) (M : Mo) (s : PE) : PE := if tkU u n (pp s) = 9 ∧ 8 ≤ mN M then pFl 4 (pp s) s else s
noncomputable def pSh (u : Nat → Int) (n W H : Nat) (M : Mo) (s : PE) : PE × Mo :=
  if pc (pNu u n 0 H (pNu u n 0 W (pKw u n 9 (s0Sh u n M s)))) = 0 then pOl u n W H M (nmA u n (pp (pKw u n 9 (s0Sh u n M s)))) (nmA u n (pp (pNu u n 0 W (pKw u n 9 (s0Sh u n M s))))) (pNu u n 0 H (pNu u n 0 W (pKw u n 9 (s0Sh u n M s)))) else (pNu u n 0 H (pNu u n 0 W (pKw u n 9 (s0Sh u n M s))), M)
theorem pSh_0 {u : Nat → Int} {n W H : Nat} {M : Mo} {s : PE} (h : ¬ pc (pNu u n 0 H (pNu u n 0 W (pKw u n 9 (s0Sh u n M s)))) = 0) : pSh u n W H M s = (pNu u n 0 H (pNu u n 0 W (pKw u n 9 (s0Sh u n M s))), M) := if_neg h
theorem pSh_1 {u : Nat → Int} {n W H : Nat} {M : Mo} {s : PE} (h : pc (pNu u n 0 H (pNu u n 0 W (pKw u n 9 (s0Sh u n M s)))) = 0) : pSh u n W H M s = pOl u n W H M (nmA u n (pp (pKw u n 9 (s0Sh u n M s)))) (nmA u n (pp (pNu u n 0 W (pKw u n 9 (s0Sh u n M s))))) (pNu u n 0 H (pNu u n 0 W (pKw u n 9 (s0Sh u n M s)))) := if_pos h
theorem s_X4_readShape (T : ZTh (XX Ln xs) CZ RZ) {d b : Nat} {W H : Nat} (M : Mo) {u : Nat → Int} {n c i : Nat} {s : PE} {I : ZI} {L : ZL} {Q : ZQ} (hS : PSt I u n c i s) (h0 : pc s = 0) (hM : StC I L 581 W H M) (hm8 : mN M ≤ 8) (hWH : W ≤ 12 ∧ H ≤ 12) (h : ∀ I' L' i', Fr PPs I I' → Fr PLs L L' → PSt I' u n c i' (pSh u n W H M s).1 → StC I' L' 581 W H (pSh u n W H M s).2 → i ≤ i' → Q (.inl none) I' L') : CZ (d + 5) k_X4_readShape [.inr (.ref 575, 5)] b I L Q := by
  refine T.call rfl ?_
  obtain ⟨k1, k2, k3, k4, k5, k6⟩ := id hS
  have hcz : zR (I 575 2) := by rw [k2]; exact ⟨by omega, by omega⟩
  obtain ⟨t1, t2, t3, t4, t5⟩ := id hM
  replace t4 : I 581 4 = mN M := t4
  refine T.go [] 200 ?_
  conv => whnf
  refine ⟨by decide, _, rfl, ?_⟩
  conv => whnf
  refine zinv0 (s_X10_kind T  (by exact k1) (by exact k6) ?_)
  conv => whnf
  refine ⟨fun c10 => ?_, fun c10 => ?_⟩
  · conv => whnf
    have c10n : ¬ tkU u n (pp s) = 9 := fun e => c10 (by rw [k4, e])
    have es0 : s0Sh u n M s = s := if_neg (fun g => c10n g.1)
    have hS0 : PSt I u n c i (s0Sh u n M s) := by rw [es0]; exact hS
    refine zinv0 (s_X4_skip T (w := 9) (u := u) (n := n) (c := c) (i := i) (s := s0Sh u n M s) (by exact hS0) (by decide) ?_)
    intro I_41 i_41 hf_41 hS_41 hi_41 hi2_41
    have k5b := hS_41.2.2.2.2.1
    have hf41 : Fr PPs I I_41 := hf_41.mono PRd_s
    have eA : ∀ (a : Nat) (b : Int), 581 ≤ a → I_41 a b = I a b := fun a b g => hf_41 _ _ (by unfold PRd; omega)
    conv => whnf
    refine ⟨by decide, _, rfl, ?_⟩
    conv => whnf
    refine ⟨by decide, ?_⟩
    conv => whnf
    rw [eA 581 0 (by omega), t1]
    refine zinv0 (s_X4_readNumber T (u := u) (n := n) (c := c) (i := i_41) (s := pKw u n 9 (s0Sh u n M s)) (by exact hS_41) (by decide) (by exact ⟨by omega, by omega⟩) ?_ ?_)
    · intro I_54 hf_54 hS_54 hi_54
      have eH : v2 I_54 575 4 (nmA u n (pp (pKw u n 9 (s0Sh u n M s)))) 581 1 = H := by rw [v2_ne (by omega), hf_54 _ _ (by unfold PRd; omega), eA _ _ (by omega)]; exact t2
      conv => whnf
      refine ⟨by decide, ?_⟩
      conv => whnf
      refine ⟨by decide, _, rfl, ?_⟩
      conv => whnf
      refine ⟨by decide, ?_⟩
      conv => whnf
      rw [eH]
      refine zinv0 (s_X4_readNumber T (u := u) (n := n) (c := c) (i := i_41 + 1) (s := pNu u n 0 W (pKw u n 9 (s0Sh u n M s))) (by exact hS_54.fr2 (fun a b g => v2_ne (by omega))) (by decide) (by exact ⟨by omega, by omega⟩) ?_ ?_)
      · intro I_70 hf_70 hS_70 hi_70
        have g1 := pNu_g hi_54
        have g2 := pNu_g hi_70
        have p70 := hS_70.2.1
        conv => whnf
        refine ⟨by decide, ?_⟩
        conv => whnf
        refine ⟨by decide, ?_⟩
        conv => whnf
        refine ⟨by rw [v2_ne (by omega)]; exact ⟨by omega, by omega⟩, fun c80 => by exfalso; rw [v2_ne (by omega)] at c80; omega, fun c80 => ?_⟩
        conv => whnf
        have hk9 := pKw_g g1.1
        have hm7 : mN M < 8 := by
          apply Classical.byContradiction
          intro e
          have : pc (s0Sh u n M s) = 0 := hk9.1
          exact c10n (by have := hk9.2.1; rw [es0] at this; exact this)
        have hM9 : StC (v2 I_70 575 5 (nmA u n (pp (pNu u n 0 W (pKw u n 9 (s0Sh u n M s)))))) L 581 W H M := hM.dr hm8 (fun a b g1 g2 => by rw [v2_ne (by omega), hf_70 _ _ (by unfold PRd; omega), v2_ne (by omega), hf_54 _ _ (by unfold PRd; omega), eA a b g1]) (fun a b _ _ => rfl)
        have e4 : v2 I_70 575 5 (nmA u n (pp (pNu u n 0 W (pKw u n 9 (s0Sh u n M s))))) 581 4 = mN M := hM9.2.2.2.1
        refine ⟨by decide, _, rfl, ?_⟩
        conv => whnf
        refine ⟨by decide, ?_⟩
        conv => whnf
        refine ⟨by rw [e4]; exact ⟨⟨by omega, by omega⟩, ⟨by omega, by omega⟩⟩, fun c92 => by exfalso; rw [e4] at c92; omega, fun c92 => ?_⟩
        conv => whnf
        refine ⟨by decide, _, rfl, ?_⟩
        conv => whnf
        refine ⟨by decide, _, rfl, ?_⟩
        conv => whnf
        refine ⟨by decide, _, rfl, ?_⟩
        conv => whnf
        refine ⟨by decide, ?_⟩
        conv => whnf
        refine ⟨by rw [e4]; omega, by decide, _, (by rw [e4]; exact (za_dr (k := mN M) hm7).1), ?_⟩
        conv => whnf
        refine zinv0 (s_X4_readOutline T (W := W) (H := H) (x := nmA u n (pp (pKw u n 9 (s0Sh u n M s)))) (y := nmA u n (pp (pNu u n 0 W (pKw u n 9 (s0Sh u n M s))))) M (u := u) (n := n) (c := c) (i := i_41 + 1 + 1) (s := pNu u n 0 H (pNu u n 0 W (pKw u n 9 (s0Sh u n M s)))) (by exact hS_70.fr2 (fun a b g => v2_ne (by omega))) (by exact hi_70) (by exact hM9) (by exact hm7) (by rw [v2_ne (by omega), hf_70 _ _ (by unfold PRd; omega), v2_eq]) (by rw [v2_eq]) (by exact ⟨g1.2.2.1, g1.2.2.2.1⟩) (by exact ⟨g2.2.2.1, g2.2.2.2.1⟩) (by exact hWH) ?_)
        intro I_111 L_111 i_111 hf_111 hg_111 hS_111 hM_111 hi_111
        conv => whnf
        refine h _ L_111 i_111 ((((hf41.trans (hf_54.mono PRd_s)).v2 (Or.inl rfl)).trans (hf_70.mono PRd_s)).v2 (Or.inl rfl) |>.trans hf_111) hg_111 ?_ ?_ (by omega)
        · rw [pSh_1 hi_70]; exact hS_111
        · rw [pSh_1 hi_70]; exact hM_111
      · intro I_70 hf_70 hS_70 hi_70
        have p70 := hS_70.2.1
        have p70b := hS_70.2.2.2.2.1
        conv => whnf
        refine ⟨by decide, ?_⟩
        conv => whnf
        refine ⟨by decide, ?_⟩
        conv => whnf
        refine ⟨by rw [v2_ne (by omega)]; exact ⟨by omega, by omega⟩, fun c80 => ?_, fun c80 => by exfalso; rw [v2_ne (by omega)] at c80; omega⟩
        conv => whnf
        refine h _ L (i_41 + 1) ?_ (Fr.refl L) ?_ ?_ ?_
        · exact (((hf41.trans (hf_54.mono PRd_s)).v2 (Or.inl rfl)).trans (hf_70.mono PRd_s)).v2 (Or.inl rfl)
        · rw [pSh_0 hi_70]; exact hS_70.fr2 (fun a b g => v2_ne (by omega))
        · rw [pSh_0 hi_70]
          exact hM.dr hm8 (fun a b g1 g2 => by rw [v2_ne (by omega), hf_70 _ _ (by unfold PRd; omega), v2_ne (by omega), hf_54 _ _ (by unfold PRd; omega), eA a b g1]) (fun a b _ _ => rfl)
        · omega
    · intro I_54 hf_54 hS_54 hi_54
      have eH : v2 I_54 575 4 (-1) 581 1 = H := by rw [v2_ne (by omega), hf_54 _ _ (by unfold PRd; omega), eA _ _ (by omega)]; exact t2
      conv => whnf
      refine ⟨by decide, ?_⟩
      conv => whnf
      refine ⟨by decide, _, rfl, ?_⟩
      conv => whnf
      refine ⟨by decide, ?_⟩
      conv => whnf
      rw [eH]
      refine zinv0 (s_X4_readNumber T (u := u) (n := n) (c := c) (i := i_41) (s := pNu u n 0 W (pKw u n 9 (s0Sh u n M s))) (by exact hS_54.fr2 (fun a b g => v2_ne (by omega))) (by decide) (by exact ⟨by omega, by omega⟩) ?_ ?_)
      · intro I_70 hf_70 hS_70 hi_70
        exact absurd (pNu_g hi_70).1 hi_54
      · intro I_70 hf_70 hS_70 hi_70
        have p70 := hS_70.2.1
        have p70b := hS_70.2.2.2.2.1
        conv => whnf
        refine ⟨by decide, ?_⟩
        conv => whnf
        refine ⟨by decide, ?_⟩
        conv => whnf
        refine ⟨by rw [v2_ne (by omega)]; exact ⟨by omega, by omega⟩, fun c80 => ?_, fun c80 => by exfalso; rw [v2_ne (by omega)] at c80; omega⟩
        conv => whnf
        refine h _ L i_41 ?_ (Fr.refl L) ?_ ?_ ?_
        · exact (((hf41.trans (hf_54.mono PRd_s)).v2 (Or.inl rfl)).trans (hf_70.mono PRd_s)).v2 (Or.inl rfl)
        · rw [pSh_0 hi_70]; exact hS_70.fr2 (fun a b g => v2_ne (by omega))
        · rw [pSh_0 hi_70]
          exact hM.dr hm8 (fun a b g1 g2 => by rw [v2_ne (by omega), hf_70 _ _ (by unfold PRd; omega), v2_ne (by omega), hf_54 _ _ (by unfold PRd; omega), eA a b g1]) (fun a b _ _ => rfl)
        · omega
  · conv => whnf
    have c10n : tkU u n (pp s) = 9 := by rw [← k4]; exact Nat.add_left_cancel (n := 10020) c10
    refine ⟨by decide, _, rfl, ?_⟩
    conv => whnf
    refine ⟨by decide, ?_⟩
    conv => whnf
    refine ⟨by omega, fun c22 => ?_, fun c22 => ?_⟩
    · conv => whnf
      have es0 : s0Sh u n M s = s := if_neg (fun g => by omega)
      have hS0 : PSt I u n c i (s0Sh u n M s) := by rw [es0]; exact hS
      refine zinv0 (s_X4_skip T (w := 9) (u := u) (n := n) (c := c) (i := i) (s := s0Sh u n M s) (by exact hS0) (by decide) ?_)
      intro I_41 i_41 hf_41 hS_41 hi_41 hi2_41
      have k5b := hS_41.2.2.2.2.1
      have hf41 : Fr PPs I I_41 := hf_41.mono PRd_s
      have eA : ∀ (a : Nat) (b : Int), 581 ≤ a → I_41 a b = I a b := fun a b g => hf_41 _ _ (by unfold PRd; omega)
      conv => whnf
      refine ⟨by decide, _, rfl, ?_⟩
      conv => whnf
      refine ⟨by decide, ?_⟩
      conv => whnf
      rw [eA 581 0 (by omega), t1]
      refine zinv0 (s_X4_readNumber T (u := u) (n := n) (c := c) (i := i_41) (s := pKw u n 9 (s0Sh u n M s)) (by exact hS_41) (by decide) (by exact ⟨by omega, by omega⟩) ?_ ?_)
      · intro I_54 hf_54 hS_54 hi_54
        have eH : v2 I_54 575 4 (nmA u n (pp (pKw u n 9 (s0Sh u n M s)))) 581 1 = H := by rw [v2_ne (by omega), hf_54 _ _ (by unfold PRd; omega), eA _ _ (by omega)]; exact t2
        conv => whnf
        refine ⟨by decide, ?_⟩
        conv => whnf
        refine ⟨by decide, _, rfl, ?_⟩
        conv => whnf
        refine ⟨by decide, ?_⟩
        conv => whnf
        rw [eH]
        refine zinv0 (s_X4_readNumber T (u := u) (n := n) (c := c) (i := i_41 + 1) (s := pNu u n 0 W (pKw u n 9 (s0Sh u n M s))) (by exact hS_54.fr2 (fun a b g => v2_ne (by omega))) (by decide) (by exact ⟨by omega, by omega⟩) ?_ ?_)
        · intro I_70 hf_70 hS_70 hi_70
          have g1 := pNu_g hi_54
          have g2 := pNu_g hi_70
          have p70 := hS_70.2.1
          conv => whnf
          refine ⟨by decide, ?_⟩
          conv => whnf
          refine ⟨by decide, ?_⟩
          conv => whnf
          refine ⟨by rw [v2_ne (by omega)]; exact ⟨by omega, by omega⟩, fun c80 => by exfalso; rw [v2_ne (by omega)] at c80; omega, fun c80 => ?_⟩
          conv => whnf
          have hk9 := pKw_g g1.1
          have hm7 : mN M < 8 := by
            apply Classical.byContradiction
            intro e
            have : pc (s0Sh u n M s) = 0 := hk9.1
            omega
          have hM9 : StC (v2 I_70 575 5 (nmA u n (pp (pNu u n 0 W (pKw u n 9 (s0Sh u n M s)))))) L 581 W H M := hM.dr hm8 (fun a b g1 g2 => by rw [v2_ne (by omega), hf_70 _ _ (by unfold PRd; omega), v2_ne (by omega), hf_54 _ _ (by unfold PRd; omega), eA a b g1]) (fun a b _ _ => rfl)
          have e4 : v2 I_70 575 5 (nmA u n (pp (pNu u n 0 W (pKw u n 9 (s0Sh u n M s))))) 581 4 = mN M := hM9.2.2.2.1
          refine ⟨by decide, _, rfl, ?_⟩
          conv => whnf
          refine ⟨by decide, ?_⟩
          conv => whnf
          refine ⟨by rw [e4]; exact ⟨⟨by omega, by omega⟩, ⟨by omega, by omega⟩⟩, fun c92 => by exfalso; rw [e4] at c92; omega, fun c92 => ?_⟩
          conv => whnf
          refine ⟨by decide, _, rfl, ?_⟩
          conv => whnf
          refine ⟨by decide, _, rfl, ?_⟩
          conv => whnf
          refine ⟨by decide, _, rfl, ?_⟩
          conv => whnf
          refine ⟨by decide, ?_⟩
          conv => whnf
          refine ⟨by rw [e4]; omega, by decide, _, (by rw [e4]; exact (za_dr (k := mN M) hm7).1), ?_⟩
          conv => whnf
          refine zinv0 (s_X4_readOutline T (W := W) (H := H) (x := nmA u n (pp (pKw u n 9 (s0Sh u n M s)))) (y := nmA u n (pp (pNu u n 0 W (pKw u n 9 (s0Sh u n M s))))) M (u := u) (n := n) (c := c) (i := i_41 + 1 + 1) (s := pNu u n 0 H (pNu u n 0 W (pKw u n 9 (s0Sh u n M s)))) (by exact hS_70.fr2 (fun a b g => v2_ne (by omega))) (by exact hi_70) (by exact hM9) (by exact hm7) (by rw [v2_ne (by omega), hf_70 _ _ (by unfold PRd; omega), v2_eq]) (by rw [v2_eq]) (by exact ⟨g1.2.2.1, g1.2.2.2.1⟩) (by exact ⟨g2.2.2.1, g2.2.2.2.1⟩) (by exact hWH) ?_)
          intro I_111 L_111 i_111 hf_111 hg_111 hS_111 hM_111 hi_111
          conv => whnf
          refine h _ L_111 i_111 ((((hf41.trans (hf_54.mono PRd_s)).v2 (Or.inl rfl)).trans (hf_70.mono PRd_s)).v2 (Or.inl rfl) |>.trans hf_111) hg_111 ?_ ?_ (by omega)
          · rw [pSh_1 hi_70]; exact hS_111
          · rw [pSh_1 hi_70]; exact hM_111
        · intro I_70 hf_70 hS_70 hi_70
          have p70 := hS_70.2.1
          have p70b := hS_70.2.2.2.2.1
          conv => whnf
          refine ⟨by decide, ?_⟩
          conv => whnf
          refine ⟨by decide, ?_⟩
          conv => whnf
          refine ⟨by rw [v2_ne (by omega)]; exact ⟨by omega, by omega⟩, fun c80 => ?_, fun c80 => by exfalso; rw [v2_ne (by omega)] at c80; omega⟩
          conv => whnf
          refine h _ L (i_41 + 1) ?_ (Fr.refl L) ?_ ?_ ?_
          · exact (((hf41.trans (hf_54.mono PRd_s)).v2 (Or.inl rfl)).trans (hf_70.mono PRd_s)).v2 (Or.inl rfl)
          · rw [pSh_0 hi_70]; exact hS_70.fr2 (fun a b g => v2_ne (by omega))
          · rw [pSh_0 hi_70]
            exact hM.dr hm8 (fun a b g1 g2 => by rw [v2_ne (by omega), hf_70 _ _ (by unfold PRd; omega), v2_ne (by omega), hf_54 _ _ (by unfold PRd; omega), eA a b g1]) (fun a b _ _ => rfl)
          · omega
      · intro I_54 hf_54 hS_54 hi_54
        have eH : v2 I_54 575 4 (-1) 581 1 = H := by rw [v2_ne (by omega), hf_54 _ _ (by unfold PRd; omega), eA _ _ (by omega)]; exact t2
        conv => whnf
        refine ⟨by decide, ?_⟩
        conv => whnf
        refine ⟨by decide, _, rfl, ?_⟩
        conv => whnf
        refine ⟨by decide, ?_⟩
        conv => whnf
        rw [eH]
        refine zinv0 (s_X4_readNumber T (u := u) (n := n) (c := c) (i := i_41) (s := pNu u n 0 W (pKw u n 9 (s0Sh u n M s))) (by exact hS_54.fr2 (fun a b g => v2_ne (by omega))) (by decide) (by exact ⟨by omega, by omega⟩) ?_ ?_)
        · intro I_70 hf_70 hS_70 hi_70
          exact absurd (pNu_g hi_70).1 hi_54
        · intro I_70 hf_70 hS_70 hi_70
          have p70 := hS_70.2.1
          have p70b := hS_70.2.2.2.2.1
          conv => whnf
          refine ⟨by decide, ?_⟩
          conv => whnf
          refine ⟨by decide, ?_⟩
          conv => whnf
          refine ⟨by rw [v2_ne (by omega)]; exact ⟨by omega, by omega⟩, fun c80 => ?_, fun c80 => by exfalso; rw [v2_ne (by omega)] at c80; omega⟩
          conv => whnf
          refine h _ L i_41 ?_ (Fr.refl L) ?_ ?_ ?_
          · exact (((hf41.trans (hf_54.mono PRd_s)).v2 (Or.inl rfl)).trans (hf_70.mono PRd_s)).v2 (Or.inl rfl)
          · rw [pSh_0 hi_70]; exact hS_70.fr2 (fun a b g => v2_ne (by omega))
          · rw [pSh_0 hi_70]
            exact hM.dr hm8 (fun a b g1 g2 => by rw [v2_ne (by omega), hf_70 _ _ (by unfold PRd; omega), v2_ne (by omega), hf_54 _ _ (by unfold PRd; omega), eA a b g1]) (fun a b _ _ => rfl)
          · omega
    · conv => whnf
      refine ⟨by decide, _, rfl, ?_⟩
      conv => whnf
      refine zinv0 (s_X10_start T  (by exact k1) (by exact k6) ?_)
      conv => whnf
      refine zinv0 (s_X4_fail T  (by exact hcz) ?_ ?_)
      · intro cha_34
        have hFl := hS.fail h0 (k := 4) (o := posA u n i) (by omega)
        conv => whnf
        have es0 : s0Sh u n M s = pFl 4 (pp s) s := if_pos ⟨c10n, by omega⟩
        rw [k4] at hFl
        have hS0 := hFl
        rw [← es0] at hS0
        rw [k4]
        refine zinv0 (s_X4_skip T (w := 9) (u := u) (n := n) (c := c) (i := i) (s := s0Sh u n M s) (by exact hS0) (by decide) ?_)
        intro I_41 i_41 hf_41 hS_41 hi_41 hi2_41
        have k5b := hS_41.2.2.2.2.1
        have hf41 : Fr PPs I I_41 := (((Fr.refl I).v2 (Or.inl rfl)).v2 (Or.inl rfl)).trans (hf_41.mono PRd_s)
        have eA : ∀ (a : Nat) (b : Int), 581 ≤ a → I_41 a b = I a b := fun a b g => by rw [hf_41 _ _ (by unfold PRd; omega), v2_ne (by omega), v2_ne (by omega)]
        conv => whnf
        refine ⟨by decide, _, rfl, ?_⟩
        conv => whnf
        refine ⟨by decide, ?_⟩
        conv => whnf
        rw [eA 581 0 (by omega), t1]
        refine zinv0 (s_X4_readNumber T (u := u) (n := n) (c := c) (i := i_41) (s := pKw u n 9 (s0Sh u n M s)) (by exact hS_41) (by decide) (by exact ⟨by omega, by omega⟩) ?_ ?_)
        · intro I_54 hf_54 hS_54 hi_54
          have eH : v2 I_54 575 4 (nmA u n (pp (pKw u n 9 (s0Sh u n M s)))) 581 1 = H := by rw [v2_ne (by omega), hf_54 _ _ (by unfold PRd; omega), eA _ _ (by omega)]; exact t2
          conv => whnf
          refine ⟨by decide, ?_⟩
          conv => whnf
          refine ⟨by decide, _, rfl, ?_⟩
          conv => whnf
          refine ⟨by decide, ?_⟩
          conv => whnf
          rw [eH]
          refine zinv0 (s_X4_readNumber T (u := u) (n := n) (c := c) (i := i_41 + 1) (s := pNu u n 0 W (pKw u n 9 (s0Sh u n M s))) (by exact hS_54.fr2 (fun a b g => v2_ne (by omega))) (by decide) (by exact ⟨by omega, by omega⟩) ?_ ?_)
          · intro I_70 hf_70 hS_70 hi_70
            have g1 := pNu_g hi_54
            have g2 := pNu_g hi_70
            have p70 := hS_70.2.1
            conv => whnf
            refine ⟨by decide, ?_⟩
            conv => whnf
            refine ⟨by decide, ?_⟩
            conv => whnf
            refine ⟨by rw [v2_ne (by omega)]; exact ⟨by omega, by omega⟩, fun c80 => by exfalso; rw [v2_ne (by omega)] at c80; omega, fun c80 => ?_⟩
            conv => whnf
            have hk9 := pKw_g g1.1
            have hm7 : mN M < 8 := by
              apply Classical.byContradiction
              intro e
              have : pc (s0Sh u n M s) = 0 := hk9.1
              rw [es0] at this
              exact pFl_g (by decide) this
            have hM9 : StC (v2 I_70 575 5 (nmA u n (pp (pNu u n 0 W (pKw u n 9 (s0Sh u n M s)))))) L 581 W H M := hM.dr hm8 (fun a b g1 g2 => by rw [v2_ne (by omega), hf_70 _ _ (by unfold PRd; omega), v2_ne (by omega), hf_54 _ _ (by unfold PRd; omega), eA a b g1]) (fun a b _ _ => rfl)
            have e4 : v2 I_70 575 5 (nmA u n (pp (pNu u n 0 W (pKw u n 9 (s0Sh u n M s))))) 581 4 = mN M := hM9.2.2.2.1
            refine ⟨by decide, _, rfl, ?_⟩
            conv => whnf
            refine ⟨by decide, ?_⟩
            conv => whnf
            refine ⟨by rw [e4]; exact ⟨⟨by omega, by omega⟩, ⟨by omega, by omega⟩⟩, fun c92 => by exfalso; rw [e4] at c92; omega, fun c92 => ?_⟩
            conv => whnf
            refine ⟨by decide, _, rfl, ?_⟩
            conv => whnf
            refine ⟨by decide, _, rfl, ?_⟩
            conv => whnf
            refine ⟨by decide, _, rfl, ?_⟩
            conv => whnf
            refine ⟨by decide, ?_⟩
            conv => whnf
            refine ⟨by rw [e4]; omega, by decide, _, (by rw [e4]; exact (za_dr (k := mN M) hm7).1), ?_⟩
            conv => whnf
            refine zinv0 (s_X4_readOutline T (W := W) (H := H) (x := nmA u n (pp (pKw u n 9 (s0Sh u n M s)))) (y := nmA u n (pp (pNu u n 0 W (pKw u n 9 (s0Sh u n M s))))) M (u := u) (n := n) (c := c) (i := i_41 + 1 + 1) (s := pNu u n 0 H (pNu u n 0 W (pKw u n 9 (s0Sh u n M s)))) (by exact hS_70.fr2 (fun a b g => v2_ne (by omega))) (by exact hi_70) (by exact hM9) (by exact hm7) (by rw [v2_ne (by omega), hf_70 _ _ (by unfold PRd; omega), v2_eq]) (by rw [v2_eq]) (by exact ⟨g1.2.2.1, g1.2.2.2.1⟩) (by exact ⟨g2.2.2.1, g2.2.2.2.1⟩) (by exact hWH) ?_)
            intro I_111 L_111 i_111 hf_111 hg_111 hS_111 hM_111 hi_111
            conv => whnf
            refine h _ L_111 i_111 ((((hf41.trans (hf_54.mono PRd_s)).v2 (Or.inl rfl)).trans (hf_70.mono PRd_s)).v2 (Or.inl rfl) |>.trans hf_111) hg_111 ?_ ?_ (by omega)
            · rw [pSh_1 hi_70]; exact hS_111
            · rw [pSh_1 hi_70]; exact hM_111
          · intro I_70 hf_70 hS_70 hi_70
            have p70 := hS_70.2.1
            have p70b := hS_70.2.2.2.2.1
            conv => whnf
            refine ⟨by decide, ?_⟩
            conv => whnf
            refine ⟨by decide, ?_⟩
            conv => whnf
            refine ⟨by rw [v2_ne (by omega)]; exact ⟨by omega, by omega⟩, fun c80 => ?_, fun c80 => by exfalso; rw [v2_ne (by omega)] at c80; omega⟩
            conv => whnf
            refine h _ L (i_41 + 1) ?_ (Fr.refl L) ?_ ?_ ?_
            · exact (((hf41.trans (hf_54.mono PRd_s)).v2 (Or.inl rfl)).trans (hf_70.mono PRd_s)).v2 (Or.inl rfl)
            · rw [pSh_0 hi_70]; exact hS_70.fr2 (fun a b g => v2_ne (by omega))
            · rw [pSh_0 hi_70]
              exact hM.dr hm8 (fun a b g1 g2 => by rw [v2_ne (by omega), hf_70 _ _ (by unfold PRd; omega), v2_ne (by omega), hf_54 _ _ (by unfold PRd; omega), eA a b g1]) (fun a b _ _ => rfl)
            · omega
        · intro I_54 hf_54 hS_54 hi_54
          have eH : v2 I_54 575 4 (-1) 581 1 = H := by rw [v2_ne (by omega), hf_54 _ _ (by unfold PRd; omega), eA _ _ (by omega)]; exact t2
          conv => whnf
          refine ⟨by decide, ?_⟩
          conv => whnf
          refine ⟨by decide, _, rfl, ?_⟩
          conv => whnf
          refine ⟨by decide, ?_⟩
          conv => whnf
          rw [eH]
          refine zinv0 (s_X4_readNumber T (u := u) (n := n) (c := c) (i := i_41) (s := pNu u n 0 W (pKw u n 9 (s0Sh u n M s))) (by exact hS_54.fr2 (fun a b g => v2_ne (by omega))) (by decide) (by exact ⟨by omega, by omega⟩) ?_ ?_)
          · intro I_70 hf_70 hS_70 hi_70
            exact absurd (pNu_g hi_70).1 hi_54
          · intro I_70 hf_70 hS_70 hi_70
            have p70 := hS_70.2.1
            have p70b := hS_70.2.2.2.2.1
            conv => whnf
            refine ⟨by decide, ?_⟩
            conv => whnf
            refine ⟨by decide, ?_⟩
            conv => whnf
            refine ⟨by rw [v2_ne (by omega)]; exact ⟨by omega, by omega⟩, fun c80 => ?_, fun c80 => by exfalso; rw [v2_ne (by omega)] at c80; omega⟩
            conv => whnf
            refine h _ L i_41 ?_ (Fr.refl L) ?_ ?_ ?_
            · exact (((hf41.trans (hf_54.mono PRd_s)).v2 (Or.inl rfl)).trans (hf_70.mono PRd_s)).v2 (Or.inl rfl)
            · rw [pSh_0 hi_70]; exact hS_70.fr2 (fun a b g => v2_ne (by omega))
            · rw [pSh_0 hi_70]
              exact hM.dr hm8 (fun a b g1 g2 => by rw [v2_ne (by omega), hf_70 _ _ (by unfold PRd; omega), v2_ne (by omega), hf_54 _ _ (by unfold PRd; omega), eA a b g1]) (fun a b _ _ => rfl)
            · omega
      · intro ch2a_34
        exfalso; omega
end
