/-! TEXTS, 8: an outline -/
section
variable {Ln : Nat} {xs : Nat → Int32} {CZ : Nat → ZC} {RZ : Nat → Nat → ZQ → ZP}
noncomputable def pEs (u : Nat → Int) (n W H : Nat) : Nat → PO4 → PO4
  | 0, a => a
  | m + 1, a => if pc a.1 = 0 ∧ ¬ tkU u n (pp a.1) = 3 then pEs u n W H m (pEd u n W H a) else a
theorem pEs_s {u : Nat → Int} {n W H m : Nat} {a : PO4} (h : pc a.1 = 0) (h2 : ¬ tkU u n (pp a.1) = 3) : pEs u n W H (m + 1) a = pEs u n W H m (pEd u n W H a) := if_pos ⟨h, h2⟩
theorem pEs_e {u : Nat → Int} {n W H : Nat} {a : PO4} (h : ¬ (pc a.1 = 0 ∧ ¬ tkU u n (pp a.1) = 3)) (m : Nat) : pEs u n W H m a = a := by
  cases m with
  | zero => rfl
  | succ m => exact if_neg h
theorem pEd_xy {u : Nat → Int} {n W H : Nat} {a : PO4} (h : (0 ≤ eX a ∧ eX a ≤ W) ∧ 0 ≤ eY a ∧ eY a ≤ H) : (0 ≤ eX (pEd u n W H a) ∧ eX (pEd u n W H a) ≤ W) ∧ 0 ≤ eY (pEd u n W H a) ∧ eY (pEd u n W H a) ≤ H := by
  by_cases h1 : tkU u n (pp a.1) < 10
  · rw [pEd_0 h1]; exact h
  · by_cases h2 : pc (pNu u n 1 12 (0, po a.1, nxT u n (pp a.1))) = 0
    · by_cases h3 : 0 ≤ eX a + dX (dT u n a.1) * lT u n a.1 ∧ eX a + dX (dT u n a.1) * lT u n a.1 ≤ W ∧ 0 ≤ eY a + dY (dT u n a.1) * lT u n a.1 ∧ eY a + dY (dT u n a.1) * lT u n a.1 ≤ H
      · rw [pEd_3 h1 h2 h3]; exact ⟨⟨h3.1, h3.2.1⟩, h3.2.2⟩
      · rw [pEd_2 h1 h2 h3]; exact h
    · rw [pEd_1 h1 h2]; exact h
/-- M with one more shape -/
def shM (M : Mo) (S : Nat → Bool) : Mo := (mX M, mY M, mF M, mN M + 1, fun k => if k = mN M then S else mS M k)
/-- behind an outline's edges -/
noncomputable def olE (u : Nat → Int) (n : Nat) (M : Mo) (x y : Int) (a : PO4) : PE × Mo :=
  if pc (pKw u n 3 a.1) = 0 then (if eX a = x ∧ eY a = y ∧ ¬ cn (eS a) 576 = 0 then (pKw u n 3 a.1, shM M (eS a)) else (pFl 3 (pp a.1) (pKw u n 3 a.1), M)) else (pKw u n 3 a.1, M)
theorem olE_0 {u : Nat → Int} {n : Nat} {M : Mo} {x y : Int} {a : PO4} (h : ¬ pc (pKw u n 3 a.1) = 0) : olE u n M x y a = (pKw u n 3 a.1, M) := if_neg h
theorem olE_1 {u : Nat → Int} {n : Nat} {M : Mo} {x y : Int} {a : PO4} (h : pc (pKw u n 3 a.1) = 0) (h2 : ¬ (eX a = x ∧ eY a = y ∧ ¬ cn (eS a) 576 = 0)) : olE u n M x y a = (pFl 3 (pp a.1) (pKw u n 3 a.1), M) := by
  unfold olE
  rw [if_pos h, if_neg h2]
theorem olE_2 {u : Nat → Int} {n : Nat} {M : Mo} {x y : Int} {a : PO4} (h : pc (pKw u n 3 a.1) = 0) (h2 : eX a = x ∧ eY a = y ∧ ¬ cn (eS a) 576 = 0) : olE u n M x y a = (pKw u n 3 a.1, shM M (eS a)) := by
  unfold olE
  rw [if_pos h, if_pos h2]
noncomputable def pOl (u : Nat → Int) (n W H : Nat) (M : Mo) (x y : Int) (s : PE) : PE × Mo := olE u n M x y (pEs u n W H 700 (pEd u n W H (s, x, y, fun _ => false)))
/-- a parser's cells -/
def PPs : Nat → Int → Prop := fun a b => a = 575 ∨ (a = 576 ∧ b = 5) ∨ (581 ≤ a ∧ a ≤ 602)
def PLs : Nat → Int → Prop := fun a _ => 587 ≤ a ∧ a ≤ 602
theorem PRe_s : ∀ a b, PRe a b → PPs a b := fun a b h => by unfold PRe at h; unfold PPs; omega
theorem PRd_s : ∀ a b, PRd a b → PPs a b := fun a b h => by unfold PRd at h; unfold PPs; omega
theorem StC.dr {I I' : ZI} {L L' : ZL} {W H : Nat} {M : Mo} (h : StC I L 581 W H M) (hn : mN M ≤ 8) (h1 : ∀ (a : Nat) (b : Int), 581 ≤ a → a < 587 + 2 * mN M → I' a b = I a b) (h2 : ∀ (a : Nat) (b : Int), 581 ≤ a → a < 587 + 2 * mN M → L' a b = L a b) : StC I' L' 581 W H M := by
  obtain ⟨a1, a2, a3, a4, a5⟩ := h
  exact ⟨(h1 _ _ (by omega) (by omega)).trans a1, (h1 _ _ (by omega) (by omega)).trans a2, a3.fr (fun a b _ _ => h1 a b (by omega) (by omega)), (h1 _ _ (by omega) (by omega)).trans a4, fun k hk => ⟨(a5 k hk).1.row (fun b => h2 _ b (by omega) (by omega)), (a5 k hk).2.row (fun b => h1 _ b (by omega) (by omega))⟩⟩
theorem za_dr {k : Nat} (hk : k < 8) : za 586 k = 587 + 2 * k + 1 ∧ za (587 + 2 * k) 0 = 587 + 2 * k + 2 := za_sh (s := 581) (by decide) hk
theorem l_olB (T : ZTh (XX Ln xs) CZ RZ) {d b : Nat} {Q : ZQ} {u : Nat → Int} {n c i i0 W H : Nat} {M : Mo} {x y : Int} {a : PO4} {I0 I : ZI} {L0 L : ZL} (hS : PSt I u n c i a.1) (hM : StC I L 581 W H M) (hm8 : mN M < 8) (hR : RgS L (587 + 2 * mN M) (eS a)) (hx : I 575 4 = eX a) (hy : I 575 5 = eY a) (hb : ((0 ≤ eX a ∧ eX a ≤ 12) ∧ 0 ≤ eY a ∧ eY a ≤ 12) ∧ (0 ≤ x ∧ x ≤ 12) ∧ 0 ≤ y ∧ y ≤ 12) (hfr : Fr PPs I0 I) (hgr : Fr PLs L0 L) (hi0 : i0 ≤ i) (h : ∀ I' L' i', Fr PPs I0 I' → Fr PLs L0 L' → PSt I' u n c i' (olE u n M x y a).1 → StC I' L' 581 W H (olE u n M x y a).2 → i0 ≤ i' → Q (.inl none) I' L') : RZ (d + 3) k_X4_readOutline Q 61 [.inr (.ref 575, 5), .inr (.ref (587 + 2 * mN M), 7), .inl x, .inl y, zj] [] b I L := by
  obtain ⟨k1, k2, k3, k4, k5, k6⟩ := id hS
  have hcz : zR (I 575 2) := by rw [k2]; exact ⟨by omega, by omega⟩
  have zz := za_dr (k := mN M) hm8
  have hcn := cn_nonneg (eS a) 576
  have hcn2 := cn_le (eS a) 576
  refine T.go [] 150 ?_
  conv => whnf
  refine zinv0 (s_X4_skip T (w := 3) (u := u) (n := n) (c := c) (i := i) (s := a.1) (by exact hS) (by decide) ?_)
  intro I_65 i_65 hf_65 hS_65 hi_65 hi2_65
  have k5b := hS_65.2.2.2.2.1
  conv => whnf
  refine zinv0 (s_X6_measure T (eS a) (by exact zz.2) (by show (¬ (_ : Nat) = _) ∧ (¬ (_ : Nat) = _); omega) (by exact hR) ?_)
  intro I_69 hf_69 hM_69
  have hS2 : PSt I_69 u n c i_65 (pKw u n 3 a.1) := hS_65.fr2 (fun a b g => hf_69 _ _ (by omega))
  have hM2 : StC I_69 L 581 W H M := (hM.dr (by omega) (fun a b g1 g2 => hf_65 _ _ (by unfold PRd; omega)) (fun a b _ _ => rfl)).dr (by omega) (fun a b g1 g2 => hf_69 _ _ (by omega)) (fun a b _ _ => rfl)
  have ex : I_69 575 4 = eX a := (hf_69 _ _ (by omega)).trans ((hf_65 _ _ (by unfold PRd; omega)).trans hx)
  have ey : I_69 575 5 = eY a := (hf_69 _ _ (by omega)).trans ((hf_65 _ _ (by unfold PRd; omega)).trans hy)
  have hpc := hS2.2.1
  have hq1 := hM_69.1
  conv => whnf
  refine ⟨by decide, ?_⟩
  conv => whnf
  refine ⟨by omega, fun c76 => ?_, fun c76 => ?_⟩
  · conv => whnf
    have c76n : ¬ pc (pKw u n 3 a.1) = 0 := by omega
    refine h _ L i_65 (hfr.trans ((hf_65.mono PRd_s).trans (hf_69.mono (fun a b c => by unfold PPs; omega)))) hgr ?_ ?_ (by omega)
    · rw [olE_0 c76n]; exact hS2
    · rw [olE_0 c76n]; exact hM2
  · conv => whnf
    have c76n : pc (pKw u n 3 a.1) = 0 := by omega
    refine ⟨by decide, ?_⟩
    conv => whnf
    refine ⟨by omega, fun c84 => ?_, fun c84 => ?_⟩
    · conv => whnf
      refine ⟨by decide, _, rfl, ?_⟩
      conv => whnf
      refine zinv0 (s_X10_startBefore T (u := u) (n := n) (c := c) (i := i_65) (by exact hS2.1) (by exact k6) (by have := hi2_65 c76n; omega) ?_)
      conv => whnf
      refine zinv0 (s_X4_fail T  (by omega) ?_ ?_)
      · intro cha_111
        have hFl := hS2.fail c76n (k := 3) (o := posA u n (i_65 - 1)) (by omega)
        conv => whnf
        have e1 := olE_1 (M := M) (x := x) (y := y) (a := a) c76n (fun g => by
          obtain ⟨g1, g2, g3⟩ := g
          have := hM_69.1
          omega)
        refine h _ L i_65 (((hfr.trans ((hf_65.mono PRd_s).trans (hf_69.mono (fun a b c => by unfold PPs; omega)))).v2 (Or.inl rfl)).v2 (Or.inl rfl)) hgr ?_ ?_ (by omega)
        · rw [e1]
          have g2 : posA u n (i_65 - 1) = pp a.1 := by rw [hi2_65 c76n]; exact k4
          rw [g2] at hFl
          rw [g2]
          exact hFl
        · rw [e1]; exact hM2.dr (by omega) (fun a b g1 g2 => by rw [v2_ne (by omega), v2_ne (by omega)]) (fun a b _ _ => rfl)
      · intro ch2a_111
        exfalso; omega
    · conv => whnf
      refine ⟨by decide, ?_⟩
      conv => whnf
      refine ⟨by omega, fun c92 => ?_, fun c92 => ?_⟩
      · conv => whnf
        refine ⟨by decide, _, rfl, ?_⟩
        conv => whnf
        refine zinv0 (s_X10_startBefore T (u := u) (n := n) (c := c) (i := i_65) (by exact hS2.1) (by exact k6) (by have := hi2_65 c76n; omega) ?_)
        conv => whnf
        refine zinv0 (s_X4_fail T  (by omega) ?_ ?_)
        · intro cha_111
          have hFl := hS2.fail c76n (k := 3) (o := posA u n (i_65 - 1)) (by omega)
          conv => whnf
          have e1 := olE_1 (M := M) (x := x) (y := y) (a := a) c76n (fun g => by
            obtain ⟨g1, g2, g3⟩ := g
            have := hM_69.1
            omega)
          refine h _ L i_65 (((hfr.trans ((hf_65.mono PRd_s).trans (hf_69.mono (fun a b c => by unfold PPs; omega)))).v2 (Or.inl rfl)).v2 (Or.inl rfl)) hgr ?_ ?_ (by omega)
          · rw [e1]
            have g2 : posA u n (i_65 - 1) = pp a.1 := by rw [hi2_65 c76n]; exact k4
            rw [g2] at hFl
            rw [g2]
            exact hFl
          · rw [e1]; exact hM2.dr (by omega) (fun a b g1 g2 => by rw [v2_ne (by omega), v2_ne (by omega)]) (fun a b _ _ => rfl)
        · intro ch2a_111
          exfalso; omega
      · conv => whnf
        refine ⟨(show (¬ (_ : Nat) = _) ∧ (¬ (_ : Nat) = _) from by omega), ?_⟩
        conv => whnf
        refine ⟨by omega, fun c99 => ?_, fun c99 => ?_⟩
        · conv => whnf
          refine ⟨by decide, _, rfl, ?_⟩
          conv => whnf
          refine ⟨by decide, ?_⟩
          conv => whnf
          refine ⟨by decide, ?_⟩
          conv => whnf
          have e1 := olE_2 (M := M) (x := x) (y := y) (a := a) c76n ⟨by omega, by omega, by have := hM_69.1; omega⟩
          refine h _ L i_65 ((hfr.trans ((hf_65.mono PRd_s).trans (hf_69.mono (fun a b c => by unfold PPs; omega)))).v2 (Or.inr (Or.inr ⟨by omega, by omega⟩))) hgr ?_ ?_ (by omega)
          · rw [e1]
            exact hS2.fr2 (fun a b g => v2_ne (by omega))
          · rw [e1]
            have e4 : I_69 581 4 = mN M := hM2.2.2.2.1
            refine ⟨(v2_ne (by omega)).trans hM2.1, (v2_ne (by omega)).trans hM2.2.1, hM2.2.2.1.fr (fun a b _ _ => v2_ne (by omega)), ?_, fun k hk => ?_⟩
            · rw [v2_eq, e4]
              show ((mN M : Nat) : Int) + 1 = ((mN M + 1 : Nat) : Int)
              omega
            · have hk' : k < mN M + 1 := hk
              show RgS L (581 + 6 + 2 * k) (if k = mN M then eS a else mS M k) ∧ RgM (v2 I_69 581 4 (I_69 581 4 + 1)) (581 + 6 + 2 * k) (if k = mN M then eS a else mS M k)
              by_cases e : k = mN M
              · rw [if_pos e, e]
                exact ⟨hR, hM_69.row (fun b => v2_ne (by omega))⟩
              · rw [if_neg e]
                obtain ⟨q1, q2⟩ := hM2.2.2.2.2 k (by omega)
                exact ⟨q1, q2.row (fun b => v2_ne (by omega))⟩
        · conv => whnf
          refine ⟨by decide, _, rfl, ?_⟩
          conv => whnf
          refine zinv0 (s_X10_startBefore T (u := u) (n := n) (c := c) (i := i_65) (by exact hS2.1) (by exact k6) (by have := hi2_65 c76n; omega) ?_)
          conv => whnf
          refine zinv0 (s_X4_fail T  (by omega) ?_ ?_)
          · intro cha_111
            have hFl := hS2.fail c76n (k := 3) (o := posA u n (i_65 - 1)) (by omega)
            conv => whnf
            have e1 := olE_1 (M := M) (x := x) (y := y) (a := a) c76n (fun g => by
              obtain ⟨g1, g2, g3⟩ := g
              have := hM_69.1
              omega)
            refine h _ L i_65 (((hfr.trans ((hf_65.mono PRd_s).trans (hf_69.mono (fun a b c => by unfold PPs; omega)))).v2 (Or.inl rfl)).v2 (Or.inl rfl)) hgr ?_ ?_ (by omega)
            · rw [e1]
              have g2 : posA u n (i_65 - 1) = pp a.1 := by rw [hi2_65 c76n]; exact k4
              rw [g2] at hFl
              rw [g2]
              exact hFl
            · rw [e1]; exact hM2.dr (by omega) (fun a b g1 g2 => by rw [v2_ne (by omega), v2_ne (by omega)]) (fun a b _ _ => rfl)
          · intro ch2a_111
            exfalso; omega
theorem l_olA (T : ZTh (XX Ln xs) CZ RZ) {d b : Nat} {Q : ZQ} {u : Nat → Int} {n c i0 W H : Nat} {M : Mo} {x y : Int} {a0 : PO4} {I0 : ZI} {L0 : ZL} (hm8 : mN M < 8) (hWH : W ≤ 12 ∧ H ≤ 12) (hxy : (0 ≤ x ∧ x ≤ 12) ∧ 0 ≤ y ∧ y ≤ 12) (h : ∀ I' L' i', Fr PPs I0 I' → Fr PLs L0 L' → PSt I' u n c i' (olE u n M x y a0).1 → StC I' L' 581 W H (olE u n M x y a0).2 → i0 ≤ i' → Q (.inl none) I' L') (m : Nat) : ∀ (k i : Nat) (a : PO4) (I : ZI) (L : ZL), (k ≤ 700) → (PSt I u n c i a.1) → (StC I L 581 W H M) → (RgS L (587 + 2 * mN M) (eS a)) → (I 575 4 = eX a) → (I 575 5 = eY a) → ((0 ≤ eX a ∧ eX a ≤ W) ∧ 0 ≤ eY a ∧ eY a ≤ H) → (Fr PPs I0 I) → (Fr PLs L0 L) → (i0 ≤ i) → (pEs u n W H (700 - k) a = a0) → 700 - (k : Int) < (m : Int) → RZ (d + 3) k_X4_readOutline Q 22 [.inr (.ref 575, 5), .inr (.ref (587 + 2 * mN M), 7), .inl x, .inl y, .inl ((k : Int))] [] b I L := by
  induction m with
  | zero =>
    intro k i a I L hk hS hM hR hx hy hb hfr hgr hi0 ha hm
    exfalso
    omega
  | succ m ih =>
    intro k i a I L hk hS hM hR hx hy hb hfr hgr hi0 ha hm
    obtain ⟨k1, k2, k3, k4, k5, k6⟩ := id hS
    have hcz : zR (I 575 2) := by rw [k2]; exact ⟨by omega, by omega⟩
    have zz := za_dr (k := mN M) hm8
    obtain ⟨t1, t2, t3, t4, t5⟩ := id hM
    refine T.go [22, 61] 90 ?_
    conv => whnf
    refine ⟨by omega, fun c27 => ?_, fun c27 => ?_⟩
    · conv => whnf
      refine T.fg [4] ?_
      have ea : a0 = a := by
        rw [← ha]
        rw [show 700 - k = 0 by omega]
        rfl
      rw [ea] at h
      exact l_olB T hS hM hm8 hR hx hy ⟨⟨⟨hb.1.1, by omega⟩, hb.2.1, by omega⟩, hxy⟩ hfr hgr hi0 h
    · conv => whnf
      refine ⟨by decide, ?_⟩
      conv => whnf
      refine ⟨by exact hcz, fun c34 => ?_, fun c34 => ?_⟩
      · conv => whnf
        refine T.fg [4] ?_
        have ea : a0 = a := by
          rw [← ha]
          exact pEs_e (fun c => by omega) _
        rw [ea] at h
        exact l_olB T hS hM hm8 hR hx hy ⟨⟨⟨hb.1.1, by omega⟩, hb.2.1, by omega⟩, hxy⟩ hfr hgr hi0 h
      · conv => whnf
        refine ⟨by decide, _, rfl, ?_⟩
        conv => whnf
        refine zinv0 (s_X10_kind T  (by exact k1) (by exact k6) ?_)
        conv => whnf
        refine ⟨fun c47 => ?_, fun c47 => ?_⟩
        · conv => whnf
          refine T.fg [4] ?_
          have ea : a0 = a := by
            rw [← ha]
            exact pEs_e (fun c => c.2 (by rw [← k4]; exact Nat.add_left_cancel (n := 10020) c47)) _
          rw [ea] at h
          exact l_olB T hS hM hm8 hR hx hy ⟨⟨⟨hb.1.1, by omega⟩, hb.2.1, by omega⟩, hxy⟩ hfr hgr hi0 h
        · conv => whnf
          refine zinv0 (s_X4_readEdge T (W := W) (H := H) (x := eX a) (y := eY a) (eS a) (u := u) (n := n) (c := c) (i := i) (s := a.1) (by exact hS) (by omega) (by exact zz.2) (by show (¬ (_ : Nat) = _) ∧ (¬ (_ : Nat) = _); omega) (by exact hR) (by exact hx) (by exact hy) (by exact hb.1) (by exact hb.2) (by exact ⟨t1, hWH.1⟩) (by exact ⟨t2, hWH.2⟩) ?_)
          intro I_52 L_52 i_52 hf_52 hg_52 hS_52 hx_52 hy_52 hR_52 hi_52 hi2_52
          conv => whnf
          have e3 : ¬ tkU u n (pp a.1) = 3 := fun e => c47 (by rw [k4, e])
          obtain ⟨m2, hm2⟩ : ∃ m2, 700 - k = m2 + 1 := ⟨700 - k - 1, by omega⟩
          rw [hm2, pEs_s (by omega) e3] at ha
          refine ih (k + 1) i_52 (pEd u n W H a) I_52 L_52 (by omega) hS_52 (hM.dr (by omega) (fun a b g1 g2 => hf_52 _ _ (by unfold PRe; omega)) (fun a b g1 g2 => hg_52 _ _ (by omega))) hR_52 hx_52 hy_52 (pEd_xy hb) (hfr.trans (hf_52.mono PRe_s)) (hgr.trans (hg_52.mono (fun a b c => by unfold PLs; omega))) (by omega) (by rw [show 700 - (k + 1) = m2 by omega]; exact ha) (by omega)
theorem s_X4_readOutline (T : ZTh (XX Ln xs) CZ RZ) {d b : Nat} {W H : Nat} {x y : Int} (M : Mo) {u : Nat → Int} {n c i : Nat} {s : PE} {I : ZI} {L : ZL} {Q : ZQ} (hS : PSt I u n c i s) (h0 : pc s = 0) (hM : StC I L 581 W H M) (hm8 : mN M < 8) (hx : I 575 4 = x) (hy : I 575 5 = y) (hxb : 0 ≤ x ∧ x ≤ W) (hyb : 0 ≤ y ∧ y ≤ H) (hWH : W ≤ 12 ∧ H ≤ 12) (h : ∀ I' L' i', Fr PPs I I' → Fr PLs L L' → PSt I' u n c i' (pOl u n W H M x y s).1 → StC I' L' 581 W H (pOl u n W H M x y s).2 → i ≤ i' → Q (.inl none) I' L') : CZ (d + 4) k_X4_readOutline [.inr (.ref 575, 5), .inr (.ref (587 + 2 * mN M), 7)] b I L Q := by
  refine T.call rfl ?_
  obtain ⟨k1, k2, k3, k4, k5, k6⟩ := id hS
  have hcz : zR (I 575 2) := by rw [k2]; exact ⟨by omega, by omega⟩
  have zz := za_dr (k := mN M) hm8
  obtain ⟨t1, t2, t3, t4, t5⟩ := id hM
  refine T.go [22] 90 ?_
  conv => whnf
  refine ⟨by decide, ?_⟩
  conv => whnf
  refine ⟨by decide, ?_⟩
  conv => whnf
  refine zinv0 (s_X6_clear T  (by exact zz.2) (by show (¬ (_ : Nat) = _) ∧ (¬ (_ : Nat) = _); omega) ?_)
  intro I_11 L_11 hf_11 hg_11 hS_11 hM_11
  conv => whnf
  refine zinv0 (s_X4_readEdge T (W := W) (H := H) (x := x) (y := y) (fun _ => false) (u := u) (n := n) (c := c) (i := i) (s := s) (by exact hS.fr2 (fun a b g => hf_11 _ _ (by omega))) (by exact h0) (by exact zz.2) (by show (¬ (_ : Nat) = _) ∧ (¬ (_ : Nat) = _); omega) (by exact hS_11) (by rw [hf_11 _ _ (by omega)]; exact hx) (by rw [hf_11 _ _ (by omega)]; exact hy) (by exact hxb) (by exact hyb) (by rw [hf_11 _ _ (by omega)]; exact ⟨t1, hWH.1⟩) (by rw [hf_11 _ _ (by omega)]; exact ⟨t2, hWH.2⟩) ?_)
  intro I_16 L_16 i_16 hf_16 hg_16 hS_16 hx_16 hy_16 hR_16 hi_16 hi2_16
  conv => whnf
  rw [hx, hy]
  refine l_olA T (u := u) (n := n) (c := c) (i0 := i) (I0 := I) (L0 := L) (M := M) (x := x) (y := y) hm8 hWH ⟨⟨hxb.1, by omega⟩, hyb.1, by omega⟩ h 701 0 i_16 (pEd u n W H (s, x, y, fun _ => false)) I_16 L_16 (by omega) hS_16 ((hM.dr (by omega) (fun a b g1 g2 => hf_11 _ _ (by omega)) (fun a b g1 g2 => hg_11 _ _ (by omega))).dr (by omega) (fun a b g1 g2 => hf_16 _ _ (by unfold PRe; omega)) (fun a b g1 g2 => hg_16 _ _ (by omega))) hR_16 hx_16 hy_16 (pEd_xy ⟨hxb, hyb⟩) ((show Fr PPs I I_11 from hf_11.mono (fun a b c => by unfold PPs; omega)).trans (hf_16.mono PRe_s)) ((show Fr PLs L L_11 from hg_11.mono (fun a b c => by unfold PLs; omega)).trans (hg_16.mono (fun a b c => by unfold PLs; omega))) hi_16 rfl (by omega)
end
