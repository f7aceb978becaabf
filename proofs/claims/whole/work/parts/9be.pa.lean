/-! TEXTS, 12: statements -/
section
variable {Ln : Nat} {xs : Nat → Int32} {CZ : Nat → ZC} {RZ : Nat → Nat → ZQ → ZP}
theorem s_X4_readPiece (T : ZTh (XX Ln xs) CZ RZ) {d b : Nat} {W H : Nat} (M : Mo) {u : Nat → Int} {n c i : Nat} {s : PE} {I : ZI} {L : ZL} {Q : ZQ} (hS : PSt I u n c i s) (hF : FormOK I L) (hM : StC I L 581 W H M) (hw : Wf W H M) (h : ∀ I' L' i', Fr PPs I I' → Fr PLs L L' → PSt I' u n c i' (pPc u n W H M s).1 → StC I' L' 581 W H (pPc u n W H M s).2 → i ≤ i' → Q (.inl none) I' L') : CZ (d + 4) k_X4_readPiece [.inr (.ref 575, 5), .inr (.ref 1, 110056)] b I L Q := by
  refine T.call rfl ?_
  obtain ⟨k1, k2, k3, k4, k5, k6⟩ := id hS
  have hcz : zR (I 575 2) := by rw [k2]; exact ⟨by omega, by omega⟩
  obtain ⟨t1, t2, t3, t4, t5⟩ := id hM
  obtain ⟨⟨⟨w1, w2, w3, w4⟩, -⟩, w5, -⟩ := id hw
  refine T.go [46] 120 ?_
  conv => whnf
  refine zinv0 (s_X4_skip T (w := 5) (u := u) (n := n) (c := c) (i := i) (s := s) (by exact hS) (by decide) ?_)
  intro I_4 i_4 hf_4 hS_4 hi_4 hi2_4
  conv => whnf
  refine zinv0 (s1_readNumber T (u := u) (n := n) (c := c) (i := i_4) (s := pKw u n 5 s) (by exact hS_4) (by decide) (by decide) ?_)
  intro I_11 i_11 hf_11 hS_11 hi_11 hi2_11
  have hS2 : PSt I_11 u n c i_11 (qw2 u n s) := hS_11
  have hfr2 : Fr PPs I I_11 := (hf_4.mono PRd_s).trans (hf_11.mono PRd_s)
  have eA : ∀ (a : Nat) (b : Int), ¬ a = 575 → ¬ (a = 576 ∧ b = 5) → I_11 a b = I a b := fun a b g1 g2 => by rw [PRd_o hf_11 a b g1 g2, PRd_o hf_4 a b g1 g2]
  have hM2 : StC I_11 L 581 W H M := hM.fr w5 (fun a b g1 g2 => eA a b (by omega) (by omega)) (fun a b _ _ => rfl)
  have hF2 : FormOK I_11 L := hF.fr (fun a b g1 g2 => eA a b (by omega) (by omega)) (fun a b _ _ => rfl)
  obtain ⟨v, hv⟩ : ∃ v : Int, v = (if pc (pNu u n 0 6 (pKw u n 5 s)) = 0 then nmA u n (pp (pKw u n 5 s)) else -1) := ⟨_, rfl⟩
  rw [← hv]
  have hvb : -1 ≤ v ∧ v ≤ 6 := by
    by_cases e : pc (pNu u n 0 6 (pKw u n 5 s)) = 0
    · rw [if_pos e] at hv
      have := pNu_g e
      omega
    · rw [if_neg e] at hv
      omega
  conv => whnf
  refine ⟨by omega, fun c17 => ?_, fun c17 => ?_⟩
  · conv => whnf
    have zb : ¬ pc (qw2 u n s) = 0 := fun e => by
      have e' : pc (pNu u n 0 6 (pKw u n 5 s)) = 0 := e
      rw [if_pos e'] at hv
      have := (pNu_g e').2.2.1
      omega
    have e3 : qw3 u n M s = qw2 u n s := if_neg (fun g => zb g.1)
    have hS3 : PSt I_11 u n c i_11 (qw3 u n M s) := by rw [e3]; exact hS2
    refine l_pcB T (v := v) (i0 := i) (I0 := I) hS3 hF2 hM2 hw (fun e => by rw [e3] at e; exact absurd e zb) hfr2 (by omega) (fun I2 L2 i2 f1 f2 f3 f4 f5 => h I2 L2 i2 f1 f2 ?_ ?_ f5)
    · rw [pPc, pcR_bad (by rw [e3]; exact zb) _ v]; exact f3
    · rw [pPc, pcR_bad (by rw [e3]; exact zb) _ v]; exact f4
  · conv => whnf
    change v = (if pc (qw2 u n s) = 0 then nmA u n (pp (pKw u n 5 s)) else -1) at hv
    have zg : pc (qw2 u n s) = 0 := by
      apply Classical.byContradiction
      intro e
      rw [if_neg e] at hv
      omega
    have hv9 : nmA u n (pp (pKw u n 5 s)) = v := by
      rw [if_pos zg] at hv
      exact hv.symm
    refine ⟨by decide, _, rfl, ?_⟩
    conv => whnf
    refine ⟨by decide, _, rfl, ?_⟩
    conv => whnf
    refine zinv0 (s_X5_isOff T  (by rfl) (by omega) (by omega) (by exact hM2.2.2.1.zR hw.1 (by omega) (by omega)) ?_ ?_)
    · intro cha_28
      have hoff : mF M v = -1 := (hM2.2.2.1 v (by omega) (by omega)).1.symm.trans cha_28
      conv => whnf
      refine ⟨by decide, fun _ => ?_, fun c => absurd c (by decide)⟩
      conv => whnf
      have e3 : qw3 u n M s = qw2 u n s := if_neg (fun g => g.2 (by rw [hv9]; exact hoff))
      have hS3 : PSt I_11 u n c i_11 (qw3 u n M s) := by rw [e3]; exact hS2
      refine l_pcB T (v := v) (i0 := i) (I0 := I) hS3 hF2 hM2 hw (fun e => ⟨by omega, by omega⟩) hfr2 (by omega) (fun I2 L2 i2 f1 f2 f3 f4 f5 => h I2 L2 i2 f1 f2 ?_ ?_ f5)
      · rw [pPc, hv9]; exact f3
      · rw [pPc, hv9]; exact f4
    · intro ch2a_28
      have hoff : ¬ mF M v = -1 := fun e => ch2a_28 ((hM2.2.2.1 v (by omega) (by omega)).1.trans e)
      conv => whnf
      refine ⟨by decide, fun c => absurd c (by decide), fun _ => ?_⟩
      conv => whnf
      refine ⟨by decide, _, rfl, ?_⟩
      conv => whnf
      refine zinv0 (s_X10_startBefore T (u := u) (n := n) (c := c) (i := i_11) (by exact hS2.1) (by exact k6) (by have := hi2_11 zg; omega) ?_)
      conv => whnf
      refine zinv0 (s_X4_fail T  (by rw [hS2.2.1, zg]; decide) ?_ ?_)
      · intro cha_43
        have hFl := hS2.fail zg (k := 3) (o := posA u n (i_11 - 1)) (by omega)
        conv => whnf
        have e3 : qw3 u n M s = pFl 3 (pp (pKw u n 5 s)) (qw2 u n s) := if_pos ⟨zg, by rw [hv9]; exact hoff⟩
        have g2 : posA u n (i_11 - 1) = pp (pKw u n 5 s) := by rw [hi2_11 zg]; exact hS_4.2.2.2.1
        rw [g2] at hFl
        rw [g2]
        have hS3 : PSt (v2 (v2 I_11 575 2 3) 575 3 ((pp (pKw u n 5 s) : Nat) : Int)) u n c i_11 (qw3 u n M s) := by rw [e3]; exact hFl
        refine l_pcB T (v := v) (i0 := i) (I0 := I) hS3 (hF2.fr (fun a b g1 g2 => by rw [v2_ne (by omega), v2_ne (by omega)]) (fun a b _ _ => rfl)) (hM2.fr w5 (fun a b g1 g2 => by rw [v2_ne (by omega), v2_ne (by omega)]) (fun a b _ _ => rfl)) hw (fun e => by rw [e3] at e; exact (pFl_g (by decide) e).elim) ((hfr2.v2 (Or.inl rfl)).v2 (Or.inl rfl)) (by omega) (fun I2 L2 i2 f1 f2 f3 f4 f5 => h I2 L2 i2 f1 f2 ?_ ?_ f5)
        · rw [pPc, hv9]; exact f3
        · rw [pPc, hv9]; exact f4
      · intro ch2a_43
        exact absurd (by rw [hS2.2.1, zg]; rfl) ch2a_43
noncomputable def pSts (u : Nat → Int) (n W H : Nat) : Nat → PE × Mo → PE × Mo
  | 0, a => a
  | m + 1, a => if pc a.1 = 0 ∧ ¬ tkU u n (pp a.1) = 0 then pSts u n W H m (if tkU u n (pp a.1) = 5 then pPc u n W H a.2 a.1 else pSh u n W H a.2 a.1) else a
theorem pSts_p {u : Nat → Int} {n W H m : Nat} {a : PE × Mo} (h : pc a.1 = 0) (h2 : ¬ tkU u n (pp a.1) = 0) (h3 : tkU u n (pp a.1) = 5) : pSts u n W H (m + 1) a = pSts u n W H m (pPc u n W H a.2 a.1) := by
  show (if _ then pSts u n W H m (if _ then _ else _) else _) = _
  rw [if_pos ⟨h, h2⟩, if_pos h3]
theorem pSts_s {u : Nat → Int} {n W H m : Nat} {a : PE × Mo} (h : pc a.1 = 0) (h2 : ¬ tkU u n (pp a.1) = 0) (h3 : ¬ tkU u n (pp a.1) = 5) : pSts u n W H (m + 1) a = pSts u n W H m (pSh u n W H a.2 a.1) := by
  show (if _ then pSts u n W H m (if _ then _ else _) else _) = _
  rw [if_pos ⟨h, h2⟩, if_neg h3]
theorem pSts_e {u : Nat → Int} {n W H : Nat} {a : PE × Mo} (h : ¬ (pc a.1 = 0 ∧ ¬ tkU u n (pp a.1) = 0)) (m : Nat) : pSts u n W H m a = a := by
  cases m with
  | zero => rfl
  | succ m => exact if_neg h
def hw1 (u : Nat → Int) (n : Nat) : PE := pKw u n 4 (0, 0, posA u n 0)
def hw2 (u : Nat → Int) (n : Nat) : PE := pNu u n 4 12 (hw1 u n)
def hw3 (u : Nat → Int) (n : Nat) : PE := pNu u n 4 12 (hw2 u n)
def hw4 (u : Nat → Int) (n : Nat) : PE := pKw u n 3 (hw3 u n)
/-- a text's width and height, what it tells -/
def txW (u : Nat → Int) (n : Nat) : Nat := (nmA u n (pp (hw1 u n))).toNat
def txH (u : Nat → Int) (n : Nat) : Nat := (nmA u n (pp (hw2 u n))).toNat
noncomputable def pTx (u : Nat → Int) (n : Nat) : PE × Mo := pSts u n (txW u n) (txH u n) 700 (hw4 u n, offM)
theorem hw4_g {u : Nat → Int} {n : Nat} (h : pc (hw4 u n) = 0) : nmA u n (pp (hw1 u n)) = (txW u n : Nat) ∧ nmA u n (pp (hw2 u n)) = (txH u n : Nat) ∧ (4 ≤ txW u n ∧ txW u n ≤ 12 ∧ 4 ≤ txH u n ∧ txH u n ≤ 12) ∧ pc (hw2 u n) = 0 ∧ pc (hw3 u n) = 0 := by
  have g3 : pc (pNu u n 4 12 (hw2 u n)) = 0 := (pKw_g h).1
  have z3 := pNu_g g3
  have g2 : pc (pNu u n 4 12 (hw1 u n)) = 0 := z3.1
  have z2 := pNu_g g2
  have e1 : txW u n = (nmA u n (pp (hw1 u n))).toNat := rfl
  have e2 : txH u n = (nmA u n (pp (hw2 u n))).toNat := rfl
  exact ⟨by omega, by omega, by omega, g2, g3⟩
theorem offM_wf {W H : Nat} (h : 4 ≤ W ∧ W ≤ 12 ∧ 4 ≤ H ∧ H ≤ 12) : Wf W H offM := ⟨⟨h, fun _ _ => Or.inl rfl, fun _ _ _ _ _ h => absurd rfl h⟩, Nat.zero_le _, fun k hk => absurd hk (Nat.not_lt_zero k)⟩
theorem pSts_wf {u : Nat → Int} {n W H : Nat} : ∀ (m : Nat) (a : PE × Mo), Wf W H a.2 → Wf W H (pSts u n W H m a).2
  | 0, a, h => h
  | m + 1, a, h => by
    by_cases e : pc a.1 = 0 ∧ ¬ tkU u n (pp a.1) = 0
    · by_cases e2 : tkU u n (pp a.1) = 5
      · rw [pSts_p e.1 e.2 e2]; exact pSts_wf m _ (pPc_wf h)
      · rw [pSts_s e.1 e.2 e2]; exact pSts_wf m _ (pSh_wf h)
    · rw [pSts_e e]; exact h
theorem l_rtA (T : ZTh (XX Ln xs) CZ RZ) {d b : Nat} {Q : ZQ} {u : Nat → Int} {n c W H : Nat} {a0 : PE × Mo} {I0 : ZI} {L0 : ZL} (h : ∀ I' L' i', Fr PPs I0 I' → Fr PLs L0 L' → PSt I' u n c i' (a0).1 → StC I' L' 581 W H (a0).2 → Q (.inl none) I' L') (m : Nat) : ∀ (k i : Nat) (a : PE × Mo) (I : ZI) (L : ZL), (k ≤ 700) → (PSt I u n c i a.1) → (StC I L 581 W H a.2) → (Wf W H a.2) → (FormOK I L) → (Fr PPs I0 I) → (Fr PLs L0 L) → (pSts u n W H (700 - k) a = a0) → 700 - (k : Int) < (m : Int) → RZ (d + 5) k_X4_readText Q 75 [.inr (.ref 575, 5), .inr (.ref 1, 110056), zj, .inl ((k : Int))] [] b I L := by
  induction m with
  | zero =>
    intro k i a I L hk hS hM hw hF hfr hgr ha hm
    exfalso
    omega
  | succ m ih =>
    intro k i a I L hk hS hM hw hF hfr hgr ha hm
    obtain ⟨k1, k2, k3, k4, k5, k6⟩ := id hS
    have hcz : zR (I 575 2) := by rw [k2]; exact ⟨by omega, by omega⟩
    have w5 := hw.2.1
    have hWH : W ≤ 12 ∧ H ≤ 12 := ⟨hw.1.1.2.1, hw.1.1.2.2.2⟩
    refine T.go [75] 90 ?_
    conv => whnf
    refine ⟨by omega, fun c79 => ?_, fun c79 => ?_⟩
    · conv => whnf
      have ea : a0 = a := by
        rw [← ha]
        rw [show 700 - k = 0 by omega]
        rfl
      rw [ea] at h
      exact h I L i hfr hgr hS hM
    · conv => whnf
      refine ⟨by decide, ?_⟩
      conv => whnf
      refine ⟨by exact hcz, fun c86 => ?_, fun c86 => ?_⟩
      · conv => whnf
        have ea : a0 = a := by
          rw [← ha]
          exact pSts_e (fun c => by omega) _
        rw [ea] at h
        exact h I L i hfr hgr hS hM
      · conv => whnf
        refine ⟨by decide, _, rfl, ?_⟩
        conv => whnf
        refine zinv0 (s_X10_kind T  (by exact k1) (by exact k6) ?_)
        conv => whnf
        refine ⟨fun c99 => ?_, fun c99 => ?_⟩
        · conv => whnf
          have ea : a0 = a := by
            rw [← ha]
            exact pSts_e (fun c => c.2 (by rw [← k4]; exact Nat.add_left_cancel (n := 10020) c99)) _
          rw [ea] at h
          exact h I L i hfr hgr hS hM
        · conv => whnf
          refine ⟨by decide, _, rfl, ?_⟩
          conv => whnf
          refine zinv0 (s_X10_kind T  (by exact k1) (by exact k6) ?_)
          conv => whnf
          refine ⟨fun c112 => ?_, fun c112 => ?_⟩
          · conv => whnf
            refine zinv0 (s_X4_readShape T (W := W) (H := H) a.2 (u := u) (n := n) (c := c) (i := i) (s := a.1) (by exact hS) (by omega) (by exact hM) (by exact w5) (by exact hWH) ?_)
            intro I_124 L_124 i_124 hf_124 hg_124 hS_124 hM_124 hi_124
            conv => whnf
            have e3 : ¬ tkU u n (pp a.1) = 0 := fun e => c99 (by rw [k4, e])
            obtain ⟨m2, hm2⟩ : ∃ m2, 700 - k = m2 + 1 := ⟨700 - k - 1, by omega⟩
            have e5 : ¬ tkU u n (pp a.1) = 5 := fun e => c112 (by rw [k4, e])
            rw [hm2, pSts_s (by omega) e3 e5] at ha
            refine ih (k + 1) i_124 _ I_124 L_124 (by omega) hS_124 hM_124 (pSh_wf hw) (hF.fr (fun a b g1 g2 => hf_124 _ _ (by unfold PPs; omega)) (fun a b g1 g2 => hg_124 _ _ (by unfold PLs; omega))) (hfr.trans hf_124) (hgr.trans hg_124) (by rw [show 700 - (k + 1) = m2 by omega]; exact ha) (by omega)
          · conv => whnf
            refine zinv0 (s_X4_readPiece T (W := W) (H := H) a.2 (u := u) (n := n) (c := c) (i := i) (s := a.1) (by exact hS) (by exact hF) (by exact hM) (by exact hw) ?_)
            intro I_117 L_117 i_117 hf_117 hg_117 hS_117 hM_117 hi_117
            conv => whnf
            have e3 : ¬ tkU u n (pp a.1) = 0 := fun e => c99 (by rw [k4, e])
            obtain ⟨m2, hm2⟩ : ∃ m2, 700 - k = m2 + 1 := ⟨700 - k - 1, by omega⟩
            have e5 : tkU u n (pp a.1) = 5 := by rw [← k4]; exact Nat.add_left_cancel (n := 10020) c112
            rw [hm2, pSts_p (by omega) e3 e5] at ha
            refine ih (k + 1) i_117 _ I_117 L_117 (by omega) hS_117 hM_117 (pPc_wf hw) (hF.fr (fun a b g1 g2 => hf_117 _ _ (by unfold PPs; omega)) (fun a b g1 g2 => hg_117 _ _ (by unfold PLs; omega))) (hfr.trans hf_117) (hgr.trans hg_117) (by rw [show 700 - (k + 1) = m2 by omega]; exact ha) (by omega)
theorem l_rtE (T : ZTh (XX Ln xs) CZ RZ) {d b : Nat} {Q : ZQ} {I : ZI} {L : ZL} (hc : zR (I 575 2) ∧ ¬ I 575 2 = 0) (h : Q (.inl none) I L) : RZ (d + 5) k_X4_readText Q 75 [.inr (.ref 575, 5), .inr (.ref 1, 110056), zj, .inl 0] [] b I L := by
  refine T.go [] 90 ?_
  conv => whnf
  refine ⟨by decide, fun c => absurd c (by decide), fun _ => ?_⟩
  conv => whnf
  refine ⟨by decide, ?_⟩
  conv => whnf
  refine ⟨by exact hc.1, fun c86 => ?_, fun c86 => by exfalso; exact hc.2 c86⟩
  conv => whnf
  exact h
end
