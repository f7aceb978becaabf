/-! THE REFERENCE, TEXTS 13: a shape 2 -/
section
variable {Ln : Nat} {xs : Nat → Int32} {CZ : Nat → ZC} {RZ : Nat → Nat → ZQ → ZP}
theorem ol_bad {u : Nat → Int} {n W H : Nat} {M : Mo} {x y : Int} {a : PO4} (h : ¬ pc a.1 = 0) (m : Nat) : olE u n M x y (pEs u n W H m a) = (a.1, M) := by
  rw [pEs_e (fun c => h c.1), olE_0 (by rw [pKw_2 h]; exact h), pKw_2 h]
theorem ol_no {u : Nat → Int} {n W H : Nat} {M : Mo} {x y : Int} {a : PO4} (h : pc a.1 = 0) (h3 : ¬ tkU u n (pp a.1) = 3) (h10 : tkU u n (pp a.1) < 10) (m : Nat) : olE u n M x y (pEs u n W H m a) = (pFl 1 (pp a.1) a.1, M) := by
  cases m with
  | zero =>
    show olE u n M x y a = _
    rw [olE_0 (by rw [pKw_1 h h3]; show ¬ (1 : Nat) = 0; decide), pKw_1 h h3, pFl_0 h]
  | succ m =>
    rw [pEs_s h h3, pEd_0 h10]
    exact ol_bad (a := (pFl 1 (pp a.1) a.1, eX a, eY a, eS a)) (pFl_c (by decide)) m
theorem ol_st {u : Nat → Int} {n W H : Nat} {a : PO4} (h3 : tkU u n (pp a.1) = 3) (m : Nat) : pEs u n W H m a = a := pEs_e (fun c => c.2 h3) m
theorem tk_10 {u : Nat → Int} {n p : Nat} (h : ¬ sortU u n p = 1) : tkU u n p < 10 := by
  apply Classical.byContradiction
  intro c
  have hp : p < n := tkU_0 (u := u) (by omega)
  rw [tkU_in hp] at c
  have h1 : ¬ bS (u p) = 1 := fun e => h (sort_1.mpr ⟨hp, e⟩)
  rw [if_neg h1] at c
  revert c
  repeat' split
  all_goals omega
theorem nx_ge {u : Nat → Int} {n p : Nat} (hb : p < n → ¬ bS (u p) = 0) : p ≤ nxT u n p := by
  by_cases h : p < n
  · exact Nat.le_of_lt (nxT_b h (hb h)).1
  · rw [show nxT u n p = p from if_pos (by omega)]
    exact Nat.le_refl p
theorem pEd_pp {u : Nat → Int} {n W H : Nat} {a : PO4} (hb : pp a.1 < n → ¬ bS (u (pp a.1)) = 0) (h : pc (pEd u n W H a).1 = 0) : pp a.1 < pp (pEd u n W H a).1 := by
  by_cases h1 : tkU u n (pp a.1) < 10
  · rw [pEd_0 h1] at h
    exact (pFl_g (by decide) h).elim
  · have hp : pp a.1 < n := tkU_0 (u := u) (by omega)
    have hn := nxT_b hp (hb hp)
    by_cases h2 : pc (pNu u n 1 12 (0, po a.1, nxT u n (pp a.1))) = 0
    · by_cases h3 : 0 ≤ eX a + dX (dT u n a.1) * lT u n a.1 ∧ eX a + dX (dT u n a.1) * lT u n a.1 ≤ W ∧ 0 ≤ eY a + dY (dT u n a.1) * lT u n a.1 ∧ eY a + dY (dT u n a.1) * lT u n a.1 ≤ H
      · rw [pEd_3 h1 h2 h3]
        have hq := (pNu_g h2).2.2.2.2
        show pp a.1 < pp (pNu u n 1 12 (0, po a.1, nxT u n (pp a.1)))
        rw [hq]
        have := nx_ge (u := u) (n := n) (p := nxT u n (pp a.1)) hn.2.2
        show pp a.1 < nxT u n (nxT u n (pp a.1))
        omega
      · rw [pEd_2 h1 h2 h3] at h
        exact (pFl_g (by decide) h).elim
    · rw [pEd_1 h1 h2] at h
      exact absurd h h2
theorem sh_s3 {u : Nat → Int} {n : Nat} {M : Mo} {s : PE} {f g : Int} (h0 : pc s = 0) (hf : (f = 1 ∧ tkU u n (pp s) = 9) ∨ (f = 0 ∧ ¬ tkU u n (pp s) = 9)) (hg : (g = 1 ∧ mN M < 8) ∨ (g = 0 ∧ 8 ≤ mN M)) : pGo u n (pMu g 4 (pMu f 1 s)) = pKw u n 9 (s0Sh u n M s) := by
  rcases hf with ⟨e, e2⟩ | ⟨e, e2⟩
  · rw [e, pMu_1]
    rcases hg with ⟨c, c2⟩ | ⟨c, c2⟩
    · have : s0Sh u n M s = s := if_neg (fun q => by omega)
      rw [c, pMu_1, this, pGo_0 h0, pKw_0 h0 e2]
    · have : s0Sh u n M s = pFl 4 (pp s) s := if_pos ⟨e2, c2⟩
      rw [c, pMu_0, this, pGo_1 (pFl_c (by decide)), pKw_2 (pFl_c (by decide))]
  · have : s0Sh u n M s = s := if_neg (fun q => e2 q.1)
    rw [e, pMu_0, pMu_b (pFl_c (by decide)), pGo_1 (pFl_c (by decide)), this, pFl_0 h0, pKw_1 h0 e2]
theorem l_mrs (T : ZTh (XX Ln xs) CZ RZ) {d b : Nat} {Q : ZQ} {W H : Nat} {M : Mo} {x y : Int} {a0 : PO4} {u : Nat → Int} {n : Nat} {I0 : ZI} {L : ZL} (hm7 : mN M < 8) (hW : I0 603 5 = W ∧ W ≤ 12) (hH : I0 603 6 = H ∧ H ≤ 12) (hxy : (0 ≤ x ∧ x ≤ 12) ∧ 0 ≤ y ∧ y ≤ 12) (h : ∀ I', Fr PRs I0 I' → PSm I' u n (olE u n M x y a0).1 → DrM I' (olE u n M x y a0).2 → Q (.inl none) I' L) (m : Nat) : ∀ (k : Nat) (a : PO4) (I : ZI), (k ≤ 700) → (Fr PRs I0 I) → (PSm I u n a.1) → (DrM I M) → (ArB I 637 (eS a)) → (I 603 59 = eX a) → (I 603 60 = eY a) → ((0 ≤ eX a ∧ eX a ≤ W) ∧ 0 ≤ eY a ∧ eY a ≤ H) → (pc a.1 = 0 → k ≤ pp a.1) → (pEs u n W H (700 - k) a = a0) → 701 - (k : Int) < (m : Int) → RZ (d + 5) k_X12_readsShape Q 81 [.inr (.ref 603, 13), .inl x, .inl y, zj, zj] [] b I L := by
  induction m with
  | zero =>
    intro k a I hk hfr hS hd hR hx hy hb hp ha hm
    exfalso
    omega
  | succ m ih =>
    intro k a I hk hfr hS hd hR hx hy hb hp ha hm
    obtain ⟨m1, ⟨m2, m3, m4⟩, m5, m6, m7, m8⟩ := id hS
    have eW9 : I 603 5 = W ∧ W ≤ 12 := ⟨(hfr _ _ (by unfold PRs; omega)).trans hW.1, hW.2⟩
    have eH9 : I 603 6 = H ∧ H ≤ 12 := ⟨(hfr _ _ (by unfold PRs; omega)).trans hH.1, hH.2⟩
    refine T.go [81, 103] 90 ?_
    conv => whnf
    refine zinv0 (s_X12_isGood T (u := u) (n := n) (s := a.1) (by exact hS) ?_ ?_)
    · intro cha_82
      conv => whnf
      refine ⟨by decide, fun c => absurd c (by decide), fun _ => ?_⟩
      conv => whnf
      refine ⟨by decide, ?_⟩
      conv => whnf
      refine ⟨by exact ⟨⟨by omega, by omega⟩, ⟨by omega, by omega⟩⟩, fun c93 => ?_, fun c93 => ?_⟩
      · conv => whnf
        have eA : ∀ (a : Nat) (b : Int), ¬ a = 605 → ¬ a = 637 → ¬ (a = 603 ∧ 53 ≤ b ∧ b ≤ 60) → I a b = I0 a b := fun a b g1 g2 g3 => hfr a b (by unfold PRs; omega)
        obtain ⟨t1, t2, t3⟩ := m5 cha_82
        rw [t3.2.2.1] at c93
        have h10 := tk_10 c93
        refine l_mreS T (x := x) (y := y) (x9 := eX a) (y9 := eY a) (S := eS a) hS hd (by omega) (fun _ => hm7) hR hx hy ⟨hxy.1, hxy.2, ⟨hb.1.1, by omega⟩, hb.2.1, by omega⟩ (fun g => absurd cha_82 g) (fun _ g3 I2 f2 s2 d2 => ?_) (fun _ g3 gc I2 f2 s2 d2 => ?_) (fun _ g3 gc I2 f2 s2 d2 => ?_)
        · have e1 := ol_no (u := u) (n := n) (W := W) (H := H) (M := M) (x := x) (y := y) cha_82 g3 h10 (700 - k)
          rw [ha] at e1
          rw [e1] at h
          exact h I2 (hfr.trans f2) s2 d2
        · rw [ol_st g3] at ha
          have hk0 : pc (pKw u n 3 a.1) = 0 := by rw [pKw_0 cha_82 g3]; rfl
          have e1 := olE_1 (M := M) (x := x) (y := y) hk0 gc
          rw [← ha, e1] at h
          refine h I2 (hfr.trans f2) (s2.bad (pFl_c (by decide)) ?_ ?_) d2
          · show pc (pFl 3 (pp a.1) (pKw u n 3 a.1)) = _
            rw [pFl_0 hk0, pFl_0 cha_82]; rfl
          · show po (pFl 3 (pp a.1) (pKw u n 3 a.1)) = _
            rw [pFl_0 hk0, pFl_0 cha_82]; rfl
        · rw [ol_st g3] at ha
          have hk0 : pc (pKw u n 3 a.1) = 0 := by rw [pKw_0 cha_82 g3]; rfl
          have e1 := olE_2 (M := M) (x := x) (y := y) hk0 gc
          rw [← ha, e1] at h
          refine h I2 (hfr.trans f2) ?_ d2
          rw [pKw_0 cha_82 g3, ← pGo_0 cha_82]
          exact s2
      · conv => whnf
        refine zinv0 (s_X12_readsEdge T (W := W) (H := H) (x := eX a) (y := eY a) (S := eS a) (u := u) (n := n) (s := a.1) (by exact hS) (by exact cha_82) (by exact hR) (by exact hx) (by exact hy) (by exact ⟨hb.1.1, by omega⟩) (by exact ⟨hb.2.1, by omega⟩) (by exact eW9) (by exact eH9) ?_)
        intro I_97 hf_97 hS_97 hx_97 hy_97 hR_97
        conv => whnf
        obtain ⟨t1, t2, t3⟩ := m5 cha_82
        rw [t3.2.2.1] at c93
        have hkp := hp cha_82
        have hn7 := m1.2.1
        have q1 := sort_1.mp c93
        have e3 : ¬ tkU u n (pp a.1) = 3 := fun e => by
          have := (sort_3 t2).mpr e
          omega
        obtain ⟨m2, hm2⟩ : ∃ m2, 700 - k = m2 + 1 := ⟨700 - k - 1, by omega⟩
        rw [hm2, pEs_s cha_82 e3] at ha
        refine ih (k + 1) (pEd u n W H a) I_97 (by omega) (hfr.trans (hf_97.mono PEm_s)) hS_97 (hd.fr (by omega) (fun b => hf_97 _ _ (by unfold PEm; omega))) hR_97 hx_97 hy_97 (pEd_xy hb) (fun g => ?_) (by rw [show 700 - (k + 1) = m2 by omega]; exact ha) (by omega)
        have := pEd_pp (W := W) (H := H) t2 g
        omega
    · intro ch2a_82
      conv => whnf
      refine ⟨by decide, fun _ => ?_, fun c => absurd c (by decide)⟩
      conv => whnf
      have eA : ∀ (a : Nat) (b : Int), ¬ a = 605 → ¬ a = 637 → ¬ (a = 603 ∧ 53 ≤ b ∧ b ≤ 60) → I a b = I0 a b := fun a b g1 g2 g3 => hfr a b (by unfold PRs; omega)
      have e1 := ol_bad (u := u) (n := n) (W := W) (H := H) (M := M) (x := x) (y := y) ch2a_82 (700 - k)
      rw [ha] at e1
      rw [e1] at h
      exact l_mreS T (x := x) (y := y) (x9 := eX a) (y9 := eY a) (S := eS a) hS hd (by omega) (fun _ => hm7) hR hx hy ⟨hxy.1, hxy.2, ⟨hb.1.1, by omega⟩, hb.2.1, by omega⟩ (fun _ I2 f2 s2 d2 => h I2 (hfr.trans f2) s2 d2) (fun g => absurd g ch2a_82) (fun g => absurd g ch2a_82) (fun g => absurd g ch2a_82)
theorem l_mrc (T : ZTh (XX Ln xs) CZ RZ) {d b : Nat} {Q : ZQ} {x y : Int} {I0 : ZI} {L : ZL} (h : ∀ I', Fr (fun a _ => a = 637) I0 I' → ArB I' 637 (fun _ => false) → RZ (d + 5) k_X12_readsShape Q 77 [.inr (.ref 603, 13), .inl x, .inl y, zj, zj] [] b I' L) (m : Nat) : ∀ (k : Nat) (I : ZI), (k ≤ 576) → (Fr (fun a _ => a = 637) I0 I) → (∀ q : Nat, q < k → I 637 (q : Int) = 0) → 576 - (k : Int) < (m : Int) → RZ (d + 5) k_X12_readsShape Q 57 [.inr (.ref 603, 13), .inl x, .inl y, .inl ((k : Int)), zj] [] b I L := by
  induction m with
  | zero =>
    intro k I hk hfr hv hm
    exfalso
    omega
  | succ m ih =>
    intro k I hk hfr hv hm
    refine T.go [57, 77] 90 ?_
    conv => whnf
    refine ⟨by omega, fun c61 => ?_, fun c61 => ?_⟩
    · conv => whnf
      refine T.fg [3] ?_
      exact h I hfr (fun q hq => hv q (by omega))
    · conv => whnf
      refine ⟨by decide, _, rfl, ?_⟩
      conv => whnf
      refine ⟨by omega, ⟨by decide, by decide, by omega⟩, ?_⟩
      conv => whnf
      refine ih (k + 1) _ (by omega) (hfr.v2 rfl) (fun q hq => ?_) (by omega)
      by_cases e : q = k
      · rw [e, v2_eq]
      · rw [v2_ne (by omega)]; exact hv q (by omega)
theorem l_mrdG (T : ZTh (XX Ln xs) CZ RZ) {d b : Nat} {Q : ZQ} {W H : Nat} {M : Mo} {x y : Int} {u : Nat → Int} {n : Nat} {s : PE} {I : ZI} {L : ZL} (hS : PSm I u n s) (hd : DrM I M) (hm8 : mN M ≤ 8) (hR : ArB I 637 (fun _ => false)) (hx : I 603 59 = x) (hy : I 603 60 = y) (hxb : 0 ≤ x ∧ x ≤ 12) (hyb : 0 ≤ y ∧ y ≤ 12) (hW : I 603 5 = W ∧ W ≤ 12) (hH : I 603 6 = H ∧ H ≤ 12) (h0 : pc s = 0) (hm7 : mN M < 8) (hxy : x ≤ W ∧ y ≤ H) (h : ∀ I', Fr PRs I I' → PSm I' u n (pOl u n W H M x y s).1 → DrM I' (pOl u n W H M x y s).2 → Q (.inl none) I' L) : RZ (d + 5) k_X12_readsShape Q 77 [.inr (.ref 603, 13), .inl x, .inl y, zj, zj] [] b I L := by
  refine T.go [81] 90 ?_
  conv => whnf
  refine zinv0 (s_X12_readsEdge T (W := W) (H := H) (x := x) (y := y) (S := fun _ => false) (u := u) (n := n) (s := s) (by exact hS) (by exact h0) (by exact hR) (by exact hx) (by exact hy) (by exact hxb) (by exact hyb) (by exact hW) (by exact hH) ?_)
  intro I_78 hf_78 hS_78 hx_78 hy_78 hR_78
  conv => whnf
  refine l_mrs T (W := W) (H := H) (M := M) (x := x) (y := y) (u := u) (n := n) (I0 := I) (a0 := pEs u n W H 700 (pEd u n W H (s, x, y, fun _ => false))) hm7 hW hH ⟨hxb, hyb⟩ h 702 0 (pEd u n W H (s, x, y, fun _ => false)) I_78 (by omega) (hf_78.mono PEm_s) hS_78 (hd.fr hm8 (fun b => hf_78 _ _ (by unfold PEm; omega))) hR_78 hx_78 hy_78 (pEd_xy ⟨⟨hxb.1, hxy.1⟩, hyb.1, hxy.2⟩) (fun _ => Nat.zero_le _) rfl (by omega)
theorem l_mrdB (T : ZTh (XX Ln xs) CZ RZ) {d b : Nat} {Q : ZQ} {W H : Nat} {M : Mo} {x y : Int} {u : Nat → Int} {n : Nat} {s : PE} {I : ZI} {L : ZL} (hS : PSm I u n s) (hd : DrM I M) (hm8 : mN M ≤ 8) (hR : ArB I 637 (fun _ => false)) (hx : I 603 59 = x) (hy : I 603 60 = y) (hxb : 0 ≤ x ∧ x ≤ 12) (hyb : 0 ≤ y ∧ y ≤ 12) (hW : I 603 5 = W ∧ W ≤ 12) (hH : I 603 6 = H ∧ H ≤ 12) (h0 : ¬ pc s = 0) (h : ∀ I', Fr PRs I I' → PSm I' u n s → DrM I' M → Q (.inl none) I' L) : RZ (d + 5) k_X12_readsShape Q 77 [.inr (.ref 603, 13), .inl x, .inl y, zj, zj] [] b I L := by
  refine T.go [103] 90 ?_
  conv => whnf
  refine zinv0 (s_rEdgeB T (W := W) (H := H) (x := x) (y := y) (S := fun _ => false) (u := u) (n := n) (s := s) (by exact hS) (by exact h0) (by exact hR) (by exact hx) (by exact hy) (by exact hxb) (by exact hyb) (by exact hW) (by exact hH) ?_)
  intro I_78 hf_78 hS_78 hx_78 hy_78 hR_78
  conv => whnf
  refine zinv0 (s_X12_isGood T (u := u) (n := n) (s := s) (by exact hS_78) ?_ ?_)
  · intro cha_82
    exact absurd cha_82 h0
  · intro ch2a_82
    conv => whnf
    refine ⟨by decide, fun _ => ?_, fun c => absurd c (by decide)⟩
    conv => whnf
    exact l_mreS T (x := x) (y := y) (x9 := x) (y9 := y) (S := fun _ => false) hS_78 (hd.fr hm8 (fun b => hf_78 _ _ (by unfold PEm; omega))) hm8 (fun g => absurd g h0) hR_78 hx_78 hy_78 ⟨hxb, hyb, hxb, hyb⟩ (fun _ I2 f2 s2 d2 => h I2 ((hf_78.mono PEm_s).trans f2) s2 d2) (fun g => absurd g h0) (fun g => absurd g h0) (fun g => absurd g h0)
theorem s_X12_readsShape (T : ZTh (XX Ln xs) CZ RZ) {d b : Nat} {W H : Nat} (M : Mo) {f : Int} {u : Nat → Int} {n : Nat} {s : PE}  {I : ZI} {L : ZL} {Q : ZQ} (hS : PSm I u n (pMu f 1 s)) (h0 : pc s = 0) (hf : (f = 1 ∧ tkU u n (pp s) = 9) ∨ (f = 0 ∧ ¬ tkU u n (pp s) = 9)) (hd : DrM I M) (hm8 : mN M ≤ 8) (hW : I 603 5 = W ∧ W ≤ 12) (hH : I 603 6 = H ∧ H ≤ 12) (h : ∀ I', Fr PRs I I' → PSm I' u n (pSh u n W H M s).1 → DrM I' (pSh u n W H M s).2 → Q (.inl none) I' L) : CZ (d + 6) k_X12_readsShape [.inr (.ref 603, 13)] b I L Q := by
  refine T.call rfl ?_
  have e50 : I 605 0 = mN M := hd.1.1
  refine T.go [57] 200 ?_
  conv => whnf
  refine ⟨by decide, _, rfl, ?_⟩
  conv => whnf
  refine ⟨by omega, by decide, ?_⟩
  conv => whnf
  refine ⟨by rw [e50]; exact ⟨⟨by omega, by omega⟩, ⟨by omega, by omega⟩⟩, fun c9 => ?_, fun c9 => ?_⟩
  · conv => whnf
    rw [e50] at c9
    refine zinv0 (s_X12_must T (w := 4) (f := 0) (u := u) (n := n) (s := pMu f 1 s) (by exact hS) (by omega) (by omega) ?_)
    intro I_18 hf_18 hS_18
    conv => whnf
    refine zinv0 (s_X12_goesOn T (u := u) (n := n) (s := pMu 0 4 (pMu f 1 s)) (by exact hS_18) ?_)
    intro I_22 hf_22 hS_22
    have e3 := sh_s3 (u := u) (n := n) (M := M) (g := 0) h0 hf (Or.inr ⟨rfl, by omega⟩)
    rw [e3] at hS_22
    conv => whnf
    refine ⟨by decide, ?_⟩
    conv => whnf
    rw [show I_22 603 5 = W from (hf_22 _ _ (by unfold PTm; omega)).trans ((hf_18 _ _ (by unfold P57; omega)).trans hW.1)]
    refine zinv0 (s_X12_reads T (u := u) (n := n) (s := pKw u n 9 (s0Sh u n M s)) (by exact hS_22) (by decide) (by exact ⟨by omega, by omega⟩) ?_)
    intro I_31 hf_31 hS_31
    obtain ⟨x, hx⟩ : ∃ x : Int, x = (if pc (pNu u n 0 W (pKw u n 9 (s0Sh u n M s))) = 0 then nmA u n (pp (pKw u n 9 (s0Sh u n M s))) else 0) := ⟨_, rfl⟩
    rw [← hx]
    conv => whnf
    refine ⟨by decide, ?_⟩
    conv => whnf
    rw [show I_31 603 6 = H from (hf_31 _ _ (by unfold PTm; omega)).trans ((hf_22 _ _ (by unfold PTm; omega)).trans ((hf_18 _ _ (by unfold P57; omega)).trans hH.1))]
    refine zinv0 (s_X12_reads T (u := u) (n := n) (s := pNu u n 0 W (pKw u n 9 (s0Sh u n M s))) (by exact hS_31) (by decide) (by exact ⟨by omega, by omega⟩) ?_)
    intro I_41 hf_41 hS_41
    obtain ⟨y, hy⟩ : ∃ y : Int, y = (if pc (pNu u n 0 H (pNu u n 0 W (pKw u n 9 (s0Sh u n M s)))) = 0 then nmA u n (pp (pNu u n 0 W (pKw u n 9 (s0Sh u n M s)))) else 0) := ⟨_, rfl⟩
    rw [← hy]
    have hxb : 0 ≤ x ∧ x ≤ W := by
      by_cases e : pc (pNu u n 0 W (pKw u n 9 (s0Sh u n M s))) = 0
      · rw [if_pos e] at hx
        have := pNu_g e
        omega
      · rw [if_neg e] at hx
        omega
    have hyb : 0 ≤ y ∧ y ≤ H := by
      by_cases e : pc (pNu u n 0 H (pNu u n 0 W (pKw u n 9 (s0Sh u n M s)))) = 0
      · rw [if_pos e] at hy
        have := pNu_g e
        omega
      · rw [if_neg e] at hy
        omega
    have eA : ∀ (a : Nat) (b : Int), ¬ (a = 603 ∧ 53 ≤ b ∧ b ≤ 58) → I_41 a b = I a b := fun a b g => by rw [hf_41 _ _ (by unfold PTm; omega), hf_31 _ _ (by unfold PTm; omega), hf_22 _ _ (by unfold PTm; omega), hf_18 _ _ (by unfold P57; omega)]
    conv => whnf
    refine ⟨by decide, ?_⟩
    conv => whnf
    refine ⟨by decide, ?_⟩
    conv => whnf
    refine l_mrc T (x := x) (y := y) (I0 := v2 (v2 I_41 603 59 x) 603 60 y) (fun I1 f1 r1 => ?_) 577 0 _ (Nat.zero_le _) (Fr.refl _) (fun q hq => absurd hq (Nat.not_lt_zero q)) (by omega)
    have eB : ∀ (a : Nat) (b : Int), ¬ a = 637 → ¬ (a = 603 ∧ 53 ≤ b ∧ b ≤ 60) → I1 a b = I a b := fun a b g1 g2 => by rw [f1 _ _ (by omega), v2_ne (by omega), v2_ne (by omega), eA _ _ (by omega)]
    have fr1 : Fr PRs I I1 := fun a b g => eB a b (fun c => g (by unfold PRs; omega)) (fun c => g (by unfold PRs; omega))
    have hS1 : PSm I1 u n (pNu u n 0 H (pNu u n 0 W (pKw u n 9 (s0Sh u n M s)))) := hS_41.fr (fun a b g => by rw [f1 _ _ (by omega), v2_ne (by omega), v2_ne (by omega)])
    have hd1 : DrM I1 M := hd.fr hm8 (fun b => eB _ _ (by omega) (by omega))
    have hx1 : I1 603 59 = x := by rw [f1 _ _ (by omega), v2_ne (by omega), v2_eq]
    have hy1 : I1 603 60 = y := by rw [f1 _ _ (by omega), v2_eq]
    have hW1 : I1 603 5 = W ∧ W ≤ 12 := ⟨(eB _ _ (by omega) (by omega)).trans hW.1, hW.2⟩
    have hH1 : I1 603 6 = H ∧ H ≤ 12 := ⟨(eB _ _ (by omega) (by omega)).trans hH.1, hH.2⟩
    by_cases g : pc (pNu u n 0 H (pNu u n 0 W (pKw u n 9 (s0Sh u n M s)))) = 0
    · have g2 := pNu_g g
      have g1 := pNu_g g2.1
      have g9 := pKw_g g1.1
      rw [if_pos g2.1] at hx
      rw [if_pos g] at hy
      have hm7 : mN M < 8 := by
        apply Classical.byContradiction
        intro c
        have k1 := g9.1
        have k2 := g9.2.1
        unfold s0Sh at k1 k2
        by_cases e : tkU u n (pp s) = 9 ∧ 8 ≤ mN M
        · rw [if_pos e] at k1
          exact pFl_g (by decide) k1
        · rw [if_neg e] at k2
          exact e ⟨k2, by omega⟩
      have e9 := pSh_1 (u := u) (n := n) (W := W) (H := H) (M := M) (s := s) g
      rw [← hx, ← hy] at e9
      rw [e9] at h
      exact l_mrdG T (W := W) (H := H) hS1 hd1 hm8 r1 hx1 hy1 ⟨hxb.1, by omega⟩ ⟨hyb.1, by omega⟩ hW1 hH1 g hm7 ⟨hxb.2, hyb.2⟩ (fun I2 f2 s2 d2 => h I2 (fr1.trans f2) s2 d2)
    · rw [pSh_0 g] at h
      exact l_mrdB T (W := W) (H := H) hS1 hd1 hm8 r1 hx1 hy1 ⟨hxb.1, by omega⟩ ⟨hyb.1, by omega⟩ hW1 hH1 g (fun I2 f2 s2 d2 => h I2 (fr1.trans f2) s2 d2)
  · conv => whnf
    rw [e50] at c9
    refine zinv0 (s_X12_must T (w := 4) (f := 1) (u := u) (n := n) (s := pMu f 1 s) (by exact hS) (by omega) (by omega) ?_)
    intro I_18 hf_18 hS_18
    conv => whnf
    refine zinv0 (s_X12_goesOn T (u := u) (n := n) (s := pMu 1 4 (pMu f 1 s)) (by exact hS_18) ?_)
    intro I_22 hf_22 hS_22
    have e3 := sh_s3 (u := u) (n := n) (M := M) (g := 1) h0 hf (Or.inl ⟨rfl, by omega⟩)
    rw [e3] at hS_22
    conv => whnf
    refine ⟨by decide, ?_⟩
    conv => whnf
    rw [show I_22 603 5 = W from (hf_22 _ _ (by unfold PTm; omega)).trans ((hf_18 _ _ (by unfold P57; omega)).trans hW.1)]
    refine zinv0 (s_X12_reads T (u := u) (n := n) (s := pKw u n 9 (s0Sh u n M s)) (by exact hS_22) (by decide) (by exact ⟨by omega, by omega⟩) ?_)
    intro I_31 hf_31 hS_31
    obtain ⟨x, hx⟩ : ∃ x : Int, x = (if pc (pNu u n 0 W (pKw u n 9 (s0Sh u n M s))) = 0 then nmA u n (pp (pKw u n 9 (s0Sh u n M s))) else 0) := ⟨_, rfl⟩
    rw [← hx]
    conv => whnf
    refine ⟨by decide, ?_⟩
    conv => whnf
    rw [show I_31 603 6 = H from (hf_31 _ _ (by unfold PTm; omega)).trans ((hf_22 _ _ (by unfold PTm; omega)).trans ((hf_18 _ _ (by unfold P57; omega)).trans hH.1))]
    refine zinv0 (s_X12_reads T (u := u) (n := n) (s := pNu u n 0 W (pKw u n 9 (s0Sh u n M s))) (by exact hS_31) (by decide) (by exact ⟨by omega, by omega⟩) ?_)
    intro I_41 hf_41 hS_41
    obtain ⟨y, hy⟩ : ∃ y : Int, y = (if pc (pNu u n 0 H (pNu u n 0 W (pKw u n 9 (s0Sh u n M s)))) = 0 then nmA u n (pp (pNu u n 0 W (pKw u n 9 (s0Sh u n M s)))) else 0) := ⟨_, rfl⟩
    rw [← hy]
    have hxb : 0 ≤ x ∧ x ≤ W := by
      by_cases e : pc (pNu u n 0 W (pKw u n 9 (s0Sh u n M s))) = 0
      · rw [if_pos e] at hx
        have := pNu_g e
        omega
      · rw [if_neg e] at hx
        omega
    have hyb : 0 ≤ y ∧ y ≤ H := by
      by_cases e : pc (pNu u n 0 H (pNu u n 0 W (pKw u n 9 (s0Sh u n M s)))) = 0
      · rw [if_pos e] at hy
        have := pNu_g e
        omega
      · rw [if_neg e] at hy
        omega
    have eA : ∀ (a : Nat) (b : Int), ¬ (a = 603 ∧ 53 ≤ b ∧ b ≤ 58) → I_41 a b = I a b := fun a b g => by rw [hf_41 _ _ (by unfold PTm; omega), hf_31 _ _ (by unfold PTm; omega), hf_22 _ _ (by unfold PTm; omega), hf_18 _ _ (by unfold P57; omega)]
    conv => whnf
    refine ⟨by decide, ?_⟩
    conv => whnf
    refine ⟨by decide, ?_⟩
    conv => whnf
    refine l_mrc T (x := x) (y := y) (I0 := v2 (v2 I_41 603 59 x) 603 60 y) (fun I1 f1 r1 => ?_) 577 0 _ (Nat.zero_le _) (Fr.refl _) (fun q hq => absurd hq (Nat.not_lt_zero q)) (by omega)
    have eB : ∀ (a : Nat) (b : Int), ¬ a = 637 → ¬ (a = 603 ∧ 53 ≤ b ∧ b ≤ 60) → I1 a b = I a b := fun a b g1 g2 => by rw [f1 _ _ (by omega), v2_ne (by omega), v2_ne (by omega), eA _ _ (by omega)]
    have fr1 : Fr PRs I I1 := fun a b g => eB a b (fun c => g (by unfold PRs; omega)) (fun c => g (by unfold PRs; omega))
    have hS1 : PSm I1 u n (pNu u n 0 H (pNu u n 0 W (pKw u n 9 (s0Sh u n M s)))) := hS_41.fr (fun a b g => by rw [f1 _ _ (by omega), v2_ne (by omega), v2_ne (by omega)])
    have hd1 : DrM I1 M := hd.fr hm8 (fun b => eB _ _ (by omega) (by omega))
    have hx1 : I1 603 59 = x := by rw [f1 _ _ (by omega), v2_ne (by omega), v2_eq]
    have hy1 : I1 603 60 = y := by rw [f1 _ _ (by omega), v2_eq]
    have hW1 : I1 603 5 = W ∧ W ≤ 12 := ⟨(eB _ _ (by omega) (by omega)).trans hW.1, hW.2⟩
    have hH1 : I1 603 6 = H ∧ H ≤ 12 := ⟨(eB _ _ (by omega) (by omega)).trans hH.1, hH.2⟩
    by_cases g : pc (pNu u n 0 H (pNu u n 0 W (pKw u n 9 (s0Sh u n M s)))) = 0
    · have g2 := pNu_g g
      have g1 := pNu_g g2.1
      have g9 := pKw_g g1.1
      rw [if_pos g2.1] at hx
      rw [if_pos g] at hy
      have hm7 : mN M < 8 := by
        apply Classical.byContradiction
        intro c
        have k1 := g9.1
        have k2 := g9.2.1
        unfold s0Sh at k1 k2
        by_cases e : tkU u n (pp s) = 9 ∧ 8 ≤ mN M
        · rw [if_pos e] at k1
          exact pFl_g (by decide) k1
        · rw [if_neg e] at k2
          exact e ⟨k2, by omega⟩
      have e9 := pSh_1 (u := u) (n := n) (W := W) (H := H) (M := M) (s := s) g
      rw [← hx, ← hy] at e9
      rw [e9] at h
      exact l_mrdG T (W := W) (H := H) hS1 hd1 hm8 r1 hx1 hy1 ⟨hxb.1, by omega⟩ ⟨hyb.1, by omega⟩ hW1 hH1 g hm7 ⟨hxb.2, hyb.2⟩ (fun I2 f2 s2 d2 => h I2 (fr1.trans f2) s2 d2)
    · rw [pSh_0 g] at h
      exact l_mrdB T (W := W) (H := H) hS1 hd1 hm8 r1 hx1 hy1 ⟨hxb.1, by omega⟩ ⟨hyb.1, by omega⟩ hW1 hH1 g (fun I2 f2 s2 d2 => h I2 (fr1.trans f2) s2 d2)
end
