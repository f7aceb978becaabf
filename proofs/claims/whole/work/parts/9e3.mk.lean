/-! THE REFERENCE, TEXTS 16: a text -/
section
variable {Ln : Nat} {xs : Nat → Int32} {CZ : Nat → ZC} {RZ : Nat → Nat → ZQ → ZP}
/-- the place is not a separator -/
def NwS (u : Nat → Int) (n : Nat) (s : PE) : Prop := pp s < n → ¬ bS (u (pp s)) = 0
theorem pKw_pp {u : Nat → Int} {n w : Nat} {s : PE} (hb : NwS u n s) (hw : w ≠ 0) (h : pc (pKw u n w s) = 0) : pp s < pp (pKw u n w s) ∧ NwS u n (pKw u n w s) := by
  have g := pKw_g h
  have hp : pp s < n := tkU_0 (u := u) (by omega)
  have q := nxT_b hp (hb hp)
  unfold NwS
  rw [g.2.2]
  exact ⟨q.1, q.2.2⟩
theorem pNu_pp {u : Nat → Int} {n : Nat} {a b : Int} {s : PE} (hb : NwS u n s) (h : pc (pNu u n a b s) = 0) : pp s < pp (pNu u n a b s) ∧ NwS u n (pNu u n a b s) := by
  have g := pNu_g h
  have hp : pp s < n := tkU_0 (u := u) (by omega)
  have q := nxT_b hp (hb hp)
  unfold NwS
  rw [g.2.2.2.2]
  exact ⟨q.1, q.2.2⟩
theorem pcR_pp {u : Nat → Int} {n W H : Nat} {M : Mo} {v : Int} {s : PE} (hb : NwS u n s) (h : pc (pcR u n W H M v s).1 = 0) : pp s < pp (pcR u n W H M v s).1 ∧ NwS u n (pcR u n W H M v s).1 := by
  have e : (pcR u n W H M v s).1 = pKw u n 3 (qw9 u n W H s) := by
    unfold pcR at h ⊢
    unfold pcQ at h ⊢
    by_cases c : pc (pKw u n 3 (qw9 u n W H s)) = 0
    · rw [if_pos c] at h ⊢
      by_cases c2 : why W H M v.toNat (8 * v.toNat + (2 * nmA u n (pp (qw7 u n W H s)) + (if tkU u n (pp (qw8 u n W H s)) = 8 then 1 else 0)).toNat) (nmA u n (pp (pKw u n 6 s))) (nmA u n (pp (qw5 u n W s))) = 0
      · rw [if_pos c2]
      · rw [if_neg c2] at h
        exact (pFl_g (by decide) h).elim
    · rw [if_neg c]
  rw [e] at h ⊢
  have z9 : pc (qw9 u n W H s) = 0 := (pKw_g h).1
  have z8 : pc (pNu u n 0 3 (qw7 u n W H s)) = 0 := by
    unfold qw9 at z9
    by_cases e : tkU u n (pp (qw8 u n W H s)) = 8
    · rw [if_pos e] at z9; exact (pKw_g z9).1
    · rw [if_neg e] at z9; exact z9
  have z7 : pc (qw7 u n W H s) = 0 := (pNu_g z8).1
  have z6 : pc (pNu u n 0 ((H : Int) - 1) (qw5 u n W s)) = 0 := (pKw_g z7).1
  have z5 : pc (pNu u n 0 ((W : Int) - 1) (pKw u n 6 s)) = 0 := (pNu_g z6).1
  have z4 : pc (pKw u n 6 s) = 0 := (pNu_g z5).1
  have a1 := pKw_pp hb (by decide) z4
  have a2 := pNu_pp a1.2 z5
  have a3 := pNu_pp (s := qw5 u n W s) a2.2 z6
  have a4 := pKw_pp a3.2 (by decide) z7
  have a5 := pNu_pp (s := qw7 u n W H s) a4.2 z8
  have a6 : pp (qw8 u n W H s) ≤ pp (qw9 u n W H s) ∧ NwS u n (qw9 u n W H s) := by
    unfold qw9 at z9 ⊢
    by_cases e : tkU u n (pp (qw8 u n W H s)) = 8
    · rw [if_pos e] at z9 ⊢
      have := pKw_pp (s := qw8 u n W H s) a5.2 (by decide) z9
      exact ⟨Nat.le_of_lt this.1, this.2⟩
    · rw [if_neg e]
      exact ⟨Nat.le_refl _, a5.2⟩
  have a7 := pKw_pp a6.2 (by decide) h
  have b1 : pp (pNu u n 0 ((W : Int) - 1) (pKw u n 6 s)) = pp (qw5 u n W s) := rfl
  have b2 : pp (pKw u n 7 (pNu u n 0 ((H : Int) - 1) (qw5 u n W s))) = pp (qw7 u n W H s) := rfl
  have b3 : pp (pNu u n 0 3 (qw7 u n W H s)) = pp (qw8 u n W H s) := rfl
  exact ⟨by omega, a7.2⟩
theorem pPc_pp {u : Nat → Int} {n W H : Nat} {M : Mo} {s : PE} (hb : NwS u n s) (h : pc (pPc u n W H M s).1 = 0) : pp s < pp (pPc u n W H M s).1 ∧ NwS u n (pPc u n W H M s).1 := by
  have h' : pc (pcR u n W H M (nmA u n (pp (pKw u n 5 s))) (qw3 u n M s)).1 = 0 := h
  by_cases z : pc (qw3 u n M s) = 0
  · have g := qw3_g z
    have z1 : pc (pKw u n 5 s) = 0 := (pNu_g (show pc (pNu u n 0 6 (pKw u n 5 s)) = 0 from g.2.1)).1
    have a1 := pKw_pp hb (by decide) z1
    have a2 := pNu_pp a1.2 (show pc (pNu u n 0 6 (pKw u n 5 s)) = 0 from g.2.1)
    have a3 : pp s < pp (qw3 u n M s) ∧ NwS u n (qw3 u n M s) := by
      rw [g.1]
      have b1 : pp (pNu u n 0 6 (pKw u n 5 s)) = pp (qw2 u n s) := rfl
      exact ⟨by omega, a2.2⟩
    have a4 := pcR_pp a3.2 h'
    exact ⟨Nat.lt_trans a3.1 a4.1, a4.2⟩
  · exfalso
    have e : pcR u n W H M (nmA u n (pp (pKw u n 5 s))) (qw3 u n M s) = (pKw u n 3 (qw9 u n W H (qw3 u n M s)), M) := pcQ_0 (fun c => z (qw9_g c).1)
    rw [e] at h'
    exact z (qw9_g h').1
theorem pEd_nw {u : Nat → Int} {n W H : Nat} {a : PO4} (hb : NwS u n a.1) (h : pc (pEd u n W H a).1 = 0) : pp a.1 < pp (pEd u n W H a).1 ∧ NwS u n (pEd u n W H a).1 := by
  refine ⟨pEd_pp hb h, ?_⟩
  by_cases h1 : tkU u n (pp a.1) < 10
  · rw [pEd_0 h1] at h
    exact (pFl_g (by decide) h).elim
  · have hp : pp a.1 < n := tkU_0 (u := u) (by omega)
    have hn := nxT_b hp (hb hp)
    by_cases h2 : pc (pNu u n 1 12 (0, po a.1, nxT u n (pp a.1))) = 0
    · by_cases h3 : 0 ≤ eX a + dX (dT u n a.1) * lT u n a.1 ∧ eX a + dX (dT u n a.1) * lT u n a.1 ≤ W ∧ 0 ≤ eY a + dY (dT u n a.1) * lT u n a.1 ∧ eY a + dY (dT u n a.1) * lT u n a.1 ≤ H
      · rw [pEd_3 h1 h2 h3]
        exact (pNu_pp (s := (0, po a.1, nxT u n (pp a.1))) hn.2.2 h2).2
      · rw [pEd_2 h1 h2 h3] at h
        exact (pFl_g (by decide) h).elim
    · rw [pEd_1 h1 h2] at h
      exact absurd h h2
theorem pEd_s0 {u : Nat → Int} {n W H : Nat} {a : PO4} (h : pc (pEd u n W H a).1 = 0) : tkU u n (pp a.1) < 10 → False := by
  intro h1
  rw [pEd_0 h1] at h
  exact pFl_g (by decide) h
theorem pEs_pp {u : Nat → Int} {n W H : Nat} : ∀ (m : Nat) (a : PO4), NwS u n a.1 → pc (pEs u n W H m a).1 = 0 → pp a.1 ≤ pp (pEs u n W H m a).1 ∧ NwS u n (pEs u n W H m a).1
  | 0, a, hb, _ => ⟨Nat.le_refl _, hb⟩
  | m + 1, a, hb, h => by
    by_cases c : pc a.1 = 0 ∧ ¬ tkU u n (pp a.1) = 3
    · rw [pEs_s c.1 c.2] at h ⊢
      by_cases z : pc (pEd u n W H a).1 = 0
      · have q := pEd_nw hb z
        have q2 := pEs_pp m (pEd u n W H a) q.2 h
        exact ⟨by omega, q2.2⟩
      · rw [pEs_e (fun g => z g.1)] at h
        exact absurd h z
    · rw [pEs_e c]
      exact ⟨Nat.le_refl _, hb⟩
theorem pOl_pp {u : Nat → Int} {n W H : Nat} {M : Mo} {x y : Int} {s : PE} (hb : NwS u n s) (h : pc (pOl u n W H M x y s).1 = 0) : pp s < pp (pOl u n W H M x y s).1 ∧ NwS u n (pOl u n W H M x y s).1 := by
  unfold pOl at h ⊢
  obtain ⟨a, ha⟩ : ∃ a, a = pEs u n W H 700 (pEd u n W H (s, x, y, fun _ => false)) := ⟨_, rfl⟩
  rw [← ha] at h ⊢
  have e : (olE u n M x y a).1 = pKw u n 3 a.1 := by
    by_cases h1 : pc (pKw u n 3 a.1) = 0
    · by_cases h2 : eX a = x ∧ eY a = y ∧ ¬ cn (eS a) 576 = 0
      · rw [olE_2 h1 h2]
      · rw [olE_1 h1 h2] at h
        exact (pFl_g (by decide) h).elim
    · rw [olE_0 h1]
  rw [e] at h ⊢
  have z := (pKw_g h).1
  rw [ha] at z
  have z2 : pc (pEd u n W H (s, x, y, fun _ => false)).1 = 0 := by
    apply Classical.byContradiction
    intro c
    rw [pEs_e (fun g => c g.1)] at z
    exact c z
  have q1 := pEd_nw (a := (s, x, y, fun _ => false)) hb z2
  have q2 := pEs_pp 700 _ q1.2 z
  rw [← ha] at q2
  have q3 := pKw_pp q2.2 (by decide) h
  have b1 : pp ((s, x, y, fun _ => false) : PO4).1 = pp s := rfl
  exact ⟨by omega, q3.2⟩
theorem pSh_pp {u : Nat → Int} {n W H : Nat} {M : Mo} {s : PE} (hb : NwS u n s) (h : pc (pSh u n W H M s).1 = 0) : pp s < pp (pSh u n W H M s).1 ∧ NwS u n (pSh u n W H M s).1 := by
  by_cases g : pc (pNu u n 0 H (pNu u n 0 W (pKw u n 9 (s0Sh u n M s)))) = 0
  · rw [pSh_1 g] at h ⊢
    have z2 := (pNu_g g).1
    have z1 := (pNu_g z2).1
    have z0 := (pKw_g z1).1
    have es : s0Sh u n M s = s := by
      unfold s0Sh at z0 ⊢
      by_cases e : tkU u n (pp s) = 9 ∧ 8 ≤ mN M
      · rw [if_pos e] at z0; exact (pFl_g (by decide) z0).elim
      · rw [if_neg e]
    rw [es] at g z2 z1 h ⊢
    have a1 := pKw_pp hb (by decide) z1
    have a2 := pNu_pp a1.2 z2
    have a3 := pNu_pp a2.2 g
    have a4 := pOl_pp a3.2 h
    exact ⟨by omega, a4.2⟩
  · rw [pSh_0 g] at h
    exact absurd h g
/-- a text's cells -/
def PRt : Nat → Int → Prop := fun a b => a = 605 ∨ a = 620 ∨ a = 637 ∨ (a = 603 ∧ (b = 5 ∨ b = 6 ∨ (53 ≤ b ∧ b ≤ 60)))
theorem PTm_t : ∀ a b, PTm a b → PRt a b := fun a b h => by unfold PTm at h; unfold PRt; omega
theorem P57_r : ∀ a b, P57 a b → PRt a b := fun a b h => by unfold P57 at h; unfold PRt; omega
theorem PRs_t : ∀ a b, PRs a b → PRt a b := fun a b h => by unfold PRs at h; unfold PRt; omega
theorem PRp_t : ∀ a b, PRp a b → PRt a b := fun a b h => by unfold PRp at h; unfold PRt; omega
theorem l_rtx (T : ZTh (XX Ln xs) CZ RZ) {d b : Nat} {Q : ZQ} {W H : Nat} {a0 : PE × Mo} {u : Nat → Int} {n : Nat} {I0 : ZI} {L : ZL} (hT : TabOK I0) (h : ∀ I', Fr PRt I0 I' → PSm I' u n a0.1 → (I' 603 5 = W ∧ I' 603 6 = H) → DrM I' a0.2 → Q (.inl none) I' L) (m : Nat) : ∀ (k : Nat) (a : PE × Mo) (I : ZI), (k ≤ 700) → (Fr PRt I0 I) → (I 603 5 = W ∧ I 603 6 = H) → (PSm I u n a.1) → (DrM I a.2) → (Wf W H a.2) → (pc a.1 = 0 → k ≤ pp a.1) → (pSts u n W H (700 - k) a = a0) → 701 - (k : Int) < (m : Int) → RZ (d + 6) k_X12_readsText Q 51 [.inr (.ref 603, 13)] [] b I L := by
  induction m with
  | zero =>
    intro k a I hk hfr hW hS hd hw hp ha hm
    exfalso
    omega
  | succ m ih =>
    intro k a I hk hfr hW hS hd hw hp ha hm
    obtain ⟨m1, ⟨m2, m3, m4⟩, m5, m6, m7, m8⟩ := id hS
    obtain ⟨eW9, eH9⟩ := id hW
    obtain ⟨⟨⟨w1, w2, w3, w4⟩, -⟩, w5, -⟩ := id hw
    have hT9 : TabOK I := hT.fr (fun a b _ _ => hfr _ _ (by unfold PRt; omega))
    refine T.go [51] 120 ?_
    conv => whnf
    refine zinv0 (s_X12_isGood T (u := u) (n := n) (s := a.1) (by exact hS) ?_ ?_)
    · intro cha_52
      conv => whnf
      refine ⟨by decide, fun c => absurd c (by decide), fun _ => ?_⟩
      conv => whnf
      refine ⟨by decide, ?_⟩
      conv => whnf
      refine ⟨by exact ⟨by omega, by omega⟩, fun c62 => ?_, fun c62 => ?_⟩
      · conv => whnf
        rw [show a0 = a from by rw [← ha]; exact pSts_e (fun c => c.2 (by
            obtain ⟨t1, t2, t3⟩ := m5 cha_52
            rw [t3.2.2.1] at c62
            exact sort_0.mp c62)) _] at h
        exact h I hfr hS ⟨eW9, eH9⟩ hd
      · conv => whnf
        obtain ⟨t1, t2, t3⟩ := m5 cha_52
        rw [t3.2.2.1] at c62
        have hkp := hp cha_52
        have hn7 := m1.2.1
        have q0 : ¬ tkU u n (pp a.1) = 0 := fun e => c62 (sort_0.mpr e)
        have hpn : pp a.1 < n := tkU_0 (u := u) q0
        obtain ⟨m2, hm2⟩ : ∃ m2, 700 - k = m2 + 1 := ⟨700 - k - 1, by omega⟩
        rw [hm2] at ha
        refine zinv0 (s_X12_isWord T 5 (u := u) (n := n) (s := a.1) (by exact hS) (by omega) (by rfl) ?_ ?_)
        · intro cha_69
          conv => whnf
          refine ⟨by decide, fun c => absurd c (by decide), fun _ => ?_⟩
          conv => whnf
          refine zinv0 (s_X12_readsPiece T (W := W) (H := H) a.2 (u := u) (n := n) (s := a.1) (by exact hS) (by exact cha_69.1) (by exact cha_69.2) (by exact hd) (by exact w5) (by exact hT9) (by exact hw.1) (by exact eW9) (by exact eH9) ?_)
          intro I_76 hf_76 hS_76 hd_76
          conv => whnf
          rw [pSts_p cha_52 q0 cha_69.2] at ha
          refine ih (k + 1) (pPc u n W H a.2 a.1) I_76 (by omega) (hfr.trans (hf_76.mono PRp_t)) ⟨(hf_76 _ _ (by unfold PRp; omega)).trans eW9, (hf_76 _ _ (by unfold PRp; omega)).trans eH9⟩ hS_76 hd_76 (pPc_wf hw) (fun g => ?_) (by rw [show 700 - (k + 1) = m2 by omega]; exact ha) (by omega)
          have := (pPc_pp t2 g).1
          omega
        · intro ch2a_69
          conv => whnf
          refine ⟨by decide, fun _ => ?_, fun c => absurd c (by decide)⟩
          conv => whnf
          refine zinv0 (s_X12_isWord T 9 (u := u) (n := n) (s := a.1) (by exact hS) (by omega) (by rfl) ?_ ?_)
          · intro cha_87
            conv => whnf
            refine zinv0 (s_X12_must T (w := 1) (f := 1) (u := u) (n := n) (s := a.1) (by exact hS) (by omega) (by omega) ?_)
            intro I_91 hf_91 hS_91
            conv => whnf
            refine zinv0 (s_X12_readsShape T (W := W) (H := H) a.2 (f := 1) (u := u) (n := n) (s := a.1) (by exact hS_91) (by exact cha_52) (by exact Or.inl ⟨rfl, cha_87.2⟩) (by exact hd.fr w5 (fun b => hf_91 _ _ (by unfold P57; omega))) (by exact w5) (by exact ⟨(hf_91 _ _ (by unfold P57; omega)).trans eW9, w2⟩) (by exact ⟨(hf_91 _ _ (by unfold P57; omega)).trans eH9, w4⟩) ?_)
            intro I_95 hf_95 hS_95 hd_95
            conv => whnf
            rw [pSts_s cha_52 q0 (fun c => ch2a_69 ⟨cha_52, c⟩)] at ha
            refine ih (k + 1) (pSh u n W H a.2 a.1) I_95 (by omega) ((hfr.trans (hf_91.mono P57_r)).trans (hf_95.mono PRs_t)) ⟨(hf_95 _ _ (by unfold PRs; omega)).trans ((hf_91 _ _ (by unfold P57; omega)).trans eW9), (hf_95 _ _ (by unfold PRs; omega)).trans ((hf_91 _ _ (by unfold P57; omega)).trans eH9)⟩ hS_95 hd_95 (pSh_wf hw) (fun g => ?_) (by rw [show 700 - (k + 1) = m2 by omega]; exact ha) (by omega)
            have := (pSh_pp t2 g).1
            omega
          · intro ch2a_87
            conv => whnf
            refine zinv0 (s_X12_must T (w := 1) (f := 0) (u := u) (n := n) (s := a.1) (by exact hS) (by omega) (by omega) ?_)
            intro I_91 hf_91 hS_91
            conv => whnf
            refine zinv0 (s_X12_readsShape T (W := W) (H := H) a.2 (f := 0) (u := u) (n := n) (s := a.1) (by exact hS_91) (by exact cha_52) (by exact Or.inr ⟨rfl, fun c => ch2a_87 ⟨cha_52, c⟩⟩) (by exact hd.fr w5 (fun b => hf_91 _ _ (by unfold P57; omega))) (by exact w5) (by exact ⟨(hf_91 _ _ (by unfold P57; omega)).trans eW9, w2⟩) (by exact ⟨(hf_91 _ _ (by unfold P57; omega)).trans eH9, w4⟩) ?_)
            intro I_95 hf_95 hS_95 hd_95
            conv => whnf
            rw [pSts_s cha_52 q0 (fun c => ch2a_69 ⟨cha_52, c⟩)] at ha
            refine ih (k + 1) (pSh u n W H a.2 a.1) I_95 (by omega) ((hfr.trans (hf_91.mono P57_r)).trans (hf_95.mono PRs_t)) ⟨(hf_95 _ _ (by unfold PRs; omega)).trans ((hf_91 _ _ (by unfold P57; omega)).trans eW9), (hf_95 _ _ (by unfold PRs; omega)).trans ((hf_91 _ _ (by unfold P57; omega)).trans eH9)⟩ hS_95 hd_95 (pSh_wf hw) (fun g => ?_) (by rw [show 700 - (k + 1) = m2 by omega]; exact ha) (by omega)
            have := (pSh_pp t2 g).1
            omega
    · intro ch2a_52
      conv => whnf
      refine ⟨by decide, fun _ => ?_, fun c => absurd c (by decide)⟩
      conv => whnf
      rw [show a0 = a from by rw [← ha]; exact pSts_e (fun c => ch2a_52 c.1) _] at h
      exact h I hfr hS ⟨eW9, eH9⟩ hd
theorem l_rtxB (T : ZTh (XX Ln xs) CZ RZ) {d b : Nat} {Q : ZQ} {u : Nat → Int} {n : Nat} {s : PE} {I : ZI} {L : ZL} (hS : PSm I u n s) (h0 : ¬ pc s = 0) (h : Q (.inl none) I L) : RZ (d + 6) k_X12_readsText Q 51 [.inr (.ref 603, 13)] [] b I L := by
  refine T.go [] 90 ?_
  conv => whnf
  refine zinv0 (s_X12_isGood T (u := u) (n := n) (s := s) (by exact hS) ?_ ?_)
  · intro cha_52
    exact absurd cha_52 h0
  · intro ch2a_52
    conv => whnf
    refine ⟨by decide, fun _ => ?_, fun c => absurd c (by decide)⟩
    conv => whnf
    exact h
theorem s_X12_readsText (T : ZTh (XX Ln xs) CZ RZ) {d b : Nat} {u : Nat → Int} {n : Nat} {I : ZI} {L : ZL} {Q : ZQ} (hS : PSm I u n (0, 0, posA u n 0)) (hT : TabOK I) (hd : DrM I offM) (h : ∀ I', Fr PRt I I' → PSm I' u n (pTx u n).1 → (pc (pTx u n).1 = 0 → pc (hw4 u n) = 0 ∧ (I' 603 5 = (txW u n : Nat) ∧ I' 603 6 = (txH u n : Nat)) ∧ DrM I' (pTx u n).2) → Q (.inl none) I' L) : CZ (d + 7) k_X12_readsText [.inr (.ref 603, 13)] b I L Q := by
  refine T.call rfl ?_
  refine T.go [51] 150 ?_
  conv => whnf
  refine zinv0 (s_X12_needs T 4 (u := u) (n := n) (s := (0, 0, posA u n 0)) (by exact hS) (by omega) (by rfl) ?_)
  intro I_4 hf_4 hS_4
  conv => whnf
  refine zinv0 (s_X12_reads T (u := u) (n := n) (s := hw1 u n) (by exact hS_4) (by decide) (by decide) ?_)
  intro I_12 hf_12 hS_12
  conv => whnf
  refine ⟨by decide, ?_⟩
  conv => whnf
  refine zinv0 (s_X12_reads T (u := u) (n := n) (s := hw2 u n) (by exact PSm.fr (s := hw2 u n) hS_12 (fun a b g => v2_ne (by omega))) (by decide) (by decide) ?_)
  intro I_23 hf_23 hS_23
  conv => whnf
  refine ⟨by decide, ?_⟩
  conv => whnf
  refine ⟨by decide, ?_⟩
  conv => whnf
  refine ⟨by have q := hS_23.2.2.2.2; rw [v2_ne (by omega)]; exact ⟨⟨by omega, by omega⟩, ⟨by omega, by omega⟩⟩, fun c35 => ?_, fun c35 => ?_⟩
  · conv => whnf
    refine zinv0 (s_X12_must T (w := 1) (f := 0) (u := u) (n := n) (s := hw3 u n) (by exact PSm.fr (s := hw3 u n) hS_23 (fun a b g => v2_ne (by omega))) (by omega) (by omega) ?_)
    intro I_44 hf_44 hS_44
    conv => whnf
    refine zinv0 (s_X12_goesOn T (u := u) (n := n) (s := pMu 0 1 (hw3 u n)) (by exact hS_44) ?_)
    intro I_48 hf_48 hS_48
    conv => whnf
    have ek : pGo u n (pMu 0 1 (hw3 u n)) = hw4 u n := pKw_go (s := hw3 u n) (fun g => by
      obtain ⟨t1, t2, t3⟩ := hS_23.2.2.1 g
      rw [v2_ne (by omega), t3.2.2.1] at c35
      have q : sortU u n (pp (hw3 u n)) = 3 ↔ tkU u n (pp (hw3 u n)) = 3 := sort_3 t2
      have c35' : ¬ sortU u n (pp (hw3 u n)) = 3 := c35
      exact Or.inr ⟨rfl, fun c => c35' (q.mpr c)⟩)
    rw [ek] at hS_48
    have fr9 : Fr PRt I I_48 := ((((((hf_4.mono PTm_t).trans (hf_12.mono PTm_t)).v2 (by unfold PRt; omega)).trans (hf_23.mono PTm_t)).v2 (by unfold PRt; omega)).trans (hf_44.mono P57_r)).trans (hf_48.mono PTm_t)
    by_cases g : pc (hw4 u n) = 0
    · obtain ⟨g1, g2, g3, g4, g5⟩ := hw4_g g
      refine l_rtx T (W := txW u n) (H := txH u n) (a0 := pTx u n) (I0 := I) hT (fun I2 f2 s2 wh2 d2 => h I2 f2 s2 (fun _ => ⟨g, wh2, d2⟩)) 702 0 (hw4 u n, offM) I_48 (by omega) fr9 ⟨?_, ?_⟩ hS_48 (hd.fr (Nat.zero_le _) (fun b => ?_)) (offM_wf g3) (fun _ => Nat.zero_le _) rfl (by omega)
      · rw [hf_48 _ _ (by unfold PTm; omega), hf_44 _ _ (by unfold P57; omega), v2_ne (by omega), hf_23 _ _ (by unfold PTm; omega), v2_eq]
        exact (if_pos g4).trans g1
      · rw [hf_48 _ _ (by unfold PTm; omega), hf_44 _ _ (by unfold P57; omega), v2_eq]
        exact (if_pos g5).trans g2
      · rw [hf_48 _ _ (by unfold PTm; omega), hf_44 _ _ (by unfold P57; omega), v2_ne (by omega), hf_23 _ _ (by unfold PTm; omega), v2_ne (by omega), hf_12 _ _ (by unfold PTm; omega), hf_4 _ _ (by unfold PTm; omega)]
    · have e9 : pTx u n = (hw4 u n, offM) := pSts_e (fun c => g c.1) _
      rw [e9] at h
      exact l_rtxB T hS_48 g (h I_48 fr9 hS_48 (fun e => absurd e g))
  · conv => whnf
    refine zinv0 (s_X12_must T (w := 1) (f := 1) (u := u) (n := n) (s := hw3 u n) (by exact PSm.fr (s := hw3 u n) hS_23 (fun a b g => v2_ne (by omega))) (by omega) (by omega) ?_)
    intro I_44 hf_44 hS_44
    conv => whnf
    refine zinv0 (s_X12_goesOn T (u := u) (n := n) (s := pMu 1 1 (hw3 u n)) (by exact hS_44) ?_)
    intro I_48 hf_48 hS_48
    conv => whnf
    have ek : pGo u n (pMu 1 1 (hw3 u n)) = hw4 u n := pKw_go (s := hw3 u n) (fun g => by
      obtain ⟨t1, t2, t3⟩ := hS_23.2.2.1 g
      rw [v2_ne (by omega), t3.2.2.1] at c35
      have q : sortU u n (pp (hw3 u n)) = 3 ↔ tkU u n (pp (hw3 u n)) = 3 := sort_3 t2
      have c35' : sortU u n (pp (hw3 u n)) = 3 := c35
      exact Or.inl ⟨rfl, q.mp c35'⟩)
    rw [ek] at hS_48
    have fr9 : Fr PRt I I_48 := ((((((hf_4.mono PTm_t).trans (hf_12.mono PTm_t)).v2 (by unfold PRt; omega)).trans (hf_23.mono PTm_t)).v2 (by unfold PRt; omega)).trans (hf_44.mono P57_r)).trans (hf_48.mono PTm_t)
    by_cases g : pc (hw4 u n) = 0
    · obtain ⟨g1, g2, g3, g4, g5⟩ := hw4_g g
      refine l_rtx T (W := txW u n) (H := txH u n) (a0 := pTx u n) (I0 := I) hT (fun I2 f2 s2 wh2 d2 => h I2 f2 s2 (fun _ => ⟨g, wh2, d2⟩)) 702 0 (hw4 u n, offM) I_48 (by omega) fr9 ⟨?_, ?_⟩ hS_48 (hd.fr (Nat.zero_le _) (fun b => ?_)) (offM_wf g3) (fun _ => Nat.zero_le _) rfl (by omega)
      · rw [hf_48 _ _ (by unfold PTm; omega), hf_44 _ _ (by unfold P57; omega), v2_ne (by omega), hf_23 _ _ (by unfold PTm; omega), v2_eq]
        exact (if_pos g4).trans g1
      · rw [hf_48 _ _ (by unfold PTm; omega), hf_44 _ _ (by unfold P57; omega), v2_eq]
        exact (if_pos g5).trans g2
      · rw [hf_48 _ _ (by unfold PTm; omega), hf_44 _ _ (by unfold P57; omega), v2_ne (by omega), hf_23 _ _ (by unfold PTm; omega), v2_ne (by omega), hf_12 _ _ (by unfold PTm; omega), hf_4 _ _ (by unfold PTm; omega)]
    · have e9 : pTx u n = (hw4 u n, offM) := pSts_e (fun c => g c.1) _
      rw [e9] at h
      exact l_rtxB T hS_48 g (h I_48 fr9 hS_48 (fun e => absurd e g))
end
