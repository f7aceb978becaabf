/-! THE REFERENCE, TEXTS 8: words, numbers -/
section
variable {Ln : Nat} {xs : Nat → Int32} {CZ : Nat → ZC} {RZ : Nat → Nat → ZQ → ZP}
theorem l_misW (T : ZTh (XX Ln xs) CZ RZ) {d b : Nat} {Q : ZQ} {r i : Nat} {u : Nat → Int} {n : Nat} {s : PE} {I : ZI} {L : ZL} (hS : PSm I u n s) (hi : 4 ≤ i ∧ i < 18) (hr : r = 10047 + i) (h0 : pc s = 0) (h1 : pp s < n ∧ bS (u (pp s)) = 1) (hlen : tE u n (pp s) - pp s = (wtx i).length) (h : tkU u n (pp s) = i → Q (.inl (some (.inl 1))) I L) (h2 : ¬ tkU u n (pp s) = i → Q (.inl (some (.inl 0))) I L) (m : Nat) : ∀ (k : Nat), (k ≤ (wtx i).length) → (∀ j, j < k → u (pp s + j) = ((wtx i).getD j 0 : Nat)) → 6 - (k : Int) < (m : Int) → RZ (d + 1) k_X12_isWord Q 35 [.inr (.ref 603, 13), .inr (.ref r, 20), .inl ((k : Int))] [] b I L := by
  induction m with
  | zero =>
    intro k hk hv hm
    have := (wtx_b i hi.2).1
    exfalso
    omega
  | succ m ih =>
    intro k hk hv hm
    obtain ⟨m1, ⟨m2, m3, m4⟩, m5, m6, m7, m8⟩ := id hS
    obtain ⟨x1, x2⟩ := txr_ok (Ln := Ln) (xs := xs) hi hr
    obtain ⟨y1, y2⟩ := wtx_b i hi.2
    obtain ⟨g1, g2, g3⟩ := m5 h0
    obtain ⟨k1, k2, k3, k4⟩ := id g3
    have hn7 := m1.2.1
    have hw9 := tk_w (u := u) (n := n) (p := pp s) (i := i) g2 hi
    have hs1 := sort_1 (u := u) (n := n) (p := pp s)
    have ht9 := tE_b h1.1 (g2 h1.1)
    refine T.go [35] 90 ?_
    conv => whnf
    refine ⟨by rw [x1]; omega, fun c40 => ?_, fun c40 => ?_⟩
    · conv => whnf
      refine ⟨by omega, ?_⟩
      rw [x1] at c40
      exact h (hw9.mpr ⟨h1.1, h1.2, wmB_iff.mpr ⟨hlen, fun j hj => hv j (by omega)⟩⟩)
    · conv => whnf
      rw [x1] at c40
      have hkl : pp s + k < n := by omega
      refine ⟨by decide, _, rfl, ?_⟩
      conv => whnf
      refine ⟨by decide, ?_⟩
      conv => whnf
      refine ⟨by rw [k1]; omega, by decide, ?_⟩
      conv => whnf
      refine ⟨by omega, ?_⟩
      conv => whnf
      refine ⟨by rw [k1, show ((pp s : Nat) : Int) + (k : Int) = ((pp s + k : Nat) : Int) by omega, (m1.2.2 (pp s + k) (by omega)).1, show ((k : Nat) : Int).toNat = k from Int.toNat_natCast k, x2 k (by omega)]; have := y2 k; have := (m1.2.2 (pp s + k) (by omega)).2; exact ⟨⟨by omega, by omega⟩, ⟨by omega, by omega⟩⟩, fun c59 => ?_, fun c59 => ?_⟩
      · conv => whnf
        rw [k1, show ((pp s : Nat) : Int) + (k : Int) = ((pp s + k : Nat) : Int) by omega, (m1.2.2 (pp s + k) (by omega)).1, show ((k : Nat) : Int).toNat = k from Int.toNat_natCast k, x2 k (by omega)] at c59
        refine ih (k + 1) (by omega) (fun j hj => ?_) (by omega)
        by_cases ej : j = k
        · rw [ej]; exact c59
        · exact hv j (by omega)
      · conv => whnf
        refine ⟨by omega, ?_⟩
        rw [k1, show ((pp s : Nat) : Int) + (k : Int) = ((pp s + k : Nat) : Int) by omega, (m1.2.2 (pp s + k) (by omega)).1, show ((k : Nat) : Int).toNat = k from Int.toNat_natCast k, x2 k (by omega)] at c59
        exact h2 (fun c => c59 ((wmB_iff.mp (hw9.mp c).2.2).2 k (by omega)))
theorem s_X12_isWord (T : ZTh (XX Ln xs) CZ RZ) {d b : Nat} {r : Nat} (i : Nat) {u : Nat → Int} {n : Nat} {s : PE}  {I : ZI} {L : ZL} {Q : ZQ} (hS : PSm I u n s) (hi : 4 ≤ i ∧ i < 18) (hr : r = 10047 + i) (h : pc s = 0 ∧ tkU u n (pp s) = i → Q (.inl (some (.inl (1)))) I L) (h2 : ¬ (pc s = 0 ∧ tkU u n (pp s) = i) → Q (.inl (some (.inl (0)))) I L) : CZ (d + 2) k_X12_isWord [.inr (.ref 603, 13), .inr (.ref r, 20)] b I L Q := by
  refine T.call rfl ?_
  obtain ⟨m1, ⟨m2, m3, m4⟩, m5, m6, m7, m8⟩ := id hS
  obtain ⟨x1, x2⟩ := txr_ok (Ln := Ln) (xs := xs) hi hr
  obtain ⟨y1, y2⟩ := wtx_b i hi.2
  refine T.go [35] 90 ?_
  conv => whnf
  refine zinv0 (s_X12_isGood T (u := u) (n := n) (s := s) (by exact hS) ?_ ?_)
  · intro cha_1
    conv => whnf
    refine ⟨by decide, fun c => absurd c (by decide), fun _ => ?_⟩
    conv => whnf
    have h0 : pc s = 0 := by assumption
    obtain ⟨g1, g2, g3⟩ := m5 h0
    obtain ⟨k1, k2, k3, k4⟩ := id g3
    have hn7 := m1.2.1
    have hw9 := tk_w (u := u) (n := n) (p := pp s) (i := i) g2 hi
    have hs1 := sort_1 (u := u) (n := n) (p := pp s)
    
    refine ⟨by decide, ?_⟩
    conv => whnf
    refine ⟨by exact ⟨⟨by omega, by omega⟩, ⟨by omega, by omega⟩⟩, fun c12 => ?_, fun c12 => ?_⟩
    · conv => whnf
      refine ⟨by omega, ?_⟩
      rw [k3] at c12
      exact h2 (fun g => c12 (hs1.mpr ⟨(hw9.mp g.2).1, (hw9.mp g.2).2.1⟩))
    · conv => whnf
      rw [k3] at c12
      have h1 := hs1.mp c12
      have ht9 := tE_b h1.1 (g2 h1.1)
      refine ⟨by decide, ?_⟩
      conv => whnf
      refine ⟨by decide, ?_⟩
      conv => whnf
      refine ⟨by rw [x1, k1, k2, if_neg (by omega)]; exact ⟨⟨by omega, by omega⟩, ⟨by omega, by omega⟩⟩, fun c28 => ?_, fun c28 => ?_⟩
      · conv => whnf
        rw [x1, k1, k2, if_neg (by omega)] at c28
        exact l_misW T hS hi hr h0 h1 (by omega) (fun c => h ⟨h0, c⟩) (fun c => h2 (fun g => c g.2)) 7 0 (Nat.zero_le _) (fun j hj => absurd hj (Nat.not_lt_zero j)) (by omega)
      · conv => whnf
        refine ⟨by omega, ?_⟩
        rw [x1, k1, k2, if_neg (by omega)] at c28
        refine h2 (fun g => ?_)
        have := (wmB_iff.mp (hw9.mp g.2).2.2).1
        omega
  · intro ch2a_1
    conv => whnf
    refine ⟨by decide, fun _ => ?_, fun c => absurd c (by decide)⟩
    conv => whnf
    refine ⟨by omega, ?_⟩
    exact h2 (fun g => absurd g.1 (by assumption))
theorem s_X12_needs (T : ZTh (XX Ln xs) CZ RZ) {d b : Nat} {r : Nat} (w : Nat) {u : Nat → Int} {n : Nat} {s : PE}  {I : ZI} {L : ZL} {Q : ZQ} (hS : PSm I u n s) (hi : 4 ≤ w ∧ w < 18) (hr : r = 10047 + w) (h : ∀ I', Fr PTm I I' → PSm I' u n (pKw u n w s) → Q (.inl none) I' L) : CZ (d + 5) k_X12_needs [.inr (.ref 603, 13), .inr (.ref r, 20)] b I L Q := by
  refine T.call rfl ?_
  refine T.go [] 90 ?_
  conv => whnf
  refine zinv0 (s_X12_isWord T w (u := u) (n := n) (s := s) (by exact hS) (by exact hi) (by exact hr) ?_ ?_)
  · intro cha_3
    conv => whnf
    refine zinv0 (s_X12_must T (w := 1) (f := 1) (u := u) (n := n) (s := s) (by exact hS) (by omega) (by omega) ?_)
    intro I_7 hf_7 hS_7
    conv => whnf
    refine zinv0 (s_X12_goesOn T (u := u) (n := n) (s := pMu 1 1 s) (by exact hS_7) ?_)
    intro I_11 hf_11 hS_11
    conv => whnf
    have e1 : pGo u n (pMu 1 1 s) = pKw u n w s := pKw_go (fun g => Or.inl ⟨rfl, cha_3.2⟩)
    rw [e1] at hS_11
    exact h I_11 ((hf_7.mono P57_t).trans hf_11) hS_11
  · intro ch2a_3
    conv => whnf
    refine zinv0 (s_X12_must T (w := 1) (f := 0) (u := u) (n := n) (s := s) (by exact hS) (by omega) (by omega) ?_)
    intro I_7 hf_7 hS_7
    conv => whnf
    refine zinv0 (s_X12_goesOn T (u := u) (n := n) (s := pMu 0 1 s) (by exact hS_7) ?_)
    intro I_11 hf_11 hS_11
    conv => whnf
    have e1 : pGo u n (pMu 0 1 s) = pKw u n w s := pKw_go (fun g => Or.inr ⟨rfl, fun c => ch2a_3 ⟨g, c⟩⟩)
    rw [e1] at hS_11
    exact h I_11 ((hf_7.mono P57_t).trans hf_11) hS_11
theorem pNu_go {u : Nat → Int} {n : Nat} {a z f g : Int} {s : PE} (hf : pc s = 0 → (f = 1 ∧ tkU u n (pp s) = 2) ∨ (f = 0 ∧ ¬ tkU u n (pp s) = 2)) (hg : pc s = 0 → f = 1 → (g = 1 ∧ a ≤ nmA u n (pp s) ∧ nmA u n (pp s) ≤ z) ∨ (g = 0 ∧ ¬ (a ≤ nmA u n (pp s) ∧ nmA u n (pp s) ≤ z))) : pGo u n (pMu g 2 (pMu f 1 s)) = pNu u n a z s := by
  by_cases h0 : pc s = 0
  · rcases hf h0 with ⟨e, e2⟩ | ⟨e, e2⟩
    · rw [e, pMu_1]
      rcases hg h0 e with ⟨c, c2⟩ | ⟨c, c2⟩
      · rw [c, pMu_1, pGo_0 h0, pNu_0 h0 e2 (by omega)]
      · rw [c, pMu_0, pGo_1 (pFl_c (by decide)), pFl_0 h0, pNu_1 h0 e2 (by omega)]
    · have hb : ¬ pc (pFl 1 (pp s) s) = 0 := pFl_c (by decide)
      rw [e, pMu_0, pMu_b hb, pGo_1 hb, pFl_0 h0, pNu_2 h0 e2]
  · rw [pMu_b h0, pMu_b h0, pGo_1 h0, pNu_3 h0]
theorem pMu_g {w : Nat} {f : Int} {s : PE} (hw : w ≠ 0) (h : pc (pMu f w s) = 0) : pc s = 0 ∧ pMu f w s = s ∧ ¬ f = 0 := by
  unfold pMu at h ⊢
  by_cases e : f = 0
  · rw [if_pos e] at h
    exact (pFl_g hw h).elim
  · rw [if_neg e] at h ⊢
    exact ⟨h, rfl, e⟩
theorem s_X12_reads (T : ZTh (XX Ln xs) CZ RZ) {d b : Nat} {a z : Int} {u : Nat → Int} {n : Nat} {s : PE}  {I : ZI} {L : ZL} {Q : ZQ} (hS : PSm I u n s) (ha : zR a) (hzz : zR z) (h : ∀ I', Fr PTm I I' → PSm I' u n (pNu u n a z s) → Q (.inl (some (.inl ((if pc (pNu u n a z s) = 0 then nmA u n (pp s) else a))))) I' L) : CZ (d + 5) k_X12_reads [.inr (.ref 603, 13), .inl a, .inl z] b I L Q := by
  refine T.call rfl ?_
  obtain ⟨m1, ⟨m2, m3, m4⟩, m5, m6, m7, m8⟩ := id hS
  refine T.go [] 120 ?_
  conv => whnf
  refine ⟨by decide, ?_⟩
  conv => whnf
  refine ⟨by exact ⟨⟨by omega, by omega⟩, ⟨by omega, by omega⟩⟩, fun c6 => ?_, fun c6 => ?_⟩
  · conv => whnf
    refine zinv0 (s_X12_must T (w := 1) (f := 0) (u := u) (n := n) (s := s) (by exact hS) (by omega) (by omega) ?_)
    intro I_15 hf_15 hS_15
    conv => whnf
    refine ⟨by decide, ?_⟩
    conv => whnf
    refine ⟨by rw [hf_15 _ _ (by unfold P57; omega)]; omega, ?_⟩
    conv => whnf
    refine ⟨by omega, ?_⟩
    conv => whnf
    refine ⟨by omega, ?_⟩
    conv => whnf
    have e56b : zR (I_15 603 56) := by rw [hf_15 _ _ (by unfold P57; omega)]; exact m6
    refine zinv0 (s_X12_isIn T (v := I_15 603 56) (a := a) (z := z) (by omega) (by omega) (by omega) ?_ ?_)
    · intro cha_28
      conv => whnf
      refine zinv0 (s_X12_must T (w := 2) (f := 1) (u := u) (n := n) (s := pMu 0 1 s) (by exact hS_15) (by omega) (by omega) ?_)
      intro I_32 hf_32 hS_32
      conv => whnf
      refine ⟨by decide, ?_⟩
      conv => whnf
      refine zinv0 (s_X12_goesOn T (u := u) (n := n) (s := pMu 1 2 (pMu 0 1 s)) (by exact hS_32) ?_)
      intro I_41 hf_41 hS_41
      have hfE : pc s = 0 → ((0 : Int) = 1 ∧ tkU u n (pp s) = 2) ∨ ((0 : Int) = 0 ∧ ¬ tkU u n (pp s) = 2) := fun g => by
        obtain ⟨q1, q2, q3⟩ := m5 g
        rw [q3.2.2.1, sort_2 q2] at c6
        exact Or.inr ⟨rfl, c6⟩
      have hgE : pc s = 0 → (0 : Int) = 1 → ((1 : Int) = 1 ∧ a ≤ nmA u n (pp s) ∧ nmA u n (pp s) ≤ z) ∨ ((1 : Int) = 0 ∧ ¬ (a ≤ nmA u n (pp s) ∧ nmA u n (pp s) ≤ z)) := fun g g1 => by
        rcases hfE g with ⟨-, q⟩ | ⟨q, -⟩
        · have e56 : I_15 603 56 = nmA u n (pp s) := (hf_15 _ _ (by unfold P57; omega)).trans ((m5 g).2.2.2.2.2 q)
          rw [← e56]
          exact Or.inl ⟨rfl, cha_28⟩
        · omega
      have e1 := pNu_go hfE hgE
      rw [e1] at hS_41
      conv => whnf
      refine zinv0 (s_X12_isGood T (u := u) (n := n) (s := pNu u n a z s) (by exact hS_41) ?_ ?_)
      · intro cha_45
        conv => whnf
        refine ⟨by decide, fun c => absurd c (by decide), fun _ => ?_⟩
        conv => whnf
        have h0 : pc (pNu u n a z s) = 0 := by assumption
        have q := pNu_g h0
        have e32 : I_32 603 56 = nmA u n (pp s) := (hf_32 _ _ (by unfold P57; omega)).trans ((hf_15 _ _ (by unfold P57; omega)).trans ((m5 q.1).2.2.2.2.2 q.2.1))
        have h9 := h I_41 (((hf_15.mono P57_t).trans (hf_32.mono P57_t)).trans hf_41) hS_41
        rw [if_pos h0] at h9
        rw [e32]
        exact h9
      · intro ch2a_45
        conv => whnf
        refine ⟨by decide, fun _ => ?_, fun c => absurd c (by decide)⟩
        conv => whnf
        have h0 : ¬ pc (pNu u n a z s) = 0 := by assumption
        have h9 := h I_41 (((hf_15.mono P57_t).trans (hf_32.mono P57_t)).trans hf_41) hS_41
        rw [if_neg h0] at h9
        exact h9
    · intro ch2a_28
      conv => whnf
      refine zinv0 (s_X12_must T (w := 2) (f := 0) (u := u) (n := n) (s := pMu 0 1 s) (by exact hS_15) (by omega) (by omega) ?_)
      intro I_32 hf_32 hS_32
      conv => whnf
      refine ⟨by decide, ?_⟩
      conv => whnf
      refine zinv0 (s_X12_goesOn T (u := u) (n := n) (s := pMu 0 2 (pMu 0 1 s)) (by exact hS_32) ?_)
      intro I_41 hf_41 hS_41
      have hfE : pc s = 0 → ((0 : Int) = 1 ∧ tkU u n (pp s) = 2) ∨ ((0 : Int) = 0 ∧ ¬ tkU u n (pp s) = 2) := fun g => by
        obtain ⟨q1, q2, q3⟩ := m5 g
        rw [q3.2.2.1, sort_2 q2] at c6
        exact Or.inr ⟨rfl, c6⟩
      have hgE : pc s = 0 → (0 : Int) = 1 → ((0 : Int) = 1 ∧ a ≤ nmA u n (pp s) ∧ nmA u n (pp s) ≤ z) ∨ ((0 : Int) = 0 ∧ ¬ (a ≤ nmA u n (pp s) ∧ nmA u n (pp s) ≤ z)) := fun g g1 => by
        rcases hfE g with ⟨-, q⟩ | ⟨q, -⟩
        · have e56 : I_15 603 56 = nmA u n (pp s) := (hf_15 _ _ (by unfold P57; omega)).trans ((m5 g).2.2.2.2.2 q)
          rw [← e56]
          exact Or.inr ⟨rfl, ch2a_28⟩
        · omega
      have e1 := pNu_go hfE hgE
      rw [e1] at hS_41
      conv => whnf
      refine zinv0 (s_X12_isGood T (u := u) (n := n) (s := pNu u n a z s) (by exact hS_41) ?_ ?_)
      · intro cha_45
        conv => whnf
        refine ⟨by decide, fun c => absurd c (by decide), fun _ => ?_⟩
        conv => whnf
        have h0 : pc (pNu u n a z s) = 0 := by assumption
        have q := pNu_g h0
        have e32 : I_32 603 56 = nmA u n (pp s) := (hf_32 _ _ (by unfold P57; omega)).trans ((hf_15 _ _ (by unfold P57; omega)).trans ((m5 q.1).2.2.2.2.2 q.2.1))
        have h9 := h I_41 (((hf_15.mono P57_t).trans (hf_32.mono P57_t)).trans hf_41) hS_41
        rw [if_pos h0] at h9
        rw [e32]
        exact h9
      · intro ch2a_45
        conv => whnf
        refine ⟨by decide, fun _ => ?_, fun c => absurd c (by decide)⟩
        conv => whnf
        have h0 : ¬ pc (pNu u n a z s) = 0 := by assumption
        have h9 := h I_41 (((hf_15.mono P57_t).trans (hf_32.mono P57_t)).trans hf_41) hS_41
        rw [if_neg h0] at h9
        exact h9
  · conv => whnf
    refine zinv0 (s_X12_must T (w := 1) (f := 1) (u := u) (n := n) (s := s) (by exact hS) (by omega) (by omega) ?_)
    intro I_15 hf_15 hS_15
    conv => whnf
    refine ⟨by decide, ?_⟩
    conv => whnf
    refine ⟨by rw [hf_15 _ _ (by unfold P57; omega)]; omega, ?_⟩
    conv => whnf
    refine ⟨by omega, ?_⟩
    conv => whnf
    refine ⟨by omega, ?_⟩
    conv => whnf
    have e56b : zR (I_15 603 56) := by rw [hf_15 _ _ (by unfold P57; omega)]; exact m6
    refine zinv0 (s_X12_isIn T (v := I_15 603 56) (a := a) (z := z) (by omega) (by omega) (by omega) ?_ ?_)
    · intro cha_28
      conv => whnf
      refine zinv0 (s_X12_must T (w := 2) (f := 1) (u := u) (n := n) (s := pMu 1 1 s) (by exact hS_15) (by omega) (by omega) ?_)
      intro I_32 hf_32 hS_32
      conv => whnf
      refine ⟨by decide, ?_⟩
      conv => whnf
      refine zinv0 (s_X12_goesOn T (u := u) (n := n) (s := pMu 1 2 (pMu 1 1 s)) (by exact hS_32) ?_)
      intro I_41 hf_41 hS_41
      have hfE : pc s = 0 → ((1 : Int) = 1 ∧ tkU u n (pp s) = 2) ∨ ((1 : Int) = 0 ∧ ¬ tkU u n (pp s) = 2) := fun g => by
        obtain ⟨q1, q2, q3⟩ := m5 g
        rw [q3.2.2.1, sort_2 q2] at c6
        exact Or.inl ⟨rfl, c6⟩
      have hgE : pc s = 0 → (1 : Int) = 1 → ((1 : Int) = 1 ∧ a ≤ nmA u n (pp s) ∧ nmA u n (pp s) ≤ z) ∨ ((1 : Int) = 0 ∧ ¬ (a ≤ nmA u n (pp s) ∧ nmA u n (pp s) ≤ z)) := fun g g1 => by
        rcases hfE g with ⟨-, q⟩ | ⟨q, -⟩
        · have e56 : I_15 603 56 = nmA u n (pp s) := (hf_15 _ _ (by unfold P57; omega)).trans ((m5 g).2.2.2.2.2 q)
          rw [← e56]
          exact Or.inl ⟨rfl, cha_28⟩
        · omega
      have e1 := pNu_go hfE hgE
      rw [e1] at hS_41
      conv => whnf
      refine zinv0 (s_X12_isGood T (u := u) (n := n) (s := pNu u n a z s) (by exact hS_41) ?_ ?_)
      · intro cha_45
        conv => whnf
        refine ⟨by decide, fun c => absurd c (by decide), fun _ => ?_⟩
        conv => whnf
        have h0 : pc (pNu u n a z s) = 0 := by assumption
        have q := pNu_g h0
        have e32 : I_32 603 56 = nmA u n (pp s) := (hf_32 _ _ (by unfold P57; omega)).trans ((hf_15 _ _ (by unfold P57; omega)).trans ((m5 q.1).2.2.2.2.2 q.2.1))
        have h9 := h I_41 (((hf_15.mono P57_t).trans (hf_32.mono P57_t)).trans hf_41) hS_41
        rw [if_pos h0] at h9
        rw [e32]
        exact h9
      · intro ch2a_45
        conv => whnf
        refine ⟨by decide, fun _ => ?_, fun c => absurd c (by decide)⟩
        conv => whnf
        have h0 : ¬ pc (pNu u n a z s) = 0 := by assumption
        have h9 := h I_41 (((hf_15.mono P57_t).trans (hf_32.mono P57_t)).trans hf_41) hS_41
        rw [if_neg h0] at h9
        exact h9
    · intro ch2a_28
      conv => whnf
      refine zinv0 (s_X12_must T (w := 2) (f := 0) (u := u) (n := n) (s := pMu 1 1 s) (by exact hS_15) (by omega) (by omega) ?_)
      intro I_32 hf_32 hS_32
      conv => whnf
      refine ⟨by decide, ?_⟩
      conv => whnf
      refine zinv0 (s_X12_goesOn T (u := u) (n := n) (s := pMu 0 2 (pMu 1 1 s)) (by exact hS_32) ?_)
      intro I_41 hf_41 hS_41
      have hfE : pc s = 0 → ((1 : Int) = 1 ∧ tkU u n (pp s) = 2) ∨ ((1 : Int) = 0 ∧ ¬ tkU u n (pp s) = 2) := fun g => by
        obtain ⟨q1, q2, q3⟩ := m5 g
        rw [q3.2.2.1, sort_2 q2] at c6
        exact Or.inl ⟨rfl, c6⟩
      have hgE : pc s = 0 → (1 : Int) = 1 → ((0 : Int) = 1 ∧ a ≤ nmA u n (pp s) ∧ nmA u n (pp s) ≤ z) ∨ ((0 : Int) = 0 ∧ ¬ (a ≤ nmA u n (pp s) ∧ nmA u n (pp s) ≤ z)) := fun g g1 => by
        rcases hfE g with ⟨-, q⟩ | ⟨q, -⟩
        · have e56 : I_15 603 56 = nmA u n (pp s) := (hf_15 _ _ (by unfold P57; omega)).trans ((m5 g).2.2.2.2.2 q)
          rw [← e56]
          exact Or.inr ⟨rfl, ch2a_28⟩
        · omega
      have e1 := pNu_go hfE hgE
      rw [e1] at hS_41
      conv => whnf
      refine zinv0 (s_X12_isGood T (u := u) (n := n) (s := pNu u n a z s) (by exact hS_41) ?_ ?_)
      · intro cha_45
        conv => whnf
        refine ⟨by decide, fun c => absurd c (by decide), fun _ => ?_⟩
        conv => whnf
        have h0 : pc (pNu u n a z s) = 0 := by assumption
        have q := pNu_g h0
        have e32 : I_32 603 56 = nmA u n (pp s) := (hf_32 _ _ (by unfold P57; omega)).trans ((hf_15 _ _ (by unfold P57; omega)).trans ((m5 q.1).2.2.2.2.2 q.2.1))
        have h9 := h I_41 (((hf_15.mono P57_t).trans (hf_32.mono P57_t)).trans hf_41) hS_41
        rw [if_pos h0] at h9
        rw [e32]
        exact h9
      · intro ch2a_45
        conv => whnf
        refine ⟨by decide, fun _ => ?_, fun c => absurd c (by decide)⟩
        conv => whnf
        have h0 : ¬ pc (pNu u n a z s) = 0 := by assumption
        have h9 := h I_41 (((hf_15.mono P57_t).trans (hf_32.mono P57_t)).trans hf_41) hS_41
        rw [if_neg h0] at h9
        exact h9
end
