/-! THE REFERENCE, TEXTS 11: an edge -/
section
variable {Ln : Nat} {xs : Nat → Int32} {CZ : Nat → ZC} {RZ : Nat → Nat → ZQ → ZP}
theorem pMu_c {w : Nat} {s : PE} (hw : w ≠ 0) : ¬ pc (pMu 0 w s) = 0 := by
  rw [pMu_0]
  exact pFl_c hw
theorem pMu_c2 {g : Int} {v w : Nat} {s : PE} (hw : w ≠ 0) : ¬ pc (pMu g v (pMu 0 w s)) = 0 := by
  rw [pMu_b (pMu_c hw)]
  exact pMu_c hw
theorem pGo_m {u : Nat → Int} {n : Nat} {s : PE} (h0 : pc s = 0) (w : Nat) : pGo u n (pMu 1 w s) = (0, po s, nxT u n (pp s)) := by
  rw [pMu_1, pGo_0 h0]
theorem s_X12_readsEdge (T : ZTh (XX Ln xs) CZ RZ) {d b : Nat} {W H : Nat} {x y : Int} {S : Nat → Bool} {u : Nat → Int} {n : Nat} {s : PE}  {I : ZI} {L : ZL} {Q : ZQ} (hS : PSm I u n s) (h0 : pc s = 0) (hR : ArB I 637 S) (hx : I 603 59 = x) (hy : I 603 60 = y) (hxb : 0 ≤ x ∧ x ≤ 12) (hyb : 0 ≤ y ∧ y ≤ 12) (hW : I 603 5 = W ∧ W ≤ 12) (hH : I 603 6 = H ∧ H ≤ 12) (h : ∀ I', Fr PEm I I' → PSm I' u n (pEd u n W H (s, x, y, S)).1 → I' 603 59 = eX (pEd u n W H (s, x, y, S)) → I' 603 60 = eY (pEd u n W H (s, x, y, S)) → ArB I' 637 (eS (pEd u n W H (s, x, y, S))) → Q (.inl none) I' L) : CZ (d + 5) k_X12_readsEdge [.inr (.ref 603, 13)] b I L Q := by
  refine T.call rfl ?_
  refine T.go [59] 250 ?_
  conv => whnf
  refine zinv0 (s_X12_directionHere T (u := u) (n := n) (s := s) (by exact hS) ?_ ?_)
  · intro cha_1
    conv => whnf
    have ht18 := tkU_18 (u := u) (n := n) (p := pp s)
    refine ⟨by omega, fun c8 => by exfalso; omega, fun c8 => ?_⟩
    conv => whnf
    refine zinv0 (s_X12_must T (w := 1) (f := 1) (u := u) (n := n) (s := s) (by exact hS) (by omega) (by omega) ?_)
    intro I_17 hf_17 hS_17
    conv => whnf
    refine zinv0 (s_X12_goesOn T (u := u) (n := n) (s := pMu 1 1 s) (by exact hS_17) ?_)
    intro I_21 hf_21 hS_21
    conv => whnf
    refine ⟨by decide, ?_⟩
    conv => whnf
    refine ⟨by have q := hS_21.2.2.2.2; exact ⟨⟨by omega, by omega⟩, ⟨by omega, by omega⟩⟩, fun c30 => ?_, fun c30 => ?_⟩
    · conv => whnf
      refine zinv0 (s_X12_must T (w := 1) (f := 0) (u := u) (n := n) (s := pGo u n (pMu 1 1 s)) (by exact hS_21) (by omega) (by omega) ?_)
      intro I_39 hf_39 hS_39
      conv => whnf
      refine ⟨by decide, ?_⟩
      conv => whnf
      refine ⟨by exact hS_39.2.2.2.1, ?_⟩
      conv => whnf
      have e56b : zR (I_39 603 56) := hS_39.2.2.2.1
      refine zinv0 (s_X12_isIn T (v := I_39 603 56) (a := 1) (z := 12) (by omega) (by omega) (by omega) ?_ ?_)
      · intro cha_52
        conv => whnf
        refine zinv0 (s_X12_must T (w := 2) (f := 1) (u := u) (n := n) (s := pMu 0 1 (pGo u n (pMu 1 1 s))) (by exact hS_39) (by omega) (by omega) ?_)
        intro I_56 hf_56 hS_56
        conv => whnf
        have eA : ∀ (a : Nat) (b : Int), ¬ (a = 603 ∧ 53 ≤ b ∧ b ≤ 58) → I_56 a b = I a b := fun a b g => by rw [hf_56 _ _ (by unfold P57; omega), hf_39 _ _ (by unfold P57; omega), hf_21 _ _ (by unfold PTm; omega), hf_17 _ _ (by unfold P57; omega)]
        have fr9 : Fr PEm I I_56 := (((hf_17.mono P57_e).trans (hf_21.mono PTm_e)).trans (hf_39.mono P57_e)).trans (hf_56.mono P57_e)
        have eR9 : ArB I_56 637 S := hR.fr (fun b => eA _ _ (by omega))
        have ex9 : I_56 603 59 = x := (eA _ _ (by omega)).trans hx
        have ey9 : I_56 603 60 = y := (eA _ _ (by omega)).trans hy
        have eW9 : I_56 603 5 = W ∧ W ≤ 12 := ⟨(eA _ _ (by omega)).trans hW.1, hW.2⟩
        have eH9 : I_56 603 6 = H ∧ H ≤ 12 := ⟨(eA _ _ (by omega)).trans hH.1, hH.2⟩
        have h10 := cha_1.2
        have ht18 := tkU_18 (u := u) (n := n) (p := pp s)
        have c9 : ¬ tkU u n (pp s) < 10 := by omega
        rw [pGo_m h0] at hS_56 hS_39 hS_21
        obtain ⟨t1, t2, t3⟩ := hS_21.2.2.1 rfl
        have e55 : I_21 603 55 = 2 ↔ tkU u n (nxT u n (pp s)) = 2 := by rw [t3.2.2.1]; exact sort_2 t2
        have e56 : tkU u n (nxT u n (pp s)) = 2 → I_39 603 56 = nmA u n (nxT u n (pp s)) := fun g => (hf_39 _ _ (by unfold P57; omega)).trans (t3.2.2.2 g)
        have e56z : I_56 603 56 = I_39 603 56 := hf_56 _ _ (by unfold P57; omega)
        have eN := pNu_go (u := u) (n := n) (a := 1) (z := 12) (f := 0) (g := 1) (s := (0, po s, nxT u n (pp s))) (fun _ => Or.inr ⟨rfl, fun c => c30 (e55.mpr c)⟩) (fun _ c => absurd c (by decide))
        have hb9 : ¬ pc (pMu 1 2 (pMu 0 1 (0, po s, nxT u n (pp s)))) = 0 := pMu_c2 (by decide)
        rw [pGo_1 hb9] at eN
        rw [eN] at hb9 hS_56
        have e1 := pEd_1 (u := u) (n := n) (W := W) (H := H) (a := ((s, x, y, S) : PO4)) c9 hb9
        rw [e1] at h
        exact l_re59 T (x := x) (y := y) (z := ((tkU u n (pp s) : Nat) : Int) - 10) (S := S) hS_56 eR9 ex9 ey9 hxb hyb eW9 eH9 (fun g => absurd g hb9) (fun _ I2 f2 s2 x2 y2 r2 => h I2 (fr9.trans f2) s2 x2 y2 r2) (fun g => absurd g hb9) (fun g => absurd g hb9)
      · intro ch2a_52
        conv => whnf
        refine zinv0 (s_X12_must T (w := 2) (f := 0) (u := u) (n := n) (s := pMu 0 1 (pGo u n (pMu 1 1 s))) (by exact hS_39) (by omega) (by omega) ?_)
        intro I_56 hf_56 hS_56
        conv => whnf
        have eA : ∀ (a : Nat) (b : Int), ¬ (a = 603 ∧ 53 ≤ b ∧ b ≤ 58) → I_56 a b = I a b := fun a b g => by rw [hf_56 _ _ (by unfold P57; omega), hf_39 _ _ (by unfold P57; omega), hf_21 _ _ (by unfold PTm; omega), hf_17 _ _ (by unfold P57; omega)]
        have fr9 : Fr PEm I I_56 := (((hf_17.mono P57_e).trans (hf_21.mono PTm_e)).trans (hf_39.mono P57_e)).trans (hf_56.mono P57_e)
        have eR9 : ArB I_56 637 S := hR.fr (fun b => eA _ _ (by omega))
        have ex9 : I_56 603 59 = x := (eA _ _ (by omega)).trans hx
        have ey9 : I_56 603 60 = y := (eA _ _ (by omega)).trans hy
        have eW9 : I_56 603 5 = W ∧ W ≤ 12 := ⟨(eA _ _ (by omega)).trans hW.1, hW.2⟩
        have eH9 : I_56 603 6 = H ∧ H ≤ 12 := ⟨(eA _ _ (by omega)).trans hH.1, hH.2⟩
        have h10 := cha_1.2
        have ht18 := tkU_18 (u := u) (n := n) (p := pp s)
        have c9 : ¬ tkU u n (pp s) < 10 := by omega
        rw [pGo_m h0] at hS_56 hS_39 hS_21
        obtain ⟨t1, t2, t3⟩ := hS_21.2.2.1 rfl
        have e55 : I_21 603 55 = 2 ↔ tkU u n (nxT u n (pp s)) = 2 := by rw [t3.2.2.1]; exact sort_2 t2
        have e56 : tkU u n (nxT u n (pp s)) = 2 → I_39 603 56 = nmA u n (nxT u n (pp s)) := fun g => (hf_39 _ _ (by unfold P57; omega)).trans (t3.2.2.2 g)
        have e56z : I_56 603 56 = I_39 603 56 := hf_56 _ _ (by unfold P57; omega)
        have eN := pNu_go (u := u) (n := n) (a := 1) (z := 12) (f := 0) (g := 0) (s := (0, po s, nxT u n (pp s))) (fun _ => Or.inr ⟨rfl, fun c => c30 (e55.mpr c)⟩) (fun _ c => absurd c (by decide))
        have hb9 : ¬ pc (pMu 0 2 (pMu 0 1 (0, po s, nxT u n (pp s)))) = 0 := pMu_c2 (by decide)
        rw [pGo_1 hb9] at eN
        rw [eN] at hb9 hS_56
        have e1 := pEd_1 (u := u) (n := n) (W := W) (H := H) (a := ((s, x, y, S) : PO4)) c9 hb9
        rw [e1] at h
        exact l_re59 T (x := x) (y := y) (z := ((tkU u n (pp s) : Nat) : Int) - 10) (S := S) hS_56 eR9 ex9 ey9 hxb hyb eW9 eH9 (fun g => absurd g hb9) (fun _ I2 f2 s2 x2 y2 r2 => h I2 (fr9.trans f2) s2 x2 y2 r2) (fun g => absurd g hb9) (fun g => absurd g hb9)
    · conv => whnf
      refine zinv0 (s_X12_must T (w := 1) (f := 1) (u := u) (n := n) (s := pGo u n (pMu 1 1 s)) (by exact hS_21) (by omega) (by omega) ?_)
      intro I_39 hf_39 hS_39
      conv => whnf
      refine ⟨by decide, ?_⟩
      conv => whnf
      refine ⟨by exact hS_39.2.2.2.1, ?_⟩
      conv => whnf
      have e56b : zR (I_39 603 56) := hS_39.2.2.2.1
      refine zinv0 (s_X12_isIn T (v := I_39 603 56) (a := 1) (z := 12) (by omega) (by omega) (by omega) ?_ ?_)
      · intro cha_52
        conv => whnf
        refine zinv0 (s_X12_must T (w := 2) (f := 1) (u := u) (n := n) (s := pMu 1 1 (pGo u n (pMu 1 1 s))) (by exact hS_39) (by omega) (by omega) ?_)
        intro I_56 hf_56 hS_56
        conv => whnf
        have eA : ∀ (a : Nat) (b : Int), ¬ (a = 603 ∧ 53 ≤ b ∧ b ≤ 58) → I_56 a b = I a b := fun a b g => by rw [hf_56 _ _ (by unfold P57; omega), hf_39 _ _ (by unfold P57; omega), hf_21 _ _ (by unfold PTm; omega), hf_17 _ _ (by unfold P57; omega)]
        have fr9 : Fr PEm I I_56 := (((hf_17.mono P57_e).trans (hf_21.mono PTm_e)).trans (hf_39.mono P57_e)).trans (hf_56.mono P57_e)
        have eR9 : ArB I_56 637 S := hR.fr (fun b => eA _ _ (by omega))
        have ex9 : I_56 603 59 = x := (eA _ _ (by omega)).trans hx
        have ey9 : I_56 603 60 = y := (eA _ _ (by omega)).trans hy
        have eW9 : I_56 603 5 = W ∧ W ≤ 12 := ⟨(eA _ _ (by omega)).trans hW.1, hW.2⟩
        have eH9 : I_56 603 6 = H ∧ H ≤ 12 := ⟨(eA _ _ (by omega)).trans hH.1, hH.2⟩
        have h10 := cha_1.2
        have ht18 := tkU_18 (u := u) (n := n) (p := pp s)
        have c9 : ¬ tkU u n (pp s) < 10 := by omega
        rw [pGo_m h0] at hS_56 hS_39 hS_21
        obtain ⟨t1, t2, t3⟩ := hS_21.2.2.1 rfl
        have e55 : I_21 603 55 = 2 ↔ tkU u n (nxT u n (pp s)) = 2 := by rw [t3.2.2.1]; exact sort_2 t2
        have e56 : tkU u n (nxT u n (pp s)) = 2 → I_39 603 56 = nmA u n (nxT u n (pp s)) := fun g => (hf_39 _ _ (by unfold P57; omega)).trans (t3.2.2.2 g)
        have e56z : I_56 603 56 = I_39 603 56 := hf_56 _ _ (by unfold P57; omega)
        rw [pMu_1, pMu_1] at hS_56
        have q2 := e55.mp c30
        have eln : I_56 603 56 = nmA u n (nxT u n (pp s)) := e56z.trans (e56 q2)
        have eN : pNu u n 1 12 (0, po s, nxT u n (pp s)) = (0, po s, nxT u n (nxT u n (pp s))) := pNu_0 (s := (0, po s, nxT u n (pp s))) rfl q2 (by show ¬ (nmA u n (nxT u n (pp s)) < 1 ∨ 12 < nmA u n (nxT u n (pp s))); omega)
        have hz0 : pc (pNu u n 1 12 (0, po s, nxT u n (pp s))) = 0 := by rw [eN]; rfl
        refine l_re59 T (x := x) (y := y) (z := ((tkU u n (pp s) : Nat) : Int) - 10) (S := S) hS_56 eR9 ex9 ey9 hxb hyb eW9 eH9 (fun _ => ⟨by omega, by omega, by omega⟩) (fun g => absurd rfl g) (fun _ g I2 f2 s2 x2 y2 r2 => ?_) (fun _ g I2 f2 s2 x2 y2 r2 => ?_)
        · rw [eln] at g
          have e1 := pEd_2 (u := u) (n := n) (W := W) (H := H) (a := ((s, x, y, S) : PO4)) c9 hz0 g
          rw [e1] at h
          refine h I2 (fr9.trans f2) (s2.bad (pFl_c (by decide)) ?_ ?_) x2 y2 r2
          · show pc (pFl 2 (nxT u n (pp s)) (pNu u n 1 12 (0, po s, nxT u n (pp s)))) = pc (pFl 2 (nxT u n (pp s)) (0, po s, nxT u n (pp s)))
            rw [pFl_0 hz0]; rfl
          · show po (pFl 2 (nxT u n (pp s)) (pNu u n 1 12 (0, po s, nxT u n (pp s)))) = po (pFl 2 (nxT u n (pp s)) (0, po s, nxT u n (pp s)))
            rw [pFl_0 hz0]; rfl
        · rw [eln] at g x2 y2 r2
          have e1 := pEd_3 (u := u) (n := n) (W := W) (H := H) (a := ((s, x, y, S) : PO4)) c9 hz0 g
          rw [e1] at h
          refine h I2 (fr9.trans f2) ?_ x2 y2 r2
          rw [eN]
          exact s2
      · intro ch2a_52
        conv => whnf
        refine zinv0 (s_X12_must T (w := 2) (f := 0) (u := u) (n := n) (s := pMu 1 1 (pGo u n (pMu 1 1 s))) (by exact hS_39) (by omega) (by omega) ?_)
        intro I_56 hf_56 hS_56
        conv => whnf
        have eA : ∀ (a : Nat) (b : Int), ¬ (a = 603 ∧ 53 ≤ b ∧ b ≤ 58) → I_56 a b = I a b := fun a b g => by rw [hf_56 _ _ (by unfold P57; omega), hf_39 _ _ (by unfold P57; omega), hf_21 _ _ (by unfold PTm; omega), hf_17 _ _ (by unfold P57; omega)]
        have fr9 : Fr PEm I I_56 := (((hf_17.mono P57_e).trans (hf_21.mono PTm_e)).trans (hf_39.mono P57_e)).trans (hf_56.mono P57_e)
        have eR9 : ArB I_56 637 S := hR.fr (fun b => eA _ _ (by omega))
        have ex9 : I_56 603 59 = x := (eA _ _ (by omega)).trans hx
        have ey9 : I_56 603 60 = y := (eA _ _ (by omega)).trans hy
        have eW9 : I_56 603 5 = W ∧ W ≤ 12 := ⟨(eA _ _ (by omega)).trans hW.1, hW.2⟩
        have eH9 : I_56 603 6 = H ∧ H ≤ 12 := ⟨(eA _ _ (by omega)).trans hH.1, hH.2⟩
        have h10 := cha_1.2
        have ht18 := tkU_18 (u := u) (n := n) (p := pp s)
        have c9 : ¬ tkU u n (pp s) < 10 := by omega
        rw [pGo_m h0] at hS_56 hS_39 hS_21
        obtain ⟨t1, t2, t3⟩ := hS_21.2.2.1 rfl
        have e55 : I_21 603 55 = 2 ↔ tkU u n (nxT u n (pp s)) = 2 := by rw [t3.2.2.1]; exact sort_2 t2
        have e56 : tkU u n (nxT u n (pp s)) = 2 → I_39 603 56 = nmA u n (nxT u n (pp s)) := fun g => (hf_39 _ _ (by unfold P57; omega)).trans (t3.2.2.2 g)
        have e56z : I_56 603 56 = I_39 603 56 := hf_56 _ _ (by unfold P57; omega)
        have eN := pNu_go (u := u) (n := n) (a := 1) (z := 12) (f := 1) (g := 0) (s := (0, po s, nxT u n (pp s))) (fun _ => Or.inl ⟨rfl, e55.mp c30⟩) (fun _ _ => by
          have q := e56 (e55.mp c30)
          exact Or.inr ⟨rfl, fun c => ch2a_52 (by rw [q]; exact c)⟩)
        have hb9 : ¬ pc (pMu 0 2 (pMu 1 1 (0, po s, nxT u n (pp s)))) = 0 := by rw [pMu_1, pMu_0]; exact pFl_c (by decide)
        rw [pGo_1 hb9] at eN
        rw [eN] at hb9 hS_56
        have e1 := pEd_1 (u := u) (n := n) (W := W) (H := H) (a := ((s, x, y, S) : PO4)) c9 hb9
        rw [e1] at h
        exact l_re59 T (x := x) (y := y) (z := ((tkU u n (pp s) : Nat) : Int) - 10) (S := S) hS_56 eR9 ex9 ey9 hxb hyb eW9 eH9 (fun g => absurd g hb9) (fun _ I2 f2 s2 x2 y2 r2 => h I2 (fr9.trans f2) s2 x2 y2 r2) (fun g => absurd g hb9) (fun g => absurd g hb9)
  · intro ch2a_1
    conv => whnf
    have ht18 := tkU_18 (u := u) (n := n) (p := pp s)
    refine ⟨by decide, fun _ => ?_, fun c => absurd c (by decide)⟩
    conv => whnf
    refine zinv0 (s_X12_must T (w := 1) (f := 0) (u := u) (n := n) (s := s) (by exact hS) (by omega) (by omega) ?_)
    intro I_17 hf_17 hS_17
    conv => whnf
    refine zinv0 (s_X12_goesOn T (u := u) (n := n) (s := pMu 0 1 s) (by exact hS_17) ?_)
    intro I_21 hf_21 hS_21
    conv => whnf
    refine ⟨by decide, ?_⟩
    conv => whnf
    refine ⟨by have q := hS_21.2.2.2.2; exact ⟨⟨by omega, by omega⟩, ⟨by omega, by omega⟩⟩, fun c30 => ?_, fun c30 => ?_⟩
    · conv => whnf
      refine zinv0 (s_X12_must T (w := 1) (f := 0) (u := u) (n := n) (s := pGo u n (pMu 0 1 s)) (by exact hS_21) (by omega) (by omega) ?_)
      intro I_39 hf_39 hS_39
      conv => whnf
      refine ⟨by decide, ?_⟩
      conv => whnf
      refine ⟨by exact hS_39.2.2.2.1, ?_⟩
      conv => whnf
      have e56b : zR (I_39 603 56) := hS_39.2.2.2.1
      refine zinv0 (s_X12_isIn T (v := I_39 603 56) (a := 1) (z := 12) (by omega) (by omega) (by omega) ?_ ?_)
      · intro cha_52
        conv => whnf
        refine zinv0 (s_X12_must T (w := 2) (f := 1) (u := u) (n := n) (s := pMu 0 1 (pGo u n (pMu 0 1 s))) (by exact hS_39) (by omega) (by omega) ?_)
        intro I_56 hf_56 hS_56
        conv => whnf
        have eA : ∀ (a : Nat) (b : Int), ¬ (a = 603 ∧ 53 ≤ b ∧ b ≤ 58) → I_56 a b = I a b := fun a b g => by rw [hf_56 _ _ (by unfold P57; omega), hf_39 _ _ (by unfold P57; omega), hf_21 _ _ (by unfold PTm; omega), hf_17 _ _ (by unfold P57; omega)]
        have fr9 : Fr PEm I I_56 := (((hf_17.mono P57_e).trans (hf_21.mono PTm_e)).trans (hf_39.mono P57_e)).trans (hf_56.mono P57_e)
        have eR9 : ArB I_56 637 S := hR.fr (fun b => eA _ _ (by omega))
        have ex9 : I_56 603 59 = x := (eA _ _ (by omega)).trans hx
        have ey9 : I_56 603 60 = y := (eA _ _ (by omega)).trans hy
        have eW9 : I_56 603 5 = W ∧ W ≤ 12 := ⟨(eA _ _ (by omega)).trans hW.1, hW.2⟩
        have eH9 : I_56 603 6 = H ∧ H ≤ 12 := ⟨(eA _ _ (by omega)).trans hH.1, hH.2⟩
        have c9 : tkU u n (pp s) < 10 := by
          apply Classical.byContradiction
          intro g
          exact ch2a_1 ⟨h0, by omega⟩
        have hb9 : ¬ pc (pFl 1 (pp s) s) = 0 := pFl_c (by decide)
        have eM : pGo u n (pMu 0 1 s) = pFl 1 (pp s) s := by rw [pMu_0, pGo_1 hb9]
        rw [eM, pMu_b hb9, pMu_b hb9] at hS_56
        have e1 := pEd_0 (u := u) (n := n) (W := W) (H := H) (a := ((s, x, y, S) : PO4)) c9
        rw [e1] at h
        exact l_re59 T (x := x) (y := y) (z := -1) (S := S) hS_56 eR9 ex9 ey9 hxb hyb eW9 eH9 (fun g => absurd g hb9) (fun _ I2 f2 s2 x2 y2 r2 => h I2 (fr9.trans f2) s2 x2 y2 r2) (fun g => absurd g hb9) (fun g => absurd g hb9)
      · intro ch2a_52
        conv => whnf
        refine zinv0 (s_X12_must T (w := 2) (f := 0) (u := u) (n := n) (s := pMu 0 1 (pGo u n (pMu 0 1 s))) (by exact hS_39) (by omega) (by omega) ?_)
        intro I_56 hf_56 hS_56
        conv => whnf
        have eA : ∀ (a : Nat) (b : Int), ¬ (a = 603 ∧ 53 ≤ b ∧ b ≤ 58) → I_56 a b = I a b := fun a b g => by rw [hf_56 _ _ (by unfold P57; omega), hf_39 _ _ (by unfold P57; omega), hf_21 _ _ (by unfold PTm; omega), hf_17 _ _ (by unfold P57; omega)]
        have fr9 : Fr PEm I I_56 := (((hf_17.mono P57_e).trans (hf_21.mono PTm_e)).trans (hf_39.mono P57_e)).trans (hf_56.mono P57_e)
        have eR9 : ArB I_56 637 S := hR.fr (fun b => eA _ _ (by omega))
        have ex9 : I_56 603 59 = x := (eA _ _ (by omega)).trans hx
        have ey9 : I_56 603 60 = y := (eA _ _ (by omega)).trans hy
        have eW9 : I_56 603 5 = W ∧ W ≤ 12 := ⟨(eA _ _ (by omega)).trans hW.1, hW.2⟩
        have eH9 : I_56 603 6 = H ∧ H ≤ 12 := ⟨(eA _ _ (by omega)).trans hH.1, hH.2⟩
        have c9 : tkU u n (pp s) < 10 := by
          apply Classical.byContradiction
          intro g
          exact ch2a_1 ⟨h0, by omega⟩
        have hb9 : ¬ pc (pFl 1 (pp s) s) = 0 := pFl_c (by decide)
        have eM : pGo u n (pMu 0 1 s) = pFl 1 (pp s) s := by rw [pMu_0, pGo_1 hb9]
        rw [eM, pMu_b hb9, pMu_b hb9] at hS_56
        have e1 := pEd_0 (u := u) (n := n) (W := W) (H := H) (a := ((s, x, y, S) : PO4)) c9
        rw [e1] at h
        exact l_re59 T (x := x) (y := y) (z := -1) (S := S) hS_56 eR9 ex9 ey9 hxb hyb eW9 eH9 (fun g => absurd g hb9) (fun _ I2 f2 s2 x2 y2 r2 => h I2 (fr9.trans f2) s2 x2 y2 r2) (fun g => absurd g hb9) (fun g => absurd g hb9)
    · conv => whnf
      refine zinv0 (s_X12_must T (w := 1) (f := 1) (u := u) (n := n) (s := pGo u n (pMu 0 1 s)) (by exact hS_21) (by omega) (by omega) ?_)
      intro I_39 hf_39 hS_39
      conv => whnf
      refine ⟨by decide, ?_⟩
      conv => whnf
      refine ⟨by exact hS_39.2.2.2.1, ?_⟩
      conv => whnf
      have e56b : zR (I_39 603 56) := hS_39.2.2.2.1
      refine zinv0 (s_X12_isIn T (v := I_39 603 56) (a := 1) (z := 12) (by omega) (by omega) (by omega) ?_ ?_)
      · intro cha_52
        conv => whnf
        refine zinv0 (s_X12_must T (w := 2) (f := 1) (u := u) (n := n) (s := pMu 1 1 (pGo u n (pMu 0 1 s))) (by exact hS_39) (by omega) (by omega) ?_)
        intro I_56 hf_56 hS_56
        conv => whnf
        have eA : ∀ (a : Nat) (b : Int), ¬ (a = 603 ∧ 53 ≤ b ∧ b ≤ 58) → I_56 a b = I a b := fun a b g => by rw [hf_56 _ _ (by unfold P57; omega), hf_39 _ _ (by unfold P57; omega), hf_21 _ _ (by unfold PTm; omega), hf_17 _ _ (by unfold P57; omega)]
        have fr9 : Fr PEm I I_56 := (((hf_17.mono P57_e).trans (hf_21.mono PTm_e)).trans (hf_39.mono P57_e)).trans (hf_56.mono P57_e)
        have eR9 : ArB I_56 637 S := hR.fr (fun b => eA _ _ (by omega))
        have ex9 : I_56 603 59 = x := (eA _ _ (by omega)).trans hx
        have ey9 : I_56 603 60 = y := (eA _ _ (by omega)).trans hy
        have eW9 : I_56 603 5 = W ∧ W ≤ 12 := ⟨(eA _ _ (by omega)).trans hW.1, hW.2⟩
        have eH9 : I_56 603 6 = H ∧ H ≤ 12 := ⟨(eA _ _ (by omega)).trans hH.1, hH.2⟩
        have c9 : tkU u n (pp s) < 10 := by
          apply Classical.byContradiction
          intro g
          exact ch2a_1 ⟨h0, by omega⟩
        have hb9 : ¬ pc (pFl 1 (pp s) s) = 0 := pFl_c (by decide)
        have eM : pGo u n (pMu 0 1 s) = pFl 1 (pp s) s := by rw [pMu_0, pGo_1 hb9]
        rw [eM, pMu_b hb9, pMu_b hb9] at hS_56
        have e1 := pEd_0 (u := u) (n := n) (W := W) (H := H) (a := ((s, x, y, S) : PO4)) c9
        rw [e1] at h
        exact l_re59 T (x := x) (y := y) (z := -1) (S := S) hS_56 eR9 ex9 ey9 hxb hyb eW9 eH9 (fun g => absurd g hb9) (fun _ I2 f2 s2 x2 y2 r2 => h I2 (fr9.trans f2) s2 x2 y2 r2) (fun g => absurd g hb9) (fun g => absurd g hb9)
      · intro ch2a_52
        conv => whnf
        refine zinv0 (s_X12_must T (w := 2) (f := 0) (u := u) (n := n) (s := pMu 1 1 (pGo u n (pMu 0 1 s))) (by exact hS_39) (by omega) (by omega) ?_)
        intro I_56 hf_56 hS_56
        conv => whnf
        have eA : ∀ (a : Nat) (b : Int), ¬ (a = 603 ∧ 53 ≤ b ∧ b ≤ 58) → I_56 a b = I a b := fun a b g => by rw [hf_56 _ _ (by unfold P57; omega), hf_39 _ _ (by unfold P57; omega), hf_21 _ _ (by unfold PTm; omega), hf_17 _ _ (by unfold P57; omega)]
        have fr9 : Fr PEm I I_56 := (((hf_17.mono P57_e).trans (hf_21.mono PTm_e)).trans (hf_39.mono P57_e)).trans (hf_56.mono P57_e)
        have eR9 : ArB I_56 637 S := hR.fr (fun b => eA _ _ (by omega))
        have ex9 : I_56 603 59 = x := (eA _ _ (by omega)).trans hx
        have ey9 : I_56 603 60 = y := (eA _ _ (by omega)).trans hy
        have eW9 : I_56 603 5 = W ∧ W ≤ 12 := ⟨(eA _ _ (by omega)).trans hW.1, hW.2⟩
        have eH9 : I_56 603 6 = H ∧ H ≤ 12 := ⟨(eA _ _ (by omega)).trans hH.1, hH.2⟩
        have c9 : tkU u n (pp s) < 10 := by
          apply Classical.byContradiction
          intro g
          exact ch2a_1 ⟨h0, by omega⟩
        have hb9 : ¬ pc (pFl 1 (pp s) s) = 0 := pFl_c (by decide)
        have eM : pGo u n (pMu 0 1 s) = pFl 1 (pp s) s := by rw [pMu_0, pGo_1 hb9]
        rw [eM, pMu_b hb9, pMu_b hb9] at hS_56
        have e1 := pEd_0 (u := u) (n := n) (W := W) (H := H) (a := ((s, x, y, S) : PO4)) c9
        rw [e1] at h
        exact l_re59 T (x := x) (y := y) (z := -1) (S := S) hS_56 eR9 ex9 ey9 hxb hyb eW9 eH9 (fun g => absurd g hb9) (fun _ I2 f2 s2 x2 y2 r2 => h I2 (fr9.trans f2) s2 x2 y2 r2) (fun g => absurd g hb9) (fun g => absurd g hb9)
theorem s_rEdgeB (T : ZTh (XX Ln xs) CZ RZ) {d b : Nat} {W H : Nat} {x y : Int} {S : Nat → Bool} {u : Nat → Int} {n : Nat} {s : PE}  {I : ZI} {L : ZL} {Q : ZQ} (hS : PSm I u n s) (h0 : ¬ pc s = 0) (hR : ArB I 637 S) (hx : I 603 59 = x) (hy : I 603 60 = y) (hxb : 0 ≤ x ∧ x ≤ 12) (hyb : 0 ≤ y ∧ y ≤ 12) (hW : I 603 5 = W ∧ W ≤ 12) (hH : I 603 6 = H ∧ H ≤ 12) (h : ∀ I', Fr PEm I I' → PSm I' u n s → I' 603 59 = x → I' 603 60 = y → ArB I' 637 S → Q (.inl none) I' L) : CZ (d + 5) k_X12_readsEdge [.inr (.ref 603, 13)] b I L Q := by
  refine T.call rfl ?_
  refine T.go [59] 250 ?_
  conv => whnf
  refine zinv0 (s_X12_directionHere T (u := u) (n := n) (s := s) (by exact hS) ?_ ?_)
  · intro cha_1
    exact absurd cha_1.1 h0
  · intro ch2a_1
    conv => whnf
    refine ⟨by decide, fun _ => ?_, fun c => absurd c (by decide)⟩
    conv => whnf
    refine zinv0 (s_X12_must T (w := 1) (f := 0) (u := u) (n := n) (s := s) (by exact hS) (by omega) (by omega) ?_)
    intro I_17 hf_17 hS_17
    conv => whnf
    refine zinv0 (s_X12_goesOn T (u := u) (n := n) (s := pMu 0 1 s) (by exact hS_17) ?_)
    intro I_21 hf_21 hS_21
    conv => whnf
    refine ⟨by decide, ?_⟩
    conv => whnf
    refine ⟨by have q := hS_21.2.2.2.2; exact ⟨⟨by omega, by omega⟩, ⟨by omega, by omega⟩⟩, fun c30 => ?_, fun c30 => ?_⟩
    · conv => whnf
      refine zinv0 (s_X12_must T (w := 1) (f := 0) (u := u) (n := n) (s := pGo u n (pMu 0 1 s)) (by exact hS_21) (by omega) (by omega) ?_)
      intro I_39 hf_39 hS_39
      conv => whnf
      refine ⟨by decide, ?_⟩
      conv => whnf
      refine ⟨by exact hS_39.2.2.2.1, ?_⟩
      conv => whnf
      have e56b : zR (I_39 603 56) := hS_39.2.2.2.1
      refine zinv0 (s_X12_isIn T (v := I_39 603 56) (a := 1) (z := 12) (by omega) (by omega) (by omega) ?_ ?_)
      · intro cha_52
        conv => whnf
        refine zinv0 (s_X12_must T (w := 2) (f := 1) (u := u) (n := n) (s := pMu 0 1 (pGo u n (pMu 0 1 s))) (by exact hS_39) (by omega) (by omega) ?_)
        intro I_56 hf_56 hS_56
        conv => whnf
        have eA : ∀ (a : Nat) (b : Int), ¬ (a = 603 ∧ 53 ≤ b ∧ b ≤ 58) → I_56 a b = I a b := fun a b g => by rw [hf_56 _ _ (by unfold P57; omega), hf_39 _ _ (by unfold P57; omega), hf_21 _ _ (by unfold PTm; omega), hf_17 _ _ (by unfold P57; omega)]
        have fr9 : Fr PEm I I_56 := (((hf_17.mono P57_e).trans (hf_21.mono PTm_e)).trans (hf_39.mono P57_e)).trans (hf_56.mono P57_e)
        have eR9 : ArB I_56 637 S := hR.fr (fun b => eA _ _ (by omega))
        have ex9 : I_56 603 59 = x := (eA _ _ (by omega)).trans hx
        have ey9 : I_56 603 60 = y := (eA _ _ (by omega)).trans hy
        have eW9 : I_56 603 5 = W ∧ W ≤ 12 := ⟨(eA _ _ (by omega)).trans hW.1, hW.2⟩
        have eH9 : I_56 603 6 = H ∧ H ≤ 12 := ⟨(eA _ _ (by omega)).trans hH.1, hH.2⟩
        rw [pMu_b h0, pGo_1 h0, pMu_b h0, pMu_b h0] at hS_56
        exact l_re59 T (x := x) (y := y) (z := -1) (S := S) hS_56 eR9 ex9 ey9 hxb hyb eW9 eH9 (fun g => absurd g h0) (fun _ I2 f2 s2 x2 y2 r2 => h I2 (fr9.trans f2) s2 x2 y2 r2) (fun g => absurd g h0) (fun g => absurd g h0)
      · intro ch2a_52
        conv => whnf
        refine zinv0 (s_X12_must T (w := 2) (f := 0) (u := u) (n := n) (s := pMu 0 1 (pGo u n (pMu 0 1 s))) (by exact hS_39) (by omega) (by omega) ?_)
        intro I_56 hf_56 hS_56
        conv => whnf
        have eA : ∀ (a : Nat) (b : Int), ¬ (a = 603 ∧ 53 ≤ b ∧ b ≤ 58) → I_56 a b = I a b := fun a b g => by rw [hf_56 _ _ (by unfold P57; omega), hf_39 _ _ (by unfold P57; omega), hf_21 _ _ (by unfold PTm; omega), hf_17 _ _ (by unfold P57; omega)]
        have fr9 : Fr PEm I I_56 := (((hf_17.mono P57_e).trans (hf_21.mono PTm_e)).trans (hf_39.mono P57_e)).trans (hf_56.mono P57_e)
        have eR9 : ArB I_56 637 S := hR.fr (fun b => eA _ _ (by omega))
        have ex9 : I_56 603 59 = x := (eA _ _ (by omega)).trans hx
        have ey9 : I_56 603 60 = y := (eA _ _ (by omega)).trans hy
        have eW9 : I_56 603 5 = W ∧ W ≤ 12 := ⟨(eA _ _ (by omega)).trans hW.1, hW.2⟩
        have eH9 : I_56 603 6 = H ∧ H ≤ 12 := ⟨(eA _ _ (by omega)).trans hH.1, hH.2⟩
        rw [pMu_b h0, pGo_1 h0, pMu_b h0, pMu_b h0] at hS_56
        exact l_re59 T (x := x) (y := y) (z := -1) (S := S) hS_56 eR9 ex9 ey9 hxb hyb eW9 eH9 (fun g => absurd g h0) (fun _ I2 f2 s2 x2 y2 r2 => h I2 (fr9.trans f2) s2 x2 y2 r2) (fun g => absurd g h0) (fun g => absurd g h0)
    · conv => whnf
      refine zinv0 (s_X12_must T (w := 1) (f := 1) (u := u) (n := n) (s := pGo u n (pMu 0 1 s)) (by exact hS_21) (by omega) (by omega) ?_)
      intro I_39 hf_39 hS_39
      conv => whnf
      refine ⟨by decide, ?_⟩
      conv => whnf
      refine ⟨by exact hS_39.2.2.2.1, ?_⟩
      conv => whnf
      have e56b : zR (I_39 603 56) := hS_39.2.2.2.1
      refine zinv0 (s_X12_isIn T (v := I_39 603 56) (a := 1) (z := 12) (by omega) (by omega) (by omega) ?_ ?_)
      · intro cha_52
        conv => whnf
        refine zinv0 (s_X12_must T (w := 2) (f := 1) (u := u) (n := n) (s := pMu 1 1 (pGo u n (pMu 0 1 s))) (by exact hS_39) (by omega) (by omega) ?_)
        intro I_56 hf_56 hS_56
        conv => whnf
        have eA : ∀ (a : Nat) (b : Int), ¬ (a = 603 ∧ 53 ≤ b ∧ b ≤ 58) → I_56 a b = I a b := fun a b g => by rw [hf_56 _ _ (by unfold P57; omega), hf_39 _ _ (by unfold P57; omega), hf_21 _ _ (by unfold PTm; omega), hf_17 _ _ (by unfold P57; omega)]
        have fr9 : Fr PEm I I_56 := (((hf_17.mono P57_e).trans (hf_21.mono PTm_e)).trans (hf_39.mono P57_e)).trans (hf_56.mono P57_e)
        have eR9 : ArB I_56 637 S := hR.fr (fun b => eA _ _ (by omega))
        have ex9 : I_56 603 59 = x := (eA _ _ (by omega)).trans hx
        have ey9 : I_56 603 60 = y := (eA _ _ (by omega)).trans hy
        have eW9 : I_56 603 5 = W ∧ W ≤ 12 := ⟨(eA _ _ (by omega)).trans hW.1, hW.2⟩
        have eH9 : I_56 603 6 = H ∧ H ≤ 12 := ⟨(eA _ _ (by omega)).trans hH.1, hH.2⟩
        rw [pMu_b h0, pGo_1 h0, pMu_b h0, pMu_b h0] at hS_56
        exact l_re59 T (x := x) (y := y) (z := -1) (S := S) hS_56 eR9 ex9 ey9 hxb hyb eW9 eH9 (fun g => absurd g h0) (fun _ I2 f2 s2 x2 y2 r2 => h I2 (fr9.trans f2) s2 x2 y2 r2) (fun g => absurd g h0) (fun g => absurd g h0)
      · intro ch2a_52
        conv => whnf
        refine zinv0 (s_X12_must T (w := 2) (f := 0) (u := u) (n := n) (s := pMu 1 1 (pGo u n (pMu 0 1 s))) (by exact hS_39) (by omega) (by omega) ?_)
        intro I_56 hf_56 hS_56
        conv => whnf
        have eA : ∀ (a : Nat) (b : Int), ¬ (a = 603 ∧ 53 ≤ b ∧ b ≤ 58) → I_56 a b = I a b := fun a b g => by rw [hf_56 _ _ (by unfold P57; omega), hf_39 _ _ (by unfold P57; omega), hf_21 _ _ (by unfold PTm; omega), hf_17 _ _ (by unfold P57; omega)]
        have fr9 : Fr PEm I I_56 := (((hf_17.mono P57_e).trans (hf_21.mono PTm_e)).trans (hf_39.mono P57_e)).trans (hf_56.mono P57_e)
        have eR9 : ArB I_56 637 S := hR.fr (fun b => eA _ _ (by omega))
        have ex9 : I_56 603 59 = x := (eA _ _ (by omega)).trans hx
        have ey9 : I_56 603 60 = y := (eA _ _ (by omega)).trans hy
        have eW9 : I_56 603 5 = W ∧ W ≤ 12 := ⟨(eA _ _ (by omega)).trans hW.1, hW.2⟩
        have eH9 : I_56 603 6 = H ∧ H ≤ 12 := ⟨(eA _ _ (by omega)).trans hH.1, hH.2⟩
        rw [pMu_b h0, pGo_1 h0, pMu_b h0, pMu_b h0] at hS_56
        exact l_re59 T (x := x) (y := y) (z := -1) (S := S) hS_56 eR9 ex9 ey9 hxb hyb eW9 eH9 (fun g => absurd g h0) (fun _ I2 f2 s2 x2 y2 r2 => h I2 (fr9.trans f2) s2 x2 y2 r2) (fun g => absurd g h0) (fun g => absurd g h0)
end
