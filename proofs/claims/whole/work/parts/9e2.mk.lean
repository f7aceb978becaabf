/-! THE REFERENCE, TEXTS 15: a piece 2 -/
section
variable {Ln : Nat} {xs : Nat → Int32} {CZ : Nat → ZC} {RZ : Nat → Nat → ZQ → ZP}
theorem s_X12_readsPiece (T : ZTh (XX Ln xs) CZ RZ) {d b : Nat} {W H : Nat} (M : Mo) {u : Nat → Int} {n : Nat} {s : PE}  {I : ZI} {L : ZL} {Q : ZQ} (hS : PSm I u n s) (h0 : pc s = 0) (h5 : tkU u n (pp s) = 5) (hd : DrM I M) (hm8 : mN M ≤ 8) (hT : TabOK I) (hw : Wq W H M) (hW : I 603 5 = W) (hH : I 603 6 = H) (h : ∀ I', Fr PRp I I' → PSm I' u n (pPc u n W H M s).1 → DrM I' (pPc u n W H M s).2 → Q (.inl none) I' L) : CZ (d + 6) k_X12_readsPiece [.inr (.ref 603, 13)] b I L Q := by
  refine T.call rfl ?_
  have e1 : pKw u n 5 s = (0, po s, nxT u n (pp s)) := pKw_0 h0 h5
  refine T.go [85] 250 ?_
  conv => whnf
  refine zinv0 (s_X12_goesOn T (u := u) (n := n) (s := s) (by exact hS) ?_)
  intro I_1 hf_1 hS_1
  rw [pGo_0 h0] at hS_1
  obtain ⟨t1, t2, t3⟩ := hS_1.2.2.1 rfl
  have e55 : I_1 603 55 = 2 ↔ tkU u n (nxT u n (pp s)) = 2 := by rw [t3.2.2.1]; exact sort_2 t2
  conv => whnf
  refine ⟨by decide, ?_⟩
  conv => whnf
  refine ⟨by have q := hS_1.2.2.2.2; exact ⟨⟨by omega, by omega⟩, ⟨by omega, by omega⟩⟩, fun c10 => ?_, fun c10 => ?_⟩
  · conv => whnf
    refine zinv0 (s_X12_must T (w := 1) (f := 0) (u := u) (n := n) (s := (0, po s, nxT u n (pp s))) (by exact hS_1) (by omega) (by omega) ?_)
    intro I_19 hf_19 hS_19
    have e56 : tkU u n (nxT u n (pp s)) = 2 → I_19 603 56 = nmA u n (nxT u n (pp s)) := fun g => (hf_19 _ _ (by unfold P57; omega)).trans (t3.2.2.2 g)
    have e56b : zR (I_19 603 56) := hS_19.2.2.2.1
    conv => whnf
    refine ⟨by decide, ?_⟩
    conv => whnf
    refine ⟨by exact hS_19.2.2.2.1, ?_⟩
    conv => whnf
    refine zinv0 (s_X12_isIn T (v := I_19 603 56) (a := 0) (z := 6) (by omega) (by omega) (by omega) ?_ ?_)
    · intro cha_32
      conv => whnf
      refine zinv0 (s_X12_must T (w := 2) (f := 1) (u := u) (n := n) (s := pMu 0 1 (0, po s, nxT u n (pp s))) (by exact hS_19) (by omega) (by omega) ?_)
      intro I_36 hf_36 hS_36
      have eB : ∀ (a : Nat) (b : Int), ¬ (a = 603 ∧ 53 ≤ b ∧ b ≤ 58) → I_36 a b = I a b := fun a b g => by rw [hf_36 _ _ (by unfold P57; omega), hf_19 _ _ (by unfold P57; omega), hf_1 _ _ (by unfold PTm; omega)]
      have eq2 : pGo u n (pMu 1 2 (pMu 0 1 (0, po s, nxT u n (pp s)))) = qw2 u n s := by
        have q := pNu_go (u := u) (n := n) (a := 0) (z := 6) (f := 0) (g := 1) (s := (0, po s, nxT u n (pp s))) (fun _ => Or.inr ⟨rfl, fun c => c10 (e55.mpr c)⟩) (fun _ c => absurd c (by decide))
        unfold qw2
        rw [e1]
        exact q
      have hbad : ¬ pc (pMu 1 2 (pMu 0 1 (0, po s, nxT u n (pp s)))) = 0 := pMu_c2 (by decide)
      conv => whnf
      refine zinv0 (s_X12_isGood T (u := u) (n := n) (s := pMu 1 2 (pMu 0 1 (0, po s, nxT u n (pp s)))) (by exact hS_36) ?_ ?_)
      · intro cha_40
        exact absurd cha_40 hbad
      · intro ch2a_40
        conv => whnf
        refine ⟨by decide, fun _ => ?_, fun c => absurd c (by decide)⟩
        conv => whnf
        have e605 := (hd.fr (I' := I_36) hm8 (fun b => eB _ _ (by omega))).1.at (p := 0) (by omega) (w := 2) (by omega)
        have htz := tlM_z hw (p := 0) (by omega) (w := 2) (by omega)
        replace e605 : I_36 605 (1 + 4 * 0 + 2) = tlM M 0 (2 : Nat) := e605
        refine ⟨by decide, _, rfl, ?_⟩
        conv => whnf
        refine ⟨by omega, by decide, ?_⟩
        conv => whnf
        refine ⟨by rw [e605]; exact ⟨⟨by omega, by omega⟩, ⟨by omega, by omega⟩⟩, fun c69 => ?_, fun c69 => ?_⟩
        · conv => whnf
          rw [e605] at c69
          refine zinv0 (s_X12_must T (w := 3) (f := 0) (u := u) (n := n) (s := pMu 1 2 (pMu 0 1 (0, po s, nxT u n (pp s)))) (by exact hS_36) (by omega) (by omega) ?_)
          intro I_78 hf_78 hS_78
          conv => whnf
          refine zinv0 (s_X12_goesOn T (u := u) (n := n) (s := pMu 0 3 (pMu 1 2 (pMu 0 1 (0, po s, nxT u n (pp s))))) (by exact hS_78) ?_)
          intro I_82 hf_82 hS_82
          conv => whnf
          have eA : ∀ (a : Nat) (b : Int), ¬ (a = 603 ∧ 53 ≤ b ∧ b ≤ 58) → I_82 a b = I a b := fun a b g => by rw [hf_82 _ _ (by unfold PTm; omega), hf_78 _ _ (by unfold P57; omega), eB a b g]
          have fr82 : Fr PRp I I_82 := fun a b g => eA a b (fun c => g (by unfold PRp; omega))
          have hd9 : DrM I_82 M := hd.fr hm8 (fun b => eA _ _ (by omega))
          have hT9 : TabOK I_82 := hT.fr (fun a b _ _ => eA _ _ (by omega))
          have hb9 : ¬ pc (pMu 1 2 (pMu 0 1 (0, po s, nxT u n (pp s)))) = 0 := hbad
          rw [pMu_b hb9, pGo_1 hb9] at hS_82
          rw [pGo_1 hb9] at eq2
          have eg : ¬ pc (qw2 u n s) = 0 := by rw [← eq2]; exact hb9
          have e3 : qw3 u n M s = qw2 u n s := if_neg (fun g => eg g.1)
          have hS3 : PSm I_82 u n (qw3 u n M s) := by rw [e3, ← eq2]; exact hS_82
          have epc : pPc u n W H M s = pcR u n W H M ((0 : Nat) : Int) (qw3 u n M s) := pcR_bad (by rw [e3]; exact eg) _ _
          rw [epc] at h
          exact l_mpB T (W := W) (H := H) (v := 0) hS3 hd9 hm8 hT9 hw (by omega) ((eA _ _ (by omega)).trans hW) ((eA _ _ (by omega)).trans hH) (fun I2 f2 s2 d2 => h I2 (fr82.trans f2) s2 d2)
        · conv => whnf
          rw [e605] at c69
          refine zinv0 (s_X12_must T (w := 3) (f := 1) (u := u) (n := n) (s := pMu 1 2 (pMu 0 1 (0, po s, nxT u n (pp s)))) (by exact hS_36) (by omega) (by omega) ?_)
          intro I_78 hf_78 hS_78
          conv => whnf
          refine zinv0 (s_X12_goesOn T (u := u) (n := n) (s := pMu 1 3 (pMu 1 2 (pMu 0 1 (0, po s, nxT u n (pp s))))) (by exact hS_78) ?_)
          intro I_82 hf_82 hS_82
          conv => whnf
          have eA : ∀ (a : Nat) (b : Int), ¬ (a = 603 ∧ 53 ≤ b ∧ b ≤ 58) → I_82 a b = I a b := fun a b g => by rw [hf_82 _ _ (by unfold PTm; omega), hf_78 _ _ (by unfold P57; omega), eB a b g]
          have fr82 : Fr PRp I I_82 := fun a b g => eA a b (fun c => g (by unfold PRp; omega))
          have hd9 : DrM I_82 M := hd.fr hm8 (fun b => eA _ _ (by omega))
          have hT9 : TabOK I_82 := hT.fr (fun a b _ _ => eA _ _ (by omega))
          have hb9 : ¬ pc (pMu 1 2 (pMu 0 1 (0, po s, nxT u n (pp s)))) = 0 := hbad
          rw [pMu_b hb9, pGo_1 hb9] at hS_82
          rw [pGo_1 hb9] at eq2
          have eg : ¬ pc (qw2 u n s) = 0 := by rw [← eq2]; exact hb9
          have e3 : qw3 u n M s = qw2 u n s := if_neg (fun g => eg g.1)
          have hS3 : PSm I_82 u n (qw3 u n M s) := by rw [e3, ← eq2]; exact hS_82
          have epc : pPc u n W H M s = pcR u n W H M ((0 : Nat) : Int) (qw3 u n M s) := pcR_bad (by rw [e3]; exact eg) _ _
          rw [epc] at h
          exact l_mpB T (W := W) (H := H) (v := 0) hS3 hd9 hm8 hT9 hw (by omega) ((eA _ _ (by omega)).trans hW) ((eA _ _ (by omega)).trans hH) (fun I2 f2 s2 d2 => h I2 (fr82.trans f2) s2 d2)
    · intro ch2a_32
      conv => whnf
      refine zinv0 (s_X12_must T (w := 2) (f := 0) (u := u) (n := n) (s := pMu 0 1 (0, po s, nxT u n (pp s))) (by exact hS_19) (by omega) (by omega) ?_)
      intro I_36 hf_36 hS_36
      have eB : ∀ (a : Nat) (b : Int), ¬ (a = 603 ∧ 53 ≤ b ∧ b ≤ 58) → I_36 a b = I a b := fun a b g => by rw [hf_36 _ _ (by unfold P57; omega), hf_19 _ _ (by unfold P57; omega), hf_1 _ _ (by unfold PTm; omega)]
      have eq2 : pGo u n (pMu 0 2 (pMu 0 1 (0, po s, nxT u n (pp s)))) = qw2 u n s := by
        have q := pNu_go (u := u) (n := n) (a := 0) (z := 6) (f := 0) (g := 0) (s := (0, po s, nxT u n (pp s))) (fun _ => Or.inr ⟨rfl, fun c => c10 (e55.mpr c)⟩) (fun _ c => absurd c (by decide))
        unfold qw2
        rw [e1]
        exact q
      have hbad : ¬ pc (pMu 0 2 (pMu 0 1 (0, po s, nxT u n (pp s)))) = 0 := pMu_c2 (by decide)
      conv => whnf
      refine zinv0 (s_X12_isGood T (u := u) (n := n) (s := pMu 0 2 (pMu 0 1 (0, po s, nxT u n (pp s)))) (by exact hS_36) ?_ ?_)
      · intro cha_40
        exact absurd cha_40 hbad
      · intro ch2a_40
        conv => whnf
        refine ⟨by decide, fun _ => ?_, fun c => absurd c (by decide)⟩
        conv => whnf
        have e605 := (hd.fr (I' := I_36) hm8 (fun b => eB _ _ (by omega))).1.at (p := 0) (by omega) (w := 2) (by omega)
        have htz := tlM_z hw (p := 0) (by omega) (w := 2) (by omega)
        replace e605 : I_36 605 (1 + 4 * 0 + 2) = tlM M 0 (2 : Nat) := e605
        refine ⟨by decide, _, rfl, ?_⟩
        conv => whnf
        refine ⟨by omega, by decide, ?_⟩
        conv => whnf
        refine ⟨by rw [e605]; exact ⟨⟨by omega, by omega⟩, ⟨by omega, by omega⟩⟩, fun c69 => ?_, fun c69 => ?_⟩
        · conv => whnf
          rw [e605] at c69
          refine zinv0 (s_X12_must T (w := 3) (f := 0) (u := u) (n := n) (s := pMu 0 2 (pMu 0 1 (0, po s, nxT u n (pp s)))) (by exact hS_36) (by omega) (by omega) ?_)
          intro I_78 hf_78 hS_78
          conv => whnf
          refine zinv0 (s_X12_goesOn T (u := u) (n := n) (s := pMu 0 3 (pMu 0 2 (pMu 0 1 (0, po s, nxT u n (pp s))))) (by exact hS_78) ?_)
          intro I_82 hf_82 hS_82
          conv => whnf
          have eA : ∀ (a : Nat) (b : Int), ¬ (a = 603 ∧ 53 ≤ b ∧ b ≤ 58) → I_82 a b = I a b := fun a b g => by rw [hf_82 _ _ (by unfold PTm; omega), hf_78 _ _ (by unfold P57; omega), eB a b g]
          have fr82 : Fr PRp I I_82 := fun a b g => eA a b (fun c => g (by unfold PRp; omega))
          have hd9 : DrM I_82 M := hd.fr hm8 (fun b => eA _ _ (by omega))
          have hT9 : TabOK I_82 := hT.fr (fun a b _ _ => eA _ _ (by omega))
          have hb9 : ¬ pc (pMu 0 2 (pMu 0 1 (0, po s, nxT u n (pp s)))) = 0 := hbad
          rw [pMu_b hb9, pGo_1 hb9] at hS_82
          rw [pGo_1 hb9] at eq2
          have eg : ¬ pc (qw2 u n s) = 0 := by rw [← eq2]; exact hb9
          have e3 : qw3 u n M s = qw2 u n s := if_neg (fun g => eg g.1)
          have hS3 : PSm I_82 u n (qw3 u n M s) := by rw [e3, ← eq2]; exact hS_82
          have epc : pPc u n W H M s = pcR u n W H M ((0 : Nat) : Int) (qw3 u n M s) := pcR_bad (by rw [e3]; exact eg) _ _
          rw [epc] at h
          exact l_mpB T (W := W) (H := H) (v := 0) hS3 hd9 hm8 hT9 hw (by omega) ((eA _ _ (by omega)).trans hW) ((eA _ _ (by omega)).trans hH) (fun I2 f2 s2 d2 => h I2 (fr82.trans f2) s2 d2)
        · conv => whnf
          rw [e605] at c69
          refine zinv0 (s_X12_must T (w := 3) (f := 1) (u := u) (n := n) (s := pMu 0 2 (pMu 0 1 (0, po s, nxT u n (pp s)))) (by exact hS_36) (by omega) (by omega) ?_)
          intro I_78 hf_78 hS_78
          conv => whnf
          refine zinv0 (s_X12_goesOn T (u := u) (n := n) (s := pMu 1 3 (pMu 0 2 (pMu 0 1 (0, po s, nxT u n (pp s))))) (by exact hS_78) ?_)
          intro I_82 hf_82 hS_82
          conv => whnf
          have eA : ∀ (a : Nat) (b : Int), ¬ (a = 603 ∧ 53 ≤ b ∧ b ≤ 58) → I_82 a b = I a b := fun a b g => by rw [hf_82 _ _ (by unfold PTm; omega), hf_78 _ _ (by unfold P57; omega), eB a b g]
          have fr82 : Fr PRp I I_82 := fun a b g => eA a b (fun c => g (by unfold PRp; omega))
          have hd9 : DrM I_82 M := hd.fr hm8 (fun b => eA _ _ (by omega))
          have hT9 : TabOK I_82 := hT.fr (fun a b _ _ => eA _ _ (by omega))
          have hb9 : ¬ pc (pMu 0 2 (pMu 0 1 (0, po s, nxT u n (pp s)))) = 0 := hbad
          rw [pMu_b hb9, pGo_1 hb9] at hS_82
          rw [pGo_1 hb9] at eq2
          have eg : ¬ pc (qw2 u n s) = 0 := by rw [← eq2]; exact hb9
          have e3 : qw3 u n M s = qw2 u n s := if_neg (fun g => eg g.1)
          have hS3 : PSm I_82 u n (qw3 u n M s) := by rw [e3, ← eq2]; exact hS_82
          have epc : pPc u n W H M s = pcR u n W H M ((0 : Nat) : Int) (qw3 u n M s) := pcR_bad (by rw [e3]; exact eg) _ _
          rw [epc] at h
          exact l_mpB T (W := W) (H := H) (v := 0) hS3 hd9 hm8 hT9 hw (by omega) ((eA _ _ (by omega)).trans hW) ((eA _ _ (by omega)).trans hH) (fun I2 f2 s2 d2 => h I2 (fr82.trans f2) s2 d2)
  · conv => whnf
    refine zinv0 (s_X12_must T (w := 1) (f := 1) (u := u) (n := n) (s := (0, po s, nxT u n (pp s))) (by exact hS_1) (by omega) (by omega) ?_)
    intro I_19 hf_19 hS_19
    have e56 : tkU u n (nxT u n (pp s)) = 2 → I_19 603 56 = nmA u n (nxT u n (pp s)) := fun g => (hf_19 _ _ (by unfold P57; omega)).trans (t3.2.2.2 g)
    have e56b : zR (I_19 603 56) := hS_19.2.2.2.1
    conv => whnf
    refine ⟨by decide, ?_⟩
    conv => whnf
    refine ⟨by exact hS_19.2.2.2.1, ?_⟩
    conv => whnf
    refine zinv0 (s_X12_isIn T (v := I_19 603 56) (a := 0) (z := 6) (by omega) (by omega) (by omega) ?_ ?_)
    · intro cha_32
      conv => whnf
      refine zinv0 (s_X12_must T (w := 2) (f := 1) (u := u) (n := n) (s := pMu 1 1 (0, po s, nxT u n (pp s))) (by exact hS_19) (by omega) (by omega) ?_)
      intro I_36 hf_36 hS_36
      have eB : ∀ (a : Nat) (b : Int), ¬ (a = 603 ∧ 53 ≤ b ∧ b ≤ 58) → I_36 a b = I a b := fun a b g => by rw [hf_36 _ _ (by unfold P57; omega), hf_19 _ _ (by unfold P57; omega), hf_1 _ _ (by unfold PTm; omega)]
      have eq2 : pGo u n (pMu 1 2 (pMu 1 1 (0, po s, nxT u n (pp s)))) = qw2 u n s := by
        have q := pNu_go (u := u) (n := n) (a := 0) (z := 6) (f := 1) (g := 1) (s := (0, po s, nxT u n (pp s))) (fun _ => Or.inl ⟨rfl, e55.mp c10⟩) (fun _ _ => by
          have q := e56 (e55.mp c10)
          exact Or.inl ⟨rfl, by show 0 ≤ nmA u n (nxT u n (pp s)) ∧ nmA u n (nxT u n (pp s)) ≤ 6; rw [← q]; exact cha_32⟩)
        unfold qw2
        rw [e1]
        exact q
      conv => whnf
      refine zinv0 (s_X12_isGood T (u := u) (n := n) (s := pMu 1 2 (pMu 1 1 (0, po s, nxT u n (pp s)))) (by exact hS_36) ?_ ?_)
      · intro cha_40
        conv => whnf
        refine ⟨by decide, fun c => absurd c (by decide), fun _ => ?_⟩
        conv => whnf
        refine ⟨by decide, ?_⟩
        conv => whnf
        have e56z : I_36 603 56 = I_19 603 56 := hf_36 _ _ (by unfold P57; omega)
        obtain ⟨v, hvI⟩ : ∃ v : Nat, I_19 603 56 = (v : Int) := ⟨(I_19 603 56).toNat, by omega⟩
        have hv7 : v < 7 := by omega
        rw [e56z, hvI]
        have env : nmA u n (nxT u n (pp s)) = (v : Int) := (e56 (e55.mp c10)).symm.trans hvI
        have env2 : nmA u n (pp ((0, po s, nxT u n (pp s)) : PE)) = (v : Int) := env
        have e605 := (hd.fr (I' := I_36) hm8 (fun b => eB _ _ (by omega))).1.at hv7 (w := 2) (by omega)
        have htz := tlM_z hw hv7 (w := 2) (by omega)
        replace e605 : I_36 605 (1 + 4 * (v : Int) + 2) = tlM M v (2 : Nat) := e605
        refine ⟨by decide, _, rfl, ?_⟩
        conv => whnf
        refine ⟨by omega, by decide, ?_⟩
        conv => whnf
        refine ⟨by rw [e605]; exact ⟨⟨by omega, by omega⟩, ⟨by omega, by omega⟩⟩, fun c69 => ?_, fun c69 => ?_⟩
        · conv => whnf
          rw [e605] at c69
          refine zinv0 (s_X12_must T (w := 3) (f := 0) (u := u) (n := n) (s := pMu 1 2 (pMu 1 1 (0, po s, nxT u n (pp s)))) (by exact hS_36) (by omega) (by omega) ?_)
          intro I_78 hf_78 hS_78
          conv => whnf
          refine zinv0 (s_X12_goesOn T (u := u) (n := n) (s := pMu 0 3 (pMu 1 2 (pMu 1 1 (0, po s, nxT u n (pp s))))) (by exact hS_78) ?_)
          intro I_82 hf_82 hS_82
          conv => whnf
          have eA : ∀ (a : Nat) (b : Int), ¬ (a = 603 ∧ 53 ≤ b ∧ b ≤ 58) → I_82 a b = I a b := fun a b g => by rw [hf_82 _ _ (by unfold PTm; omega), hf_78 _ _ (by unfold P57; omega), eB a b g]
          have fr82 : Fr PRp I I_82 := fun a b g => eA a b (fun c => g (by unfold PRp; omega))
          have hd9 : DrM I_82 M := hd.fr hm8 (fun b => eA _ _ (by omega))
          have hT9 : TabOK I_82 := hT.fr (fun a b _ _ => eA _ _ (by omega))
          have hoff : ¬ mF M (v : Int) = -1 := fun g => c69 ((tlM_2 hw hv7).mpr g)
          have eg : pc (qw2 u n s) = 0 := by rw [← eq2, pMu_1, pMu_1, pGo_0 rfl]; rfl
          have e3 : qw3 u n M s = pFl 3 (pp (pKw u n 5 s)) (qw2 u n s) := if_pos ⟨eg, by rw [e1, env2]; exact hoff⟩
          have hS3 : PSm I_82 u n (qw3 u n M s) := by
            rw [pMu_1, pMu_1, pMu_0, pGo_1 (pFl_c (by decide))] at hS_82
            refine hS_82.bad (pFl_c (by decide)) ?_ ?_
            · rw [e3, pFl_0 eg]; rfl
            · rw [e3, pFl_0 eg, e1]; rfl
          have epc : pPc u n W H M s = pcR u n W H M (v : Int) (qw3 u n M s) := by unfold pPc; rw [e1, env2]
          rw [epc] at h
          exact l_mpB T (W := W) (H := H) (v := v) hS3 hd9 hm8 hT9 hw (by omega) ((eA _ _ (by omega)).trans hW) ((eA _ _ (by omega)).trans hH) (fun I2 f2 s2 d2 => h I2 (fr82.trans f2) s2 d2)
        · conv => whnf
          rw [e605] at c69
          refine zinv0 (s_X12_must T (w := 3) (f := 1) (u := u) (n := n) (s := pMu 1 2 (pMu 1 1 (0, po s, nxT u n (pp s)))) (by exact hS_36) (by omega) (by omega) ?_)
          intro I_78 hf_78 hS_78
          conv => whnf
          refine zinv0 (s_X12_goesOn T (u := u) (n := n) (s := pMu 1 3 (pMu 1 2 (pMu 1 1 (0, po s, nxT u n (pp s))))) (by exact hS_78) ?_)
          intro I_82 hf_82 hS_82
          conv => whnf
          have eA : ∀ (a : Nat) (b : Int), ¬ (a = 603 ∧ 53 ≤ b ∧ b ≤ 58) → I_82 a b = I a b := fun a b g => by rw [hf_82 _ _ (by unfold PTm; omega), hf_78 _ _ (by unfold P57; omega), eB a b g]
          have fr82 : Fr PRp I I_82 := fun a b g => eA a b (fun c => g (by unfold PRp; omega))
          have hd9 : DrM I_82 M := hd.fr hm8 (fun b => eA _ _ (by omega))
          have hT9 : TabOK I_82 := hT.fr (fun a b _ _ => eA _ _ (by omega))
          have hoff : mF M (v : Int) = -1 := (tlM_2 hw hv7).mp c69
          have e3 : qw3 u n M s = qw2 u n s := if_neg (fun g => g.2 (by rw [e1, env2]; exact hoff))
          have hS3 : PSm I_82 u n (qw3 u n M s) := by
            rw [e3, ← eq2]
            rw [pMu_1, pMu_1, pMu_1] at hS_82
            rw [pMu_1, pMu_1]
            exact hS_82
          have epc : pPc u n W H M s = pcR u n W H M (v : Int) (qw3 u n M s) := by unfold pPc; rw [e1, env2]
          rw [epc] at h
          exact l_mpB T (W := W) (H := H) (v := v) hS3 hd9 hm8 hT9 hw (by omega) ((eA _ _ (by omega)).trans hW) ((eA _ _ (by omega)).trans hH) (fun I2 f2 s2 d2 => h I2 (fr82.trans f2) s2 d2)
      · intro ch2a_40
        exact absurd (show pc (pMu 1 2 (pMu 1 1 (0, po s, nxT u n (pp s)))) = 0 by rw [pMu_1, pMu_1]; rfl) ch2a_40
    · intro ch2a_32
      conv => whnf
      refine zinv0 (s_X12_must T (w := 2) (f := 0) (u := u) (n := n) (s := pMu 1 1 (0, po s, nxT u n (pp s))) (by exact hS_19) (by omega) (by omega) ?_)
      intro I_36 hf_36 hS_36
      have eB : ∀ (a : Nat) (b : Int), ¬ (a = 603 ∧ 53 ≤ b ∧ b ≤ 58) → I_36 a b = I a b := fun a b g => by rw [hf_36 _ _ (by unfold P57; omega), hf_19 _ _ (by unfold P57; omega), hf_1 _ _ (by unfold PTm; omega)]
      have eq2 : pGo u n (pMu 0 2 (pMu 1 1 (0, po s, nxT u n (pp s)))) = qw2 u n s := by
        have q := pNu_go (u := u) (n := n) (a := 0) (z := 6) (f := 1) (g := 0) (s := (0, po s, nxT u n (pp s))) (fun _ => Or.inl ⟨rfl, e55.mp c10⟩) (fun _ _ => by
          have q := e56 (e55.mp c10)
          exact Or.inr ⟨rfl, fun c => ch2a_32 (by rw [q]; exact c)⟩)
        unfold qw2
        rw [e1]
        exact q
      have hbad : ¬ pc (pMu 0 2 (pMu 1 1 (0, po s, nxT u n (pp s)))) = 0 := by rw [pMu_1, pMu_0]; exact pFl_c (by decide)
      conv => whnf
      refine zinv0 (s_X12_isGood T (u := u) (n := n) (s := pMu 0 2 (pMu 1 1 (0, po s, nxT u n (pp s)))) (by exact hS_36) ?_ ?_)
      · intro cha_40
        exact absurd cha_40 hbad
      · intro ch2a_40
        conv => whnf
        refine ⟨by decide, fun _ => ?_, fun c => absurd c (by decide)⟩
        conv => whnf
        have e605 := (hd.fr (I' := I_36) hm8 (fun b => eB _ _ (by omega))).1.at (p := 0) (by omega) (w := 2) (by omega)
        have htz := tlM_z hw (p := 0) (by omega) (w := 2) (by omega)
        replace e605 : I_36 605 (1 + 4 * 0 + 2) = tlM M 0 (2 : Nat) := e605
        refine ⟨by decide, _, rfl, ?_⟩
        conv => whnf
        refine ⟨by omega, by decide, ?_⟩
        conv => whnf
        refine ⟨by rw [e605]; exact ⟨⟨by omega, by omega⟩, ⟨by omega, by omega⟩⟩, fun c69 => ?_, fun c69 => ?_⟩
        · conv => whnf
          rw [e605] at c69
          refine zinv0 (s_X12_must T (w := 3) (f := 0) (u := u) (n := n) (s := pMu 0 2 (pMu 1 1 (0, po s, nxT u n (pp s)))) (by exact hS_36) (by omega) (by omega) ?_)
          intro I_78 hf_78 hS_78
          conv => whnf
          refine zinv0 (s_X12_goesOn T (u := u) (n := n) (s := pMu 0 3 (pMu 0 2 (pMu 1 1 (0, po s, nxT u n (pp s))))) (by exact hS_78) ?_)
          intro I_82 hf_82 hS_82
          conv => whnf
          have eA : ∀ (a : Nat) (b : Int), ¬ (a = 603 ∧ 53 ≤ b ∧ b ≤ 58) → I_82 a b = I a b := fun a b g => by rw [hf_82 _ _ (by unfold PTm; omega), hf_78 _ _ (by unfold P57; omega), eB a b g]
          have fr82 : Fr PRp I I_82 := fun a b g => eA a b (fun c => g (by unfold PRp; omega))
          have hd9 : DrM I_82 M := hd.fr hm8 (fun b => eA _ _ (by omega))
          have hT9 : TabOK I_82 := hT.fr (fun a b _ _ => eA _ _ (by omega))
          have hb9 : ¬ pc (pMu 0 2 (pMu 1 1 (0, po s, nxT u n (pp s)))) = 0 := hbad
          rw [pMu_b hb9, pGo_1 hb9] at hS_82
          rw [pGo_1 hb9] at eq2
          have eg : ¬ pc (qw2 u n s) = 0 := by rw [← eq2]; exact hb9
          have e3 : qw3 u n M s = qw2 u n s := if_neg (fun g => eg g.1)
          have hS3 : PSm I_82 u n (qw3 u n M s) := by rw [e3, ← eq2]; exact hS_82
          have epc : pPc u n W H M s = pcR u n W H M ((0 : Nat) : Int) (qw3 u n M s) := pcR_bad (by rw [e3]; exact eg) _ _
          rw [epc] at h
          exact l_mpB T (W := W) (H := H) (v := 0) hS3 hd9 hm8 hT9 hw (by omega) ((eA _ _ (by omega)).trans hW) ((eA _ _ (by omega)).trans hH) (fun I2 f2 s2 d2 => h I2 (fr82.trans f2) s2 d2)
        · conv => whnf
          rw [e605] at c69
          refine zinv0 (s_X12_must T (w := 3) (f := 1) (u := u) (n := n) (s := pMu 0 2 (pMu 1 1 (0, po s, nxT u n (pp s)))) (by exact hS_36) (by omega) (by omega) ?_)
          intro I_78 hf_78 hS_78
          conv => whnf
          refine zinv0 (s_X12_goesOn T (u := u) (n := n) (s := pMu 1 3 (pMu 0 2 (pMu 1 1 (0, po s, nxT u n (pp s))))) (by exact hS_78) ?_)
          intro I_82 hf_82 hS_82
          conv => whnf
          have eA : ∀ (a : Nat) (b : Int), ¬ (a = 603 ∧ 53 ≤ b ∧ b ≤ 58) → I_82 a b = I a b := fun a b g => by rw [hf_82 _ _ (by unfold PTm; omega), hf_78 _ _ (by unfold P57; omega), eB a b g]
          have fr82 : Fr PRp I I_82 := fun a b g => eA a b (fun c => g (by unfold PRp; omega))
          have hd9 : DrM I_82 M := hd.fr hm8 (fun b => eA _ _ (by omega))
          have hT9 : TabOK I_82 := hT.fr (fun a b _ _ => eA _ _ (by omega))
          have hb9 : ¬ pc (pMu 0 2 (pMu 1 1 (0, po s, nxT u n (pp s)))) = 0 := hbad
          rw [pMu_b hb9, pGo_1 hb9] at hS_82
          rw [pGo_1 hb9] at eq2
          have eg : ¬ pc (qw2 u n s) = 0 := by rw [← eq2]; exact hb9
          have e3 : qw3 u n M s = qw2 u n s := if_neg (fun g => eg g.1)
          have hS3 : PSm I_82 u n (qw3 u n M s) := by rw [e3, ← eq2]; exact hS_82
          have epc : pPc u n W H M s = pcR u n W H M ((0 : Nat) : Int) (qw3 u n M s) := pcR_bad (by rw [e3]; exact eg) _ _
          rw [epc] at h
          exact l_mpB T (W := W) (H := H) (v := 0) hS3 hd9 hm8 hT9 hw (by omega) ((eA _ _ (by omega)).trans hW) ((eA _ _ (by omega)).trans hH) (fun I2 f2 s2 d2 => h I2 (fr82.trans f2) s2 d2)
end
