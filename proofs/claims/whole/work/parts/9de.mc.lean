/-! THE REFERENCE CHANGES, 3: shift -/
section
variable {Ln : Nat} {xs : Nat → Int32} {CZ : Nat → ZC} {RZ : Nat → Nat → ZQ → ZP}
theorem s_X12_canShift (T : ZTh (XX Ln xs) CZ RZ) {d b : Nat} {W H n bl : Nat} {M : Mo} {P SL : Nat → Mo} {v u : Nat → Int} {p : Nat} {dx dy : Int} {I : ZI} {L : ZL} {Q : ZQ} (hC : MB I W H M P n SL v bl u) (hA : WfA W H M P n SL v) (hp : p < 7) (hx : zR dx) (hy : zR dy) (h : shO W H M dx dy p → Q (.inl (some (.inl (1)))) I L) (h2 : ¬ shO W H M dx dy p → Q (.inl (some (.inl (0)))) I L) : CZ (d + 3) k_X12_canShift [.inr (.ref 603, 13), .inl ((p : Int)), .inr (.long (l6 dx), 0), .inr (.long (l6 dy), 0)] b I L Q := by
  refine T.call rfl ?_
  obtain ⟨mT, mR, ⟨mW, mH⟩, ⟨mn, mn8⟩, mP, mS9, ⟨mb1, mb2, mb3⟩, mz⟩ := id hC
  obtain ⟨⟨⟨⟨w1, w2, w3, w4⟩, -⟩, w5, w6⟩, wP, wS⟩ := id hA
  refine T.go [] 150 ?_
  conv => whnf
  refine zinv0 (s_X12_of T (p := p) (w := 2) (M := M) (by exact mR) (by exact hp) (by omega) ?_)
  conv => whnf
  refine zinv0 (s_X12_isOn T (p := p) (W := W) (H := H) (M := M) (by exact mR) (by exact hp) (by exact hA.1.1) ?_ ?_)
  · intro cha_10
    have hon := cha_10
    obtain ⟨tq0, tq1, tq2, tq3⟩ := tlM_0 (p := p) hon
    obtain ⟨f1, f2, f3, f4, f5, f6, f7, f8⟩ := hA.1.1.form hp hon
    rw [tq2]
    have hfi : fi M p = 8 * p + (mF M p).toNat := rfl
    obtain ⟨x1, x2, -⟩ := bx_ok f1
    obtain ⟨t, ht⟩ : ∃ t : Nat, mF M p / 2 = t := ⟨(mF M p / 2).toNat, by omega⟩
    have e8 : fi M p / 8 = p := by omega
    have e2 : fi M p % 8 / 2 % 2 = t % 2 := by omega
    rw [e8, e2] at x1 x2
    rw [ht]
    have hcc : (((if (t : Int) % 2 = 0 then bW p else bH p : Nat)) : Int) = fW (fi M p) ∧ (((if (t : Int) % 2 = 0 then bH p else bW p : Nat)) : Int) = fH (fi M p) := by
      by_cases c : t % 2 = 0
      · rw [if_pos c] at x1 x2
        rw [if_pos (by omega), if_pos (by omega), x1, x2]
        exact ⟨rfl, rfl⟩
      · rw [if_neg c] at x1 x2
        rw [if_neg (by omega), if_neg (by omega), x1, x2]
        exact ⟨rfl, rfl⟩
    have hsh : shO W H M dx dy p ↔ (0 ≤ mX M p + dx ∧ mX M p + dx ≤ W - fW (fi M p)) ∧ 0 ≤ mY M p + dy ∧ mY M p + dy ≤ H - fH (fi M p) := by
      unfold shO InB
      constructor
      · rintro (g | g)
        · exact absurd g hon
        · omega
      · intro g
        exact Or.inr (by omega)
    conv => whnf
    refine ⟨by decide, fun c => absurd c (by decide), fun _ => ?_⟩
    conv => whnf
    refine zinv0 (s_X12_of T (p := p) (w := 0) (M := M) (by exact mR) (by exact hp) (by omega) ?_)
    rw [tq0]
    conv => whnf
    refine ⟨by omega, ?_⟩
    conv => whnf
    refine ⟨by decide, ?_⟩
    conv => whnf
    refine zinv0 (s_X12_wideOf T (p := p) (t := (t : Int)) (by exact mT) (by exact hp) (by omega) ?_)
    rw [hcc.1]
    conv => whnf
    refine ⟨by omega, ?_⟩
    conv => whnf
    rw [show l6 (mX M p) + l6 (dx) = l6 (mX M p + dx) from (Int64.ofInt_add _ _).symm]
    refine zinv0 (s_X12_isIn T (v := mX M p + dx) (a := 0) (z := I 603 5 - fW (fi M p)) (by omega) (by omega) (by omega) ?_ ?_)
    · intro cha_39
      conv => whnf
      refine ⟨by decide, fun c => absurd c (by decide), fun _ => ?_⟩
      conv => whnf
      refine zinv0 (s_X12_of T (p := p) (w := 1) (M := M) (by exact mR) (by exact hp) (by omega) ?_)
      rw [tq1]
      conv => whnf
      refine ⟨by omega, ?_⟩
      conv => whnf
      refine ⟨by decide, ?_⟩
      conv => whnf
      refine zinv0 (s_X12_highOf T (p := p) (t := (t : Int)) (by exact mT) (by exact hp) (by omega) ?_)
      rw [hcc.2]
      conv => whnf
      refine ⟨by omega, ?_⟩
      conv => whnf
      rw [show l6 (mY M p) + l6 (dy) = l6 (mY M p + dy) from (Int64.ofInt_add _ _).symm]
      refine zinv0 (s_X12_isIn T (v := mY M p + dy) (a := 0) (z := I 603 6 - fH (fi M p)) (by omega) (by omega) (by omega) ?_ ?_)
      · intro cha_69
        conv => whnf
        refine ⟨by decide, fun c => absurd c (by decide), fun _ => ?_⟩
        conv => whnf
        refine ⟨by omega, ?_⟩
        exact h (hsh.mpr (by omega))
      · intro ch2a_69
        conv => whnf
        refine ⟨by decide, fun _ => ?_, fun c => absurd c (by decide)⟩
        conv => whnf
        refine ⟨by omega, ?_⟩
        exact h2 (fun g => ch2a_69 (by have := hsh.mp g; omega))
    · intro ch2a_39
      conv => whnf
      refine ⟨by decide, fun _ => ?_, fun c => absurd c (by decide)⟩
      conv => whnf
      refine ⟨by omega, ?_⟩
      exact h2 (fun g => ch2a_39 (by have := hsh.mp g; omega))
  · intro ch2a_10
    conv => whnf
    refine ⟨by decide, fun _ => ?_, fun c => absurd c (by decide)⟩
    conv => whnf
    refine ⟨by omega, ?_⟩
    exact h (Or.inl ch2a_10)
theorem l_msA (T : ZTh (XX Ln xs) CZ RZ) {d b : Nat} {Q : ZQ} {W H n bl : Nat} {M : Mo} {P SL : Nat → Mo} {v u : Nat → Int} {dx dy : Int} {I : ZI} {L : ZL} (hC : MB I W H M P n SL v bl u) (hA : WfA W H M P n SL v) (hx : zR dx) (hy : zR dy) (hk : (∀ i : Nat, i < 7 → shO W H M dx dy i) → RZ (d + 3) k_X12_shift Q 52 [.inr (.ref 603, 13), .inl dx, .inl dy, zj, zj] [] b I L) (h2 : (¬ ∀ i : Nat, i < 7 → shO W H M dx dy i) → Q (.inl (some (.inl 0))) I L) (m : Nat) : ∀ (j : Nat) (ok : Int), (j ≤ 7) → (ok = bi (dc (∀ i : Nat, i < j → shO W H M dx dy i))) → 7 - (j : Int) < (m : Int) → RZ (d + 3) k_X12_shift Q 10 [.inr (.ref 603, 13), .inl dx, .inl dy, .inl ok, .inl ((j : Int))] [] b I L := by
  induction m with
  | zero =>
    intro j ok hj hok hm
    exfalso
    omega
  | succ m ih =>
    intro j ok hj hok hm
    obtain ⟨hb1, hb2⟩ := bi_dc hok
    refine T.go [10, 52] 90 ?_
    conv => whnf
    refine ⟨by omega, fun c14 => ?_, fun c14 => ?_⟩
    · conv => whnf
      refine ⟨by omega, fun c47 => ?_, fun c47 => ?_⟩
      · conv => whnf
        refine T.fg [3, 4] ?_
        obtain rfl : j = 7 := by omega
        exact hk (hb2.mp (by omega))
      · conv => whnf
        refine ⟨by omega, ?_⟩
        obtain rfl : j = 7 := by omega
        exact h2 (fun g => by have := hb2.mpr g; omega)
    · conv => whnf
      refine ⟨by omega, fun c18 => ?_, fun c18 => ?_⟩
      · conv => whnf
        refine ih (j + 1) _ (by omega) (bi_of (Or.inl rfl) ⟨fun g => absurd g (by decide), fun g => ?_⟩) (by omega)
        have := hb2.mpr (fun i hi => g i (by omega))
        omega
      · conv => whnf
        refine ⟨by omega, ?_⟩
        conv => whnf
        refine ⟨by omega, ?_⟩
        conv => whnf
        refine zinv0 (s_X12_canShift T (p := j) (dx := dx) (dy := dy) (W := W) (H := H) (M := M) (P := P) (SL := SL) (v := v) (u := u) (by exact hC) (by exact hA) (by omega) (by exact hx) (by exact hy) ?_ ?_)
        · intro cha_28
          conv => whnf
          refine ⟨by decide, fun c => absurd c (by decide), fun _ => ?_⟩
          conv => whnf
          have ho : ok = 1 := by omega
          refine ih (j + 1) _ (by omega) (bi_of (Or.inr rfl) ⟨fun _ i hi => ?_, fun _ => rfl⟩) (by omega)
          by_cases e : i = j
          · rw [e]; exact cha_28
          · exact hb2.mp ho i (by omega)
        · intro ch2a_28
          conv => whnf
          refine ⟨by decide, fun _ => ?_, fun c => absurd c (by decide)⟩
          conv => whnf
          refine ih (j + 1) _ (by omega) (bi_of (Or.inl rfl) ⟨fun g => absurd g (by decide), fun g => ?_⟩) (by omega)
          exact absurd (g j (by omega)) ch2a_28
theorem RowM.cg {I : ZI} {r : Nat} {b : Int} {M M' : Mo} (h : RowM I r b M) (hN : mN M' = mN M) (hS : mS M' = mS M) (ht : ∀ p w : Nat, p < 7 → w < 4 → tlM M' p w = tlM M p w) : RowM I r b M' := by
  obtain ⟨a1, a2, a3⟩ := h
  refine ⟨by rw [hN]; exact a1, fun p w hp hw => by rw [ht p w hp hw]; exact a2 p w hp hw, fun k hk q hq => ?_⟩
  rw [hS]
  exact a3 k (by rw [← hN]; exact hk) q hq
theorem shK_ne {M : Mo} {dx dy : Int} {j i w : Nat} (h : i ≠ j) : tlM (shK M dx dy (j + 1)) i w = tlM (shK M dx dy j) i w := by
  unfold tlM
  rw [shK_F, shK_F, shK_X, shK_X, shK_Y, shK_Y]
  by_cases e : (i : Int) < (j : Int)
  · have e1 : (i : Int) < ((j + 1 : Nat) : Int) := by omega
    rw [if_pos e, if_pos e, if_pos e1, if_pos e1]
  · have e1 : ¬ (i : Int) < ((j + 1 : Nat) : Int) := by omega
    rw [if_neg e, if_neg e, if_neg e1, if_neg e1]
theorem shK_off {M : Mo} {dx dy : Int} {j w : Nat} (h : mF M j = -1) (k : Nat) : tlM (shK M dx dy k) j w = -1 := by
  unfold tlM
  rw [shK_F, if_pos h]
theorem shK_2 {M : Mo} {dx dy : Int} {p k : Nat} : tlM (shK M dx dy k) p ((2 : Nat) : Int) = tlM M p ((2 : Nat) : Int) := by
  by_cases e : mF M p = -1
  · rw [shK_off e]
    unfold tlM
    rw [if_pos e]
  · rw [(tlM_0 e).2.2.1, (tlM_0 (M := shK M dx dy k) (p := p) e).2.2.1, shK_F]
theorem s_isOnS (T : ZTh (XX Ln xs) CZ RZ) {d b : Nat} {p W H k : Nat} {dx dy : Int} {M : Mo} {I : ZI} {L : ZL} {Q : ZQ} (hR : RowM I 604 0 (shK M dx dy k)) (hp : p < 7) (hw : Wq W H M) (h : ¬ mF M p = -1 → Q (.inl (some (.inl (1)))) I L) (h2 : mF M p = -1 → Q (.inl (some (.inl (0)))) I L) : CZ (d + 2) k_X12_isOn [.inr (.ref 603, 13), .inl ((p : Int))] b I L Q := by
  refine T.call rfl ?_
  have hz := tlM_z hw hp (w := 2) (by omega)
  have h2z := tlM_2 hw hp
  refine T.go [] 90 ?_
  conv => whnf
  refine zinv0 (s_X12_of T (p := p) (w := 2) (M := shK M dx dy k) (by first | assumption | omega | rfl | decide) (by first | assumption | omega | rfl | decide) (by omega) ?_)
  rw [shK_2]
  conv => whnf
  refine ⟨by omega, fun c7 => ?_, fun c7 => ?_⟩
  · conv => whnf
    refine ⟨by omega, ?_⟩
    exact h2 (h2z.mp c7)
  · conv => whnf
    refine ⟨by omega, ?_⟩
    exact h (fun e => c7 (h2z.mpr e))
theorem l_msB (T : ZTh (XX Ln xs) CZ RZ) {d b : Nat} {Q : ZQ} {dx dy : Int} {W H : Nat} {M : Mo} {I0 : ZI} {L : ZL} (hw : Wq W H M) (hm8 : mN M ≤ 8) (h : ∀ I', Fr (fun a _ => a = 604) I0 I' → RowM I' 604 0 (shK M dx dy 7) → Q (.inl (some (.inl 1))) I' L) (m : Nat) : ∀ (j : Nat) (I : ZI), (j ≤ 7) → (Fr (fun a _ => a = 604) I0 I) → (RowM I 604 0 (shK M dx dy j)) → 7 - (j : Int) < (m : Int) → RZ (d + 3) k_X12_shift Q 59 [.inr (.ref 603, 13), .inl dx, .inl dy, zj, .inl ((j : Int))] [] b I L := by
  induction m with
  | zero =>
    intro j I hj hfr hR hm
    exfalso
    omega
  | succ m ih =>
    intro j I hj hfr hR hm
    have hj0 : mX (shK M dx dy j) j = mX M j ∧ mY (shK M dx dy j) j = mY M j := by rw [shK_X, shK_Y, if_neg (by omega), if_neg (by omega)]; exact ⟨rfl, rfl⟩
    have hj1 : mX (shK M dx dy (j + 1)) j = mX M j + dx ∧ mY (shK M dx dy (j + 1)) j = mY M j + dy := by rw [shK_X, shK_Y, if_pos (by omega), if_pos (by omega)]; exact ⟨rfl, rfl⟩
    refine T.go [59] 90 ?_
    conv => whnf
    refine ⟨by omega, fun c63 => ?_, fun c63 => ?_⟩
    · conv => whnf
      refine ⟨by omega, ?_⟩
      obtain rfl : j = 7 := by omega
      exact h I hfr hR
    · conv => whnf
      refine zinv0 (s_isOnS T (p := j) (W := W) (H := H) (M := M) (dx := dx) (dy := dy) (k := j) (by exact hR) (by omega) (by exact hw) ?_ ?_)
      · intro cha_69
        have honS : ¬ mF (shK M dx dy j) j = -1 := cha_69
        have honT : ¬ mF (shK M dx dy (j + 1)) j = -1 := cha_69
        obtain ⟨tq0, tq1, tq2, tq3⟩ := tlM_0 (p := j) honS
        obtain ⟨r0, r1, r2, r3⟩ := tlM_0 (p := j) honT
        rw [hj0.1] at tq0
        rw [hj0.2] at tq1
        rw [hj1.1] at r0
        rw [hj1.2] at r1
        conv => whnf
        refine ⟨by decide, fun c => absurd c (by decide), fun _ => ?_⟩
        conv => whnf
        refine ⟨by decide, _, rfl, ?_⟩
        conv => whnf
        refine zinv0 (s_X12_of T (p := j) (w := 0) (M := shK M dx dy j) (by exact hR) (by omega) (by omega) ?_)
        rw [tq0]
        conv => whnf
        refine zinv0 (s_X12_of T (p := j) (w := 1) (M := shK M dx dy j) (by exact hR) (by omega) (by omega) ?_)
        rw [tq1]
        conv => whnf
        refine zinv0 (s_X12_of T (p := j) (w := 2) (M := shK M dx dy j) (by exact hR) (by omega) (by omega) ?_)
        rw [tq2]
        conv => whnf
        refine zinv0 (s_X12_of T (p := j) (w := 3) (M := shK M dx dy j) (by exact hR) (by omega) (by omega) ?_)
        rw [tq3]
        conv => whnf
        refine zinv0 (s_X12_puts T (p := j) (by decide) (by omega) ?_)
        conv => whnf
        refine ih (j + 1) _ (by omega) ((((hfr.v2 rfl).v2 rfl).v2 rfl).v2 rfl) (hR.putg hm8 (by omega) rfl rfl (fun i w _ _ hne => shK_ne hne) r0 r1 r2 r3) (by omega)
      · intro ch2a_69
        conv => whnf
        refine ⟨by decide, fun _ => ?_, fun c => absurd c (by decide)⟩
        conv => whnf
        refine ih (j + 1) I (by omega) hfr (hR.cg rfl rfl (fun i w hi hw => ?_)) (by omega)
        by_cases e : i = j
        · rw [e, shK_off ch2a_69, shK_off ch2a_69]
        · exact shK_ne e
theorem l_msC (T : ZTh (XX Ln xs) CZ RZ) {d b : Nat} {Q : ZQ} {W H n bl : Nat} {M : Mo} {P SL : Nat → Mo} {v u : Nat → Int} {dx dy : Int} {I0 I : ZI} {L : ZL} (hC : MB I W H M P n SL v bl u) (hA : WfA W H M P n SL v) (hfr : Fr PSc I0 I) (ht : I 603 8 = 0) (ha : ∀ i : Nat, i < 7 → shO W H M dx dy i) (h : ∀ I', Fr PMd I0 I' → I' 603 8 = 0 → MB I' W H (shK M dx dy 7) (psh P n M) (psn n) SL v bl u → Q (.inl (some (.inl 1))) I' L) : RZ (d + 3) k_X12_shift Q 52 [.inr (.ref 603, 13), .inl dx, .inl dy, zj, zj] [] b I L := by
  refine T.go [59] 90 ?_
  conv => whnf
  refine zinv0 (s_X12_keeps T (W := W) (H := H) (M := M) (P := P) (SL := SL) (v := v) (u := u) (by exact hC) (by exact hA) ?_)
  intro I_53 hf_53 hC_53 hA_53
  conv => whnf
  refine l_msB T (dx := dx) (dy := dy) (W := W) (H := H) (M := M) (I0 := I_53) hA.1.1 hA.1.2.1 (fun I2 f2 r2 => ?_) 8 0 I_53 (by omega) (Fr.refl _) (hC_53.2.1.cg rfl rfl (fun p w hp hw => ?_)) (by omega)
  · refine h I2 (((hfr.mono PSc_d).trans (hf_53.mono PKe_d)).trans (f2.mono (fun a b c => by unfold PMd; omega))) ?_ (hC_53.row hA_53 r2 (fun a b _ _ g => f2 a b g))
    rw [f2 _ _ (by show ¬ (603 : Nat) = 604; omega)]
    exact (hf_53 _ _ (by unfold PKe; omega)).trans ht
  · unfold tlM
    rw [shK_F, shK_X, shK_Y, if_neg (show ¬ (p : Int) < ((0 : Nat) : Int) by omega), if_neg (show ¬ (p : Int) < ((0 : Nat) : Int) by omega)]
theorem s_X12_shift (T : ZTh (XX Ln xs) CZ RZ) {d b : Nat} {W H n bl : Nat} {M : Mo} {P SL : Nat → Mo} {v u : Nat → Int} {dx dy : Int} {I : ZI} {L : ZL} {Q : ZQ} (hC : MB I W H M P n SL v bl u) (hA : WfA W H M P n SL v) (hx : zR dx) (hy : zR dy) (h : (∀ i : Nat, i < 7 → shO W H M dx dy i) → ∀ I', Fr PMd I I' → I' 603 8 = 0 → MB I' W H (shK M dx dy 7) (psh P n M) (psn n) SL v bl u → Q (.inl (some (.inl (1)))) I' L) (h2 : (¬ ∀ i : Nat, i < 7 → shO W H M dx dy i) → ∀ I', Fr PSc I I' → I' 603 8 = 0 → MB I' W H M P n SL v bl u → Q (.inl (some (.inl (0)))) I' L) : CZ (d + 4) k_X12_shift [.inr (.ref 603, 13), .inl dx, .inl dy] b I L Q := by
  refine T.call rfl ?_
  have hC0 := hC.th hA 0
  refine T.go [10] 90 ?_
  conv => whnf
  refine ⟨by decide, ?_⟩
  conv => whnf
  exact l_msA T (W := W) (H := H) (M := M) (P := P) (SL := SL) (v := v) (u := u) hC0 hA hx hy (fun ha => l_msC T (I0 := I) hC0 hA (frTh I 0) (v2_eq _ _ _ _) ha (fun I2 f2 t2 c2 => h ha I2 f2 t2 c2)) (fun hn => h2 hn _ (frTh I 0) (v2_eq _ _ _ _) hC0) 8 0 1 (by omega) (bi_of (Or.inr rfl) ⟨fun _ i hi => absurd hi (Nat.not_lt_zero i), fun _ => rfl⟩) (by omega)
end
