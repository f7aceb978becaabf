/-! THE REFERENCE CHANGES, 5: solve -/
section
variable {Ln : Nat} {xs : Nat → Int32} {CZ : Nat → ZC} {RZ : Nat → Nat → ZQ → ZP}
theorem WayM.fr {I I' : ZI} {R : Nat → Bool} {M' : Mo} (h : WayM I R M') (h1 : ∀ b, I' 638 b = I 638 b) (h2 : ∀ b, I' 639 b = I 639 b) : WayM I' R M' := by
  obtain ⟨c, c1, c2⟩ := h
  exact ⟨c, c1, fun j hj => by rw [h1, h2]; exact c2 j hj⟩
/-- the first j pieces of w, the others of M -/
def mixM (M w : Mo) (j : Nat) : Mo := (fun i => if i < (j : Int) then mX w i else mX M i, fun i => if i < (j : Int) then mY w i else mY M i, fun i => if i < (j : Int) then mF w i else mF M i, mN M, mS M)
theorem mix_X (M w : Mo) (j : Nat) (i : Int) : mX (mixM M w j) i = if i < (j : Int) then mX w i else mX M i := rfl
theorem mix_Y (M w : Mo) (j : Nat) (i : Int) : mY (mixM M w j) i = if i < (j : Int) then mY w i else mY M i := rfl
theorem mix_F (M w : Mo) (j : Nat) (i : Int) : mF (mixM M w j) i = if i < (j : Int) then mF w i else mF M i := rfl
theorem mix_ne {M w : Mo} {j i c : Nat} (h : i ≠ j) : tlM (mixM M w (j + 1)) i c = tlM (mixM M w j) i c := by
  unfold tlM
  rw [mix_F, mix_F, mix_X, mix_X, mix_Y, mix_Y]
  by_cases e : (i : Int) < (j : Int)
  · have e1 : (i : Int) < ((j + 1 : Nat) : Int) := by omega
    rw [if_pos e, if_pos e, if_pos e, if_pos e1, if_pos e1, if_pos e1]
  · have e1 : ¬ (i : Int) < ((j + 1 : Nat) : Int) := by omega
    rw [if_neg e, if_neg e, if_neg e, if_neg e1, if_neg e1, if_neg e1]
theorem mix_eq {M w : Mo} {j : Nat} (c : Int) : tlM (mixM M w (j + 1)) j c = tellM w j c := by
  have e1 : (j : Int) < ((j + 1 : Nat) : Int) := by omega
  unfold tlM tellM
  rw [mix_F, mix_X, mix_Y, if_pos e1, if_pos e1, if_pos e1]
theorem mix_0 {M w : Mo} (p c : Nat) : tlM (mixM M w 0) p c = tlM M p c := by
  have e1 : ¬ (p : Int) < ((0 : Nat) : Int) := by omega
  unfold tlM
  rw [mix_F, mix_X, mix_Y, if_neg e1, if_neg e1, if_neg e1]
theorem mix_7 {M w : Mo} {p : Nat} (c : Nat) (hp : p < 7) : tlM (plcM M w) p c = tlM (mixM M w 7) p c := by
  have e1 : (p : Int) < ((7 : Nat) : Int) := by omega
  unfold tlM
  rw [mix_F, mix_X, mix_Y, if_pos e1, if_pos e1, if_pos e1]
  rfl
theorem l_mso (T : ZTh (XX Ln xs) CZ RZ) {d b : Nat} {Q : ZQ} {M w : Mo} {R : Nat → Bool} {I0 : ZI} {L : ZL} (hT0 : TabOK I0) (hm8 : mN M ≤ 8) (hW0 : WayM I0 R w) (h : ∀ I', Fr (fun a _ => a = 604) I0 I' → RowM I' 604 0 (mixM M w 7) → Q (.inl (some (.inl 1))) I' L) (m : Nat) : ∀ (p : Nat) (I : ZI), (p ≤ 7) → (Fr (fun a _ => a = 604) I0 I) → (RowM I 604 0 (mixM M w p)) → 7 - (p : Int) < (m : Int) → RZ (d + 5) k_X12_solve Q 43 [.inr (.ref 603, 13), zj, .inl ((p : Int))] [] b I L := by
  induction m with
  | zero =>
    intro p I hp hfr hR hm
    exfalso
    omega
  | succ m ih =>
    intro p I hp hfr hR hm
    have hT := hT0.fr (fun a b g1 g2 => hfr a b (by show ¬ a = 604; omega))
    have hW := hW0.fr (fun b => hfr 638 b (by show ¬ (638 : Nat) = 604; omega)) (fun b => hfr 639 b (by show ¬ (639 : Nat) = 604; omega))
    refine T.go [43] 90 ?_
    conv => whnf
    refine ⟨by omega, fun c46 => ?_, fun c46 => ?_⟩
    · conv => whnf
      refine ⟨by omega, ?_⟩
      obtain rfl : p = 7 := by omega
      exact h I hfr hR
    · conv => whnf
      refine ⟨by decide, _, rfl, ?_⟩
      conv => whnf
      refine zinv0 (s_X12_inWay T (p := p) (w := 0) (R := R) (M' := w) (by exact hT) (by omega) (by omega) (by exact hW) ?_)
      conv => whnf
      refine zinv0 (s_X12_inWay T (p := p) (w := 1) (R := R) (M' := w) (by exact hT) (by omega) (by omega) (by exact hW) ?_)
      conv => whnf
      refine zinv0 (s_X12_inWay T (p := p) (w := 2) (R := R) (M' := w) (by exact hT) (by omega) (by omega) (by exact hW) ?_)
      conv => whnf
      refine zinv0 (s_X12_inWay T (p := p) (w := 3) (R := R) (M' := w) (by exact hT) (by omega) (by omega) (by exact hW) ?_)
      conv => whnf
      refine zinv0 (s_X12_puts T (p := p) (by decide) (by omega) ?_)
      conv => whnf
      exact ih (p + 1) _ (by omega) ((((hfr.v2 rfl).v2 rfl).v2 rfl).v2 rfl) (hR.putg hm8 (by omega) rfl rfl (fun i c _ _ hne => mix_ne hne) (mix_eq _) (mix_eq _) (mix_eq _) (mix_eq _)) (by omega)
theorem s_X12_solve (T : ZTh (XX Ln xs) CZ RZ) {d b : Nat} {W H n bl : Nat} {M : Mo} {P SL : Nat → Mo} {v u : Nat → Int} {k : Int} {I : ZI} {L : ZL} {Q : ZQ} (hC : MB I W H M P n SL v bl u) (hA : WfA W H M P n SL v) (hk : zR k) (h : 0 ≤ k → k < mN M → ¬ waysA M k.toNat = 0 → ∀ I', Fr PMd I I' → I' 603 8 = 0 → MB I' W H (slM M k.toNat) (psh P n M) (psn n) SL v bl u → Q (.inl (some (.inl (1)))) I' L) (h0 : 0 ≤ k → k < mN M → waysA M k.toNat = 0 → ∀ I', Fr PSc I I' → I' 603 8 = 0 → MB I' W H M P n SL v bl u → Q (.inl (some (.inl (0)))) I' L) (h2 : ¬ (0 ≤ k ∧ k < mN M) → ∀ I', Fr PSc I I' → I' 603 8 = 1 → MB I' W H M P n SL v bl u → Q (.inl (some (.inl (0)))) I' L) : CZ (d + 6) k_X12_solve [.inr (.ref 603, 13), .inl k] b I L Q := by
  refine T.call rfl ?_
  obtain ⟨mT, mR, ⟨mW, mH⟩, ⟨mn, mn8⟩, mP, mS9, ⟨mb1, mb2, mb3⟩, mz⟩ := id hC
  obtain ⟨⟨⟨⟨w1, w2, w3, w4⟩, -⟩, w5, w6⟩, wP, wS⟩ := id hA
  refine T.go [43] 120 ?_
  conv => whnf
  refine zinv0 (s_X12_isShape T (n := mN M) (by first | assumption | omega | rfl | decide) (by exact ⟨mR.1, w5⟩) ?_ ?_)
  · intro cha_3
    conv => whnf
    refine ⟨by decide, fun _ => ?_, fun c => absurd c (by decide)⟩
    conv => whnf
    refine zinv0 (s_fails0 T   ?_)
    conv => whnf
    refine ⟨by decide, fun _ => ?_, fun c => absurd c (by decide)⟩
    conv => whnf
    obtain ⟨kn, rfl⟩ := Int.eq_ofNat_of_zero_le cha_3.1
    have hC0 := hC.th hA 0
    refine zinv0 (s_X12_seeks T (k := kn) (W := W) (H := H) M (by exact hC0.1) (by exact hC0.2.1) (by exact hA.1.1) (by exact ⟨by omega, w5⟩) (by exact ⟨by decide, by decide⟩) ?_)
    intro I_25 hf_25 he_25 hW_25
    have hfr9 : Fr PSc I I_25 := (frTh I 0).trans (hf_25.mono PSk_c)
    have hC9 := hC0.fr hA (fun a b _ g => hf_25 a b (fun c => g (PSk_c _ _ c)))
    have ht9 : I_25 603 8 = 0 := (hf_25 _ _ (by unfold PSk; omega)).trans (v2_eq _ _ _ _)
    have hsm := waysR_same (m := 1) (m' := 1000) (by omega) (by omega) (mS M kn)
    have hwb := waysR_b (most := 1) (by omega) (mS M kn)
    have hkn : ((kn : Nat) : Int).toNat = kn := Int.toNat_natCast kn
    unfold waysA at h h0
    rw [hkn] at h h0
    have hs2 := hsm.2
    conv => whnf
    refine ⟨by decide, ?_⟩
    conv => whnf
    rw [he_25]
    refine ⟨by exact ⟨by omega, by omega⟩, fun c32 => ?_, fun c32 => ?_⟩
    · conv => whnf
      refine zinv0 (s_X12_keeps T (W := W) (H := H) (M := M) (P := P) (SL := SL) (v := v) (u := u) (by exact hC9) (by exact hA) ?_)
      intro I_38 hf_38 hC_38 hA_38
      conv => whnf
      refine T.fg [1] ?_
      have hw1 : ¬ (waysR 1000 (mS M kn)).1 = 0 := by
        rcases hs2 with ⟨e1, e2⟩ | ⟨e1, e2⟩ <;> omega
      have hWy := (hW_25 (by omega) rfl).fr (I' := I_38) (fun b => hf_38 _ _ (by unfold PKe; omega)) (fun b => hf_38 _ _ (by unfold PKe; omega))
      refine l_mso T (M := M) (w := (waysR 1 (mS M kn)).2) (R := mS M kn) (I0 := I_38) hC_38.1 w5 hWy (fun I2 f2 r2 => ?_) 8 0 I_38 (by omega) (Fr.refl _) (hC_38.2.1.cg rfl rfl (fun p c hp hc => mix_0 p c)) (by omega)
      refine h cha_3.1 cha_3.2 hw1 I2 (((hfr9.mono PSc_d).trans (hf_38.mono PKe_d)).trans (f2.mono (fun a b c => by unfold PMd; omega))) ?_ (hC_38.row hA_38 ?_ (fun a b _ _ g => f2 a b g))
      · rw [f2 _ _ (by show ¬ (603 : Nat) = 604; omega)]
        exact (hf_38 _ _ (by unfold PKe; omega)).trans ht9
      · unfold slM
        rw [← hsm.1]
        generalize (waysR 1 (mS M kn)).2 = w9 at r2 ⊢
        exact r2.cg rfl rfl (fun p c hp hc => mix_7 c hp)
    · conv => whnf
      refine ⟨by omega, ?_⟩
      exact h0 cha_3.1 cha_3.2 (by rcases hs2 with ⟨e1, e2⟩ | ⟨e1, e2⟩ <;> omega) I_25 hfr9 ht9 hC9
  · intro ch2a_3
    conv => whnf
    refine ⟨by decide, fun c => absurd c (by decide), fun _ => ?_⟩
    conv => whnf
    refine zinv0 (s_fails1 T   ?_)
    conv => whnf
    refine ⟨by decide, fun c => absurd c (by decide), fun _ => ?_⟩
    conv => whnf
    refine ⟨by omega, ?_⟩
    exact h2 ch2a_3 _ (frTh I 1) (v2_eq _ _ _ _) (hC.th hA 1)
end
