/-! QUESTIONS, 7 -/
section
variable {Ln : Nat} {xs : Nat → Int32} {CZ : Nat → ZC} {RZ : Nat → Nat → ZQ → ZP}
noncomputable def aShape (S : Nat → Bool) (w : Int) : Int := match w.toNat with
  | 0 => cn S 576
  | 1 => lt S
  | 2 => tp S
  | 3 => wd S
  | _ => hg S
theorem flk_z (A B : Nat → Bool) : zR (flk A B 8 0) := by
  rcases flk_b A B 8 0 with e | ⟨e1, e2⟩
  · rw [e]; exact ⟨by omega, by omega⟩
  · exact ⟨by omega, by omega⟩
theorem s_X11_shape (T : ZTh (XX Ln xs) CZ RZ) {d b : Nat} {W H n bl : Nat} {M : Mo} {P SL : Nat → Mo} {u : Nat → Int} {k w : Int} {I : ZI} {L : ZL} {Q : ZQ} (hb : 2 ≤ b) (hC : CB I L W H M P n SL bl u) (hk : zR k) (hw : zR w) (h : 0 ≤ k → k < mN M → 0 ≤ w → w ≤ 4 → Q (.inl (some (.inl (aShape (mS M k.toNat) w)))) I L) (h2 : ¬ (0 ≤ k ∧ k < mN M) → Q (.inr 2) I L) (h3 : 0 ≤ k → k < mN M → ¬ (0 ≤ w ∧ w ≤ 4) → Q (.inr 1) I L) : CZ (d + 2) k_X11_shape [.inr (.ref 0, 12), .inl k, .inl w] b I L Q := by
  refine T.call rfl ?_
  obtain ⟨cF, cS, cW, cSil, cPa, cPw, cSl, cFi, cb1, cb2, cb3⟩ := id hC
  obtain ⟨t1, t2, t3, t4, t5⟩ := id cS
  obtain ⟨⟨⟨w1, w2, w3, w4⟩, -⟩, w5, w6⟩ := id cW
  refine T.go [] 90 ?_
  conv => whnf
  refine ⟨1, by omega, s_X11_checkShape T (w := k) (by first | assumption | omega | rfl | decide) (by first | assumption | omega | rfl | decide) (by exact ⟨by omega, by omega⟩) ?_ ?_⟩
  · intro cha_2 chb_2
    obtain ⟨k, rfl⟩ := Int.eq_ofNat_of_zero_le cha_2
    have hk : k < mN M := by omega
    have zz := za_shp (k := k) (by omega)
    obtain ⟨g1, g2⟩ := t5 k hk
    replace g1 : RgS L (288 + 2 * k) (mS M k) := g1
    replace g2 : RgM I (288 + 2 * k) (mS M k) := g2
    have hmk : ((k : Nat) : Int).toNat = k := Int.toNat_natCast k
    conv => whnf
    refine ⟨1, by omega, s_X11_checkWhat T  (by first | assumption | omega | rfl | decide) (by first | assumption | omega | rfl | decide) (by first | assumption | omega | rfl | decide) ?_ ?_⟩
    · intro cha_7
      have ga := g2.at
      have h9 := h (by omega) (by omega) cha_7.1 cha_7.2
      rw [hmk] at h9
      conv => whnf
      refine ⟨by decide, _, rfl, ?_⟩
      conv => whnf
      refine ⟨by decide, _, rfl, ?_⟩
      conv => whnf
      refine ⟨by omega, by decide, _, zz.1, ?_⟩
      conv => whnf
      refine ⟨by omega, fun c21 => ?_, ?_⟩
      · conv => whnf
        refine ⟨(show (¬ (_ : Nat) = _) ∧ (¬ (_ : Nat) = _) from by omega), ?_⟩
        conv => whnf
        obtain rfl : w = 4 := by omega
        rw [ga.2.2.2]
        exact h9
      refine ⟨fun c21 => ?_, ?_⟩
      · conv => whnf
        refine ⟨(show (¬ (_ : Nat) = _) ∧ (¬ (_ : Nat) = _) from by omega), ?_⟩
        conv => whnf
        obtain rfl : w = 0 := by omega
        rw [g2.1]
        exact h9
      refine ⟨fun c21 => ?_, ?_⟩
      · conv => whnf
        refine ⟨(show (¬ (_ : Nat) = _) ∧ (¬ (_ : Nat) = _) from by omega), ?_⟩
        conv => whnf
        obtain rfl : w = 1 := by omega
        rw [ga.1]
        exact h9
      refine ⟨fun c21 => ?_, ?_⟩
      · conv => whnf
        refine ⟨(show (¬ (_ : Nat) = _) ∧ (¬ (_ : Nat) = _) from by omega), ?_⟩
        conv => whnf
        obtain rfl : w = 2 := by omega
        rw [ga.2.1]
        exact h9
      refine ⟨fun c21 => ?_, ?_⟩
      · conv => whnf
        refine ⟨(show (¬ (_ : Nat) = _) ∧ (¬ (_ : Nat) = _) from by omega), ?_⟩
        conv => whnf
        obtain rfl : w = 3 := by omega
        rw [ga.2.2.1]
        exact h9
      exact trivial
    · intro ch2a_7
      exact h3 (by omega) (by omega) ch2a_7
  · intro ch2a_2
    exact h2 (fun c => ch2a_2 (by omega))
noncomputable def looksA (M : Mo) : Int := if cn (sil M) 576 = 0 then 0 else cn (fun k => decide (flk (sil M) (lk8 (sil M) k) 8 0 = k)) 8
noncomputable def alikeA (M : Mo) (k : Nat) : Int := if dc (∀ q, q < 576 → mS M k q = sil M q) = true then 1 else if flk (sil M) (mS M k) 8 0 = -1 then 0 else if flk (sil M) (mS M k) 8 0 = 0 then 2 else if flk (sil M) (mS M k) 8 0 < 4 then 3 else 4
theorem s_X11_looks (T : ZTh (XX Ln xs) CZ RZ) {d b : Nat} {W H n bl : Nat} {M : Mo} {P SL : Nat → Mo} {u : Nat → Int}  {I : ZI} {L : ZL} {Q : ZQ} (hC : CB I L W H M P n SL bl u) (h : ∀ I' L', Fr PQ I I' → Fr PQ L L' → CB I' L' W H M P n SL bl u → Q (.inl (some (.inl (looksA M)))) I' L') : CZ (d + 5) k_X11_looks [.inr (.ref 0, 12)] b I L Q := by
  refine T.call rfl ?_
  obtain ⟨cF, cS, cW, cSil, cPa, cPw, cSl, cFi, cb1, cb2, cb3⟩ := id hC
  obtain ⟨t1, t2, t3, t4, t5⟩ := id cS
  obtain ⟨⟨⟨w1, w2, w3, w4⟩, -⟩, w5, w6⟩ := id cW
  have hc1 := cn_nonneg (sil M) 576
  have hc2 := cn_le (sil M) 576
  have hcq : I 528 1 = cn (sil M) 576 := cSil.2.2.1.1
  refine T.go [] 90 ?_
  conv => whnf
  refine ⟨by decide, _, rfl, ?_⟩
  conv => whnf
  refine ⟨by decide, _, rfl, ?_⟩
  conv => whnf
  refine ⟨by decide, ?_⟩
  conv => whnf
  refine ⟨by omega, fun c10 => ?_, fun c10 => ?_⟩
  · conv => whnf
    refine ⟨by decide, _, rfl, ?_⟩
    conv => whnf
    refine ⟨by decide, _, rfl, ?_⟩
    conv => whnf
    refine ⟨by decide, _, rfl, ?_⟩
    conv => whnf
    refine zinv0 (s_X2_makeOf T (sil M) (by rfl) (by omega) (by exact cSil.2.1) (by exact cSil.2.2.1) ?_)
    intro I_26 L_26 hf_26 hg_26 hL_26
    conv => whnf
    refine ⟨by decide, _, rfl, ?_⟩
    conv => whnf
    refine zinv0 (s_X2_countDifferent T (sil M) (by exact hL_26) ?_)
    conv => whnf
    have h9 := h _ _ (hf_26.mono PLk_PQ) (hg_26.mono PLk_PQ) (hC.frk hf_26 hg_26)
    rw [show looksA M = _ from if_neg (by omega)] at h9
    exact h9
  · conv => whnf
    have h9 := h _ _ (Fr.refl _) (Fr.refl _) hC
    rw [show looksA M = 0 from if_pos (by omega)] at h9
    exact h9
theorem s_X11_alike (T : ZTh (XX Ln xs) CZ RZ) {d b : Nat} {W H n bl : Nat} {M : Mo} {P SL : Nat → Mo} {u : Nat → Int} {k : Int} {I : ZI} {L : ZL} {Q : ZQ} (hb : 1 ≤ b) (hC : CB I L W H M P n SL bl u) (hk : zR k) (h : 0 ≤ k → k < mN M → ∀ I' L', Fr PQ I I' → Fr PQ L L' → CB I' L' W H M P n SL bl u → Q (.inl (some (.inl (alikeA M k.toNat)))) I' L') (h2 : ¬ (0 ≤ k ∧ k < mN M) → Q (.inr 2) I L) : CZ (d + 5) k_X11_alike [.inr (.ref 0, 12), .inl k] b I L Q := by
  refine T.call rfl ?_
  obtain ⟨cF, cS, cW, cSil, cPa, cPw, cSl, cFi, cb1, cb2, cb3⟩ := id hC
  obtain ⟨t1, t2, t3, t4, t5⟩ := id cS
  obtain ⟨⟨⟨w1, w2, w3, w4⟩, -⟩, w5, w6⟩ := id cW
  refine T.go [] 200 ?_
  conv => whnf
  refine ⟨1, by omega, s_X11_checkShape T (w := k) (by first | assumption | omega | rfl | decide) (by first | assumption | omega | rfl | decide) (by exact ⟨by omega, by omega⟩) ?_ ?_⟩
  · intro cha_2 chb_2
    obtain ⟨k, rfl⟩ := Int.eq_ofNat_of_zero_le cha_2
    have hk : k < mN M := by omega
    have zz := za_shp (k := k) (by omega)
    obtain ⟨g1, g2⟩ := t5 k hk
    replace g1 : RgS L (288 + 2 * k) (mS M k) := g1
    replace g2 : RgM I (288 + 2 * k) (mS M k) := g2
    have hmk : ((k : Nat) : Int).toNat = k := Int.toNat_natCast k
    conv => whnf
    refine ⟨by decide, _, rfl, ?_⟩
    conv => whnf
    refine ⟨by decide, _, rfl, ?_⟩
    conv => whnf
    refine ⟨by omega, by decide, _, zz.1, ?_⟩
    conv => whnf
    refine ⟨by decide, _, rfl, ?_⟩
    conv => whnf
    refine ⟨by decide, _, rfl, ?_⟩
    conv => whnf
    refine zinv0 (s_X6_hasSameQuarters T (mS M k) (sil M) (by exact zz.2) (by show (¬ (_ : Nat) = _) ∧ (¬ (_ : Nat) = _); omega) (by rfl) (by show (¬ (_ : Nat) = _) ∧ (¬ (_ : Nat) = _); omega) (by exact g1) (by exact cSil.2.1) ?_ ?_)
    · intro cha_21
      conv => whnf
      refine ⟨by decide, fun c => absurd c (by decide), fun _ => ?_⟩
      conv => whnf
      have h9 := h (by omega) (by omega) _ _ (Fr.refl _) (Fr.refl _) hC
      unfold alikeA at h9
      rw [hmk, if_pos (dc_iff.mpr cha_21)] at h9
      exact h9
    · intro ch2a_21
      conv => whnf
      refine ⟨by decide, fun _ => ?_, fun c => absurd c (by decide)⟩
      conv => whnf
      refine ⟨by decide, _, rfl, ?_⟩
      conv => whnf
      refine ⟨by decide, _, rfl, ?_⟩
      conv => whnf
      refine ⟨by decide, _, rfl, ?_⟩
      conv => whnf
      refine zinv0 (s_X2_makeOf T (sil M) (by rfl) (by omega) (by exact cSil.2.1) (by exact cSil.2.2.1) ?_)
      intro I_40 L_40 hf_40 hg_40 hL_40
      conv => whnf
      refine ⟨by decide, _, rfl, ?_⟩
      conv => whnf
      refine ⟨by decide, _, rfl, ?_⟩
      conv => whnf
      refine ⟨by decide, _, rfl, ?_⟩
      conv => whnf
      refine ⟨by omega, by decide, _, zz.1, ?_⟩
      conv => whnf
      refine zinv0 (s_X2_firstLike T (sil M) (mS M k) (by exact zz.2) (by show (¬ (_ : Nat) = _) ∧ (¬ (_ : Nat) = _); omega) (by exact g1.row (fun b => hg_40 _ _ (by unfold PLk; omega))) (by exact g2.row (fun b => hf_40 _ _ (by unfold PLk; omega))) (by exact hL_40) ?_)
      have hfz := flk_z (sil M) (mS M k)
      conv => whnf
      refine ⟨by omega, fun c62 => ?_, fun c62 => ?_⟩
      · conv => whnf
        refine ⟨by omega, fun c68 => ?_, fun c68 => ?_⟩
        · conv => whnf
          refine ⟨by omega, fun c75 => ?_, fun c75 => ?_⟩
          · conv => whnf
            have h9 := h (by omega) (by omega) _ _ (hf_40.mono PLk_PQ) (hg_40.mono PLk_PQ) (hC.frk hf_40 hg_40)
            unfold alikeA at h9
            rw [hmk, if_neg (fun c => ch2a_21 (dc_iff.mp c)), if_neg (by omega), if_neg (by omega), if_neg (by omega)] at h9
            exact h9
          · conv => whnf
            have h9 := h (by omega) (by omega) _ _ (hf_40.mono PLk_PQ) (hg_40.mono PLk_PQ) (hC.frk hf_40 hg_40)
            unfold alikeA at h9
            rw [hmk, if_neg (fun c => ch2a_21 (dc_iff.mp c)), if_neg (by omega), if_neg (by omega), if_pos (by omega)] at h9
            exact h9
        · conv => whnf
          have h9 := h (by omega) (by omega) _ _ (hf_40.mono PLk_PQ) (hg_40.mono PLk_PQ) (hC.frk hf_40 hg_40)
          unfold alikeA at h9
          rw [hmk, if_neg (fun c => ch2a_21 (dc_iff.mp c)), if_neg (by omega), if_pos (by omega)] at h9
          exact h9
      · conv => whnf
        have h9 := h (by omega) (by omega) _ _ (hf_40.mono PLk_PQ) (hg_40.mono PLk_PQ) (hC.frk hf_40 hg_40)
        unfold alikeA at h9
        rw [hmk, if_neg (fun c => ch2a_21 (dc_iff.mp c)), if_pos (by omega)] at h9
        exact h9
  · intro ch2a_2
    exact h2 (fun c => ch2a_2 (by omega))
end
