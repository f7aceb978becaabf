/-! CHANGES, 13: solve -/
section
variable {Ln : Nat} {xs : Nat → Int32} {CZ : Nat → ZC} {RZ : Nat → Nat → ZQ → ZP}
theorem s_X11_solve (T : ZTh (XX Ln xs) CZ RZ) {d b : Nat} {W H n bl : Nat} {M : Mo} {P SL : Nat → Mo} {u : Nat → Int} {k : Int} {I : ZI} {L : ZL} {Q : ZQ} (hb : 1 ≤ b) (hC : CB I L W H M P n SL bl u) (hk : zR k) (h : 0 ≤ k → k < mN M → ¬ waysA M k.toNat = 0 → ∀ I' L', Fr PCh I I' → Fr PCh L L' → CB I' L' W H (slM M k.toNat) (psh P n M) (psn n) SL bl u → Q (.inl (some (.inl (1)))) I' L') (h0 : 0 ≤ k → k < mN M → waysA M k.toNat = 0 → ∀ I' L', Fr PQ I I' → Fr PQ L L' → CB I' L' W H M P n SL bl u → Q (.inl (some (.inl (0)))) I' L') (h2 : ¬ (0 ≤ k ∧ k < mN M) → Q (.inr 2) I L) : CZ (d + 32) k_X11_solve [.inr (.ref 0, 12), .inl k] b I L Q := by
  refine T.call rfl ?_
  obtain ⟨cF, cS, cW, cSil, cPa, cPw, cSl, cFi, cb1, cb2, cb3⟩ := id hC
  obtain ⟨t1, t2, t3, t4, t5⟩ := id cS
  obtain ⟨⟨⟨w1, w2, w3, w4⟩, -⟩, w5, w6⟩ := id cW
  refine T.go [] 150 ?_
  conv => whnf
  refine ⟨1, by omega, s_X11_checkShape T (w := k) (by first | assumption | omega | rfl | decide) (by first | assumption | omega | rfl | decide) (by exact ⟨by omega, by omega⟩) ?_ ?_⟩
  · intro cha_2 chb_2
    obtain ⟨k, rfl⟩ := Int.eq_ofNat_of_zero_le cha_2
    have hk : k < mN M := by omega
    have zz := za_shp (k := k) (by omega)
    obtain ⟨g1, g2⟩ := t5 k hk
    replace g1 : RgS L (288 + 2 * k) (mS M k) := g1
    replace g2 : RgM I (288 + 2 * k) (mS M k) := g2
    have hmk : ((k : Nat) : Int).toNat = k := Int.toNat_natCast k
    conv => whnf
    refine ⟨by decide, _, rfl, ?_⟩
    conv => whnf
    refine ⟨by decide, _, rfl, ?_⟩
    conv => whnf
    refine ⟨by decide, _, rfl, ?_⟩
    conv => whnf
    refine ⟨by decide, _, rfl, ?_⟩
    conv => whnf
    refine ⟨by omega, by decide, _, zz.1, ?_⟩
    conv => whnf
    refine zinv0 (s_X0_fill T (mS M k) (by exact cF) (by exact zz.2) (by omega) (by exact g1) (by exact g2) (by exact Ws.off cW.2 hk) (by omega) (by exact cFi) ?_)
    intro I_23 L_23 mo_23 hf_23 hg_23 hm_23 hm2_23 h5_23 hP_23 hK_23
    have es := waysR_same (m := mo_23) (m' := 1000) (by omega) (by omega) (mS M k)
    have hwb := waysR_b (most := mo_23) (by omega) (mS M k)
    have hC1 := hC.frf hf_23 hg_23 hK_23
    obtain ⟨dF, dS, dW, dSil, dPa, dPw, dSl, dFi, -⟩ := id hC1
    have ewA : waysA M k = (waysR 1000 (mS M k)).1 := rfl
    obtain ⟨es1, es2⟩ := es
    rw [hmk] at h h0
    conv => whnf
    refine ⟨by decide, _, rfl, ?_⟩
    conv => whnf
    refine ⟨by decide, ?_⟩
    conv => whnf
    refine ⟨by omega, fun c33 => ?_, fun c33 => ?_⟩
    · conv => whnf
      refine zinv0 (s_X11_remember T P M (by exact dPa) (by exact ⟨w5, dS⟩) ?_)
      intro I_39 L_39 hf_39 hg_39 hP_39
      have hS1 : StC I_39 L_39 282 W H M := dS.fr w5 (fun a b _ _ => hf_39 _ _ (by unfold PPa; omega)) (fun a b _ _ => hg_39 _ _ (by omega))
      conv => whnf
      refine ⟨by decide, _, rfl, ?_⟩
      conv => whnf
      refine ⟨by decide, _, rfl, ?_⟩
      conv => whnf
      refine ⟨by decide, _, rfl, ?_⟩
      conv => whnf
      refine ⟨by decide, _, rfl, ?_⟩
      conv => whnf
      refine zinv0 (s_X5_copy T  (by rfl) (by rfl) (by rfl) (by first | assumption | omega | rfl | decide) (by rfl) (by rfl) (by rfl) (by first | assumption | omega | rfl | decide) (by first | assumption | omega | rfl | decide) ?_)
      intro I_56 hf_56 hv_56
      obtain ⟨w, hw9⟩ : ∃ w, w = (waysR 1000 (mS M k)).2 := ⟨_, rfl⟩
      have hsl : slM M k = plcM M w := by rw [hw9]; rfl
      rw [es1, ← hw9] at hP_23
      have hSp : StC I_56 L_39 282 W H (slM M k) := by
        rw [hsl]
        have gN : ∀ a b, ¬ (284 ≤ a ∧ a ≤ 286) → I_56 a b = I_39 a b := fun a b g => hf_56 _ _ (by omega)
        refine ⟨(gN _ _ (by omega)).trans hS1.1, (gN _ _ (by omega)).trans hS1.2.1, fun j j0 j7 => ?_, (gN _ _ (by omega)).trans hS1.2.2.2.1, fun i hi => ⟨(hS1.2.2.2.2 i hi).1, (hS1.2.2.2.2 i hi).2.row (fun b => gN _ _ (by omega))⟩⟩
        obtain ⟨v1, v2, v3⟩ := hv_56 j j0 j7
        obtain ⟨p1, p2⟩ := hP_23 j j0 j7
        have q1 : I_56 286 j = mF w j := v3.trans ((hf_39 _ _ (by unfold PPa; omega)).trans p1)
        refine ⟨q1, fun c => ?_⟩
        obtain ⟨p3, p4⟩ := p2 c
        exact ⟨v1.trans ((hf_39 _ _ (by unfold PPa; omega)).trans p3), v2.trans ((hf_39 _ _ (by unfold PPa; omega)).trans p4)⟩
      have hWp := cW.sl hk
      conv => whnf
      refine zinv0 (s_X11_refresh T (W := W) (H := H) (slM M k) (by exact (dF.fr (fun a b _ _ => by rw [hf_56 _ _ (by omega)]; exact hf_39 _ _ (by unfold PPa; omega)) (fun a b _ _ => hg_39 _ _ (by omega)))) (by exact hWp.1) (by exact hSp.2.2.1) ?_)
      intro I_60 L_60 hf_60 hg_60 hS_60
      conv => whnf
      refine ⟨by omega, ?_⟩
      refine h (by omega) (by omega) (by omega) _ _ ((((hf_23.mono (fun a b c => by unfold PFi at c; unfold PCh; omega)).trans (hf_39.mono PPa_Ch)).trans (hf_56.mono (fun a b c => by unfold PCh; omega))).trans (hf_60.mono PSil_Ch)) (((hg_23.mono (fun a b c => by unfold PCh; omega)).trans (hg_39.mono (fun a b c => by unfold PCh; omega))).trans (hg_60.mono (fun a b c => by unfold PCh; omega))) (hC1.chg hf_39 hg_39 hP_39 (hf_56.mono (fun a b c => by unfold PNo; omega)) (Fr.refl _) hSp hWp hf_60 hg_60 hS_60)
    · conv => whnf
      refine ⟨by omega, ?_⟩
      exact h0 (by omega) (by omega) (by omega) _ _ (hf_23.mono PFi_PQ) (hg_23.mono PFl_PQ) hC1
  · intro ch2a_2
    exact h2 (fun c => ch2a_2 (by omega))
end
