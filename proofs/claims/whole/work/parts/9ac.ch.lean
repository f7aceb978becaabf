/-! CHANGES, 11 -/
section
variable {Ln : Nat} {xs : Nat → Int32} {CZ : Nat → ZC} {RZ : Nat → Nat → ZQ → ZP}
theorem own_pl {M M' : Mo} (hX : mX M' = mX M) (hY : mY M' = mY M) (hF : mF M' = mF M) : own M' = own M := by
  have h : ∀ p q, ow M' p q = ow M p q := by
    intro p
    induction p with
    | zero => intro q; rfl
    | succ p ih =>
      intro q
      rw [ow_s, ow_s, ih]
      unfold cvr fi fo
      rw [hX, hY, hF]
  funext q
  exact h 7 q
theorem SilOK.pl {I : ZI} {L : ZL} {M M' : Mo} (h : SilOK I L M) (e : own M' = own M) : SilOK I L M' := by
  have e2 : sil M' = sil M := by
    funext q
    unfold sil
    rw [e]
  unfold SilOK
  rw [e2, e]
  exact h
/-- M with its silhouette kept as one more shape -/
def kpM (M : Mo) : Mo := (mX M, mY M, mF M, mN M + 1, fun k => if k = mN M then sil M else mS M k)
theorem Wf.kp {W H : Nat} {M : Mo} (h : Wf W H M) (h8 : mN M < 8) (h0 : ¬ cn (sil M) 576 = 0) : Wf W H (kpM M) := by
  obtain ⟨a1, a2, a3⟩ := h
  refine ⟨a1, ?_, fun k hk => ?_⟩
  · show mN M + 1 ≤ 8
    omega
  · show (∀ q, (if k = mN M then sil M else mS M k) q = true → _) ∧ ∃ q, (if k = mN M then sil M else mS M k) q = true
    by_cases e : k = mN M
    · rw [if_pos e]
      refine ⟨fun q hq => own_in a1 (fun c => ?_), ?_⟩
      · unfold sil at hq
        rw [c] at hq
        cases hq
      · apply Classical.byContradiction
        intro c
        refine h0 (cn_false (fun i _ => ?_))
        cases e2 : sil M i with
        | false => rfl
        | true => exact absurd ⟨i, e2⟩ c
    · rw [if_neg e]
      have hk' : k < mN M + 1 := hk
      exact a3 k (by omega)
theorem Wf.dr {W H : Nat} {M : Mo} (h : Wf W H M) (k : Nat) : Wf W H (drS M k) := by
  obtain ⟨a1, a2, a3⟩ := h
  refine ⟨a1, ?_, fun j hj => ?_⟩
  · show mN M - 1 ≤ 8
    omega
  · have hj' : j < mN M - 1 := hj
    show (∀ q, (if j < k then mS M j else mS M (j + 1)) q = true → _) ∧ ∃ q, (if j < k then mS M j else mS M (j + 1)) q = true
    by_cases e : j < k
    · rw [if_pos e]; exact a3 j (by omega)
    · rw [if_neg e]; exact a3 (j + 1) (by omega)
theorem CB.gen {I I3 : ZI} {L L3 : ZL} {W H : Nat} {M M' : Mo} {P P' : Nat → Mo} {n n' : Nat} {SL : Nat → Mo} {bl : Nat} {u : Nat → Int} (h : CB I L W H M P n SL bl u) (e1 : ∀ a b, ¬ ((a = 0 ∧ b = 3) ∨ (282 ≤ a ∧ a ≤ 480) ∨ (527 ≤ a ∧ a ≤ 543)) → I3 a b = I a b) (e2 : ∀ (a : Nat) (b : Int), ¬ ((282 ≤ a ∧ a ≤ 480) ∨ a = 529) → L3 a b = L a b) (hS : StC I3 L3 282 W H M') (hW : Wf W H M') (hSil : SilOK I3 L3 M') (hP : PaOK I3 L3 W H P' n') (hPw : ∀ i, i < n' → Wf W H (P' i)) : CB I3 L3 W H M' P' n' SL bl u := by
  obtain ⟨a1, a2, a3, a4, a5, a6, a7, a8, a9, a10, a11⟩ := h
  refine ⟨a1.fr (fun a b _ _ => e1 _ _ (by omega)) (fun a b _ _ => e2 _ _ (by omega)), hS, hW, hSil, hP, hPw, fun t ht => ?_, a8.fr (fun a b _ _ => e1 _ _ (by omega)) (fun b => e2 _ _ (by omega)), ?_, a10, fun i hi => ?_⟩
  · rw [e1 _ _ (by omega)]
    obtain ⟨b1, b2⟩ := a7 t ht
    exact ⟨b1, fun e => ⟨(b2 e).1.fr (b2 e).2.2.1 (fun a b _ _ => e1 _ _ (by omega)) (fun a b _ _ => e2 _ _ (by omega)), (b2 e).2⟩⟩
  · rw [e1 _ _ (by omega)]; exact a9
  · rw [e1 _ _ (by omega)]; exact a11 i hi
theorem s_X11_keep (T : ZTh (XX Ln xs) CZ RZ) {d b : Nat} {W H n bl : Nat} {M : Mo} {P SL : Nat → Mo} {u : Nat → Int}  {I : ZI} {L : ZL} {Q : ZQ} (hC : CB I L W H M P n SL bl u) (h : mN M < 8 → ¬ cn (sil M) 576 = 0 → ∀ I' L', Fr PCh I I' → Fr PCh L L' → CB I' L' W H (kpM M) (psh P n M) (psn n) SL bl u → Q (.inl (some (.inl ((mN M : Int))))) I' L') (h2 : ¬ (mN M < 8 ∧ ¬ cn (sil M) 576 = 0) → Q (.inl (some (.inl ((-1))))) I L) : CZ (d + 4) k_X11_keep [.inr (.ref 0, 12)] b I L Q := by
  refine T.call rfl ?_
  obtain ⟨cF, cS, cW, cSil, cPa, cPw, cSl, cFi, cb1, cb2, cb3⟩ := id hC
  obtain ⟨t1, t2, t3, t4, t5⟩ := id cS
  obtain ⟨⟨⟨w1, w2, w3, w4⟩, -⟩, w5, w6⟩ := id cW
  have hc1 := cn_nonneg (sil M) 576
  have hc2 := cn_le (sil M) 576
  have hcq : I 528 1 = cn (sil M) 576 := cSil.2.2.1.1
  replace t4 : I 282 4 = mN M := t4
  refine T.go [] 120 ?_
  conv => whnf
  refine ⟨by decide, _, rfl, ?_⟩
  conv => whnf
  refine ⟨by decide, ?_⟩
  conv => whnf
  refine ⟨by omega, fun c9 => ?_, fun c9 => ?_⟩
  · conv => whnf
    exact h2 (by omega)
  · conv => whnf
    refine ⟨by decide, _, rfl, ?_⟩
    conv => whnf
    refine ⟨by decide, _, rfl, ?_⟩
    conv => whnf
    refine ⟨by decide, ?_⟩
    conv => whnf
    refine ⟨by omega, fun c22 => ?_, fun c22 => ?_⟩
    · conv => whnf
      refine zinv0 (s_X11_remember T P M (by exact cPa) (by exact ⟨w5, cS⟩) ?_)
      intro I_28 L_28 hf_28 hg_28 hP_28
      have hS1 : StC I_28 L_28 282 W H M := cS.fr w5 (fun a b _ _ => hf_28 _ _ (by unfold PPa; omega)) (fun a b _ _ => hg_28 _ _ (by omega))
      have e4 : I_28 282 4 = mN M := hS1.2.2.2.1
      have m8 : mN M < 8 := by omega
      have zz := za_shp (k := mN M) m8
      conv => whnf
      refine ⟨by decide, _, rfl, ?_⟩
      conv => whnf
      refine ⟨by decide, _, rfl, ?_⟩
      conv => whnf
      refine ⟨by decide, _, rfl, ?_⟩
      conv => whnf
      refine ⟨by decide, ?_⟩
      conv => whnf
      refine ⟨by omega, by decide, _, (by rw [e4]; exact zz.1), ?_⟩
      conv => whnf
      refine ⟨by decide, _, rfl, ?_⟩
      conv => whnf
      refine ⟨by decide, _, rfl, ?_⟩
      conv => whnf
      refine zinv0 (s_X6_copy T (sil M) (by exact zz.2) (by show (¬ (_ : Nat) = _) ∧ (¬ (_ : Nat) = _); omega) (by rfl) (by decide) (by show (¬ (_ : Nat) = _) ∧ (¬ (_ : Nat) = _) ∧ (¬ (_ : Nat) = _) ∧ (¬ (_ : Nat) = _) ∧ (¬ (_ : Nat) = _); omega) (by exact cSil.2.1.row (fun b => hg_28 _ _ (by omega))) (by exact cSil.2.2.1.row (fun b => hf_28 _ _ (by unfold PPa; omega))) ?_)
      intro I_53 L_53 hf_53 hg_53 hS_53 hM_53
      have e5 : I_53 282 4 = mN M := (hf_53 _ _ (by omega)).trans e4
      conv => whnf
      refine ⟨by decide, _, rfl, ?_⟩
      conv => whnf
      refine ⟨by decide, ?_⟩
      conv => whnf
      refine ⟨by decide, ?_⟩
      conv => whnf
      refine ⟨by decide, _, rfl, ?_⟩
      conv => whnf
      refine ⟨by decide, ?_⟩
      conv => whnf
      have gI : ∀ a b, ¬ (a = 288 + 2 * mN M) → a ≠ 282 → v2 I_53 282 4 (I_53 282 4 + 1) a b = I_28 a b := fun a b g1 g2 => by
        rw [v2_ne (fun c => g2 c.1)]
        exact hf_53 _ _ (fun c => g1 c.1)
      have gN : ∀ b, b ≠ 4 → v2 I_53 282 4 (I_53 282 4 + 1) 282 b = I_28 282 b := fun b g => by
        rw [v2_ne (fun c => g c.2)]
        exact hf_53 _ _ (by omega)
      have hSk : StC (v2 I_53 282 4 (I_53 282 4 + 1)) L_53 282 W H (kpM M) := by
        refine ⟨(gN 0 (by omega)).trans hS1.1, (gN 1 (by omega)).trans hS1.2.1, hS1.2.2.1.fr (fun a b _ _ => gI a b (by omega) (by omega)), ?_, fun k hk => ?_⟩
        · rw [v2_eq, e5]
          show ((mN M : Nat) : Int) + 1 = ((mN M + 1 : Nat) : Int)
          omega
        · have hk' : k < mN M + 1 := hk
          show RgS L_53 (282 + 6 + 2 * k) (if k = mN M then sil M else mS M k) ∧ RgM (v2 I_53 282 4 (I_53 282 4 + 1)) (282 + 6 + 2 * k) (if k = mN M then sil M else mS M k)
          by_cases e : k = mN M
          · rw [if_pos e, e]
            exact ⟨hS_53, hM_53.row (fun b => v2_ne (by omega))⟩
          · rw [if_neg e]
            obtain ⟨q1, q2⟩ := hS1.2.2.2.2 k (by omega)
            exact ⟨q1.row (fun b => hg_53 _ _ (by omega)), q2.row (fun b => gI _ _ (by omega) (by omega))⟩
      have h9 := h m8 (fun c => c22 (hcq.trans c)) _ _ (((hf_28.mono PPa_Ch).trans (hf_53.mono (fun a b c => by unfold PCh; omega))).v2 (by unfold PCh; omega)) ((hg_28.mono (fun a b c => by unfold PCh; omega)).trans (hg_53.mono (fun a b c => by unfold PCh; omega))) (hC.chg hf_28 hg_28 hP_28 ((hf_53.mono (fun a b c => by unfold PNo; omega)).v2 (by unfold PNo; omega)) (hg_53.mono (fun a b c => by unfold PNo; omega)) hSk (cW.kp m8 (fun c => c22 (hcq.trans c))) (Fr.refl _) (Fr.refl _) ((cSil.fr (fun a b _ _ => (gI _ _ (by omega) (by omega)).trans (hf_28 _ _ (by unfold PPa; omega))) (fun b => (hg_53 _ _ (by omega)).trans (hg_28 _ _ (by omega)))).pl (own_pl rfl rfl rfl)))
      rw [show v2 I_53 282 4 (I_53 282 4 + 1) 282 4 - 1 = (mN M : Int) from by rw [v2_eq, e5]; omega]
      exact h9
    · conv => whnf
      exact h2 (by omega)
theorem s_X11_remove (T : ZTh (XX Ln xs) CZ RZ) {d b : Nat} {W H n bl : Nat} {M : Mo} {P SL : Nat → Mo} {u : Nat → Int} {k : Int} {I : ZI} {L : ZL} {Q : ZQ} (hb : 1 ≤ b) (hC : CB I L W H M P n SL bl u) (hk : zR k) (h : 0 ≤ k → k < mN M → ∀ I' L', Fr PCh I I' → Fr PCh L L' → CB I' L' W H (drS M k.toNat) (psh P n M) (psn n) SL bl u → Q (.inl (some (.inl (((mN M - 1 : Nat) : Int))))) I' L') (h2 : ¬ (0 ≤ k ∧ k < mN M) → Q (.inr 2) I L) : CZ (d + 4) k_X11_remove [.inr (.ref 0, 12), .inl k] b I L Q := by
  refine T.call rfl ?_
  obtain ⟨cF, cS, cW, cSil, cPa, cPw, cSl, cFi, cb1, cb2, cb3⟩ := id hC
  obtain ⟨t1, t2, t3, t4, t5⟩ := id cS
  obtain ⟨⟨⟨w1, w2, w3, w4⟩, -⟩, w5, w6⟩ := id cW
  refine T.go [] 90 ?_
  conv => whnf
  refine ⟨1, by omega, s_X11_checkShape T (w := k) (by first | assumption | omega | rfl | decide) (by first | assumption | omega | rfl | decide) (by exact ⟨by omega, by omega⟩) ?_ ?_⟩
  · intro cha_2 chb_2
    obtain ⟨k, rfl⟩ := Int.eq_ofNat_of_zero_le cha_2
    have hk : k < mN M := by omega
    have zz := za_shp (k := k) (by omega)
    obtain ⟨g1, g2⟩ := t5 k hk
    replace g1 : RgS L (288 + 2 * k) (mS M k) := g1
    replace g2 : RgM I (288 + 2 * k) (mS M k) := g2
    have hmk : ((k : Nat) : Int).toNat = k := Int.toNat_natCast k
    conv => whnf
    refine zinv0 (s_X11_remember T P M (by exact cPa) (by exact ⟨w5, cS⟩) ?_)
    intro I_6 L_6 hf_6 hg_6 hP_6
    have hS1 : StC I_6 L_6 282 W H M := cS.fr w5 (fun a b _ _ => hf_6 _ _ (by unfold PPa; omega)) (fun a b _ _ => hg_6 _ _ (by omega))
    rw [hmk] at h
    conv => whnf
    refine ⟨by decide, _, rfl, ?_⟩
    conv => whnf
    refine zinv0 (s_X8_dropShape T M (by decide) (by exact w5) (by exact hk) (by exact hS1) ?_)
    intro I_14 L_14 hf_14 hg_14 hM_14
    conv => whnf
    refine ⟨by decide, _, rfl, ?_⟩
    conv => whnf
    refine ⟨by decide, ?_⟩
    conv => whnf
    have h9 := h (by omega) (by omega) _ _ ((hf_6.mono PPa_Ch).trans (hf_14.mono (fun a b c => by unfold stP at c; unfold PCh; omega))) ((hg_6.mono (fun a b c => by unfold PCh; omega)).trans (hg_14.mono (fun a b c => by unfold stP at c; unfold PCh; omega))) (hC.chg hf_6 hg_6 hP_6 (hf_14.mono (fun a b c => by unfold stP at c; unfold PNo; omega)) (hg_14.mono (fun a b c => by unfold stP at c; unfold PNo; omega)) hM_14 (cW.dr k) (Fr.refl _) (Fr.refl _) ((cSil.fr (fun a b _ _ => (hf_14 _ _ (by unfold stP; omega)).trans (hf_6 _ _ (by unfold PPa; omega))) (fun b => (hg_14 _ _ (by unfold stP; omega)).trans (hg_6 _ _ (by omega)))).pl (own_pl rfl rfl rfl)))
    rw [show I_14 282 4 = ((mN M - 1 : Nat) : Int) from hM_14.2.2.2.1]
    exact h9
  · intro ch2a_2
    exact h2 (fun c => ch2a_2 (by omega))
end
