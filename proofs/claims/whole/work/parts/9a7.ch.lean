/-! CHANGES, 6 -/
section
variable {Ln : Nat} {xs : Nat → Int32} {CZ : Nat → ZC} {RZ : Nat → Nat → ZQ → ZP}
theorem StC.off {I : ZI} {L : ZL} {W H : Nat} {M : Mo} (h : StC I L 282 W H M) (p : Nat) : StC (v2 I 286 p (-1)) L 282 W H (offP M p) := by
  obtain ⟨t1, t2, t3, t4, t5⟩ := h
  have e : ∀ a b, ¬ a = 286 → v2 I 286 p (-1) a b = I a b := fun a b h => v2_ne (by omega)
  refine ⟨by rw [e _ _ (by omega)]; exact t1, by rw [e _ _ (by omega)]; exact t2, ?_, by rw [e _ _ (by omega)]; exact t4, fun k hk => ⟨(t5 k hk).1, (t5 k hk).2.row (fun b => e _ _ (by omega))⟩⟩
  intro j j0 j7
  obtain ⟨n, rfl⟩ := Int.eq_ofNat_of_zero_le j0
  unfold offP
  rw [putM_F, putM_X, putM_Y]
  by_cases ej : n = p
  · subst ej
    rw [if_pos rfl]
    exact ⟨v2_eq _ _ _ _, fun c => (c rfl).elim⟩
  · rw [if_neg ej, if_neg ej, if_neg ej, v2_ne (by omega), v2_ne (by omega), v2_ne (by omega)]
    exact t3 n j0 j7
theorem s_X11_takeOff (T : ZTh (XX Ln xs) CZ RZ) {d b : Nat} {W H n bl : Nat} {M : Mo} {P SL : Nat → Mo} {u : Nat → Int} {p : Int} {I : ZI} {L : ZL} {Q : ZQ} (hb : 1 ≤ b) (hC : CB I L W H M P n SL bl u) (hp : zR p) (h : 0 ≤ p ∧ p < 7 → ∀ I' L', Fr PCh I I' → Fr PCh L L' → CB I' L' W H (offP M p.toNat) (psh P n M) (psn n) SL bl u → Q (.inl (some (.inl ((if mF M p = -1 then 0 else 1))))) I' L') (h2 : ¬ (0 ≤ p ∧ p < 7) → Q (.inr 2) I L) : CZ (d + 6) k_X11_takeOff [.inr (.ref 0, 12), .inl p] b I L Q := by
  refine T.call rfl ?_
  obtain ⟨cF, cS, cW, cSil, cPa, cPw, cSl, cFi, cb1, cb2, cb3⟩ := id hC
  obtain ⟨t1, t2, t3, t4, t5⟩ := id cS
  obtain ⟨⟨⟨w1, w2, w3, w4⟩, -⟩, w5, w6⟩ := id cW
  refine T.go [] 90 ?_
  conv => whnf
  refine ⟨1, by omega, s_X11_checkPiece T  (by first | assumption | omega | rfl | decide) (by first | assumption | omega | rfl | decide) ?_ ?_⟩
  · intro cha_1
    obtain ⟨pn, rfl⟩ := Int.eq_ofNat_of_zero_le cha_1.1
    have hp7 : pn < 7 := by omega
    have hpm : ((pn : Nat) : Int).toNat = pn := Int.toNat_natCast pn
    rw [hpm] at h
    have f1 : I (283 + 3) (pn : Int) = mF M pn := (t3 pn (by omega) (by omega)).1
    conv => whnf
    refine ⟨by decide, _, rfl, ?_⟩
    conv => whnf
    refine ⟨by decide, _, rfl, ?_⟩
    conv => whnf
    refine zinv0 (s_X5_isOff T  (by rfl) (by first | assumption | omega | rfl | decide) (by omega) (by exact t3.zR cW.1 (by omega) (by omega)) ?_ ?_)
    · intro cha_12
      conv => whnf
      refine ⟨by decide, fun _ => ?_, fun c => absurd c (by decide)⟩
      conv => whnf
      refine zinv0 (s_X11_remember T P M (by exact cPa) (by exact ⟨w5, cS⟩) ?_)
      intro I_25 L_25 hf_25 hg_25 hP_25
      have hS1 : StC I_25 L_25 282 W H M := cS.fr w5 (fun a b _ _ => hf_25 _ _ (by unfold PPa; omega)) (fun a b _ _ => hg_25 _ _ (by omega))
      have hSp := hS1.off pn
      have hWp := cW.1.off pn
      conv => whnf
      refine ⟨by decide, _, rfl, ?_⟩
      conv => whnf
      refine ⟨by decide, _, rfl, ?_⟩
      conv => whnf
      refine zinv0 (s_X5_drop T  (by rfl) (by rfl) (by rfl) (by first | assumption | omega | rfl | decide) (by omega) ?_)
      conv => whnf
      refine zinv0 (s_X11_refresh T (W := W) (H := H) (offP M pn) (by exact (cF.fr (fun a b _ _ => by rw [v2_ne (by omega)]; exact hf_25 _ _ (by unfold PPa; omega)) (fun a b _ _ => hg_25 _ _ (by omega)))) (by exact hWp) (by exact hSp.2.2.1) ?_)
      intro I_40 L_40 hf_40 hg_40 hS_40
      conv => whnf
      refine ⟨by omega, ?_⟩
      have h9 := h cha_1 _ _ (((hf_25.mono PPa_Ch).trans ((Fr.refl _).v2 (by unfold PCh; omega))).trans (hf_40.mono PSil_Ch)) ((hg_25.mono (fun a b c => by unfold PCh; omega)).trans (hg_40.mono (fun a b c => by unfold PCh; omega))) (hC.chg hf_25 hg_25 hP_25 ((Fr.refl _).v2 (by unfold PNo; omega)) (Fr.refl _) hSp ⟨hWp, cW.2⟩ hf_40 hg_40 hS_40)
      rw [if_pos (f1.symm.trans cha_12)] at h9
      exact h9
    · intro ch2a_12
      conv => whnf
      refine ⟨by decide, fun c => absurd c (by decide), fun _ => ?_⟩
      conv => whnf
      refine zinv0 (s_X11_remember T P M (by exact cPa) (by exact ⟨w5, cS⟩) ?_)
      intro I_25 L_25 hf_25 hg_25 hP_25
      have hS1 : StC I_25 L_25 282 W H M := cS.fr w5 (fun a b _ _ => hf_25 _ _ (by unfold PPa; omega)) (fun a b _ _ => hg_25 _ _ (by omega))
      have hSp := hS1.off pn
      have hWp := cW.1.off pn
      conv => whnf
      refine ⟨by decide, _, rfl, ?_⟩
      conv => whnf
      refine ⟨by decide, _, rfl, ?_⟩
      conv => whnf
      refine zinv0 (s_X5_drop T  (by rfl) (by rfl) (by rfl) (by first | assumption | omega | rfl | decide) (by omega) ?_)
      conv => whnf
      refine zinv0 (s_X11_refresh T (W := W) (H := H) (offP M pn) (by exact (cF.fr (fun a b _ _ => by rw [v2_ne (by omega)]; exact hf_25 _ _ (by unfold PPa; omega)) (fun a b _ _ => hg_25 _ _ (by omega)))) (by exact hWp) (by exact hSp.2.2.1) ?_)
      intro I_40 L_40 hf_40 hg_40 hS_40
      conv => whnf
      refine ⟨by omega, ?_⟩
      have h9 := h cha_1 _ _ (((hf_25.mono PPa_Ch).trans ((Fr.refl _).v2 (by unfold PCh; omega))).trans (hf_40.mono PSil_Ch)) ((hg_25.mono (fun a b c => by unfold PCh; omega)).trans (hg_40.mono (fun a b c => by unfold PCh; omega))) (hC.chg hf_25 hg_25 hP_25 ((Fr.refl _).v2 (by unfold PNo; omega)) (Fr.refl _) hSp ⟨hWp, cW.2⟩ hf_40 hg_40 hS_40)
      rw [if_neg (fun e => ch2a_12 (f1.trans e))] at h9
      exact h9
  · intro ch2a_1
    exact h2 ch2a_1
end
