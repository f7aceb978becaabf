/-! CHANGES, 4 -/
section
variable {Ln : Nat} {xs : Nat → Int32} {CZ : Nat → ZC} {RZ : Nat → Nat → ZQ → ZP}
theorem s_X11_place (T : ZTh (XX Ln xs) CZ RZ) {d b : Nat} {W H n bl : Nat} {M : Mo} {P SL : Nat → Mo} {u : Nat → Int} {p x y t f : Int} {I : ZI} {L : ZL} {Q : ZQ} (hb : 2 ≤ b) (hC : CB I L W H M P n SL bl u) (hp : zR p) (hx : zR x) (hy : zR y) (ht : zR t) (hf : f = 0 ∨ f = 1) (h : 0 ≤ p ∧ p < 7 → 0 ≤ t ∧ t < 4 → aWhy W H M p x y t f = 0 → ∀ I' L', Fr PCh I I' → Fr PCh L L' → CB I' L' W H (putM M p.toNat x y (2 * t + f)) (psh P n M) (psn n) SL bl u → Q (.inl (some (.inl (cn (sil (putM M p.toNat x y (2 * t + f))) 576)))) I' L') (h4 : 0 ≤ p ∧ p < 7 → 0 ≤ t ∧ t < 4 → ¬ aWhy W H M p x y t f = 0 → Q (.inl (some (.inl ((-aWhy W H M p x y t f))))) I L) (h2 : ¬ (0 ≤ p ∧ p < 7) → Q (.inr 2) I L) (h3 : 0 ≤ p ∧ p < 7 → ¬ (0 ≤ t ∧ t < 4) → Q (.inr 1) I L) : CZ (d + 7) k_X11_place [.inr (.ref 0, 12), .inl p, .inl x, .inl y, .inl t, .inl f] b I L Q := by
  refine T.call rfl ?_
  obtain ⟨cF, cS, cW, cSil, cPa, cPw, cSl, cFi, cb1, cb2, cb3⟩ := id hC
  obtain ⟨t1, t2, t3, t4, t5⟩ := id cS
  obtain ⟨⟨⟨w1, w2, w3, w4⟩, -⟩, w5, w6⟩ := id cW
  refine T.go [] 90 ?_
  conv => whnf
  refine ⟨1, by omega, s_X11_checkPiece T  (by first | assumption | omega | rfl | decide) (by first | assumption | omega | rfl | decide) ?_ ?_⟩
  · intro cha_1
    conv => whnf
    refine ⟨1, by omega, s_X11_checkTurn T  (by first | assumption | omega | rfl | decide) (by first | assumption | omega | rfl | decide) ?_ ?_⟩
    · intro cha_6
      conv => whnf
      refine zinv0 (s_X11_formOf T  (by first | assumption | omega | rfl | decide) ?_)
      obtain ⟨pn, rfl⟩ := Int.eq_ofNat_of_zero_le cha_1.1
      obtain ⟨k, hk⟩ := Int.eq_ofNat_of_zero_le (a := 2 * t + f) (by omega)
      have hk8 : k < 8 := by omega
      have hp7 : pn < 7 := by omega
      have hpm : ((pn : Nat) : Int).toNat = pn := Int.toNat_natCast pn
      have haw : aWhy W H M (pn : Int) x y t f = why W H M pn (8 * pn + k) x y := by unfold aWhy; rw [hk]; rfl
      have hwb := @why_b W H M pn (8 * pn + k) x y
      rw [haw] at h h4
      rw [hpm, hk] at h
      rw [hk]
      conv => whnf
      refine zinv0 (s_X11_tryPlace T (M := M) (by exact hC) (by exact hp7) (by exact hk8) (by exact hx) (by exact hy) ?_ ?_)
      · intro h0_20 I_20 L_20 hf_20 hg_20 hC_20
        conv => whnf
        refine ⟨by decide, fun c => absurd c (by decide), fun _ => ?_⟩
        conv => whnf
        refine ⟨by decide, _, rfl, ?_⟩
        conv => whnf
        refine ⟨by decide, _, rfl, ?_⟩
        conv => whnf
        refine ⟨by decide, ?_⟩
        conv => whnf
        rw [show I_20 528 1 = _ from hC_20.2.2.2.1.2.2.1.1]
        exact h cha_1 cha_6 h0_20 _ _ hf_20 hg_20 hC_20
      · intro ch2a_20
        conv => whnf
        refine ⟨by omega, fun c27 => ?_, fun c27 => ?_⟩
        · conv => whnf
          exact h4 cha_1 cha_6 ch2a_20
        · conv => whnf
          refine ⟨by decide, _, rfl, ?_⟩
          conv => whnf
          refine ⟨by decide, _, rfl, ?_⟩
          conv => whnf
          refine ⟨by decide, ?_⟩
          conv => whnf
          exact absurd c27 ch2a_20
    · intro ch2a_6
      exact h3 cha_1 ch2a_6
  · intro ch2a_1
    exact h2 ch2a_1
end
