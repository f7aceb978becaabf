/-! THE REFERENCE, CHECKSUM 2 -/
section
variable {Ln : Nat} {xs : Nat → Int32} {CZ : Nat → ZC} {RZ : Nat → Nat → ZQ → ZP}
theorem s_laysLoopsO (T : ZTh (XX Ln xs) CZ RZ) {d b : Nat} {W H n bl : Nat} {M : Mo} {P SL : Nat → Mo} {v u : Nat → Int}  {I : ZI} {L : ZL} {Q : ZQ} (hC : MB I W H M P n SL v bl u) (hA : WfA W H M P n SL v) (h : ∀ I', Fr PLo I I' → OuM I' M → OwM I' M → Q (.inl none) I' L) : CZ (d + 5) k_X12_laysLoops [.inr (.ref 603, 13)] b I L Q := by
  refine T.call rfl ?_
  obtain ⟨mT, mR, ⟨mW, mH⟩, ⟨mn, mn8⟩, mP, mS9, ⟨mb1, mb2, mb3⟩, mz⟩ := id hC
  obtain ⟨⟨⟨⟨w1, w2, w3, w4⟩, -⟩, w5, w6⟩, wP, wS⟩ := id hA
  refine T.go [16] 90 ?_
  conv => whnf
  refine zinv0 (s_X12_laysBorders T (W := W) (H := H) (M := M) (P := P) (SL := SL) (v := v) (u := u) (by exact hC) (by exact hA) ?_)
  intro I_1 hf_1 hO_1 hL_1
  conv => whnf
  refine ⟨by decide, ?_⟩
  conv => whnf
  refine ⟨by decide, ?_⟩
  conv => whnf
  have eb : bsP (sil M) 576 0 = bs (sil M) := funext fun e => bsP_all _ e
  have h21 : ∀ e : Nat, e < 5000 → v2 (v2 I_1 603 34 0) 603 35 0 621 (e : Int) = bi (bs (sil M) e) := fun e he => by rw [v2_ne (by omega), v2_ne (by omega), ← eb]; exact (hL_1.1 e he).1
  refine l_mll T (O := sil M) (I0 := v2 (v2 I_1 603 34 0) 603 35 0) (sil_cn hA.1.1) h21 (fun I2 f2 s2 b2 => h I2 ?_ ⟨s2, b2, fun e he => by rw [f2 _ _ (by unfold PWk; omega)]; exact h21 e he⟩ (fun q hq => by rw [f2 _ _ (by unfold PWk; omega), v2_ne (by omega), v2_ne (by omega)]; exact hO_1 q hq)) 5001 0 _ (by omega) (Fr.refl _) ⟨fun e he => ?_, ?_, ?_, fun i hi => absurd hi (Nat.not_lt_zero i), fun i hi => absurd hi (Nat.not_lt_zero i), fun _ g => absurd g (Nat.not_lt_zero 0)⟩ ⟨fun i hi => absurd hi (Nat.not_lt_zero i), fun i hi => absurd hi (Nat.not_lt_zero i)⟩ (by omega)
  · intro a b g
    unfold PLo at g
    rw [f2 a b (by unfold PWk; omega), v2_ne (by omega), v2_ne (by omega), hf_1 a b (by unfold PBs; omega)]
  · rw [v2_ne (by omega), v2_ne (by omega)]
    exact (hL_1.1 e he).2
  · rw [v2_ne (by omega), v2_eq]
    rfl
  · rw [v2_eq]
    rfl
theorem l_mc3 (T : ZTh (XX Ln xs) CZ RZ) {d b : Nat} {Q : ZQ} {W H : Nat} {M : Mo} {s0 : Int64} {I : ZI} {L : ZL} (hO : OwM I M) (hW : I 603 5 = W ∧ W ≤ 12) (hH : I 603 6 = H ∧ H ≤ 12) (hk : RZ (d + 6) k_X12_checksum Q 125 [.inr (.ref 603, 13), .inr (.long (flQ W H (fun q => own M q) 576 s0), 0), zj, .inl 0, zj] [] b I L) (m : Nat) : ∀ (q : Nat) (s : Int64), (q ≤ 576) → (s = flQ W H (fun q => own M q) q s0) → 576 - (q : Int) < (m : Int) → RZ (d + 6) k_X12_checksum Q 84 [.inr (.ref 603, 13), .inr (.long (s), 0), zj, .inl ((q : Int)), zj] [] b I L := by
  induction m with
  | zero =>
    intro q s hq hs hm
    exfalso
    omega
  | succ m ih =>
    intro q s hq hs hm
    have hob := own_b M q
    refine T.go [84, 125] 90 ?_
    conv => whnf
    refine ⟨by omega, fun c88 => ?_, fun c88 => ?_⟩
    · conv => whnf
      obtain rfl : q = 576 := by omega
      rw [hs]
      exact hk
    · conv => whnf
      refine zinv0 (s_X12_isQuarter T (q := (q : Int)) (W := W) (H := H) (by exact ⟨by omega, by omega⟩) (by exact hW) (by exact hH) ?_ ?_)
      · intro cha_93
        conv => whnf
        refine ⟨by decide, fun c => absurd c (by decide), fun _ => ?_⟩
        conv => whnf
        refine ⟨by decide, _, rfl, ?_⟩
        conv => whnf
        refine ⟨by omega, by decide, ?_⟩
        conv => whnf
        rw [hO q (by omega)]
        refine ⟨by exact ⟨by omega, by omega⟩, ?_⟩
        conv => whnf
        refine ih (q + 1) _ (by omega) ?_ (by omega)
        rw [flQ_s, if_pos ⟨by omega, by omega⟩, hs]
        rfl
      · intro ch2a_93
        conv => whnf
        refine ⟨by decide, fun _ => ?_, fun c => absurd c (by decide)⟩
        conv => whnf
        refine ih (q + 1) _ (by omega) ?_ (by omega)
        rw [flQ_s, if_neg (fun g => ch2a_93 ⟨⟨by omega, by omega⟩, by omega, by omega⟩), hs]
end
