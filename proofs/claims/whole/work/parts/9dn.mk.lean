/-! THE REFERENCE, CHECKSUM 5 -/
section
variable {Ln : Nat} {xs : Nat → Int32} {CZ : Nat → ZC} {RZ : Nat → Nat → ZQ → ZP}
theorem aSize_zM {I : ZI} {W H : Nat} {M : Mo} {P : Nat → Mo} {n : Nat} {SL : Nat → Mo} {v : Nat → Int} {bl : Nat} {u : Nat → Int} (hC : MB I W H M P n SL v bl u) (hA : WfA W H M P n SL v) {w : Nat} (hw : w < 9) : zR (aSize W H M n bl (w : Int)) := by
  obtain ⟨o1, o2, o3, o4, o5⟩ := ol_ok hA.1.1
  obtain ⟨⟨⟨⟨w1, w2, w3, w4⟩, -⟩, w5, -⟩, -⟩ := id hA
  rcases (show w = 0 ∨ w = 1 ∨ w = 2 ∨ w = 3 ∨ w = 4 ∨ w = 5 ∨ w = 6 ∨ w = 7 ∨ w = 8 by omega) with e | e | e | e | e | e | e | e | e <;> subst e
  · show zR (W : Int); exact ⟨by omega, by omega⟩
  · show zR (H : Int); exact ⟨by omega, by omega⟩
  · show zR (cn _ 7)
    have h1 := cn_nonneg (fun j => !decide (mF M (j : Int) = -1)) 7
    have h2 := cn_le (fun j => !decide (mF M (j : Int) = -1)) 7
    exact ⟨by omega, by omega⟩
  · show zR (cn (sil M) 576)
    have h1 := cn_nonneg (sil M) 576
    have h2 := cn_le (sil M) 576
    exact ⟨by omega, by omega⟩
  · exact partsO_z (sil M)
  · show zR ((oL (olM M) : Nat) : Int); exact ⟨by omega, by omega⟩
  · exact hoN_z hA.1.1
  · show zR ((oE (olM M) : Nat) : Int); exact ⟨by omega, by omega⟩
  · show zR ((mN M : Nat) : Int); exact ⟨by omega, by omega⟩
theorem l_mc1 (T : ZTh (XX Ln xs) CZ RZ) {d b : Nat} {Q : ZQ} {W H n bl : Nat} {M : Mo} {P SL : Nat → Mo} {v u : Nat → Int} {I0 : ZI} {L : ZL} (hA : WfA W H M P n SL v) (hk : ∀ I', Fr PSc I0 I' → I' 603 8 = 0 → MB I' W H M P n SL v bl u → RZ (d + 6) k_X12_checksum Q 36 [.inr (.ref 603, 13), .inr (.long (flS (fun w => aSize W H M n bl (w : Int)) 9 0), 0), zj, .inl 0, zj] [] b I' L) (m : Nat) : ∀ (w : Nat) (s : Int64) (I : ZI), (w ≤ 9) → (s = flS (fun w => aSize W H M n bl (w : Int)) w 0) → (Fr PSc I0 I) → (I 603 8 = 0) → (MB I W H M P n SL v bl u) → 9 - (w : Int) < (m : Int) → RZ (d + 6) k_X12_checksum Q 9 [.inr (.ref 603, 13), .inr (.long (s), 0), zj, .inl ((w : Int)), zj] [] b I L := by
  induction m with
  | zero =>
    intro w s I hw hs hfr ht hC hm
    exfalso
    omega
  | succ m ih =>
    intro w s I hw hs hfr ht hC hm
    refine T.go [9, 36] 90 ?_
    conv => whnf
    refine ⟨by omega, fun c12 => ?_, fun c12 => ?_⟩
    · conv => whnf
      obtain rfl : w = 9 := by omega
      rw [hs]
      exact hk I hfr ht hC
    · conv => whnf
      refine zinv0 (s_X12_sizeBy T (w := (w : Int)) (W := W) (H := H) (M := M) (P := P) (SL := SL) (v := v) (u := u) (by exact hC) (by exact hA) (by omega) ?_)
      intro I_22 hf_22 ht_22 hC_22
      conv => whnf
      refine ⟨by exact aSize_zM hC hA (by omega), ?_⟩
      conv => whnf
      exact ih (w + 1) _ I_22 (by omega) (by rw [hs]; rfl) (hfr.trans hf_22) (ht_22.trans ht) hC_22 (by omega)
theorem l_mcP (T : ZTh (XX Ln xs) CZ RZ) {d b : Nat} {Q : ZQ} {W H n bl : Nat} {M : Mo} {P SL : Nat → Mo} {v u : Nat → Int} {s0 : Int64} {I0 I : ZI} {L : ZL} (hC : MB I W H M P n SL v bl u) (hA : WfA W H M P n SL v) (hfr : Fr PSc I0 I) (ht : I 603 8 = 0) (h : ∀ I', Fr PSc I0 I' → I' 603 8 = 0 → MB I' W H M P n SL v bl u → Q (.inl (some (.inr (.long (fl2S (fun k w => aShape (mS M k) (w : Int)) 5 (mN M) (fl2S (fun l w => aLoop (olM M) l (w : Int)) 6 (oL (olM M)) (fl2S (fun y i => owAt M (48 * (y : Int) + (i : Int))) (4 * W) H s0))), 0)))) I' L) : RZ (d + 6) k_X12_checksum Q 78 [.inr (.ref 603, 13), .inr (.long (s0), 0), zj, zj, zj] [] b I L := by
  obtain ⟨mT, mR, ⟨mW, mH⟩, ⟨mn, mn8⟩, mP, mS9, ⟨mb1, mb2, mb3⟩, mz⟩ := id hC
  obtain ⟨⟨⟨⟨w1, w2, w3, w4⟩, -⟩, w5, w6⟩, wP, wS⟩ := id hA
  refine T.go [84] 90 ?_
  conv => whnf
  refine zinv0 (s_laysLoopsO T (W := W) (H := H) (M := M) (P := P) (SL := SL) (v := v) (u := u) (by exact hC) (by exact hA) ?_)
  intro I_79 hf_79 hO_79 hw_79
  have hC6 := hC.fr hA (fun a b _ g => hf_79 a b (fun c => g (PLo_c _ _ c)))
  have hfr6 := hfr.trans (hf_79.mono PLo_c)
  have ht6 : I_79 603 8 = 0 := (hf_79 _ _ (by unfold PLo; omega)).trans ht
  conv => whnf
  have eq3 : flQ W H (fun q => own M q) 576 s0 = fl2S (fun y i => owAt M (48 * (y : Int) + (i : Int))) (4 * W) H s0 := by
    rw [flQ_all w2 w4]
    have e : ∀ y i : Nat, own M (48 * y + i) = owAt M (48 * (y : Int) + (i : Int)) := fun y i => by
      unfold owAt
      by_cases c : 0 ≤ 48 * (y : Int) + (i : Int) ∧ 48 * (y : Int) + (i : Int) < 576
      · rw [if_pos c, show (48 * (y : Int) + (i : Int)).toNat = 48 * y + i by omega]
      · rw [if_neg c]
        apply Classical.byContradiction
        intro g
        have := own_in hA.1.1 g
        omega
    rw [show (fun y i : Nat => own M (48 * y + i)) = fun (y i : Nat) => owAt M (48 * (y : Int) + (i : Int)) from funext fun y => funext fun i => e y i]
  refine l_mc3 T (W := W) (H := H) (M := M) (s0 := s0) hw_79 ⟨hC6.2.2.1.1, w2⟩ ⟨hC6.2.2.1.2, w4⟩ ?_ 577 0 _ (by omega) rfl (by omega)
  rw [eq3]
  generalize fl2S (fun y i => owAt M (48 * (y : Int) + (i : Int))) (4 * W) H s0 = s3 at h ⊢
  refine l_mc4O T (W := W) (H := H) (M := M) (s0 := s3) hO_79 hA.1.1 ?_ (oL (olM M) + 1) 0 s3 (by omega) rfl (by omega)
  generalize fl2S (fun l w => aLoop (olM M) l (w : Int)) 6 (oL (olM M)) s3 = s4 at h ⊢
  exact l_mc5O T (s0 := s4) (I0 := I_79) hA (fun I2 f2 c2 => h I2 (hfr6.trans (f2.mono PAl_c)) ((f2 _ _ (by unfold PAl; omega)).trans ht6) c2) (mN M + 1) 0 s4 I_79 (by omega) rfl (Fr.refl _) hC6 (by omega)
theorem s_X12_checksum (T : ZTh (XX Ln xs) CZ RZ) {d b : Nat} {W H n bl : Nat} {M : Mo} {P SL : Nat → Mo} {v u : Nat → Int}  {I : ZI} {L : ZL} {Q : ZQ} (hC : MB I W H M P n SL v bl u) (hA : WfA W H M P n SL v) (h : ∀ I', Fr PSc I I' → I' 603 8 = 0 → MB I' W H M P n SL v bl u → Q (.inl (some (.inr (.long (chkA W H M n bl), 0)))) I' L) : CZ (d + 7) k_X12_checksum [.inr (.ref 603, 13)] b I L Q := by
  refine T.call rfl ?_
  have hC0 := hC.th hA 0
  refine T.go [9] 90 ?_
  conv => whnf
  refine ⟨by decide, ?_⟩
  conv => whnf
  unfold chkA at h
  refine l_mc1 T (I0 := I) hA (fun I1 f1 t1 c1 => ?_) 10 0 0 _ (by omega) rfl (frTh I 0) (v2_eq _ _ _ _) hC0 (by omega)
  refine l_mc2O T (W := W) (H := H) (M := M) c1.2.1 hA.1.1 ?_ 8 0 _ (by omega) rfl (by omega)
  exact l_mcP T (I0 := I) c1 hA f1 t1 (fun I2 f2 t2 c2 => h I2 f2 t2 c2)
end
