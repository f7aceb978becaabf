/-! CHANGES, 10 -/
section
variable {Ln : Nat} {xs : Nat → Int32} {CZ : Nat → ZC} {RZ : Nat → Nat → ZQ → ZP}
theorem l_shA (T : ZTh (XX Ln xs) CZ RZ) {d b : Nat} {Q : ZQ} {dx dy : Int} {W H n bl : Nat} {M : Mo} {P SL : Nat → Mo} {u : Nat → Int} {I : ZI} {L : ZL} (hC : CB I L W H M P n SL bl u) (hx : zR dx) (hy : zR dy) (hk : (∀ i : Nat, i < 7 → shO W H M dx dy i) → RZ (d + 5) k_X11_shift Q 46 [.inr (.ref 0, 12), .inl dx, .inl dy, .inr (.ref 283, 6), zj] [] b I L) (h2 : (¬ ∀ i : Nat, i < 7 → shO W H M dx dy i) → Q (.inl (some (.inl 0))) I L) (m : Nat) : ∀ (j : Nat), (j ≤ 7) → (∀ i : Nat, i < j → shO W H M dx dy i) → 7 - (j : Int) < (m : Int) → RZ (d + 5) k_X11_shift Q 11 [.inr (.ref 0, 12), .inl dx, .inl dy, .inr (.ref 283, 6), .inl ((j : Int))] [] b I L := by
  induction m with
  | zero =>
    intro j hj ho hm
    exfalso
    omega
  | succ m ih =>
    intro j hj ho hm
    obtain ⟨cF, cS, cW, cSil, cPa, cPw, cSl, cFi, cb1, cb2, cb3⟩ := id hC
    obtain ⟨t1, t2, t3, t4, t5⟩ := id cS
    obtain ⟨⟨⟨w1, w2, w3, w4⟩, -⟩, w5, w6⟩ := id cW
    refine T.go [11, 46] 90 ?_
    conv => whnf
    refine ⟨by omega, fun c15 => ?_, fun c15 => ?_⟩
    · conv => whnf
      refine T.fg [4] ?_
      exact hk (fun i hi => ho i (by omega))
    · conv => whnf
      refine zinv0 (s_X5_isOff T  (by rfl) (by first | assumption | omega | rfl | decide) (by omega) (by exact t3.zR cW.1 (by omega) (by omega)) ?_ ?_)
      · intro cha_21
        conv => whnf
        refine ⟨by decide, fun _ => ?_, fun c => absurd c (by decide)⟩
        conv => whnf
        refine ih (j + 1) (by omega) (fun i hi => ?_) (by omega)
        by_cases e : i = j
        · rw [e]
          exact Or.inl ((t3 j (by omega) (by omega)).1.symm.trans cha_21)
        · exact ho i (by omega)
      · intro ch2a_21
        conv => whnf
        refine ⟨by decide, fun c => absurd c (by decide), fun _ => ?_⟩
        conv => whnf
        refine zinv0 (s_X11_canShift T (p := j) (M := M) (dx := dx) (dy := dy) (by exact hC) (by omega) (by exact fun e => ch2a_21 ((t3 j (by omega) (by omega)).1.trans e)) (by exact hx) (by exact hy) ?_ ?_)
        · intro cha_32
          conv => whnf
          refine ⟨by decide, fun _ => ?_, fun c => absurd c (by decide)⟩
          conv => whnf
          refine ih (j + 1) (by omega) (fun i hi => ?_) (by omega)
          by_cases e : i = j
          · rw [e]
            exact Or.inr cha_32
          · exact ho i (by omega)
        · intro ch2a_32
          conv => whnf
          refine ⟨by decide, fun c => absurd c (by decide), fun _ => ?_⟩
          conv => whnf
          refine ⟨by omega, ?_⟩
          refine h2 (fun c => ?_)
          rcases c j (by omega) with e | e
          · exact ch2a_21 ((t3 j (by omega) (by omega)).1.trans e)
          · exact ch2a_32 e
theorem l_shB (T : ZTh (XX Ln xs) CZ RZ) {d b : Nat} {Q : ZQ} {dx dy : Int} {M : Mo} {I0 : ZI} {L : ZL} (hz : ∀ j : Nat, j < 7 → zR (mF M j)) (hk : ∀ I', Fr (fun a _ => 284 ≤ a ∧ a ≤ 286) I0 I' → PlC I' 283 (shK M dx dy 7) → RZ (d + 5) k_X11_shift Q 106 [.inr (.ref 0, 12), zj, zj, zj, zj] [] b I' L) (m : Nat) : ∀ (j : Nat) (I : ZI), (j ≤ 7) → (Fr (fun a _ => 284 ≤ a ∧ a ≤ 286) I0 I) → (PlC I 283 (shK M dx dy j)) → 7 - (j : Int) < (m : Int) → RZ (d + 5) k_X11_shift Q 53 [.inr (.ref 0, 12), .inl dx, .inl dy, .inr (.ref 283, 6), .inl ((j : Int))] [] b I L := by
  induction m with
  | zero =>
    intro j I hj hfr hP hm
    exfalso
    omega
  | succ m ih =>
    intro j I hj hfr hP hm
    have f1 := fun h : j < 7 => (hP j (by omega) (by omega)).1
    have f4 := fun h : j < 7 => (hP j (by omega) (by omega)).2
    refine T.go [53, 106] 90 ?_
    conv => whnf
    refine ⟨by omega, fun c57 => ?_, fun c57 => ?_⟩
    · conv => whnf
      refine T.fg [1, 2, 3, 4] ?_
      obtain rfl : j = 7 := by omega
      exact hk I hfr hP
    · conv => whnf
      refine zinv0 (s_X5_isOff T  (by rfl) (by first | assumption | omega | rfl | decide) (by omega) (by rw [show I (283 + 3) (j : Int) = mF M j from f1 (by omega)]; exact hz j (by omega)) ?_ ?_)
      · intro cha_63
        conv => whnf
        refine ⟨by decide, fun _ => ?_, fun c => absurd c (by decide)⟩
        conv => whnf
        refine ih (j + 1) _ (by omega) hfr (fun i i0 i7 => ?_) (by omega)
        obtain ⟨g1, g2⟩ := hP i i0 i7
        refine ⟨g1, fun c => ?_⟩
        by_cases e : i = j
        · exact absurd (by rw [e]; exact (f1 (by omega)).symm.trans cha_63) c
        · rw [shK_X, shK_Y] at g2 ⊢
          by_cases e2 : i < (j : Int)
          · rw [if_pos e2, if_pos e2] at g2
            rw [if_pos (by omega), if_pos (by omega)]
            exact g2 c
          · rw [if_neg e2, if_neg e2] at g2
            rw [if_neg (by omega), if_neg (by omega)]
            exact g2 c
      · intro ch2a_63
        conv => whnf
        refine ⟨by decide, fun c => absurd c (by decide), fun _ => ?_⟩
        conv => whnf
        refine ⟨by decide, _, rfl, ?_⟩
        conv => whnf
        refine ⟨by omega, by decide, ?_⟩
        conv => whnf
        refine ⟨by decide, _, rfl, ?_⟩
        conv => whnf
        refine ⟨by omega, by decide, ?_⟩
        conv => whnf
        refine ⟨by decide, _, rfl, ?_⟩
        conv => whnf
        refine ⟨by omega, by decide, ?_⟩
        conv => whnf
        refine zinv0 (s_X5_put T  (by rfl) (by rfl) (by rfl) (by first | assumption | omega | rfl | decide) (by omega) ?_)
        conv => whnf
        refine ih (j + 1) _ (by omega) (((hfr.v2 (by omega)).v2 (by omega)).v2 (by omega)) (fun i i0 i7 => ?_) (by omega)
        obtain ⟨g1, g2⟩ := hP i i0 i7
        by_cases e : i = j
        · subst e
          have hof : mF M j ≠ -1 := fun e => ch2a_63 ((f1 (by omega)).trans e)
          obtain ⟨f5, f6⟩ := f4 (by omega) hof
          rw [shK_X, if_neg (by omega)] at f5
          rw [shK_Y, if_neg (by omega)] at f6
          replace f5 : I 284 (j : Int) = mX M j := f5
          replace f6 : I 285 (j : Int) = mY M j := f6
          refine ⟨?_, fun _ => ⟨?_, ?_⟩⟩
          · show v2 _ 286 (j : Int) _ 286 (j : Int) = _
            rw [v2_eq]; exact g1
          · show v2 (v2 (v2 I 284 (j : Int) (I 284 (j : Int) + dx)) 285 (j : Int) _) 286 (j : Int) _ 284 (j : Int) = _
            rw [v2_ne (by omega), v2_ne (by omega), v2_eq, shK_X, if_pos (by omega), f5]
          · show v2 (v2 (v2 I 284 (j : Int) _) 285 (j : Int) (I 285 (j : Int) + dy)) 286 (j : Int) _ 285 (j : Int) = _
            rw [v2_ne (by omega), v2_eq, shK_Y, if_pos (by omega), f6]
        · show v2 (v2 (v2 I 284 (j : Int) _) 285 (j : Int) _) 286 (j : Int) _ 286 i = _ ∧ (_ → v2 (v2 (v2 I 284 (j : Int) _) 285 (j : Int) _) 286 (j : Int) _ 284 i = _ ∧ v2 (v2 (v2 I 284 (j : Int) _) 285 (j : Int) _) 286 (j : Int) _ 285 i = _)
          rw [v2_ne (by omega), v2_ne (by omega), v2_ne (by omega), v2_ne (by omega), v2_ne (by omega), v2_ne (by omega), v2_ne (by omega), v2_ne (by omega), v2_ne (by omega)]
          refine ⟨g1, fun c => ?_⟩
          rw [shK_X, shK_Y] at g2 ⊢
          by_cases e2 : i < (j : Int)
          · rw [if_pos e2, if_pos e2] at g2
            rw [if_pos (by omega), if_pos (by omega)]
            exact g2 c
          · rw [if_neg e2, if_neg e2] at g2
            rw [if_neg (by omega), if_neg (by omega)]
            exact g2 c
theorem l_sh106 (T : ZTh (XX Ln xs) CZ RZ) {d b : Nat} {dx dy : Int} {W H n bl : Nat} {M : Mo} {P SL : Nat → Mo} {u : Nat → Int} {I I1 I2 : ZI} {L L1 : ZL} {Q : ZQ} (hC : CB I L W H M P n SL bl u) (f1 : Fr PPa I I1) (g1 : Fr (fun a _ => 304 ≤ a ∧ a ≤ 480) L L1) (hP : PaOK I1 L1 W H (psh P n M) (psn n)) (f2 : Fr (fun a _ => 284 ≤ a ∧ a ≤ 286) I1 I2) (hS2 : StC I2 L1 282 W H (shK M dx dy 7)) (ha : ∀ i : Nat, i < 7 → shO W H M dx dy i) (h : ∀ I' L', Fr PCh I I' → Fr PCh L L' → CB I' L' W H (shK M dx dy 7) (psh P n M) (psn n) SL bl u → Q (.inl (some (.inl 1))) I' L') : RZ (d + 5) k_X11_shift Q 106 [.inr (.ref 0, 12), zj, zj, zj, zj] [] b I2 L1 := by
  obtain ⟨cF, cS, cW, cSil, cPa, cPw, cSl, cFi, cb1, cb2, cb3⟩ := id hC
  obtain ⟨t1, t2, t3, t4, t5⟩ := id cS
  obtain ⟨⟨⟨w1, w2, w3, w4⟩, -⟩, w5, w6⟩ := id cW
  refine T.go [] 90 ?_
  conv => whnf
  refine zinv0 (s_X11_refresh T (W := W) (H := H) (shK M dx dy 7) (by exact (cF.fr (fun a b _ _ => by rw [f2 _ _ (by omega)]; exact f1 _ _ (by unfold PPa; omega)) (fun a b _ _ => g1 _ _ (by omega)))) (by exact cW.1.sh ha) (by exact hS2.2.2.1) ?_)
  intro I_107 L_107 hf_107 hg_107 hS_107
  conv => whnf
  refine ⟨by omega, ?_⟩
  exact h _ _ (((f1.mono PPa_Ch).trans (f2.mono (fun a b c => by unfold PCh; omega))).trans (hf_107.mono PSil_Ch)) ((g1.mono (fun a b c => by unfold PCh; omega)).trans (hg_107.mono (fun a b c => by unfold PCh; omega))) (hC.chg f1 g1 hP (f2.mono (fun a b c => by unfold PNo; omega)) (Fr.refl _) hS2 ⟨cW.1.sh ha, cW.2⟩ hf_107 hg_107 hS_107)
theorem l_sh46 (T : ZTh (XX Ln xs) CZ RZ) {d b : Nat} {dx dy : Int} {W H n bl : Nat} {M : Mo} {P SL : Nat → Mo} {u : Nat → Int} {I : ZI} {L : ZL} {Q : ZQ} (hC : CB I L W H M P n SL bl u) (hx : zR dx) (hy : zR dy) (hz : ∀ j : Nat, j < 7 → zR (mF M j)) (ha : ∀ i : Nat, i < 7 → shO W H M dx dy i) (h : ∀ I' L', Fr PCh I I' → Fr PCh L L' → CB I' L' W H (shK M dx dy 7) (psh P n M) (psn n) SL bl u → Q (.inl (some (.inl 1))) I' L') : RZ (d + 5) k_X11_shift Q 46 [.inr (.ref 0, 12), .inl dx, .inl dy, .inr (.ref 283, 6), zj] [] b I L := by
  obtain ⟨cF, cS, cW, cSil, cPa, cPw, cSl, cFi, cb1, cb2, cb3⟩ := id hC
  obtain ⟨t1, t2, t3, t4, t5⟩ := id cS
  obtain ⟨⟨⟨w1, w2, w3, w4⟩, -⟩, w5, w6⟩ := id cW
  refine T.go [53] 90 ?_
  conv => whnf
  refine zinv0 (s_X11_remember T P M (by exact cPa) (by exact ⟨w5, cS⟩) ?_)
  intro I_47 L_47 hf_47 hg_47 hP_47
  have hS1 : StC I_47 L_47 282 W H M := cS.fr w5 (fun a b _ _ => hf_47 _ _ (by unfold PPa; omega)) (fun a b _ _ => hg_47 _ _ (by omega))
  conv => whnf
  refine l_shB T (M := M) (I0 := I_47) (dx := dx) (dy := dy) hz (fun I2 f2 p2 => ?_) 8 0 I_47 (by omega) (Fr.refl _) (fun i i0 i7 => ?_) (by omega)
  · have hS2 : StC I2 L_47 282 W H (shK M dx dy 7) := ⟨(f2 _ _ (by omega)).trans hS1.1, (f2 _ _ (by omega)).trans hS1.2.1, p2, (f2 _ _ (by omega)).trans hS1.2.2.2.1, fun k hk => ⟨(hS1.2.2.2.2 k hk).1, (hS1.2.2.2.2 k hk).2.row (fun b => f2 _ _ (by omega))⟩⟩
    exact l_sh106 T hC hf_47 hg_47 hP_47 f2 hS2 ha h
  · obtain ⟨g1, g2⟩ := hS1.2.2.1 i i0 i7
    rw [shK_X, shK_Y, if_neg (by omega), if_neg (by omega)]
    exact ⟨g1, g2⟩
theorem s_X11_shift (T : ZTh (XX Ln xs) CZ RZ) {d b : Nat} {W H n bl : Nat} {M : Mo} {P SL : Nat → Mo} {u : Nat → Int} {dx dy : Int} {I : ZI} {L : ZL} {Q : ZQ} (hC : CB I L W H M P n SL bl u) (hx : zR dx) (hy : zR dy) (h : (∀ i : Nat, i < 7 → shO W H M dx dy i) → ∀ I' L', Fr PCh I I' → Fr PCh L L' → CB I' L' W H (shK M dx dy 7) (psh P n M) (psn n) SL bl u → Q (.inl (some (.inl (1)))) I' L') (h2 : (¬ ∀ i : Nat, i < 7 → shO W H M dx dy i) → Q (.inl (some (.inl (0)))) I L) : CZ (d + 6) k_X11_shift [.inr (.ref 0, 12), .inl dx, .inl dy] b I L Q := by
  refine T.call rfl ?_
  obtain ⟨cF, cS, cW, cSil, cPa, cPw, cSl, cFi, cb1, cb2, cb3⟩ := id hC
  obtain ⟨t1, t2, t3, t4, t5⟩ := id cS
  obtain ⟨⟨⟨w1, w2, w3, w4⟩, -⟩, w5, w6⟩ := id cW
  have hz : ∀ j : Nat, j < 7 → zR (mF M j) := fun j hj => by rw [← (t3 j (by omega) (by omega)).1]; exact t3.zR cW.1 (by omega) (by omega)
  refine T.go [11] 90 ?_
  conv => whnf
  refine ⟨by decide, _, rfl, ?_⟩
  conv => whnf
  refine ⟨by decide, _, rfl, ?_⟩
  conv => whnf
  exact l_shA T hC hx hy (fun ha => l_sh46 T hC hx hy hz ha (h ha)) h2 8 0 (by omega) (fun i hi => by omega) (by omega)
end
