/-! THE REFERENCE ANSWERS, 4 -/
section
variable {Ln : Nat} {xs : Nat → Int32} {CZ : Nat → ZC} {RZ : Nat → Nat → ZQ → ZP}
theorem aPiece_tl {M : Mo} {p w : Nat} (hw : w < 4) : aPiece M p (w : Int) = tlM M p (w : Int) := by
  unfold tlM
  rcases (show w = 0 ∨ w = 1 ∨ w = 2 ∨ w = 3 by omega) with e | e | e | e <;> subst e
  · show (if mF M p = -1 then -1 else mX M p) = _
    rfl
  · show (if mF M p = -1 then -1 else mY M p) = _
    rfl
  · show (if mF M p = -1 then -1 else mF M p / 2) = _
    rfl
  · show (if mF M p = -1 then -1 else mF M p % 2) = _
    rfl
theorem s_X12_piece (T : ZTh (XX Ln xs) CZ RZ) {d b : Nat} {W H n bl : Nat} {M : Mo} {P SL : Nat → Mo} {v u : Nat → Int} {p w : Int} {I : ZI} {L : ZL} {Q : ZQ} (hC : MB I W H M P n SL v bl u) (hA : WfA W H M P n SL v) (hp : zR p) (hw9 : zR w) (h : 0 ≤ p ∧ p < 7 → 0 ≤ w ∧ w ≤ 7 → ∀ I', Fr PSc I I' → I' 603 8 = 0 → MB I' W H M P n SL v bl u → Q (.inl (some (.inl (aPiece M p.toNat w)))) I' L) (h2 : ¬ (0 ≤ p ∧ p < 7) → ∀ I', Fr PSc I I' → I' 603 8 = 1 → MB I' W H M P n SL v bl u → Q (.inl (some (.inl (0)))) I' L) (h3 : 0 ≤ p ∧ p < 7 → ¬ (0 ≤ w ∧ w ≤ 7) → ∀ I', Fr PSc I I' → I' 603 8 = 2 → MB I' W H M P n SL v bl u → Q (.inl (some (.inl (0)))) I' L) : CZ (d + 3) k_X12_piece [.inr (.ref 603, 13), .inl p, .inl w] b I L Q := by
  refine T.call rfl ?_
  obtain ⟨mT, mR, ⟨mW, mH⟩, ⟨mn, mn8⟩, mP, mS9, ⟨mb1, mb2, mb3⟩, mz⟩ := id hC
  obtain ⟨⟨⟨⟨w1, w2, w3, w4⟩, -⟩, w5, w6⟩, wP, wS⟩ := id hA
  refine T.go [] 150 ?_
  conv => whnf
  refine zinv0 (s_X12_isPiece T  (by first | assumption | omega | rfl | decide) ?_ ?_)
  · intro cha_3
    conv => whnf
    refine ⟨by decide, fun _ => ?_, fun c => absurd c (by decide)⟩
    conv => whnf
    refine zinv0 (s_fails0 T   ?_)
    have hC1 := hC.th hA 0
    obtain ⟨pn, rfl⟩ := Int.eq_ofNat_of_zero_le cha_3.1
    have hp7 : pn < 7 := by omega
    have hpm : ((pn : Nat) : Int).toNat = pn := Int.toNat_natCast pn
    have hk7 : (if mF M pn = -1 then 8 * pn else fi M pn) < 56 := by
      by_cases e : mF M pn = -1
      · rw [if_pos e]; omega
      · rw [if_neg e]; exact (hA.1.1.form hp7 e).1
    have hkm : (if mF M pn = -1 then 8 * pn else fi M pn) % 8 / 2 % 2 = (if mF M pn = -1 then 0 else (mF M pn / 2).toNat) % 2 ∧ (if mF M pn = -1 then 8 * pn else fi M pn) / 8 = pn := by
      by_cases e : mF M pn = -1
      · rw [if_pos e, if_pos e]; omega
      · obtain ⟨b1, b2, b3, b4, b5⟩ := hA.1.1.form hp7 e
        rw [if_neg e, if_neg e]
        have hfi : fi M pn = 8 * pn + (mF M pn).toNat := rfl
        omega
    obtain ⟨x1, x2, -⟩ := bx_ok hk7
    rw [hkm.1, hkm.2] at x1 x2
    obtain ⟨y1, y2, y3⟩ := aPiece_k (M := M) (p := pn) rfl
    obtain ⟨t, htt⟩ : ∃ t : Int, t = (if mF M pn = -1 then 0 else mF M pn / 2) := ⟨_, rfl⟩
    have htb : 0 ≤ t ∧ t ≤ 3 ∧ (if mF M pn = -1 then 0 else (mF M pn / 2).toNat) % 2 = t.toNat % 2 := by
      by_cases e : mF M pn = -1
      · rw [if_pos e] at htt ⊢; omega
      · obtain ⟨b1, b2, b3, b4, b5⟩ := hA.1.1.form hp7 e
        rw [if_neg e] at htt ⊢; omega
    rw [htb.2.2] at x1 x2
    have hC1b := hC1
    obtain ⟨nT, nR, ⟨nW, nH⟩, -⟩ := id hC1b
    have fin := fun (hw' : 0 ≤ w ∧ w ≤ 7) => h cha_3 hw' _ (frTh I 0) (v2_eq _ _ _ _) hC1
    rw [hpm] at fin
    conv => whnf
    refine ⟨by decide, fun c => absurd c (by decide), fun _ => ?_⟩
    conv => whnf
    refine ⟨by omega, ?_⟩
    conv => whnf
    refine zinv0 (s_X12_isIn T (v := w) (a := 0) (z := 7) (by omega) (by omega) (by omega) ?_ ?_)
    · intro cha_27
      conv => whnf
      refine ⟨by decide, fun _ => ?_, fun c => absurd c (by decide)⟩
      conv => whnf
      refine zinv0 (s_refuses0 T  (by exact v2_eq _ _ _ _) ?_)
      conv => whnf
      refine ⟨by decide, fun _ => ?_, fun c => absurd c (by decide)⟩
      conv => whnf
      refine zinv0 (s_X12_isOn T (p := pn) (W := W) (H := H) (M := M) (by exact nR) (by exact hp7) (by exact hA.1.1) ?_ ?_)
      · intro cha_49
        conv => whnf
        refine ⟨by decide, fun c => absurd c (by decide), fun _ => ?_⟩
        conv => whnf
        refine zinv0 (s_X12_of T (p := pn) (w := 2) (M := M) (by exact nR) (by exact hp7) (by omega) ?_)
        conv => whnf
        have et : tlM M pn ((2 : Nat) : Int) = t := by
          unfold tlM
          rw [htt, if_neg cha_49, if_neg cha_49, if_neg (by omega), if_neg (by omega), if_pos (by omega)]
        rw [et]
        refine ⟨by omega, fun c67 => ?_, ?_⟩
        · conv => whnf
          obtain ⟨wn, rfl⟩ := Int.eq_ofNat_of_zero_le cha_27.1
          refine zinv0 (s_X12_of T (p := pn) (w := wn) (M := M) (by exact nR) (by exact hp7) (by omega) ?_)
          conv => whnf
          have h9 := fin (by omega)
          rw [aPiece_tl (by omega)] at h9
          exact h9
        refine ⟨fun c67 => ?_, ?_⟩
        · conv => whnf
          refine zinv0 (s_X12_wideOf T (p := pn) (t := t) (by exact nT) (by exact hp7) (by omega) ?_)
          conv => whnf
          obtain rfl : w = 4 := by omega
          have h9 := fin (by omega)
          rw [y1, x1] at h9
          rw [show (if t % 2 = 0 then bW pn else bH pn) = (if t.toNat % 2 = 0 then bW pn else bH pn) by
            by_cases c : t % 2 = 0
            · rw [if_pos c, if_pos (by omega)]
            · rw [if_neg c, if_neg (by omega)]]
          exact h9
        refine ⟨fun c67 => ?_, ?_⟩
        · conv => whnf
          refine zinv0 (s_X12_highOf T (p := pn) (t := t) (by exact nT) (by exact hp7) (by omega) ?_)
          conv => whnf
          obtain rfl : w = 5 := by omega
          have h9 := fin (by omega)
          rw [show aPiece M pn 5 = fH (if mF M pn = -1 then 8 * pn else fi M pn) from y2, x2] at h9
          rw [show (if t % 2 = 0 then bH pn else bW pn) = (if t.toNat % 2 = 0 then bH pn else bW pn) by
            by_cases c : t % 2 = 0
            · rw [if_pos c, if_pos (by omega)]
            · rw [if_neg c, if_neg (by omega)]]
          exact h9
        refine ⟨fun c67 => ?_, ?_⟩
        · conv => whnf
          refine ⟨by decide, _, rfl, ?_⟩
          conv => whnf
          refine ⟨by omega, by decide, ?_⟩
          conv => whnf
          obtain rfl : w = 6 := by omega
          have h9 := fin (by omega)
          rw [show aPiece M pn 6 = fN (if mF M pn = -1 then 8 * pn else fi M pn) from y3, fN_p hk7, hkm.2] at h9
          rw [(nT.1 pn hp7).2.2.2]
          exact h9
        refine ⟨fun c67 => ?_, ?_⟩
        · conv => whnf
          refine zinv0 (s_X12_ownLooks T (p := pn) (by exact nT) (by exact hp7) ?_)
          conv => whnf
          obtain rfl : w = 7 := by omega
          exact fin (by omega)
        exact trivial
      · intro ch2a_49
        conv => whnf
        refine ⟨by decide, fun _ => ?_, fun c => absurd c (by decide)⟩
        conv => whnf
        have et : t = 0 := by rw [htt, if_pos ch2a_49]
        refine ⟨by omega, fun c67 => ?_, ?_⟩
        · conv => whnf
          obtain ⟨wn, rfl⟩ := Int.eq_ofNat_of_zero_le cha_27.1
          refine zinv0 (s_X12_of T (p := pn) (w := wn) (M := M) (by exact nR) (by exact hp7) (by omega) ?_)
          conv => whnf
          have h9 := fin (by omega)
          rw [aPiece_tl (by omega)] at h9
          exact h9
        refine ⟨fun c67 => ?_, ?_⟩
        · conv => whnf
          refine zinv0 (s_X12_wideOf T (p := pn) (t := 0) (by exact nT) (by exact hp7) (by omega) ?_)
          conv => whnf
          obtain rfl : w = 4 := by omega
          have h9 := fin (by omega)
          rw [y1, x1] at h9
          rw [show (if (0 : Int) % 2 = 0 then bW pn else bH pn) = (if t.toNat % 2 = 0 then bW pn else bH pn) by
            by_cases c : (0 : Int) % 2 = 0
            · rw [if_pos c, if_pos (by omega)]
            · rw [if_neg c, if_neg (by omega)]]
          exact h9
        refine ⟨fun c67 => ?_, ?_⟩
        · conv => whnf
          refine zinv0 (s_X12_highOf T (p := pn) (t := 0) (by exact nT) (by exact hp7) (by omega) ?_)
          conv => whnf
          obtain rfl : w = 5 := by omega
          have h9 := fin (by omega)
          rw [show aPiece M pn 5 = fH (if mF M pn = -1 then 8 * pn else fi M pn) from y2, x2] at h9
          rw [show (if (0 : Int) % 2 = 0 then bH pn else bW pn) = (if t.toNat % 2 = 0 then bH pn else bW pn) by
            by_cases c : (0 : Int) % 2 = 0
            · rw [if_pos c, if_pos (by omega)]
            · rw [if_neg c, if_neg (by omega)]]
          exact h9
        refine ⟨fun c67 => ?_, ?_⟩
        · conv => whnf
          refine ⟨by decide, _, rfl, ?_⟩
          conv => whnf
          refine ⟨by omega, by decide, ?_⟩
          conv => whnf
          obtain rfl : w = 6 := by omega
          have h9 := fin (by omega)
          rw [show aPiece M pn 6 = fN (if mF M pn = -1 then 8 * pn else fi M pn) from y3, fN_p hk7, hkm.2] at h9
          rw [(nT.1 pn hp7).2.2.2]
          exact h9
        refine ⟨fun c67 => ?_, ?_⟩
        · conv => whnf
          refine zinv0 (s_X12_ownLooks T (p := pn) (by exact nT) (by exact hp7) ?_)
          conv => whnf
          obtain rfl : w = 7 := by omega
          exact fin (by omega)
        exact trivial
    · intro ch2a_27
      conv => whnf
      refine ⟨by decide, fun c => absurd c (by decide), fun _ => ?_⟩
      conv => whnf
      refine zinv0 (s_refuses1 T  (by exact v2_eq _ _ _ _) (by omega) ?_)
      conv => whnf
      refine ⟨by decide, fun c => absurd c (by decide), fun _ => ?_⟩
      conv => whnf
      exact h3 cha_3 ch2a_27 _ ((frTh I 0).v2 PSc8) (v2_eq _ _ _ _) (hC1.th hA 2)
  · intro ch2a_3
    conv => whnf
    refine ⟨by decide, fun c => absurd c (by decide), fun _ => ?_⟩
    conv => whnf
    refine zinv0 (s_fails1 T   ?_)
    conv => whnf
    refine ⟨by decide, fun _ => ?_, fun c => absurd c (by decide)⟩
    conv => whnf
    exact h2 ch2a_3 _ (frTh I 1) (v2_eq _ _ _ _) (hC.th hA 1)
/-- the quarter at the other side, on the board -/
def acr (W H : Nat) (q s : Int) : Int := if s = 0 ∧ ¬ (0 ≤ nb q s ∧ nb q s % 48 / 4 < W ∧ nb q s / 48 < H) then -1 else nb q s
theorem s_X12_across (T : ZTh (XX Ln xs) CZ RZ) {d b : Nat} {q s : Int} {W H : Nat} {I : ZI} {L : ZL} {Q : ZQ} (hq : 0 ≤ q ∧ q < 576) (hs : 0 ≤ s ∧ s ≤ 2) (hW : I 603 5 = W ∧ W ≤ 12) (hH : I 603 6 = H ∧ H ≤ 12) (h : Q (.inl (some (.inl (acr W H q s)))) I L) : CZ (d + 2) k_X12_across [.inr (.ref 603, 13), .inl q, .inl s] b I L Q := by
  refine T.call rfl ?_
  have key : ∀ z, z = acr W H q s → Q (.inl (some (.inl z))) I L := fun z e => by rw [e]; exact h
  obtain ⟨hW1, hW2⟩ := hW
  obtain ⟨hH1, hH2⟩ := hH
  refine T.go [] 120 ?_
  conv => whnf
  refine ⟨by omega, ?_⟩
  conv => whnf
  refine ⟨by omega, fun c5 => ?_, fun c5 => ?_⟩
  · conv => whnf
    refine ⟨by omega, Or.inl ⟨by omega, ?_⟩⟩
    conv => whnf
    refine ⟨by omega, ?_⟩
    conv => whnf
    refine ⟨by omega, fun c39 => ?_, fun c39 => ?_⟩
    · conv => whnf
      refine ⟨by omega, fun c48 => ?_, fun c48 => ?_⟩
      · conv => whnf
        refine ⟨by omega, Or.inl ⟨by omega, ?_⟩⟩
        conv => whnf
        refine ⟨by omega, Or.inl ⟨by omega, ?_⟩⟩
        conv => whnf
        refine ⟨by omega, fun c66 => ?_, fun c66 => ?_⟩
        · conv => whnf
          refine ⟨by omega, fun c75 => ?_, fun c75 => ?_⟩
          · conv => whnf
            refine ⟨by exact ⟨by omega, by omega⟩, ?_⟩
            conv => whnf
            refine ⟨by decide, ?_⟩
            conv => whnf
            refine ⟨by exact ⟨by omega, by omega⟩, ?_⟩
            conv => whnf
            refine zinv0 (s_X12_isIn T (a := 0) (z := I 603 5 - 1) (by omega) (by omega) (by omega) ?_ ?_)
            · intro cha_97
              conv => whnf
              refine ⟨by decide, fun c => absurd c (by decide), fun _ => ?_⟩
              conv => whnf
              refine ⟨by exact ⟨by omega, by omega⟩, ?_⟩
              conv => whnf
              refine ⟨by decide, ?_⟩
              conv => whnf
              refine ⟨by exact ⟨by omega, by omega⟩, ?_⟩
              conv => whnf
              refine zinv0 (s_X12_isIn T (a := 0) (z := I 603 6 - 1) (by omega) (by omega) (by omega) ?_ ?_)
              · intro cha_114
                conv => whnf
                refine ⟨by decide, fun c => absurd c (by decide), fun _ => ?_⟩
                conv => whnf
                refine ⟨by omega, ?_⟩
                conv => whnf
                refine key _ ?_
                unfold acr nb
                repeat' split
                all_goals omega
              · intro ch2a_114
                conv => whnf
                refine ⟨by decide, fun _ => ?_, fun c => absurd c (by decide)⟩
                conv => whnf
                refine key _ ?_
                unfold acr nb
                repeat' split
                all_goals omega
            · intro ch2a_97
              conv => whnf
              refine ⟨by decide, fun _ => ?_, fun c => absurd c (by decide)⟩
              conv => whnf
              refine key _ ?_
              unfold acr nb
              repeat' split
              all_goals omega
          · conv => whnf
            refine ⟨by exact ⟨by omega, by omega⟩, ?_⟩
            conv => whnf
            refine ⟨by decide, ?_⟩
            conv => whnf
            refine ⟨by exact ⟨by omega, by omega⟩, ?_⟩
            conv => whnf
            refine zinv0 (s_X12_isIn T (a := 0) (z := I 603 5 - 1) (by omega) (by omega) (by omega) ?_ ?_)
            · intro cha_97
              conv => whnf
              refine ⟨by decide, fun c => absurd c (by decide), fun _ => ?_⟩
              conv => whnf
              refine ⟨by exact ⟨by omega, by omega⟩, ?_⟩
              conv => whnf
              refine ⟨by decide, ?_⟩
              conv => whnf
              refine ⟨by exact ⟨by omega, by omega⟩, ?_⟩
              conv => whnf
              refine zinv0 (s_X12_isIn T (a := 0) (z := I 603 6 - 1) (by omega) (by omega) (by omega) ?_ ?_)
              · intro cha_114
                conv => whnf
                refine ⟨by decide, fun c => absurd c (by decide), fun _ => ?_⟩
                conv => whnf
                refine ⟨by omega, ?_⟩
                conv => whnf
                refine key _ ?_
                unfold acr nb
                repeat' split
                all_goals omega
              · intro ch2a_114
                conv => whnf
                refine ⟨by decide, fun _ => ?_, fun c => absurd c (by decide)⟩
                conv => whnf
                refine key _ ?_
                unfold acr nb
                repeat' split
                all_goals omega
            · intro ch2a_97
              conv => whnf
              refine ⟨by decide, fun _ => ?_, fun c => absurd c (by decide)⟩
              conv => whnf
              refine key _ ?_
              unfold acr nb
              repeat' split
              all_goals omega
        · conv => whnf
          refine ⟨by exact ⟨by omega, by omega⟩, ?_⟩
          conv => whnf
          refine ⟨by decide, ?_⟩
          conv => whnf
          refine ⟨by exact ⟨by omega, by omega⟩, ?_⟩
          conv => whnf
          refine zinv0 (s_X12_isIn T (a := 0) (z := I 603 5 - 1) (by omega) (by omega) (by omega) ?_ ?_)
          · intro cha_97
            conv => whnf
            refine ⟨by decide, fun c => absurd c (by decide), fun _ => ?_⟩
            conv => whnf
            refine ⟨by exact ⟨by omega, by omega⟩, ?_⟩
            conv => whnf
            refine ⟨by decide, ?_⟩
            conv => whnf
            refine ⟨by exact ⟨by omega, by omega⟩, ?_⟩
            conv => whnf
            refine zinv0 (s_X12_isIn T (a := 0) (z := I 603 6 - 1) (by omega) (by omega) (by omega) ?_ ?_)
            · intro cha_114
              conv => whnf
              refine ⟨by decide, fun c => absurd c (by decide), fun _ => ?_⟩
              conv => whnf
              refine ⟨by omega, ?_⟩
              conv => whnf
              refine key _ ?_
              unfold acr nb
              repeat' split
              all_goals omega
            · intro ch2a_114
              conv => whnf
              refine ⟨by decide, fun _ => ?_, fun c => absurd c (by decide)⟩
              conv => whnf
              refine key _ ?_
              unfold acr nb
              repeat' split
              all_goals omega
          · intro ch2a_97
            conv => whnf
            refine ⟨by decide, fun _ => ?_, fun c => absurd c (by decide)⟩
            conv => whnf
            refine key _ ?_
            unfold acr nb
            repeat' split
            all_goals omega
      · conv => whnf
        refine ⟨by omega, Or.inl ⟨by omega, ?_⟩⟩
        conv => whnf
        refine ⟨by omega, Or.inl ⟨by omega, ?_⟩⟩
        conv => whnf
        refine ⟨by omega, fun c66 => ?_, fun c66 => ?_⟩
        · conv => whnf
          refine ⟨by omega, fun c75 => ?_, fun c75 => ?_⟩
          · conv => whnf
            refine ⟨by exact ⟨by omega, by omega⟩, ?_⟩
            conv => whnf
            refine ⟨by decide, ?_⟩
            conv => whnf
            refine ⟨by exact ⟨by omega, by omega⟩, ?_⟩
            conv => whnf
            refine zinv0 (s_X12_isIn T (a := 0) (z := I 603 5 - 1) (by omega) (by omega) (by omega) ?_ ?_)
            · intro cha_97
              conv => whnf
              refine ⟨by decide, fun c => absurd c (by decide), fun _ => ?_⟩
              conv => whnf
              refine ⟨by exact ⟨by omega, by omega⟩, ?_⟩
              conv => whnf
              refine ⟨by decide, ?_⟩
              conv => whnf
              refine ⟨by exact ⟨by omega, by omega⟩, ?_⟩
              conv => whnf
              refine zinv0 (s_X12_isIn T (a := 0) (z := I 603 6 - 1) (by omega) (by omega) (by omega) ?_ ?_)
              · intro cha_114
                conv => whnf
                refine ⟨by decide, fun c => absurd c (by decide), fun _ => ?_⟩
                conv => whnf
                refine ⟨by omega, ?_⟩
                conv => whnf
                refine key _ ?_
                unfold acr nb
                repeat' split
                all_goals omega
              · intro ch2a_114
                conv => whnf
                refine ⟨by decide, fun _ => ?_, fun c => absurd c (by decide)⟩
                conv => whnf
                refine key _ ?_
                unfold acr nb
                repeat' split
                all_goals omega
            · intro ch2a_97
              conv => whnf
              refine ⟨by decide, fun _ => ?_, fun c => absurd c (by decide)⟩
              conv => whnf
              refine key _ ?_
              unfold acr nb
              repeat' split
              all_goals omega
          · conv => whnf
            refine ⟨by exact ⟨by omega, by omega⟩, ?_⟩
            conv => whnf
            refine ⟨by decide, ?_⟩
            conv => whnf
            refine ⟨by exact ⟨by omega, by omega⟩, ?_⟩
            conv => whnf
            refine zinv0 (s_X12_isIn T (a := 0) (z := I 603 5 - 1) (by omega) (by omega) (by omega) ?_ ?_)
            · intro cha_97
              conv => whnf
              refine ⟨by decide, fun c => absurd c (by decide), fun _ => ?_⟩
              conv => whnf
              refine ⟨by exact ⟨by omega, by omega⟩, ?_⟩
              conv => whnf
              refine ⟨by decide, ?_⟩
              conv => whnf
              refine ⟨by exact ⟨by omega, by omega⟩, ?_⟩
              conv => whnf
              refine zinv0 (s_X12_isIn T (a := 0) (z := I 603 6 - 1) (by omega) (by omega) (by omega) ?_ ?_)
              · intro cha_114
                conv => whnf
                refine ⟨by decide, fun c => absurd c (by decide), fun _ => ?_⟩
                conv => whnf
                refine ⟨by omega, ?_⟩
                conv => whnf
                refine key _ ?_
                unfold acr nb
                repeat' split
                all_goals omega
              · intro ch2a_114
                conv => whnf
                refine ⟨by decide, fun _ => ?_, fun c => absurd c (by decide)⟩
                conv => whnf
                refine key _ ?_
                unfold acr nb
                repeat' split
                all_goals omega
            · intro ch2a_97
              conv => whnf
              refine ⟨by decide, fun _ => ?_, fun c => absurd c (by decide)⟩
              conv => whnf
              refine key _ ?_
              unfold acr nb
              repeat' split
              all_goals omega
        · conv => whnf
          refine ⟨by exact ⟨by omega, by omega⟩, ?_⟩
          conv => whnf
          refine ⟨by decide, ?_⟩
          conv => whnf
          refine ⟨by exact ⟨by omega, by omega⟩, ?_⟩
          conv => whnf
          refine zinv0 (s_X12_isIn T (a := 0) (z := I 603 5 - 1) (by omega) (by omega) (by omega) ?_ ?_)
          · intro cha_97
            conv => whnf
            refine ⟨by decide, fun c => absurd c (by decide), fun _ => ?_⟩
            conv => whnf
            refine ⟨by exact ⟨by omega, by omega⟩, ?_⟩
            conv => whnf
            refine ⟨by decide, ?_⟩
            conv => whnf
            refine ⟨by exact ⟨by omega, by omega⟩, ?_⟩
            conv => whnf
            refine zinv0 (s_X12_isIn T (a := 0) (z := I 603 6 - 1) (by omega) (by omega) (by omega) ?_ ?_)
            · intro cha_114
              conv => whnf
              refine ⟨by decide, fun c => absurd c (by decide), fun _ => ?_⟩
              conv => whnf
              refine ⟨by omega, ?_⟩
              conv => whnf
              refine key _ ?_
              unfold acr nb
              repeat' split
              all_goals omega
            · intro ch2a_114
              conv => whnf
              refine ⟨by decide, fun _ => ?_, fun c => absurd c (by decide)⟩
              conv => whnf
              refine key _ ?_
              unfold acr nb
              repeat' split
              all_goals omega
          · intro ch2a_97
            conv => whnf
            refine ⟨by decide, fun _ => ?_, fun c => absurd c (by decide)⟩
            conv => whnf
            refine key _ ?_
            unfold acr nb
            repeat' split
            all_goals omega
    · conv => whnf
      refine ⟨by omega, Or.inl ⟨by omega, ?_⟩⟩
      conv => whnf
      refine ⟨by omega, Or.inl ⟨by omega, ?_⟩⟩
      conv => whnf
      refine ⟨by omega, fun c66 => ?_, fun c66 => ?_⟩
      · conv => whnf
        refine ⟨by omega, fun c75 => ?_, fun c75 => ?_⟩
        · conv => whnf
          refine ⟨by exact ⟨by omega, by omega⟩, ?_⟩
          conv => whnf
          refine ⟨by decide, ?_⟩
          conv => whnf
          refine ⟨by exact ⟨by omega, by omega⟩, ?_⟩
          conv => whnf
          refine zinv0 (s_X12_isIn T (a := 0) (z := I 603 5 - 1) (by omega) (by omega) (by omega) ?_ ?_)
          · intro cha_97
            conv => whnf
            refine ⟨by decide, fun c => absurd c (by decide), fun _ => ?_⟩
            conv => whnf
            refine ⟨by exact ⟨by omega, by omega⟩, ?_⟩
            conv => whnf
            refine ⟨by decide, ?_⟩
            conv => whnf
            refine ⟨by exact ⟨by omega, by omega⟩, ?_⟩
            conv => whnf
            refine zinv0 (s_X12_isIn T (a := 0) (z := I 603 6 - 1) (by omega) (by omega) (by omega) ?_ ?_)
            · intro cha_114
              conv => whnf
              refine ⟨by decide, fun c => absurd c (by decide), fun _ => ?_⟩
              conv => whnf
              refine ⟨by omega, ?_⟩
              conv => whnf
              refine key _ ?_
              unfold acr nb
              repeat' split
              all_goals omega
            · intro ch2a_114
              conv => whnf
              refine ⟨by decide, fun _ => ?_, fun c => absurd c (by decide)⟩
              conv => whnf
              refine key _ ?_
              unfold acr nb
              repeat' split
              all_goals omega
          · intro ch2a_97
            conv => whnf
            refine ⟨by decide, fun _ => ?_, fun c => absurd c (by decide)⟩
            conv => whnf
            refine key _ ?_
            unfold acr nb
            repeat' split
            all_goals omega
        · conv => whnf
          refine ⟨by exact ⟨by omega, by omega⟩, ?_⟩
          conv => whnf
          refine ⟨by decide, ?_⟩
          conv => whnf
          refine ⟨by exact ⟨by omega, by omega⟩, ?_⟩
          conv => whnf
          refine zinv0 (s_X12_isIn T (a := 0) (z := I 603 5 - 1) (by omega) (by omega) (by omega) ?_ ?_)
          · intro cha_97
            conv => whnf
            refine ⟨by decide, fun c => absurd c (by decide), fun _ => ?_⟩
            conv => whnf
            refine ⟨by exact ⟨by omega, by omega⟩, ?_⟩
            conv => whnf
            refine ⟨by decide, ?_⟩
            conv => whnf
            refine ⟨by exact ⟨by omega, by omega⟩, ?_⟩
            conv => whnf
            refine zinv0 (s_X12_isIn T (a := 0) (z := I 603 6 - 1) (by omega) (by omega) (by omega) ?_ ?_)
            · intro cha_114
              conv => whnf
              refine ⟨by decide, fun c => absurd c (by decide), fun _ => ?_⟩
              conv => whnf
              refine ⟨by omega, ?_⟩
              conv => whnf
              refine key _ ?_
              unfold acr nb
              repeat' split
              all_goals omega
            · intro ch2a_114
              conv => whnf
              refine ⟨by decide, fun _ => ?_, fun c => absurd c (by decide)⟩
              conv => whnf
              refine key _ ?_
              unfold acr nb
              repeat' split
              all_goals omega
          · intro ch2a_97
            conv => whnf
            refine ⟨by decide, fun _ => ?_, fun c => absurd c (by decide)⟩
            conv => whnf
            refine key _ ?_
            unfold acr nb
            repeat' split
            all_goals omega
      · conv => whnf
        refine ⟨by exact ⟨by omega, by omega⟩, ?_⟩
        conv => whnf
        refine ⟨by decide, ?_⟩
        conv => whnf
        refine ⟨by exact ⟨by omega, by omega⟩, ?_⟩
        conv => whnf
        refine zinv0 (s_X12_isIn T (a := 0) (z := I 603 5 - 1) (by omega) (by omega) (by omega) ?_ ?_)
        · intro cha_97
          conv => whnf
          refine ⟨by decide, fun c => absurd c (by decide), fun _ => ?_⟩
          conv => whnf
          refine ⟨by exact ⟨by omega, by omega⟩, ?_⟩
          conv => whnf
          refine ⟨by decide, ?_⟩
          conv => whnf
          refine ⟨by exact ⟨by omega, by omega⟩, ?_⟩
          conv => whnf
          refine zinv0 (s_X12_isIn T (a := 0) (z := I 603 6 - 1) (by omega) (by omega) (by omega) ?_ ?_)
          · intro cha_114
            conv => whnf
            refine ⟨by decide, fun c => absurd c (by decide), fun _ => ?_⟩
            conv => whnf
            refine ⟨by omega, ?_⟩
            conv => whnf
            refine key _ ?_
            unfold acr nb
            repeat' split
            all_goals omega
          · intro ch2a_114
            conv => whnf
            refine ⟨by decide, fun _ => ?_, fun c => absurd c (by decide)⟩
            conv => whnf
            refine key _ ?_
            unfold acr nb
            repeat' split
            all_goals omega
        · intro ch2a_97
          conv => whnf
          refine ⟨by decide, fun _ => ?_, fun c => absurd c (by decide)⟩
          conv => whnf
          refine key _ ?_
          unfold acr nb
          repeat' split
          all_goals omega
  · conv => whnf
    refine ⟨by omega, fun c13 => ?_, fun c13 => ?_⟩
    · conv => whnf
      refine ⟨by omega, ?_⟩
      conv => whnf
      refine key _ ?_
      unfold acr nb
      repeat' split
      all_goals omega
    · conv => whnf
      refine ⟨by omega, ?_⟩
      conv => whnf
      refine key _ ?_
      unfold acr nb
      repeat' split
      all_goals omega
theorem s_X12_isFilled (T : ZTh (XX Ln xs) CZ RZ) {d b : Nat} {q : Int} {M : Mo} {I : ZI} {L : ZL} {Q : ZQ} (hq : -1 ≤ q ∧ q < 576) (hO : OwM I M) (h : Q (.inl (some (.inl (bi (fil (sil M) q))))) I L) : CZ (d + 1) k_X12_isFilled [.inr (.ref 603, 13), .inl q] b I L Q := by
  refine T.call rfl ?_
  refine T.go [] 90 ?_
  conv => whnf
  refine ⟨by omega, fun c2 => ?_, fun c2 => ?_⟩
  · conv => whnf
    refine ⟨by omega, ?_⟩
    have e : fil (sil M) q = false := by
      unfold fil
      rw [decide_eq_false (by omega)]
      rfl
    rw [e] at h
    exact h
  · conv => whnf
    obtain ⟨qn, rfl⟩ := Int.eq_ofNat_of_zero_le (show 0 ≤ q by omega)
    rw [fil_n] at h
    have hob := own_b M qn
    refine ⟨by decide, _, rfl, ?_⟩
    conv => whnf
    refine ⟨by omega, by decide, ?_⟩
    conv => whnf
    refine ⟨by rw [hO qn (by omega)]; exact ⟨⟨by omega, by omega⟩, ⟨by omega, by omega⟩⟩, fun c12 => ?_, fun c12 => ?_⟩
    · conv => whnf
      refine ⟨by omega, ?_⟩
      rw [hO qn (by omega)] at c12
      have e : sil M qn = false := by
        unfold sil
        rw [decide_eq_true c12]
        rfl
      rw [e] at h
      exact h
    · conv => whnf
      refine ⟨by omega, ?_⟩
      rw [hO qn (by omega)] at c12
      have e : sil M qn = true := by
        unfold sil
        rw [decide_eq_false c12]
        rfl
      rw [e] at h
      exact h
theorem nb_on {W H : Nat} {q s : Int} (hq : 0 ≤ q ∧ q < 576) (hs : 0 ≤ s ∧ s ≤ 2) : acr W H q s = nb q s ∨ (acr W H q s = -1 ∧ ¬ (0 ≤ nb q s ∧ nb q s % 48 / 4 < W ∧ nb q s / 48 < H)) := by
  unfold acr
  by_cases c : s = 0 ∧ ¬ (0 ≤ nb q s ∧ nb q s % 48 / 4 < W ∧ nb q s / 48 < H)
  · rw [if_pos c]; exact Or.inr ⟨rfl, c.2⟩
  · rw [if_neg c]; exact Or.inl rfl
theorem owAt_off {W H : Nat} {M : Mo} (hw : Wq W H M) {q : Int} (h : ¬ (0 ≤ q ∧ q % 48 / 4 < W ∧ q / 48 < H)) : owAt M q = -1 := by
  unfold owAt
  by_cases c : 0 ≤ q ∧ q < 576
  · rw [if_pos c]
    apply Classical.byContradiction
    intro g
    have := own_in hw g
    exact h ⟨c.1, by omega, by omega⟩
  · rw [if_neg c]
theorem owAt_acr {W H : Nat} {M : Mo} (hw : Wq W H M) {q s : Int} (hq : 0 ≤ q ∧ q < 576) (hs : 0 ≤ s ∧ s ≤ 2) : owAt M (acr W H q s) = owAt M (nb q s) := by
  rcases nb_on (W := W) (H := H) hq hs with e | ⟨e, g⟩
  · rw [e]
  · rw [e, owAt_off hw g]
    rfl
theorem acr_b {W H : Nat} {q s : Int} (hq : 0 ≤ q ∧ q < 576) (hs : 0 ≤ s ∧ s ≤ 2) : -1 ≤ acr W H q s ∧ acr W H q s < 576 := by
  have := nb_b (s := s) hq.1 hq.2
  rcases nb_on (W := W) (H := H) hq hs with e | ⟨e, -⟩ <;> omega
theorem fil_ow {M : Mo} {q : Int} (hq : q < 576) : fil (sil M) q = !decide (owAt M q = -1) := by
  unfold fil owAt sil
  by_cases c : 0 ≤ q
  · rw [decide_eq_true c, if_pos ⟨c, hq⟩]
    rfl
  · rw [decide_eq_false c, if_neg (fun g => c g.1)]
    rfl
theorem fil_acr {W H : Nat} {M : Mo} (hw : Wq W H M) {q s : Int} (hq : 0 ≤ q ∧ q < 576) (hs : 0 ≤ s ∧ s ≤ 2) : fil (sil M) (acr W H q s) = fil (sil M) (nb q s) := by
  rw [fil_ow (acr_b hq hs).2, fil_ow (nb_b (s := s) hq.1 hq.2).2, owAt_acr hw hq hs]
/-- the seams of a quarter, side by side -/
def rsm (M : Mo) (p o l : Int) (q : Nat) : Nat → Int
  | 0 => 0
  | s + 1 => rsm M p o l q s + (if own M q = p ∧ ¬ p = o ∧ ((s = 0 ∧ l = 1) ∨ (s ≠ 0 ∧ l = 0)) ∧ owAt M (nb q s) = o then 1 else 0)
theorem rsm_3 {M : Mo} {p o l : Int} {q : Nat} (hl : l = 0 ∨ l = 1) (hpo : ¬ p = o) : rsm M p o l q 3 = smc M p o l q := by
  unfold smc
  have e : rsm M p o l q 3 = ((0 + (if own M q = p ∧ ¬ p = o ∧ ((0 = 0 ∧ l = 1) ∨ (0 ≠ 0 ∧ l = 0)) ∧ owAt M (nb q 0) = o then 1 else 0)) + (if own M q = p ∧ ¬ p = o ∧ ((1 = 0 ∧ l = 1) ∨ (1 ≠ 0 ∧ l = 0)) ∧ owAt M (nb q 1) = o then 1 else 0)) + (if own M q = p ∧ ¬ p = o ∧ ((2 = 0 ∧ l = 1) ∨ (2 ≠ 0 ∧ l = 0)) ∧ owAt M (nb q 2) = o then 1 else 0) := rfl
  rw [e]
  have b : ∀ s : Int, bi (decide (owAt M (nb q s) = o)) = if owAt M (nb q s) = o then 1 else 0 := fun s => by
    by_cases c : owAt M (nb q s) = o
    · rw [if_pos c]; exact bi_t c
    · rw [if_neg c]; exact bi_f c
  by_cases c : own M q = p
  · rw [if_pos c]
    unfold pt sg
    rw [b, b, b]
    rcases hl with h | h <;> subst h
    · simp [c, hpo]
    · simp [c, hpo]
  · rw [if_neg c]
    simp [c]
theorem rsm_0 {M : Mo} {p o l : Int} {q : Nat} (h : ¬ own M q = p ∨ p = o) : ∀ s, rsm M p o l q s = 0
  | 0 => rfl
  | s + 1 => by
    show rsm M p o l q s + _ = 0
    rw [rsm_0 h s, if_neg (fun g => by rcases h with c | c; (exact c g.1); (exact g.2.1 c))]
    rfl
theorem l_mseI (T : ZTh (XX Ln xs) CZ RZ) {d b : Nat} {Q : ZQ} {p o l c0 : Int} {q W H : Nat} {M : Mo} {I : ZI} {L : ZL} (hO : OwM I M) (hw : Wq W H M) (hW : I 603 5 = W) (hH : I 603 6 = H) (hl : l = 0 ∨ l = 1) (hpo : (0 ≤ p ∧ p < 7) ∧ 0 ≤ o ∧ o < 7) (hq : q < 576) (hk : RZ (d + 3) k_X12_seams Q 44 [.inr (.ref 603, 13), .inl p, .inl o, .inl l, .inl (c0 + rsm M p o l q 3), .inl ((q : Int) + 1), zj, zj] [] b I L) (m : Nat) : ∀ (s : Nat) (c : Int), (s ≤ 3) → (c = c0 + rsm M p o l q s) → 3 - (s : Int) < (m : Int) → RZ (d + 3) k_X12_seams Q 55 [.inr (.ref 603, 13), .inl p, .inl o, .inl l, .inl c, .inl ((q : Int)), .inl ((s : Int)), zj] [] b I L := by
  induction m with
  | zero =>
    intro s c hs hc hm
    exfalso
    omega
  | succ m ih =>
    intro s c hs hc hm
    have hob0 := own_b M q
    have hO1 := hO q hq
    obtain ⟨⟨w1, w2, w3, w4⟩, -, -⟩ := id hw
    refine T.go [44, 55] 120 ?_
    conv => whnf
    refine ⟨by omega, fun c58 => ?_, fun c58 => ?_⟩
    · conv => whnf
      refine T.fg [6] ?_
      obtain rfl : s = 3 := by omega
      rw [hc]
      exact hk
    · conv => whnf
      refine ⟨by decide, _, rfl, ?_⟩
      conv => whnf
      refine ⟨by omega, by decide, ?_⟩
      conv => whnf
      refine ⟨by rw [hO q hq]; exact ⟨⟨by omega, by omega⟩, ⟨by omega, by omega⟩⟩, fun c69 => ?_, fun c69 => ?_⟩
      · conv => whnf
        refine T.fg [6] ?_
        rw [hO q hq] at c69
        rw [rsm_0 (Or.inl c69)] at hc hk
        rw [hc]
        exact hk
      · conv => whnf
        refine ⟨by omega, fun c74 => ?_, fun c74 => ?_⟩
        · conv => whnf
          refine T.fg [6] ?_
          rw [rsm_0 (Or.inr c74)] at hc hk
          rw [hc]
          exact hk
        · conv => whnf
          refine zinv0 (s_X12_across T (q := (q : Int)) (s := (s : Int)) (W := W) (H := H) (by omega) (by omega) (by exact ⟨hW, w2⟩) (by exact ⟨hH, w4⟩) ?_)
          have hab := acr_b (W := W) (H := H) (q := (q : Int)) (s := (s : Int)) (by omega) (by omega)
          have hoa := owAt_acr hw (q := (q : Int)) (s := (s : Int)) (by omega) (by omega)
          obtain ⟨z, hz⟩ : ∃ z, z = acr W H (q : Int) (s : Int) := ⟨_, rfl⟩
          rw [← hz] at hab hoa
          rw [← hz]
          have hob2 := owAt_b M z
          have hbey : z = -1 → ¬ owAt M (nb q s) = o := fun e g => by
            rw [← hoa, e] at g
            have : owAt M (-1) = -1 := rfl
            omega
          conv => whnf
          refine ⟨by omega, fun c91 => ?_, fun c91 => ?_⟩
          · conv => whnf
            refine ⟨by omega, fun c100 => ?_, fun c100 => ?_⟩
            · conv => whnf
              refine T.fg [7] ?_
              refine ih (s + 1) _ (by omega) ?_ (by omega)
              rw [hc]
              show _ = c0 + (rsm M p o l q s + _)
              rw [if_neg (fun g => by omega)]
              omega
            · conv => whnf
              refine ⟨by omega, fun c106 => ?_, fun c106 => ?_⟩
              · conv => whnf
                refine T.fg [7] ?_
                refine ih (s + 1) _ (by omega) ?_ (by omega)
                rw [hc]
                show _ = c0 + (rsm M p o l q s + _)
                rw [if_neg (fun g => hbey c106 g.2.2.2)]
                omega
              · conv => whnf
                have hob : I 620 z = owAt M (nb q s) := by
                  rw [← hoa]
                  unfold owAt
                  rw [if_pos ⟨by omega, by omega⟩]
                  have := hO z.toNat (by omega)
                  rw [show ((z.toNat : Nat) : Int) = z by omega] at this
                  exact this
                rw [hoa] at hob2
                refine ⟨by decide, _, rfl, ?_⟩
                conv => whnf
                refine ⟨by omega, by decide, ?_⟩
                conv => whnf
                refine ⟨by rw [hob]; exact ⟨⟨by omega, by omega⟩, ⟨by omega, by omega⟩⟩, fun c117 => ?_, fun c117 => ?_⟩
                · conv => whnf
                  refine T.fg [7] ?_
                  refine ih (s + 1) _ (by omega) ?_ (by omega)
                  rw [hc]
                  show _ = c0 + (rsm M p o l q s + _)
                  rw [if_neg (fun g => c117 (by rw [hob]; exact g.2.2.2))]
                  omega
                · conv => whnf
                  refine T.fg [7] ?_
                  refine ih (s + 1) _ (by omega) ?_ (by omega)
                  rw [hc]
                  show _ = c0 + (rsm M p o l q s + _)
                  rw [if_pos ⟨by omega, by omega, by omega, by rw [← hob]; exact c117⟩]
                  omega
          · conv => whnf
            refine ⟨by omega, fun c100 => ?_, fun c100 => ?_⟩
            · conv => whnf
              refine T.fg [7] ?_
              refine ih (s + 1) _ (by omega) ?_ (by omega)
              rw [hc]
              show _ = c0 + (rsm M p o l q s + _)
              rw [if_neg (fun g => by omega)]
              omega
            · conv => whnf
              refine ⟨by omega, fun c106 => ?_, fun c106 => ?_⟩
              · conv => whnf
                refine T.fg [7] ?_
                refine ih (s + 1) _ (by omega) ?_ (by omega)
                rw [hc]
                show _ = c0 + (rsm M p o l q s + _)
                rw [if_neg (fun g => hbey c106 g.2.2.2)]
                omega
              · conv => whnf
                have hob : I 620 z = owAt M (nb q s) := by
                  rw [← hoa]
                  unfold owAt
                  rw [if_pos ⟨by omega, by omega⟩]
                  have := hO z.toNat (by omega)
                  rw [show ((z.toNat : Nat) : Int) = z by omega] at this
                  exact this
                rw [hoa] at hob2
                refine ⟨by decide, _, rfl, ?_⟩
                conv => whnf
                refine ⟨by omega, by decide, ?_⟩
                conv => whnf
                refine ⟨by rw [hob]; exact ⟨⟨by omega, by omega⟩, ⟨by omega, by omega⟩⟩, fun c117 => ?_, fun c117 => ?_⟩
                · conv => whnf
                  refine T.fg [7] ?_
                  refine ih (s + 1) _ (by omega) ?_ (by omega)
                  rw [hc]
                  show _ = c0 + (rsm M p o l q s + _)
                  rw [if_neg (fun g => c117 (by rw [hob]; exact g.2.2.2))]
                  omega
                · conv => whnf
                  refine T.fg [7] ?_
                  refine ih (s + 1) _ (by omega) ?_ (by omega)
                  rw [hc]
                  show _ = c0 + (rsm M p o l q s + _)
                  rw [if_pos ⟨by omega, by omega, by omega, by rw [← hob]; exact c117⟩]
                  omega
theorem l_mseO (T : ZTh (XX Ln xs) CZ RZ) {d b : Nat} {Q : ZQ} {p o l : Int} {W H : Nat} {M : Mo} {I : ZI} {L : ZL} (hO : OwM I M) (hw : Wq W H M) (hW : I 603 5 = W) (hH : I 603 6 = H) (hl : l = 0 ∨ l = 1) (hpo : (0 ≤ p ∧ p < 7) ∧ 0 ≤ o ∧ o < 7) (h : Q (.inl (some (.inl (smI (fun q => rsm M p o l q 3) 576)))) I L) (m : Nat) : ∀ (q : Nat) (c : Int), (q ≤ 576) → (c = smI (fun q => rsm M p o l q 3) q) → 576 - (q : Int) < (m : Int) → RZ (d + 3) k_X12_seams Q 44 [.inr (.ref 603, 13), .inl p, .inl o, .inl l, .inl c, .inl ((q : Int)), zj, zj] [] b I L := by
  induction m with
  | zero =>
    intro q c hq hc hm
    exfalso
    omega
  | succ m ih =>
    intro q c hq hc hm
    refine T.go [55] 90 ?_
    conv => whnf
    refine ⟨by omega, fun c49 => ?_, fun c49 => ?_⟩
    · conv => whnf
      obtain rfl : q = 576 := by omega
      rw [hc]
      exact h
    · conv => whnf
      exact l_mseI T (W := W) (H := H) (M := M) (c0 := c) hO hw hW hH hl hpo (by omega) (ih (q + 1) _ (by omega) (by rw [hc]; rfl) (by omega)) 4 0 _ (by omega) (by show c = c + 0; omega) (by omega)
theorem smI_z {f : Nat → Int} (h : ∀ i, f i = 0) : ∀ n, smI f n = 0
  | 0 => rfl
  | n + 1 => by
    show smI f n + f n = 0
    rw [smI_z h n, h]
    rfl
theorem rsm_A {M : Mo} {p o l : Int} (hl : l = 0 ∨ l = 1) : smI (fun q => rsm M p o l q 3) 576 = aSeams M p o l := by
  unfold aSeams
  by_cases e : p = o
  · rw [if_pos e]
    exact smI_z (fun i => rsm_0 (Or.inr e) 3) 576
  · rw [if_neg e]
    exact smI_congr 576 (fun i _ => rsm_3 hl e)
theorem s_X12_seams (T : ZTh (XX Ln xs) CZ RZ) {d b : Nat} {W H n bl : Nat} {M : Mo} {P SL : Nat → Mo} {v u : Nat → Int} {p o l : Int} {I : ZI} {L : ZL} {Q : ZQ} (hC : MB I W H M P n SL v bl u) (hA : WfA W H M P n SL v) (hp : zR p) (ho : zR o) (hl : l = 0 ∨ l = 1) (h : (0 ≤ p ∧ p < 7) ∧ 0 ≤ o ∧ o < 7 → ∀ I', Fr PSc I I' → I' 603 8 = 0 → MB I' W H M P n SL v bl u → Q (.inl (some (.inl (aSeams M p o l)))) I' L) (h2 : ¬ ((0 ≤ p ∧ p < 7) ∧ 0 ≤ o ∧ o < 7) → ∀ I', Fr PSc I I' → I' 603 8 = 1 → MB I' W H M P n SL v bl u → Q (.inl (some (.inl (0)))) I' L) : CZ (d + 4) k_X12_seams [.inr (.ref 603, 13), .inl p, .inl o, .inl l] b I L Q := by
  refine T.call rfl ?_
  obtain ⟨mT, mR, ⟨mW, mH⟩, ⟨mn, mn8⟩, mP, mS9, ⟨mb1, mb2, mb3⟩, mz⟩ := id hC
  obtain ⟨⟨⟨⟨w1, w2, w3, w4⟩, -⟩, w5, w6⟩, wP, wS⟩ := id hA
  refine T.go [44] 90 ?_
  conv => whnf
  refine zinv0 (s_X12_isPiece T  (by first | assumption | omega | rfl | decide) ?_ ?_)
  · intro cha_3
    conv => whnf
    refine ⟨by decide, fun c => absurd c (by decide), fun _ => ?_⟩
    conv => whnf
    refine zinv0 (s_X12_isPiece T  (by first | assumption | omega | rfl | decide) ?_ ?_)
    · intro cha_11
      conv => whnf
      refine ⟨by decide, fun _ => ?_, fun c => absurd c (by decide)⟩
      conv => whnf
      refine zinv0 (s_fails0 T   ?_)
      have hC1 := hC.th hA 0
      conv => whnf
      refine ⟨by decide, fun _ => ?_, fun c => absurd c (by decide)⟩
      conv => whnf
      refine ⟨by decide, _, rfl, ?_⟩
      conv => whnf
      refine zinv0 (s_X12_laysOwners T (W := W) (H := H) (M := M) (by exact hC1.1) (by decide) (by exact hC1.2.1) (by exact hA.1.1) ?_)
      intro I_35 hf_35 hv_35
      have hfr : Fr PSc I I_35 := (frTh I 0).trans (hf_35.mono (fun a b c => by unfold PSc; omega))
      have hC35 := hC.fr hA (fun a b _ g => hfr a b g)
      have h9 := h ⟨cha_3, cha_11⟩ I_35 hfr (by rw [hf_35 _ _ (by omega), v2_eq]) hC35
      rw [← rsm_A hl] at h9
      conv => whnf
      exact l_mseO T (W := W) (H := H) (M := M) hv_35 hA.1.1 hC35.2.2.1.1 hC35.2.2.1.2 hl ⟨cha_3, cha_11⟩ h9 577 0 0 (by omega) rfl (by omega)
    · intro ch2a_11
      conv => whnf
      refine ⟨by decide, fun c => absurd c (by decide), fun _ => ?_⟩
      conv => whnf
      refine zinv0 (s_fails1 T   ?_)
      conv => whnf
      refine ⟨by decide, fun c => absurd c (by decide), fun _ => ?_⟩
      conv => whnf
      exact h2 (fun g => ch2a_11 g.2) _ (frTh I 1) (v2_eq _ _ _ _) (hC.th hA 1)
  · intro ch2a_3
    conv => whnf
    refine ⟨by decide, fun _ => ?_, fun c => absurd c (by decide)⟩
    conv => whnf
    refine zinv0 (s_fails1 T   ?_)
    conv => whnf
    refine ⟨by decide, fun c => absurd c (by decide), fun _ => ?_⟩
    conv => whnf
    exact h2 (fun g => ch2a_3 g.1) _ (frTh I 1) (v2_eq _ _ _ _) (hC.th hA 1)
end
