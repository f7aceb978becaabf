/-! THE REFERENCE, TEXTS 5: digits -/
section
variable {Ln : Nat} {xs : Nat → Int32} {CZ : Nat → ZC} {RZ : Nat → Nat → ZQ → ZP}
/-- the reference's bytes -/
def BYm (I : ZI) (u : Nat → Int) (n : Nat) : Prop := I 603 52 = n ∧ n ≤ 700 ∧ ∀ i : Nat, i < n → I 641 (i : Int) = u i ∧ 0 ≤ u i ∧ u i < 256
/-- what scanning may change -/
def PSn : Nat → Int → Prop := fun a b => a = 603 ∧ 53 ≤ b ∧ b ≤ 56
theorem BYm.fr {I I' : ZI} {u : Nat → Int} {n : Nat} (h : BYm I u n) (h1 : ∀ (a : Nat) (b : Int), a = 641 ∨ (a = 603 ∧ b = 52) → I' a b = I a b) : BYm I' u n := ⟨by rw [h1 _ _ (Or.inr ⟨rfl, rfl⟩)]; exact h.1, h.2.1, fun i hi => by rw [h1 _ _ (Or.inl rfl)]; exact h.2.2 i hi⟩
theorem BYm.sn {I I' : ZI} {u : Nat → Int} {n : Nat} (h : BYm I u n) (hf : Fr PSn I I') : BYm I' u n := h.fr (fun a b g => hf a b (by unfold PSn; omega))
/-- the sort of the token at p, as the reference tells it -/
def sortU (u : Nat → Int) (n p : Nat) : Int := if n ≤ p then 0 else if bS (u p) = 1 then 1 else if bS (u p) = 2 then (if 2 < tE u n p - p then 4 else 2) else if u p = 59 then 3 else 4
/-- the token at p is read -/
def TkM (I : ZI) (u : Nat → Int) (n p : Nat) : Prop := I 603 54 = p ∧ I 603 53 = ((if n ≤ p then p else tE u n p : Nat) : Int) ∧ I 603 55 = sortU u n p ∧ (tkU u n p = 2 → I 603 56 = nmA u n p)
theorem dgs2_b {u : Nat → Int} {p : Nat} (h : ∀ i, i < 2 → 48 ≤ u (p + i) ∧ u (p + i) ≤ 57) : 0 ≤ dgs u p 2 ∧ dgs u p 2 ≤ 99 := by
  have h0 := h 0 (by omega)
  have h1 := h 1 (by omega)
  show 0 ≤ 10 * (10 * 0 + u (p + 0) - 48) + u (p + 1) - 48 ∧ 10 * (10 * 0 + u (p + 0) - 48) + u (p + 1) - 48 ≤ 99
  omega
theorem bS_d {v : Int} : bS v = 2 ↔ 48 ≤ v ∧ v ≤ 57 := by
  unfold bS
  by_cases a : v = 32 ∨ v = 10
  · rw [if_pos a]; omega
  · rw [if_neg a]
    by_cases b : 97 ≤ v ∧ v ≤ 122
    · rw [if_pos b]; omega
    · rw [if_neg b]
      by_cases c : 48 ≤ v ∧ v ≤ 57
      · rw [if_pos c]; omega
      · rw [if_neg c]; omega
theorem bS_l {v : Int} : bS v = 1 ↔ 97 ≤ v ∧ v ≤ 122 := by
  unfold bS
  by_cases a : v = 32 ∨ v = 10
  · rw [if_pos a]; omega
  · rw [if_neg a]
    by_cases b : 97 ≤ v ∧ v ≤ 122
    · rw [if_pos b]; omega
    · rw [if_neg b]
      by_cases c : 48 ≤ v ∧ v ≤ 57
      · rw [if_pos c]; omega
      · rw [if_neg c]; omega
theorem bS_s {v : Int} : bS v = 0 ↔ v = 32 ∨ v = 10 := by
  unfold bS
  by_cases a : v = 32 ∨ v = 10
  · rw [if_pos a]; omega
  · rw [if_neg a]
    by_cases b : 97 ≤ v ∧ v ≤ 122
    · rw [if_pos b]; omega
    · rw [if_neg b]
      by_cases c : 48 ≤ v ∧ v ≤ 57
      · rw [if_pos c]; omega
      · rw [if_neg c]; omega
theorem l_sdg (T : ZTh (XX Ln xs) CZ RZ) {d b : Nat} {Q : ZQ} {p n : Nat} {u : Nat → Int} {I0 : ZI} {L : ZL} (hY : BYm I0 u n) (hp : p < n ∧ bS (u p) = 2) (h : ∀ I', Fr PSn I0 I' → TkM I' u n p → zR (I' 603 56) → Q (.inl none) I' L) (m : Nat) : ∀ (j : Nat) (I : ZI), (p ≤ j ∧ j ≤ n) → (Fr PSn I0 I) → (I 603 53 = j) → (I 603 54 = p) → (I 603 56 = dgs u p (if j - p < 2 then j - p else 2)) → (eRn u n 2 p = eRn u n 2 j) → (∀ i, p ≤ i → i < j → 48 ≤ u i ∧ u i ≤ 57) → (n : Int) - (j : Int) < (m : Int) → RZ (d + 1) k_X12_scansDigits Q 5 [.inr (.ref 603, 13)] [] b I L := by
  induction m with
  | zero =>
    intro j I hj hfr h53 h54 h56 he hd hm
    exfalso
    omega
  | succ m ih =>
    intro j I hj hfr h53 h54 h56 he hd hm
    have hY2 := hY.sn hfr
    have hn7 := hY2.2.1
    refine T.go [5] 90 ?_
    conv => whnf
    refine ⟨by decide, ?_⟩
    conv => whnf
    rw [h53]
    refine zinv0 (s_X12_byteAt T (k := (j : Int)) (n := n) (u := u) (by omega) (by exact ⟨hY2.1, hY2.2.1⟩) (by exact fun i hi => (hY2.2.2 i hi).1) ?_)
    obtain ⟨b1, hb1⟩ : ∃ z : Int, z = (if (j : Int) < (n : Int) then u ((j : Int)).toNat else -1) := ⟨_, rfl⟩
    rw [← hb1]
    have cb1 : (j < n ∧ b1 = u j ∧ 0 ≤ b1 ∧ b1 < 256) ∨ (n ≤ j ∧ b1 = -1) := by
      by_cases g : (j : Int) < (n : Int)
      · rw [if_pos g, Int.toNat_natCast] at hb1
        have := (hY2.2.2 j (by omega)).2
        exact Or.inl ⟨by omega, hb1, by omega, by omega⟩
      · rw [if_neg g] at hb1
        exact Or.inr ⟨by omega, hb1⟩
    conv => whnf
    refine ⟨by omega, ?_⟩
    conv => whnf
    refine zinv0 (s_X12_isIn T (v := b1) (a := 48) (z := 57) (by omega) (by omega) (by omega) ?_ ?_)
    · intro cha_20
      conv => whnf
      refine ⟨by decide, fun c => absurd c (by decide), fun _ => ?_⟩
      conv => whnf
      refine ⟨by decide, ?_⟩
      conv => whnf
      refine ⟨by decide, ?_⟩
      conv => whnf
      rw [h53, h54]
      refine ⟨by omega, fun c37 => ?_, fun c37 => ?_⟩
      · conv => whnf
        refine ⟨by decide, ?_⟩
        conv => whnf
        refine ⟨by decide, ?_⟩
        conv => whnf
        refine ⟨by decide, ?_⟩
        conv => whnf
        refine ⟨by decide, ?_⟩
        conv => whnf
        have hjn : j < n ∧ b1 = u j := by omega
        have eb : bS (u j) = 2 := bS_d.mpr (by omega)
        refine ih (j + 1) _ (by omega) ((hfr.v2 (by unfold PSn; omega)).v2 (by unfold PSn; omega)) (by rw [v2_eq, v2_ne (by omega), h53]; omega) (by rw [v2_ne (by omega), v2_ne (by omega)]; exact h54) ?_ (by rw [he]; exact eRn_y hjn.1 eb) (fun i h1 h2 => ?_) (by omega)
        · rw [v2_ne (by omega), v2_eq, h56]
          rw [if_neg (by omega), if_neg (by omega)]
        · by_cases e : i = j
          · rw [e]; omega
          · exact hd i h1 (by omega)
      · conv => whnf
        refine ⟨by decide, ?_⟩
        conv => whnf
        refine ⟨by decide, ?_⟩
        conv => whnf
        rw [h53]
        refine zinv0 (s_X12_byteAt T (k := (j : Int)) (n := n) (u := u) (by omega) (by exact ⟨hY2.1, hY2.2.1⟩) (by exact fun i hi => (hY2.2.2 i hi).1) ?_)
        rw [← hb1]
        conv => whnf
        refine ⟨by decide, ?_⟩
        conv => whnf
        refine ⟨by decide, ?_⟩
        conv => whnf
        refine ⟨by decide, ?_⟩
        conv => whnf
        have hjn : j < n ∧ b1 = u j := by omega
        have eb : bS (u j) = 2 := bS_d.mpr (by omega)
        refine ih (j + 1) _ (by omega) ((hfr.v2 (by unfold PSn; omega)).v2 (by unfold PSn; omega)) (by rw [v2_eq, v2_ne (by omega), h53]; omega) (by rw [v2_ne (by omega), v2_ne (by omega)]; exact h54) ?_ (by rw [he]; exact eRn_y hjn.1 eb) (fun i h1 h2 => ?_) (by omega)
        · rw [v2_ne (by omega), v2_eq, h56]
          have hm : j - p < 2 := by omega
          rw [if_pos hm]
          by_cases e : j + 1 - p < 2
          · rw [if_pos e, show j + 1 - p = (j - p) + 1 by omega]
            show _ = 10 * dgs u p (j - p) + u (p + (j - p)) - 48
            rw [show p + (j - p) = j by omega, hjn.2]
          · rw [if_neg e, show 2 = (j - p) + 1 by omega]
            show _ = 10 * dgs u p (j - p) + u (p + (j - p)) - 48
            rw [show p + (j - p) = j by omega, hjn.2]
        · by_cases e : i = j
          · rw [e]; omega
          · exact hd i h1 (by omega)
    · intro ch2a_20
      conv => whnf
      refine ⟨by decide, fun _ => ?_, fun c => absurd c (by decide)⟩
      conv => whnf
      refine ⟨by decide, ?_⟩
      conv => whnf
      refine ⟨by decide, ?_⟩
      conv => whnf
      refine ⟨by rw [h53, h54]; exact ⟨⟨by omega, by omega⟩, ⟨by omega, by omega⟩⟩, fun c93 => ?_, fun c93 => ?_⟩
      · conv => whnf
        refine ⟨by decide, ?_⟩
        conv => whnf
        have hst : eRn u n 2 p = j := by
          rw [he]
          refine eRn_n (fun g => ?_)
          have := bS_d.mp g.2
          omega
        have hpj : p < j := by
          have := eRn_y hp.1 hp.2
          have h9 := (eRn_b u n 2 (p + 1)).1
          omega
        have etE : tE u n p = j := by
          unfold tE
          rw [if_neg (by omega), hp.2, hst]
        have hdg := hd
        refine h _ (hfr.v2 (by unfold PSn; omega)) ⟨by rw [v2_ne (by omega)]; exact h54, ?_, ?_, fun g => ?_⟩ ?_
        · rw [v2_ne (by omega), h53, if_neg (by omega), etE]
        · rw [v2_eq]
          unfold sortU
          rw [if_neg (by omega), if_neg (by omega), if_pos hp.2, etE]
          rw [h53, h54] at c93
          rw [if_neg (by omega)]
        · rw [v2_ne (by omega), h56]
          unfold nmA
          rw [etE]
          have g2 : ¬ 2 < j - p := by
            intro g3
            unfold tkU at g
            rw [if_neg (by omega), if_neg (by omega), if_pos hp.2, etE, if_pos g3] at g
            omega
          by_cases e : j - p < 2
          · rw [if_pos e]
          · rw [if_neg e, show j - p = 2 by omega]
        · rw [v2_ne (by omega), h56]
          by_cases e : j - p < 2
          · rw [if_pos e, show j - p = 1 by omega]
            have := hd p (by omega) (by omega)
            show zR (10 * 0 + u (p + 0) - 48)
            rw [Nat.add_zero]
            exact ⟨by omega, by omega⟩
          · rw [if_neg e]
            have := dgs2_b (u := u) (p := p) (fun i hi => hd (p + i) (by omega) (by omega))
            exact ⟨by omega, by omega⟩
      · conv => whnf
        refine ⟨by decide, ?_⟩
        conv => whnf
        have hst : eRn u n 2 p = j := by
          rw [he]
          refine eRn_n (fun g => ?_)
          have := bS_d.mp g.2
          omega
        have hpj : p < j := by
          have := eRn_y hp.1 hp.2
          have h9 := (eRn_b u n 2 (p + 1)).1
          omega
        have etE : tE u n p = j := by
          unfold tE
          rw [if_neg (by omega), hp.2, hst]
        have hdg := hd
        refine h _ (hfr.v2 (by unfold PSn; omega)) ⟨by rw [v2_ne (by omega)]; exact h54, ?_, ?_, fun g => ?_⟩ ?_
        · rw [v2_ne (by omega), h53, if_neg (by omega), etE]
        · rw [v2_eq]
          unfold sortU
          rw [if_neg (by omega), if_neg (by omega), if_pos hp.2, etE]
          rw [h53, h54] at c93
          rw [if_pos (by omega)]
        · rw [v2_ne (by omega), h56]
          unfold nmA
          rw [etE]
          have g2 : ¬ 2 < j - p := by
            intro g3
            unfold tkU at g
            rw [if_neg (by omega), if_neg (by omega), if_pos hp.2, etE, if_pos g3] at g
            omega
          by_cases e : j - p < 2
          · rw [if_pos e]
          · rw [if_neg e, show j - p = 2 by omega]
        · rw [v2_ne (by omega), h56]
          by_cases e : j - p < 2
          · rw [if_pos e, show j - p = 1 by omega]
            have := hd p (by omega) (by omega)
            show zR (10 * 0 + u (p + 0) - 48)
            rw [Nat.add_zero]
            exact ⟨by omega, by omega⟩
          · rw [if_neg e]
            have := dgs2_b (u := u) (p := p) (fun i hi => hd (p + i) (by omega) (by omega))
            exact ⟨by omega, by omega⟩
theorem s_X12_scansDigits (T : ZTh (XX Ln xs) CZ RZ) {d b : Nat} {p n : Nat} (u : Nat → Int) {I : ZI} {L : ZL} {Q : ZQ} (hY : BYm I u n) (hp : p < n ∧ bS (u p) = 2) (h53 : I 603 53 = p) (h54 : I 603 54 = p) (h : ∀ I', Fr PSn I I' → TkM I' u n p → zR (I' 603 56) → Q (.inl none) I' L) : CZ (d + 2) k_X12_scansDigits [.inr (.ref 603, 13)] b I L Q := by
  refine T.call rfl ?_
  refine T.go [5] 90 ?_
  conv => whnf
  refine ⟨by decide, ?_⟩
  conv => whnf
  exact l_sdg T (u := u) (I0 := I) hY hp h (n + 1) p _ ⟨Nat.le_refl _, by omega⟩ ((Fr.refl I).v2 (by unfold PSn; omega)) (by rw [v2_ne (by omega)]; exact h53) (by rw [v2_ne (by omega)]; exact h54) (by rw [v2_eq, if_pos (by omega), Nat.sub_self]; rfl) rfl (fun i h1 h2 => absurd h2 (by omega)) (by omega)
end
