/-! THE REFERENCE, TEXTS 6: scans -/
section
variable {Ln : Nat} {xs : Nat → Int32} {CZ : Nat → ZC} {RZ : Nat → Nat → ZQ → ZP}
theorem l_scL (T : ZTh (XX Ln xs) CZ RZ) {d b : Nat} {Q : ZQ} {p n : Nat} {u : Nat → Int} {I0 : ZI} {L : ZL} (hY : BYm I0 u n) (hp : p < n ∧ bS (u p) = 1) (h : ∀ I', Fr PSn I0 I' → I' 603 56 = I0 603 56 → TkM I' u n p → Q (.inl none) I' L) (m : Nat) : ∀ (j : Nat) (I : ZI), (p ≤ j ∧ j ≤ n) → (Fr PSn I0 I) → (I 603 53 = j) → (I 603 54 = p) → (I 603 56 = I0 603 56) → (eRn u n 1 p = eRn u n 1 j) → (n : Int) - (j : Int) < (m : Int) → RZ (d + 2) k_X12_scans Q 83 [.inr (.ref 603, 13), zj] [] b I L := by
  induction m with
  | zero =>
    intro j I hj hfr h53 h54 h56 he hm
    exfalso
    omega
  | succ m ih =>
    intro j I hj hfr h53 h54 h56 he hm
    have hY2 := hY.sn hfr
    have hn7 := hY2.2.1
    refine T.go [83] 90 ?_
    conv => whnf
    refine ⟨by decide, ?_⟩
    conv => whnf
    rw [h53]
    refine zinv0 (s_X12_byteAt T (k := (j : Int)) (n := n) (u := u) (by omega) (by exact ⟨hY2.1, hY2.2.1⟩) (by exact fun i hi => (hY2.2.2 i hi).1) ?_)
    obtain ⟨b1, hb1⟩ : ∃ z : Int, z = (if (j : Int) < (n : Int) then u ((j : Int)).toNat else -1) := ⟨_, rfl⟩
    rw [← hb1]
    have cb1 : (j < n ∧ b1 = u j ∧ 0 ≤ b1 ∧ b1 < 256) ∨ (n ≤ j ∧ b1 = -1) := by
      by_cases g : (j : Int) < (n : Int)
      · rw [if_pos g, Int.toNat_natCast] at hb1
        have := (hY2.2.2 j (by omega)).2
        exact Or.inl ⟨by omega, hb1, by omega, by omega⟩
      · rw [if_neg g] at hb1
        exact Or.inr ⟨by omega, hb1⟩
    conv => whnf
    refine ⟨by omega, ?_⟩
    conv => whnf
    refine zinv0 (s_X12_isIn T (v := b1) (a := 97) (z := 122) (by omega) (by omega) (by omega) ?_ ?_)
    · intro cha_98
      conv => whnf
      refine ⟨by decide, fun c => absurd c (by decide), fun _ => ?_⟩
      conv => whnf
      refine ⟨by decide, ?_⟩
      conv => whnf
      refine ⟨by decide, ?_⟩
      conv => whnf
      have hjn : j < n ∧ b1 = u j := by omega
      have eb : bS (u j) = 1 := bS_l.mpr (by omega)
      exact ih (j + 1) _ (by omega) (hfr.v2 (by unfold PSn; omega)) (by rw [v2_eq, h53]; omega) (by rw [v2_ne (by omega)]; exact h54) (by rw [v2_ne (by omega)]; exact h56) (by rw [he]; exact eRn_y hjn.1 eb) (by omega)
    · intro ch2a_98
      conv => whnf
      refine ⟨by decide, fun _ => ?_, fun c => absurd c (by decide)⟩
      conv => whnf
      refine ⟨by decide, ?_⟩
      conv => whnf
      have hst : eRn u n 1 p = j := by
        rw [he]
        refine eRn_n (fun g => ?_)
        have := bS_l.mp g.2
        omega
      have etE : tE u n p = j := by
        unfold tE
        rw [if_neg (by omega), hp.2, hst]
      refine h _ (hfr.v2 (by unfold PSn; omega)) (by rw [v2_ne (by omega)]; exact h56) ⟨by rw [v2_ne (by omega)]; exact h54, ?_, ?_, fun g => ?_⟩
      · rw [v2_ne (by omega), h53, if_neg (by omega), etE]
      · rw [v2_eq]
        unfold sortU
        rw [if_neg (by omega), if_pos hp.2]
      · exfalso
        unfold tkU at g
        rw [if_neg (by omega), if_pos hp.2] at g
        have hpj : p < j := by
          have := eRn_y hp.1 hp.2
          have h9 := (eRn_b u n 1 (p + 1)).1
          omega
        rcases wI_ne2 (u := u) (p := p) (e := tE u n p) (by omega) 18 0 rfl with e9 | ⟨e9, -⟩ <;> omega
theorem l_scB (T : ZTh (XX Ln xs) CZ RZ) {d b : Nat} {Q : ZQ} {k n : Nat} {u : Nat → Int} {I0 I : ZI} {L : ZL} (hY : BYm I0 u n) (hfr : Fr PSn I0 I) (h53 : I 603 53 = k) (hk : k ≤ n) (hs : ¬ (k < n ∧ bS (u k) = 0)) (hz : zR (I 603 56)) (h : ∀ I', Fr PSn I0 I' → zR (I' 603 56) → TkM I' u n k → Q (.inl none) I' L) : RZ (d + 2) k_X12_scans Q 39 [.inr (.ref 603, 13), zj] [] b I L := by
  have hY2 := hY.sn hfr
  have hn7 := hY2.2.1
  have hss := bS_s (v := u k)
  have hsd := bS_d (v := u k)
  have hsl := bS_l (v := u k)
  refine T.go [83] 120 ?_
  conv => whnf
  refine ⟨by decide, ?_⟩
  conv => whnf
  refine ⟨by decide, ?_⟩
  conv => whnf
  refine ⟨by decide, ?_⟩
  conv => whnf
  rw [v2_ne (by omega), h53]
  refine zinv0 (s_X12_byteAt T (k := (k : Int)) (n := n) (u := u) (by omega) (by exact ⟨(v2_ne (by omega)).trans hY2.1, hY2.2.1⟩) (by exact fun i hi => (v2_ne (by omega)).trans (hY2.2.2 i hi).1) ?_)
  obtain ⟨b1, hb1⟩ : ∃ z : Int, z = (if (k : Int) < (n : Int) then u ((k : Int)).toNat else -1) := ⟨_, rfl⟩
  rw [← hb1]
  have cb1 : (k < n ∧ b1 = u k ∧ 0 ≤ b1 ∧ b1 < 256) ∨ (n ≤ k ∧ b1 = -1) := by
    by_cases g : (k : Int) < (n : Int)
    · rw [if_pos g, Int.toNat_natCast] at hb1
      have := (hY2.2.2 k (by omega)).2
      exact Or.inl ⟨by omega, hb1, by omega, by omega⟩
    · rw [if_neg g] at hb1
      exact Or.inr ⟨by omega, hb1⟩
  conv => whnf
  refine ⟨by omega, fun c58 => ?_, fun c58 => ?_⟩
  · conv => whnf
    refine ⟨by omega, ?_⟩
    conv => whnf
    refine zinv0 (s_X12_isIn T (v := b1) (a := 97) (z := 122) (by omega) (by omega) (by omega) ?_ ?_)
    · intro cha_77
      conv => whnf
      refine ⟨by decide, fun c => absurd c (by decide), fun _ => ?_⟩
      conv => whnf
      refine T.fg [1] ?_
      have hkn : k < n ∧ b1 = u k := by omega
      refine l_scL T (u := u) (I0 := v2 I 603 54 (k : Int)) (hY2.fr (fun a b g => v2_ne (by omega))) ⟨hkn.1, hsl.mpr (by omega)⟩ (fun I2 f2 e2 t2 => h I2 ((hfr.v2 (by unfold PSn; omega)).trans f2) (by rw [e2, v2_ne (by omega)]; exact hz) t2) (n + 1) k _ ⟨Nat.le_refl _, by omega⟩ (Fr.refl _) ((v2_ne (by omega)).trans h53) (v2_eq _ _ _ _) rfl rfl (by omega)
    · intro ch2a_77
      conv => whnf
      refine ⟨by decide, fun _ => ?_, fun c => absurd c (by decide)⟩
      conv => whnf
      refine ⟨by omega, ?_⟩
      conv => whnf
      refine zinv0 (s_X12_isIn T (v := b1) (a := 48) (z := 57) (by omega) (by omega) (by omega) ?_ ?_)
      · intro cha_133
        conv => whnf
        refine ⟨by decide, fun c => absurd c (by decide), fun _ => ?_⟩
        conv => whnf
        refine zinv0 (s_X12_scansDigits T (p := k) (n := n) u (by exact hY2.fr (fun a b g => v2_ne (by omega))) (by exact ⟨by omega, hsd.mpr (by omega)⟩) (by exact (v2_ne (by omega)).trans h53) (by exact v2_eq _ _ _ _) ?_)
        intro I_140 hf_140 hk_140 hz_140
        conv => whnf
        exact h I_140 ((hfr.v2 (by unfold PSn; omega)).trans hf_140) hz_140 hk_140
      · intro ch2a_133
        conv => whnf
        refine ⟨by decide, fun _ => ?_, fun c => absurd c (by decide)⟩
        conv => whnf
        refine ⟨by decide, ?_⟩
        conv => whnf
        refine ⟨by decide, ?_⟩
        conv => whnf
        refine ⟨by omega, fun c160 => ?_, fun c160 => ?_⟩
        · conv => whnf
          refine ⟨by decide, ?_⟩
          conv => whnf
          have hkn : k < n ∧ b1 = u k := by omega
          have b3 : bS (u k) = 3 := by
            unfold bS
            rw [if_neg (by omega), if_neg (by omega), if_neg (by omega)]
          have etE : tE u n k = k + 1 := by
            unfold tE
            rw [if_pos b3]
          refine h _ (((hfr.v2 (by unfold PSn; omega)).v2 (by unfold PSn; omega)).v2 (by unfold PSn; omega)) (by rw [v2_ne (by omega), v2_ne (by omega), v2_ne (by omega)]; exact hz) ⟨by rw [v2_ne (by omega), v2_ne (by omega), v2_eq], by rw [v2_ne (by omega), v2_eq, v2_ne (by omega), h53, if_neg (by omega), etE]; omega, ?_, fun g => ?_⟩
          · rw [v2_eq]
            unfold sortU
            rw [if_neg (by omega), if_neg (by omega), if_neg (by omega), if_neg (by omega)]
          · exfalso
            unfold tkU at g
            rw [if_neg (by omega), if_neg (by omega), if_neg (by omega)] at g
            by_cases e : u k = 59
            · rw [if_pos e] at g; omega
            · rw [if_neg e] at g; omega
        · conv => whnf
          refine ⟨by decide, ?_⟩
          conv => whnf
          have hkn : k < n ∧ b1 = u k := by omega
          have b3 : bS (u k) = 3 := by
            unfold bS
            rw [if_neg (by omega), if_neg (by omega), if_neg (by omega)]
          have etE : tE u n k = k + 1 := by
            unfold tE
            rw [if_pos b3]
          refine h _ (((hfr.v2 (by unfold PSn; omega)).v2 (by unfold PSn; omega)).v2 (by unfold PSn; omega)) (by rw [v2_ne (by omega), v2_ne (by omega), v2_ne (by omega)]; exact hz) ⟨by rw [v2_ne (by omega), v2_ne (by omega), v2_eq], by rw [v2_ne (by omega), v2_eq, v2_ne (by omega), h53, if_neg (by omega), etE]; omega, ?_, fun g => ?_⟩
          · rw [v2_eq]
            unfold sortU
            rw [if_neg (by omega), if_neg (by omega), if_neg (by omega), if_pos (by omega)]
          · exfalso
            unfold tkU at g
            rw [if_neg (by omega), if_neg (by omega), if_neg (by omega)] at g
            by_cases e : u k = 59
            · rw [if_pos e] at g; omega
            · rw [if_neg e] at g; omega
  · conv => whnf
    refine ⟨by decide, ?_⟩
    conv => whnf
    refine h _ ((hfr.v2 (by unfold PSn; omega)).v2 (by unfold PSn; omega)) (by rw [v2_ne (by omega), v2_ne (by omega)]; exact hz) ⟨by rw [v2_ne (by omega), v2_eq], by rw [v2_ne (by omega), v2_ne (by omega), h53, if_pos (by omega)], ?_, fun g => ?_⟩
    · rw [v2_eq]
      unfold sortU
      rw [if_pos (by omega)]
    · unfold tkU at g
      rw [if_pos (by omega)] at g
      omega
theorem l_scS (T : ZTh (XX Ln xs) CZ RZ) {d b : Nat} {Q : ZQ} {q n : Nat} {u : Nat → Int} {I0 : ZI} {L : ZL} (hY : BYm I0 u n) (h : ∀ I', Fr PSn I0 I' → zR (I' 603 56) → TkM I' u n (eRn u n 0 q) → Q (.inl none) I' L) (m : Nat) : ∀ (k : Nat) (I : ZI), (q ≤ k ∧ k ≤ n) → (Fr PSn I0 I) → (I 603 53 = k) → (zR (I 603 56)) → (eRn u n 0 q = eRn u n 0 k) → (n : Int) - (k : Int) < (m : Int) → RZ (d + 2) k_X12_scans Q 0 [.inr (.ref 603, 13), zj] [] b I L := by
  induction m with
  | zero =>
    intro k I hk hfr h53 h56 he hm
    exfalso
    omega
  | succ m ih =>
    intro k I hk hfr h53 h56 he hm
    have hY2 := hY.sn hfr
    have hn7 := hY2.2.1
    have hss := bS_s (v := u k)
    refine T.go [0, 39] 90 ?_
    conv => whnf
    refine ⟨by decide, ?_⟩
    conv => whnf
    rw [h53]
    refine zinv0 (s_X12_byteAt T (k := (k : Int)) (n := n) (u := u) (by omega) (by exact ⟨hY2.1, hY2.2.1⟩) (by exact fun i hi => (hY2.2.2 i hi).1) ?_)
    obtain ⟨b1, hb1⟩ : ∃ z : Int, z = (if (k : Int) < (n : Int) then u ((k : Int)).toNat else -1) := ⟨_, rfl⟩
    rw [← hb1]
    have cb1 : (k < n ∧ b1 = u k ∧ 0 ≤ b1 ∧ b1 < 256) ∨ (n ≤ k ∧ b1 = -1) := by
      by_cases g : (k : Int) < (n : Int)
      · rw [if_pos g, Int.toNat_natCast] at hb1
        have := (hY2.2.2 k (by omega)).2
        exact Or.inl ⟨by omega, hb1, by omega, by omega⟩
      · rw [if_neg g] at hb1
        exact Or.inr ⟨by omega, hb1⟩
    conv => whnf
    refine ⟨by omega, fun c10 => ?_, fun c10 => ?_⟩
    · conv => whnf
      refine ⟨by decide, ?_⟩
      conv => whnf
      refine ⟨by decide, ?_⟩
      conv => whnf
      have hkn : k < n ∧ b1 = u k := by omega
      exact ih (k + 1) _ (by omega) (hfr.v2 (by unfold PSn; omega)) (by rw [v2_eq, h53]; omega) (by rw [v2_ne (by omega)]; exact h56) (by rw [he]; exact eRn_y hkn.1 (hss.mpr (by omega))) (by omega)
    · conv => whnf
      refine ⟨by decide, ?_⟩
      conv => whnf
      rw [h53]
      refine zinv0 (s_X12_byteAt T (k := (k : Int)) (n := n) (u := u) (by omega) (by exact ⟨hY2.1, hY2.2.1⟩) (by exact fun i hi => (hY2.2.2 i hi).1) ?_)
      rw [← hb1]
      conv => whnf
      refine ⟨by omega, fun c23 => ?_, fun c23 => ?_⟩
      · conv => whnf
        have hs : ¬ (k < n ∧ bS (u k) = 0) := fun g => by
          have := hss.mp g.2
          omega
        have e : eRn u n 0 q = k := by rw [he]; exact eRn_n hs
        rw [e] at h
        exact l_scB T (u := u) (I0 := I0) hY hfr h53 hk.2 hs h56 h
      · conv => whnf
        refine ⟨by decide, ?_⟩
        conv => whnf
        refine ⟨by decide, ?_⟩
        conv => whnf
        have hkn : k < n ∧ b1 = u k := by omega
        exact ih (k + 1) _ (by omega) (hfr.v2 (by unfold PSn; omega)) (by rw [v2_eq, h53]; omega) (by rw [v2_ne (by omega)]; exact h56) (by rw [he]; exact eRn_y hkn.1 (hss.mpr (by omega))) (by omega)
theorem s_X12_scans (T : ZTh (XX Ln xs) CZ RZ) {d b : Nat} {q n : Nat} (u : Nat → Int) {I : ZI} {L : ZL} {Q : ZQ} (hY : BYm I u n) (hq : q ≤ n) (h53 : I 603 53 = q) (hz : zR (I 603 56)) (h : ∀ I', Fr PSn I I' → zR (I' 603 56) → TkM I' u n (eRn u n 0 q) → Q (.inl none) I' L) : CZ (d + 3) k_X12_scans [.inr (.ref 603, 13)] b I L Q := by
  refine T.call rfl ?_
  exact l_scS T (u := u) (I0 := I) hY h (n + 1) q I ⟨Nat.le_refl _, hq⟩ (Fr.refl I) h53 hz rfl (by omega)
end
