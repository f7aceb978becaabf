/-! THE REFERENCE, 1: small methods -/
section
variable {Ln : Nat} {xs : Nat → Int32} {CZ : Nat → ZC} {RZ : Nat → Nat → ZQ → ZP}
theorem s_X12_thrown (T : ZTh (XX Ln xs) CZ RZ) {d b : Nat}  {I : ZI} {L : ZL} {Q : ZQ}  (h : Q (.inl (some (.inl (I 603 8)))) I L) : CZ (d + 1) k_X12_thrown [.inr (.ref 603, 13)] b I L Q := by
  refine T.call rfl ?_
  refine T.go [] 90 ?_
  conv => whnf
  refine ⟨by decide, ?_⟩
  conv => whnf
  exact h
theorem s_X12_isIn (T : ZTh (XX Ln xs) CZ RZ) {d b : Nat} {v a z : Int} {I : ZI} {L : ZL} {Q : ZQ} (hv : -4611686018427387904 ≤ v ∧ v ≤ 4611686018427387904) (ha : -4611686018427387904 ≤ a ∧ a ≤ 4611686018427387904) (hz : -4611686018427387904 ≤ z ∧ z ≤ 4611686018427387904) (h : a ≤ v ∧ v ≤ z → Q (.inl (some (.inl (1)))) I L) (h2 : ¬ (a ≤ v ∧ v ≤ z) → Q (.inl (some (.inl (0)))) I L) : CZ (d + 1) k_X12_isIn [.inr (.long (l6 v), 0), .inr (.long (l6 a), 0), .inr (.long (l6 z), 0)] b I L Q := by
  refine T.call rfl ?_
  have L1 := l6_lt hv ha
  have L2 := l6_lt ha hv
  have E1 := l6_eq hv ha
  have L3 := l6_lt hv hz
  have L4 := l6_lt hz hv
  have E3 := l6_eq hv hz
  refine T.go [] 90 ?_
  conv => whnf
  refine ⟨fun c2 => ?_, fun c2 => ?_, fun c2 => ?_⟩
  · conv => whnf
    refine ⟨by decide, fun _ => ?_, fun c => absurd c (by decide)⟩
    conv => whnf
    refine ⟨by omega, ?_⟩
    exact h2 (fun c => by have := L1.mp c2; omega)
  · conv => whnf
    refine ⟨by decide, fun c => absurd c (by decide), fun _ => ?_⟩
    conv => whnf
    refine ⟨fun c9 => ?_, fun c9 => ?_, fun c9 => ?_⟩
    · conv => whnf
      refine ⟨by decide, fun c => absurd c (by decide), fun _ => ?_⟩
      conv => whnf
      refine ⟨by omega, ?_⟩
      have g1 : a ≤ v := by have := E1.mp c2; omega
      exact h ⟨g1, by have := L3.mp c9; omega⟩
    · conv => whnf
      refine ⟨by decide, fun c => absurd c (by decide), fun _ => ?_⟩
      conv => whnf
      refine ⟨by omega, ?_⟩
      have g1 : a ≤ v := by have := E1.mp c2; omega
      exact h ⟨g1, by have := E3.mp c9; omega⟩
    · conv => whnf
      refine ⟨by decide, fun _ => ?_, fun c => absurd c (by decide)⟩
      conv => whnf
      refine ⟨by omega, ?_⟩
      exact h2 (fun c => by have := L4.mp c9; omega)
  · conv => whnf
    refine ⟨by decide, fun c => absurd c (by decide), fun _ => ?_⟩
    conv => whnf
    refine ⟨fun c9 => ?_, fun c9 => ?_, fun c9 => ?_⟩
    · conv => whnf
      refine ⟨by decide, fun c => absurd c (by decide), fun _ => ?_⟩
      conv => whnf
      refine ⟨by omega, ?_⟩
      have g1 : a ≤ v := by have := L2.mp c2; omega
      exact h ⟨g1, by have := L3.mp c9; omega⟩
    · conv => whnf
      refine ⟨by decide, fun c => absurd c (by decide), fun _ => ?_⟩
      conv => whnf
      refine ⟨by omega, ?_⟩
      have g1 : a ≤ v := by have := L2.mp c2; omega
      exact h ⟨g1, by have := E3.mp c9; omega⟩
    · conv => whnf
      refine ⟨by decide, fun _ => ?_, fun c => absurd c (by decide)⟩
      conv => whnf
      refine ⟨by omega, ?_⟩
      exact h2 (fun c => by have := L4.mp c9; omega)
theorem s_X12_fails (T : ZTh (XX Ln xs) CZ RZ) {d b : Nat} {f : Int} {I : ZI} {L : ZL} {Q : ZQ} (hf : f = 0 ∨ f = 1) (h : Q (.inl (some (.inl (f)))) (v2 I 603 8 f) L) : CZ (d + 1) k_X12_fails [.inr (.ref 603, 13), .inl f] b I L Q := by
  refine T.call rfl ?_
  refine T.go [] 90 ?_
  conv => whnf
  refine ⟨by omega, fun c2 => ?_, fun c2 => ?_⟩
  · conv => whnf
    refine ⟨by decide, ?_⟩
    conv => whnf
    refine ⟨by omega, ?_⟩
    obtain rfl : f = 0 := by omega
    exact h
  · conv => whnf
    refine ⟨by decide, ?_⟩
    conv => whnf
    refine ⟨by omega, ?_⟩
    obtain rfl : f = 1 := by omega
    exact h
theorem s_X12_refuses (T : ZTh (XX Ln xs) CZ RZ) {d b : Nat} {f w : Int} {I : ZI} {L : ZL} {Q : ZQ} (hf : f = 0 ∨ f = 1) (h0 : I 603 8 = 0) (hw : 1 ≤ w ∧ w ≤ 2) (h : f = 0 → Q (.inl (some (.inl (0)))) I L) (h2 : f = 1 → Q (.inl (some (.inl (1)))) (v2 I 603 8 w) L) : CZ (d + 1) k_X12_refuses [.inr (.ref 603, 13), .inl f, .inl w] b I L Q := by
  refine T.call rfl ?_
  refine T.go [] 90 ?_
  conv => whnf
  refine ⟨by omega, fun c1 => ?_, fun c1 => ?_⟩
  · conv => whnf
    refine ⟨by decide, ?_⟩
    conv => whnf
    refine ⟨by first | (rw [v2_eq]; exact ⟨by omega, by omega⟩) | (rw [h0]; decide), fun c20 => ?_, fun c20 => by exfalso; exact c20 h0⟩
    conv => whnf
    refine ⟨by omega, ?_⟩
    exact h c1
  · conv => whnf
    refine ⟨by decide, ?_⟩
    conv => whnf
    refine ⟨by rw [h0]; decide, fun c8 => by exfalso; exact c8 h0, fun c8 => ?_⟩
    conv => whnf
    refine ⟨by decide, ?_⟩
    conv => whnf
    refine ⟨by decide, ?_⟩
    conv => whnf
    refine ⟨by first | (rw [v2_eq]; exact ⟨by omega, by omega⟩) | (rw [h0]; decide), fun c20 => by exfalso; rw [v2_eq] at c20; omega, fun c20 => ?_⟩
    conv => whnf
    refine ⟨by omega, ?_⟩
    exact h2 (by omega)
theorem s_X12_isPiece (T : ZTh (XX Ln xs) CZ RZ) {d b : Nat} {p : Int} {I : ZI} {L : ZL} {Q : ZQ} (hp : zR p) (h : 0 ≤ p ∧ p < 7 → Q (.inl (some (.inl (1)))) I L) (h2 : ¬ (0 ≤ p ∧ p < 7) → Q (.inl (some (.inl (0)))) I L) : CZ (d + 2) k_X12_isPiece [.inr (.ref 603, 13), .inl p] b I L Q := by
  refine T.call rfl ?_
  refine T.go [] 90 ?_
  conv => whnf
  refine ⟨by omega, ?_⟩
  conv => whnf
  refine zinv0 (s_X12_isIn T (v := p) (a := 0) (z := 6) (by omega) (by omega) (by omega) ?_ ?_)
  · intro cha_6
    conv => whnf
    refine ⟨by omega, ?_⟩
    exact h (by omega)
  · intro ch2a_6
    conv => whnf
    refine ⟨by omega, ?_⟩
    exact h2 (by omega)
theorem s_X12_isQuarter (T : ZTh (XX Ln xs) CZ RZ) {d b : Nat} {q : Int} {W H : Nat} {I : ZI} {L : ZL} {Q : ZQ} (hq : zR q) (hW : I 603 5 = W ∧ W ≤ 12) (hH : I 603 6 = H ∧ H ≤ 12) (h : (0 ≤ q ∧ q < 576) ∧ q % 48 / 4 < W ∧ q / 48 < H → Q (.inl (some (.inl (1)))) I L) (h2 : ¬ ((0 ≤ q ∧ q < 576) ∧ q % 48 / 4 < W ∧ q / 48 < H) → Q (.inl (some (.inl (0)))) I L) : CZ (d + 2) k_X12_isQuarter [.inr (.ref 603, 13), .inl q] b I L Q := by
  refine T.call rfl ?_
  refine T.go [] 90 ?_
  conv => whnf
  refine ⟨by omega, ?_⟩
  conv => whnf
  refine zinv0 (s_X12_isIn T (v := q) (a := 0) (z := 575) (by omega) (by omega) (by omega) ?_ ?_)
  · intro cha_6
    conv => whnf
    refine ⟨by decide, fun c => absurd c (by decide), fun _ => ?_⟩
    conv => whnf
    refine ⟨by omega, Or.inl ⟨by omega, ?_⟩⟩
    conv => whnf
    refine ⟨by omega, ?_⟩
    conv => whnf
    refine ⟨by decide, ?_⟩
    conv => whnf
    refine ⟨by omega, fun c22 => ?_, fun c22 => ?_⟩
    · conv => whnf
      refine ⟨by omega, ?_⟩
      exact h2 (by omega)
    · conv => whnf
      refine ⟨by omega, Or.inl ⟨by omega, ?_⟩⟩
      conv => whnf
      refine ⟨by omega, Or.inl ⟨by omega, ?_⟩⟩
      conv => whnf
      refine ⟨by decide, ?_⟩
      conv => whnf
      refine ⟨by omega, fun c35 => ?_, fun c35 => ?_⟩
      · conv => whnf
        refine ⟨by omega, ?_⟩
        exact h2 (by omega)
      · conv => whnf
        refine ⟨by omega, ?_⟩
        exact h (by omega)
  · intro ch2a_6
    conv => whnf
    refine ⟨by decide, fun _ => ?_, fun c => absurd c (by decide)⟩
    conv => whnf
    refine ⟨by omega, ?_⟩
    exact h2 (by omega)
theorem s_X12_isShape (T : ZTh (XX Ln xs) CZ RZ) {d b : Nat} {k : Int} {n : Nat} {I : ZI} {L : ZL} {Q : ZQ} (hk : zR k) (hn : I 604 0 = n ∧ n ≤ 8) (h : 0 ≤ k ∧ k < n → Q (.inl (some (.inl (1)))) I L) (h2 : ¬ (0 ≤ k ∧ k < n) → Q (.inl (some (.inl (0)))) I L) : CZ (d + 2) k_X12_isShape [.inr (.ref 603, 13), .inl k] b I L Q := by
  refine T.call rfl ?_
  refine T.go [] 90 ?_
  conv => whnf
  refine ⟨by omega, ?_⟩
  conv => whnf
  refine ⟨by decide, _, rfl, ?_⟩
  conv => whnf
  refine ⟨by omega, by decide, ?_⟩
  conv => whnf
  refine ⟨by exact ⟨by omega, by omega⟩, ?_⟩
  conv => whnf
  refine zinv0 (s_X12_isIn T (v := k) (a := 0) (z := I 604 0 - 1) (by omega) (by omega) (by omega) ?_ ?_)
  · intro cha_12
    conv => whnf
    refine ⟨by omega, ?_⟩
    exact h (by omega)
  · intro ch2a_12
    conv => whnf
    refine ⟨by omega, ?_⟩
    exact h2 (by omega)
theorem s_X12_lookAt (T : ZTh (XX Ln xs) CZ RZ) {d b : Nat} {p l : Int} {I : ZI} {L : ZL} {Q : ZQ}  (h : Q (.inl (some (.inl (128 * p + 16 * l)))) I L) : CZ (d + 1) k_X12_lookAt [.inl p, .inl l] b I L Q := by
  refine T.call rfl ?_
  refine T.go [] 90 ?_
  conv => whnf
  exact h
theorem s_X12_wideOf (T : ZTh (XX Ln xs) CZ RZ) {d b : Nat} {p : Nat} {t : Int} {I : ZI} {L : ZL} {Q : ZQ} (hT : TabOK I) (hp : p < 7) (ht : 0 ≤ t ∧ t ≤ 3) (h : Q (.inl (some (.inl (((if t % 2 = 0 then bW p else bH p : Nat) : Int))))) I L) : CZ (d + 1) k_X12_wideOf [.inr (.ref 603, 13), .inl ((p : Int)), .inl t] b I L Q := by
  refine T.call rfl ?_
  obtain ⟨g1, g2, g3, g4⟩ := hT.1 p hp
  refine T.go [] 90 ?_
  conv => whnf
  refine ⟨by omega, ?_⟩
  conv => whnf
  refine ⟨by omega, fun c3 => ?_, fun c3 => ?_⟩
  · conv => whnf
    refine ⟨by decide, _, rfl, ?_⟩
    conv => whnf
    refine ⟨by omega, by decide, ?_⟩
    conv => whnf
    rw [if_neg (by omega)] at h
    rw [g2]
    exact h
  · conv => whnf
    refine ⟨by decide, _, rfl, ?_⟩
    conv => whnf
    refine ⟨by omega, by decide, ?_⟩
    conv => whnf
    rw [if_pos (by omega)] at h
    rw [g1]
    exact h
theorem s_X12_highOf (T : ZTh (XX Ln xs) CZ RZ) {d b : Nat} {p : Nat} {t : Int} {I : ZI} {L : ZL} {Q : ZQ} (hT : TabOK I) (hp : p < 7) (ht : 0 ≤ t ∧ t ≤ 3) (h : Q (.inl (some (.inl (((if t % 2 = 0 then bH p else bW p : Nat) : Int))))) I L) : CZ (d + 1) k_X12_highOf [.inr (.ref 603, 13), .inl ((p : Int)), .inl t] b I L Q := by
  refine T.call rfl ?_
  obtain ⟨g1, g2, g3, g4⟩ := hT.1 p hp
  refine T.go [] 90 ?_
  conv => whnf
  refine ⟨by omega, ?_⟩
  conv => whnf
  refine ⟨by omega, fun c3 => ?_, fun c3 => ?_⟩
  · conv => whnf
    refine ⟨by decide, _, rfl, ?_⟩
    conv => whnf
    refine ⟨by omega, by decide, ?_⟩
    conv => whnf
    rw [if_neg (by omega)] at h
    rw [g1]
    exact h
  · conv => whnf
    refine ⟨by decide, _, rfl, ?_⟩
    conv => whnf
    refine ⟨by omega, by decide, ?_⟩
    conv => whnf
    rw [if_pos (by omega)] at h
    rw [g2]
    exact h
theorem RowM.at {I : ZI} {r : Nat} {M : Mo} (h : RowM I r 0 M) {p w : Nat} (hp : p < 7) (hw : w < 4) : I r (1 + 4 * (p : Int) + (w : Int)) = tlM M p w := by
  have h1 := h.2.1 p w hp hw
  rw [show (0 : Int) + ((1 + 4 * p + w : Nat) : Int) = 1 + 4 * (p : Int) + (w : Int) by omega] at h1
  exact h1
theorem s_X12_of (T : ZTh (XX Ln xs) CZ RZ) {d b : Nat} {p w : Nat} {M : Mo} {I : ZI} {L : ZL} {Q : ZQ} (hR : RowM I 604 0 M) (hp : p < 7) (hw : w < 4) (h : Q (.inl (some (.inl (tlM M p w)))) I L) : CZ (d + 1) k_X12_of [.inr (.ref 603, 13), .inl ((p : Int)), .inl ((w : Int))] b I L Q := by
  refine T.call rfl ?_
  refine T.go [] 90 ?_
  conv => whnf
  refine ⟨by decide, _, rfl, ?_⟩
  conv => whnf
  refine ⟨by omega, by decide, ?_⟩
  conv => whnf
  rw [hR.at hp hw]
  exact h
theorem tlM_z {W H : Nat} {M : Mo} (h : Wq W H M) {p w : Nat} (hp : p < 7) (hw : w < 4) : -1 ≤ tlM M p w ∧ tlM M p w ≤ 12 := by
  obtain ⟨⟨w1, w2, w3, w4⟩, -, -⟩ := id h
  unfold tlM
  by_cases hf : mF M p = -1
  · rw [if_pos hf]; omega
  · obtain ⟨b1, b2, b3, b4, b5, b6, b7, b8⟩ := h.form hp hf
    rw [if_neg hf]
    repeat' split
    all_goals omega
theorem tlM_2 {W H : Nat} {M : Mo} (h : Wq W H M) {p : Nat} (hp : p < 7) : tlM M p (2 : Nat) = -1 ↔ mF M p = -1 := by
  unfold tlM
  by_cases hf : mF M p = -1
  · rw [if_pos hf]; exact ⟨fun _ => hf, fun _ => rfl⟩
  · obtain ⟨b1, b2, b3, b4, b5⟩ := h.form hp hf
    rw [if_neg hf, if_neg (by omega), if_neg (by omega), if_pos (by omega)]
    omega
theorem s_X12_isOn (T : ZTh (XX Ln xs) CZ RZ) {d b : Nat} {p W H : Nat} {M : Mo} {I : ZI} {L : ZL} {Q : ZQ} (hR : RowM I 604 0 M) (hp : p < 7) (hw : Wq W H M) (h : ¬ mF M p = -1 → Q (.inl (some (.inl (1)))) I L) (h2 : mF M p = -1 → Q (.inl (some (.inl (0)))) I L) : CZ (d + 2) k_X12_isOn [.inr (.ref 603, 13), .inl ((p : Int))] b I L Q := by
  refine T.call rfl ?_
  have hz := tlM_z hw hp (w := 2) (by omega)
  have h2z := tlM_2 hw hp
  refine T.go [] 90 ?_
  conv => whnf
  refine zinv0 (s_X12_of T (p := p) (w := 2) (M := M) (by first | assumption | omega | rfl | decide) (by first | assumption | omega | rfl | decide) (by omega) ?_)
  conv => whnf
  refine ⟨by omega, fun c7 => ?_, fun c7 => ?_⟩
  · conv => whnf
    refine ⟨by omega, ?_⟩
    exact h2 (h2z.mp c7)
  · conv => whnf
    refine ⟨by omega, ?_⟩
    exact h (fun e => c7 (h2z.mpr e))
end
