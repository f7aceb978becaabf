/-! THE REFERENCE, 5: why a piece cannot be placed -/
section
variable {Ln : Nat} {xs : Nat → Int32} {CZ : Nat → ZC} {RZ : Nat → Nat → ZQ → ZP}
/-- the owners are laid -/
def OwM (I : ZI) (M : Mo) : Prop := ∀ q : Nat, q < 576 → I 620 (q : Int) = own M q
/-- the lowest other piece among the first j quarters of form i at f; 7: none -/
def LowO (M : Mo) (p i f j : Nat) (l : Int) : Prop := (l = 7 ∧ ∀ k, k < j → own M (f + lz i k) = -1 ∨ own M (f + lz i k) = p) ∨
  (0 ≤ l ∧ l < 7 ∧ l ≠ p ∧ (∃ k, k < j ∧ own M (f + lz i k) = l) ∧ ∀ k, k < j → own M (f + lz i k) = -1 ∨ own M (f + lz i k) = p ∨ l ≤ own M (f + lz i k))
theorem LowO.step {M : Mo} {p i f j : Nat} {l : Int} (h : LowO M p i f j l) : LowO M p i f (j + 1) (if own M (f + lz i j) = -1 ∨ own M (f + lz i j) = p then l else min l (own M (f + lz i j))) := by
  have hb := own_b M (f + lz i j)
  by_cases c : own M (f + lz i j) = -1 ∨ own M (f + lz i j) = p
  · rw [if_pos c]
    rcases h with ⟨h1, h2⟩ | ⟨h1, h2, h3, ⟨k, h4, h5⟩, h6⟩
    · refine Or.inl ⟨h1, fun k hk => ?_⟩
      by_cases e : k = j
      · rw [e]; exact c
      · exact h2 k (by omega)
    · refine Or.inr ⟨h1, h2, h3, ⟨k, by omega, h5⟩, fun k hk => ?_⟩
      by_cases e : k = j
      · rw [e]; omega
      · exact h6 k (by omega)
  · rw [if_neg c]
    rcases h with ⟨h1, h2⟩ | ⟨h1, h2, h3, ⟨k, h4, h5⟩, h6⟩
    · refine Or.inr ⟨by omega, by omega, by omega, ⟨j, by omega, by omega⟩, fun k hk => ?_⟩
      by_cases e : k = j
      · rw [e]; omega
      · have := h2 k (by omega); omega
    · by_cases g : l ≤ own M (f + lz i j)
      · refine Or.inr ⟨by omega, by omega, by omega, ⟨k, by omega, by omega⟩, fun k hk => ?_⟩
        by_cases e : k = j
        · rw [e]; omega
        · have := h6 k (by omega); omega
      · refine Or.inr ⟨by omega, by omega, by omega, ⟨j, by omega, by omega⟩, fun k hk => ?_⟩
        by_cases e : k = j
        · rw [e]; omega
        · have := h6 k (by omega); omega
theorem LowO.why {W H : Nat} {M : Mo} (hw : Wq W H M) {p k : Nat} (hp : p < 7) (hk : k < 8) {x y : Nat} (hb : InB W H (8 * p + k) (x : Int) (y : Int)) {l : Int} (h : LowO M p (8 * p + k) (48 * y + 4 * x) (pN p) l) : why W H M p (8 * p + k) (x : Int) (y : Int) = if l = 7 then 0 else 2 + l := by
  have hi8 : (8 * p + k) / 8 = p := by omega
  have hov : ∀ j, j < 7 → (ovp M p (8 * p + k) (x : Int) (y : Int) j = true ↔ j ≠ p ∧ ∃ z, z < pN p ∧ own M (48 * y + 4 * x + lz (8 * p + k) z) = j) := fun j hj => by
    unfold ovp
    rw [dc_iff, Int.toNat_natCast, Int.toNat_natCast]
    constructor
    · rintro ⟨h1, h2, q, h3, h4⟩
      have h5 := lz_shf (i := 8 * p + k) (f := 48 * y + 4 * x) (q := q) (by omega)
      rw [h3, dc_iff, hi8] at h5
      obtain ⟨z, h6, h7⟩ := h5
      refine ⟨h1, z, h6, ?_⟩
      rw [h7]
      exact ow_is hw (Nat.le_refl 7) hj h2 h4
    · rintro ⟨h1, z, h2, h3⟩
      obtain ⟨h4, h5, h6⟩ := ow_cov h3
      refine ⟨h1, h5, _, ?_, h6⟩
      rw [← lz_shf (by omega), dc_iff, hi8]
      exact ⟨z, h2, rfl⟩
  rcases h with ⟨h1, h2⟩ | ⟨h1, h2, h3, ⟨z, h4, h5⟩, h6⟩
  · rw [if_pos h1]
    refine why_0 hb (fun j hj => ?_)
    cases e : ovp M p (8 * p + k) (x : Int) (y : Int) j with
    | false => rfl
    | true =>
      obtain ⟨g1, z, g2, g3⟩ := (hov j hj).mp e
      have := h2 z g2
      omega
  · rw [if_neg (by omega)]
    obtain ⟨n, rfl⟩ := Int.eq_ofNat_of_zero_le h1
    refine why_2 hb (by omega) (fun j hj => ?_) ((hov n (by omega)).mpr ⟨by omega, z, h4, h5⟩)
    cases e : ovp M p (8 * p + k) (x : Int) (y : Int) j with
    | false => rfl
    | true =>
      obtain ⟨g1, z2, g2, g3⟩ := (hov j (by omega)).mp e
      have := h6 z2 g2
      omega
theorem l_reason (T : ZTh (XX Ln xs) CZ RZ) {d b : Nat} {Q : ZQ} {p x y t f W H : Nat} {M : Mo} {I : ZI} {L : ZL} (hT : TabOK I) (hO : OwM I M) (hw : Wq W H M) (hW : I 603 5 = W) (hH : I 603 6 = H) (hp : p < 7) (ht : t < 4 ∧ f < 2) (hb : InB W H (8 * p + (2 * t + f)) (x : Int) (y : Int)) (h : Q (.inl (some (.inl (why W H M p (8 * p + (2 * t + f)) (x : Int) (y : Int))))) I L) (m : Nat) : ∀ (j : Nat) (l : Int), (j ≤ pN p) → (LowO M p (8 * p + (2 * t + f)) (48 * y + 4 * x) j l) → 16 - (j : Int) < (m : Int) → RZ (d + 1) k_X12_reason Q 53 [.inr (.ref 603, 13), .inl ((p : Int)), .inl ((x : Int)), .inl ((y : Int)), .inl ((t : Int)), .inl ((f : Int)), .inl l, .inl ((j : Int)), zj, zj] [] b I L := by
  induction m with
  | zero =>
    intro j l hj hl hm
    have h16 := pN_16 p
    exfalso
    omega
  | succ m ih =>
    intro j l hj hl hm
    have h16 := pN_16 p
    obtain ⟨-, -, -, e614⟩ := hT.1 p hp
    have hi8 : (8 * p + (2 * t + f)) / 8 = p := by omega
    obtain ⟨b1, b2, b3, b4⟩ := id hb
    obtain ⟨⟨w1, w2, w3, w4⟩, -, -⟩ := id hw
    have hlb : 0 ≤ l ∧ l ≤ 7 := by rcases hl with ⟨h1, -⟩ | ⟨h1, h2, -⟩ <;> omega
    refine T.go [53] 90 ?_
    conv => whnf
    refine ⟨by decide, _, rfl, ?_⟩
    conv => whnf
    refine ⟨by omega, by decide, ?_⟩
    conv => whnf
    refine ⟨by rw [e614]; omega, fun c61 => ?_, fun c61 => ?_⟩
    · conv => whnf
      refine ⟨by omega, fun c155 => ?_, fun c155 => ?_⟩
      · conv => whnf
        rw [e614] at c61
        obtain rfl : j = pN p := by omega
        rw [hl.why hw hp (by omega) hb, if_neg (by omega)] at h
        exact h
      · conv => whnf
        rw [e614] at c61
        obtain rfl : j = pN p := by omega
        rw [hl.why hw hp (by omega) hb, if_pos (by omega)] at h
        exact h
    · conv => whnf
      rw [e614] at c61
      have hin := lz_in (i := 8 * p + (2 * t + f)) (k := j) (by omega) (by rw [hi8]; omega)
      obtain ⟨t1, t2, t3⟩ := hT.2.2.1 (8 * p + (2 * t + f)) j (by omega) (by omega)
      have hlz : lz (8 * p + (2 * t + f)) j = 48 * lY (8 * p + (2 * t + f)) j + 4 * lX (8 * p + (2 * t + f)) j + lQ (8 * p + (2 * t + f)) j := rfl
      have hfb := fW_b (i := 8 * p + (2 * t + f)) (by omega)
      have hst := hl.step
      have hob := own_b M (48 * y + 4 * x + lz (8 * p + (2 * t + f)) j)
      refine zinv0 (s_X12_lookAt T   ?_)
      conv => whnf
      rw [show 128 * (p : Int) + 16 * (2 * (t : Int) + (f : Int)) + (j : Int) = ((16 * (8 * p + (2 * t + f)) + j : Nat) : Int) by omega]
      refine ⟨by decide, _, rfl, ?_⟩
      conv => whnf
      refine ⟨by decide, _, rfl, ?_⟩
      conv => whnf
      refine ⟨by omega, by decide, ?_⟩
      conv => whnf
      refine ⟨by decide, _, rfl, ?_⟩
      conv => whnf
      refine ⟨by omega, by decide, ?_⟩
      conv => whnf
      refine ⟨by decide, _, rfl, ?_⟩
      conv => whnf
      refine ⟨by omega, by decide, ?_⟩
      conv => whnf
      rw [t1, t2, t3, show 4 * (12 * ((y : Int) + ((lY (8 * p + (2 * t + f)) j : Nat) : Int)) + (x : Int) + ((lX (8 * p + (2 * t + f)) j : Nat) : Int)) + ((lQ (8 * p + (2 * t + f)) j : Nat) : Int) = ((48 * y + 4 * x + lz (8 * p + (2 * t + f)) j : Nat) : Int) by omega]
      refine ⟨by omega, by decide, ?_⟩
      conv => whnf
      rw [hO _ (by omega)]
      refine ⟨by exact ⟨⟨by omega, by omega⟩, ⟨by omega, by omega⟩⟩, fun c122 => ?_, fun c122 => ?_⟩
      · conv => whnf
        refine T.fg [8, 9] ?_
        exact ih (j + 1) _ (by omega) (by rw [if_pos (by omega)] at hst; exact hst) (by omega)
      · conv => whnf
        refine ⟨by omega, fun c128 => ?_, fun c128 => ?_⟩
        · conv => whnf
          refine T.fg [8, 9] ?_
          exact ih (j + 1) _ (by omega) (by rw [if_pos (by omega)] at hst; exact hst) (by omega)
        · conv => whnf
          refine ⟨by omega, ?_⟩
          conv => whnf
          refine T.fg [8, 9] ?_
          exact ih (j + 1) _ (by omega) (by rw [if_neg (by omega)] at hst; exact hst) (by omega)
theorem s_X12_reason (T : ZTh (XX Ln xs) CZ RZ) {d b : Nat} {p t f W H : Nat} {x y : Int} (M : Mo) {I : ZI} {L : ZL} {Q : ZQ} (hT : TabOK I) (hO : OwM I M) (hw : Wq W H M) (hW : I 603 5 = W) (hH : I 603 6 = H) (hp : p < 7) (ht : t < 4 ∧ f < 2) (hx : zR x) (hy : zR y) (h : Q (.inl (some (.inl (why W H M p (8 * p + (2 * t + f)) x y)))) I L) : CZ (d + 2) k_X12_reason [.inr (.ref 603, 13), .inl ((p : Int)), .inl x, .inl y, .inl ((t : Int)), .inl ((f : Int))] b I L Q := by
  refine T.call rfl ?_
  obtain ⟨bx1, bx2, -, -, -, -, bx7, bx8, bx9, bx10⟩ := bx_ok (i := 8 * p + (2 * t + f)) (by omega)
  rw [show (8 * p + (2 * t + f)) / 8 = p by omega, show (8 * p + (2 * t + f)) % 8 / 2 % 2 = t % 2 by omega] at bx1 bx2
  rw [show (8 * p + (2 * t + f)) / 8 = p by omega] at bx7 bx8 bx9 bx10
  obtain ⟨⟨w1, w2, w3, w4⟩, -, -⟩ := id hw
  have ewd : ((if (t : Int) % 2 = 0 then bW p else bH p : Nat) : Int) = fW (8 * p + (2 * t + f)) := by
    rw [bx1]
    by_cases e : t % 2 = 0
    · rw [if_pos (by omega), if_pos e]
    · rw [if_neg (by omega), if_neg e]
  have ehg : ((if (t : Int) % 2 = 0 then bH p else bW p : Nat) : Int) = fH (8 * p + (2 * t + f)) := by
    rw [bx2]
    by_cases e : t % 2 = 0
    · rw [if_pos (by omega), if_pos e]
    · rw [if_neg (by omega), if_neg e]
  have hfb := fW_b (i := 8 * p + (2 * t + f)) (by omega)
  refine T.go [53] 90 ?_
  conv => whnf
  refine ⟨by omega, ?_⟩
  conv => whnf
  refine ⟨by decide, ?_⟩
  conv => whnf
  refine zinv0 (s_X12_wideOf T (p := p) (t := (t : Int)) (by first | assumption | omega | rfl | decide) (by first | assumption | omega | rfl | decide) (by omega) ?_)
  rw [ewd, hW]
  conv => whnf
  refine ⟨by exact ⟨by omega, by omega⟩, ?_⟩
  conv => whnf
  refine zinv0 (s_X12_isIn T (v := x) (a := 0) (z := (W : Int) - (fW (8 * p + (2 * t + f)) : Nat)) (by omega) (by omega) (by omega) ?_ ?_)
  · intro cha_16
    conv => whnf
    refine ⟨by decide, fun c => absurd c (by decide), fun _ => ?_⟩
    conv => whnf
    refine ⟨by omega, ?_⟩
    conv => whnf
    refine ⟨by decide, ?_⟩
    conv => whnf
    refine zinv0 (s_X12_highOf T (p := p) (t := (t : Int)) (by first | assumption | omega | rfl | decide) (by first | assumption | omega | rfl | decide) (by omega) ?_)
    rw [ehg, hH]
    conv => whnf
    refine ⟨by exact ⟨by omega, by omega⟩, ?_⟩
    conv => whnf
    refine zinv0 (s_X12_isIn T (v := y) (a := 0) (z := (H : Int) - (fH (8 * p + (2 * t + f)) : Nat)) (by omega) (by omega) (by omega) ?_ ?_)
    · intro cha_38
      conv => whnf
      refine ⟨by decide, fun _ => ?_, fun c => absurd c (by decide)⟩
      conv => whnf
      obtain ⟨xn, rfl⟩ := Int.eq_ofNat_of_zero_le cha_16.1
      obtain ⟨yn, rfl⟩ := Int.eq_ofNat_of_zero_le cha_38.1
      exact l_reason T hT hO hw hW hH hp ht (by unfold InB; omega) h 17 0 7 (Nat.zero_le _) (Or.inl ⟨rfl, fun k hk => absurd hk (Nat.not_lt_zero k)⟩) (by omega)
    · intro ch2a_38
      conv => whnf
      refine ⟨by decide, fun c => absurd c (by decide), fun _ => ?_⟩
      conv => whnf
      rw [why_1 (by unfold InB; omega)] at h
      exact h
  · intro ch2a_16
    conv => whnf
    refine ⟨by decide, fun _ => ?_, fun c => absurd c (by decide)⟩
    conv => whnf
    rw [why_1 (by unfold InB; omega)] at h
    exact h
end
