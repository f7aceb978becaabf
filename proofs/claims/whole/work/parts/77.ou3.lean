/-! OUTLINES, 3: small methods -/
section
variable {Ln : Nat} {xs : Nat → Int32} {CZ : Nat → ZC} {RZ : Nat → Nat → ZQ → ZP}
theorem zb0 : (List.range 256).all (fun m => (List.range 8).all fun d => decide (zor (m : Int) (1 * 2 ^ ((d : Nat) : Int).toNat) = ((m ||| 2 ^ d : Nat) : Int) ∧ (zand (m : Int) (1 * 2 ^ ((d : Nat) : Int).toNat) = 0 ↔ m.testBit d = false) ∧ (zand ((m : Int) / 2 ^ ((d : Nat) : Int).toNat) 1 = 0 ↔ m.testBit d = false) ∧ zR (zand (m : Int) (1 * 2 ^ ((d : Nat) : Int).toNat)) ∧ zR (zand ((m : Int) / 2 ^ ((d : Nat) : Int).toNat) 1))) = true := by decide +kernel
theorem zb {m d : Nat} (hm : m < 256) (hd : d < 8) : zor (m : Int) (1 * 2 ^ ((d : Nat) : Int).toNat) = ((m ||| 2 ^ d : Nat) : Int) ∧ (zand (m : Int) (1 * 2 ^ ((d : Nat) : Int).toNat) = 0 ↔ m.testBit d = false) ∧ (zand ((m : Int) / 2 ^ ((d : Nat) : Int).toNat) 1 = 0 ↔ m.testBit d = false) ∧ zR (zand (m : Int) (1 * 2 ^ ((d : Nat) : Int).toNat)) ∧ zR (zand ((m : Int) / 2 ^ ((d : Nat) : Int).toNat) 1) := of_decide_eq_true (List.all_eq_true.mp (List.all_eq_true.mp zb0 m (List.mem_range.mpr hm)) d (List.mem_range.mpr hd))
/-- a row of points with a bit for each direction -/
def Bits (I : ZI) (r : Nat) (B : Nat → Bool) : Prop := ∀ p : Nat, p < 625 → ∃ m : Nat, m < 256 ∧ I r p = m ∧ ∀ d, d < 8 → m.testBit d = B (8 * p + d)
theorem Bits.set {I I' : ZI} {r : Nat} {B : Nat → Bool} (h : Bits I r B) {p d : Nat} (hp : p < 625) (hd : d < 8) (h1 : I' r p = zor (I r p) (1 * 2 ^ ((d : Nat) : Int).toNat)) (h2 : ∀ q : Nat, q ≠ p → I' r q = I r q) : Bits I' r (fun x => if x = 8 * p + d then true else B x) := by
  intro q hq
  by_cases e : q = p
  · subst e
    obtain ⟨m, m1, m2, m3⟩ := h q hq
    refine ⟨m ||| 2 ^ d, ?_, by rw [h1, m2, (zb m1 hd).1], fun i hi => ?_⟩
    · exact Nat.or_lt_two_pow (n := 8) m1 (Nat.pow_lt_pow_right (by decide) hd)
    · rw [Nat.testBit_or, m3 i hi, Nat.testBit_two_pow]
      by_cases ei : i = d
      · subst ei; simp
      · have e2 : ¬ d = i := fun c => ei c.symm
        show (B (8 * q + i) || decide (d = i)) = if 8 * q + i = 8 * q + d then true else B (8 * q + i)
        rw [if_neg (by omega), decide_eq_false e2, Bool.or_false]
  · obtain ⟨m, m1, m2, m3⟩ := h q hq
    refine ⟨m, m1, by rw [h2 q e]; exact m2, fun i hi => ?_⟩
    show _ = if 8 * q + i = 8 * p + d then true else B (8 * q + i)
    rw [m3 i hi, if_neg (by omega)]
theorem Bits.fr {I I' : ZI} {r : Nat} {B : Nat → Bool} (h : Bits I r B) (h1 : ∀ b, I' r b = I r b) : Bits I' r B := fun p hp => by
  obtain ⟨m, m1, m2, m3⟩ := h p hp
  exact ⟨m, m1, by rw [h1]; exact m2, m3⟩
theorem Bits.congr {I : ZI} {r : Nat} {B B' : Nat → Bool} (h : Bits I r B) (h1 : ∀ e, e < 5000 → B e = B' e) : Bits I r B' := fun p hp => by
  obtain ⟨m, m1, m2, m3⟩ := h p hp
  exact ⟨m, m1, m2, fun d hd => by rw [m3 d hd]; exact h1 _ (by omega)⟩
theorem Bits.zero {I : ZI} {r : Nat} {B : Nat → Bool} (h : Bits I r B) {p : Nat} (hp : p < 625) : (I r p = 0 ↔ ∀ d, d < 8 → B (8 * p + d) = false) ∧ zR (I r p) := by
  obtain ⟨m, m1, m2, m3⟩ := h p hp
  rw [m2]
  refine ⟨⟨fun c d hd => ?_, fun c => ?_⟩, by omega⟩
  · have : m = 0 := by omega
    rw [← m3 d hd, this, Nat.zero_testBit]
  · have : m = 0 := by
      apply Nat.eq_of_testBit_eq
      intro i
      rw [Nat.zero_testBit]
      by_cases hi : i < 8
      · rw [m3 i hi, c i hi]
      · exact Nat.testBit_lt_two_pow (Nat.lt_of_lt_of_le m1 (show (2 : Nat) ^ 8 ≤ 2 ^ i from Nat.pow_le_pow_right (by decide) (by omega)))
    omega
/-- the outlines' arrays hold s; n loops of it -/
def OSr (I : ZI) (s : OS) (n : Nat) : Prop := Bits I 535 (oW s) ∧ I 533 10 = oL s ∧ I 533 11 = oE s ∧
  (∀ i : Nat, i < oE s → I 536 i = oD s i ∧ I 537 i = oC s i ∧ I 538 i = oK s i) ∧
  (∀ i : Nat, i < n → I 539 i = oFE s i ∧ I 540 i = oEC s i ∧ I 541 i = oLG s i ∧ I 542 i = oSH s i ∧ I 543 i = oAR s i)
def PO : Nat → Int → Prop := fun a b => (535 ≤ a ∧ a ≤ 543) ∨ (a = 533 ∧ (b = 10 ∨ b = 11))
theorem zand7 {w : Int} (h0 : 0 ≤ w) (h : w < 8) : zand w 7 = w := by
  obtain ⟨n, rfl⟩ := Int.eq_ofNat_of_zero_le h0
  have : ∀ n : Nat, n < 8 → zand (n : Int) 7 = n := by decide
  exact this n (by omega)
theorem zand_7 (w : Int) : zand w 7 = w % 8 := by
  unfold zand
  have h : (i3 w &&& i3 7).toBitVec.toNat = (w % 8).toNat := by
    show ((BitVec.ofInt 32 w) &&& (7#32)).toNat = _
    rw [BitVec.toNat_and, BitVec.toNat_ofInt]
    show (w % (2 ^ 32 : Nat)).toNat &&& 7 = _
    rw [show (7 : Nat) = 2 ^ 3 - 1 from rfl, Nat.and_two_pow_sub_one_eq_mod]
    have e0 : ((2 ^ 32 : Nat) : Int) = 4294967296 := by decide
    rw [e0]
    omega
  have h2 : (i3 w &&& i3 7).toInt = (((i3 w &&& i3 7).toBitVec.toNat : Nat) : Int) := by
    show (i3 w &&& i3 7).toBitVec.toInt = _
    rw [BitVec.toInt_eq_toNat_of_lt]
    rw [h]
    omega
  rw [h2, h]
  omega
theorem s_X3_endOf (T : ZTh (XX Ln xs) CZ RZ) {d b : Nat} {p w : Int} {I : ZI} {L : ZL} {Q : ZQ} (hw : 0 ≤ w ∧ w < 8) (h : Q (.inl (some (.inl (p + (if w % 2 = 0 then 2 else 1) * (25 * dY w + dX w))))) I L) : CZ (d + 1) k_X3_endOf [.inl p, .inl w] b I L Q := by
  refine T.call rfl ?_
  have hz := zs_d (Ln := Ln) (xs := xs) hw.1 hw.2
  have e7 : zand w 7 = w := zand7 hw.1 hw.2
  refine T.go [] 90 ?_
  conv => whnf
  refine ⟨by omega, ?_⟩
  conv => whnf
  refine ⟨by omega, fun c3 => ?_, fun c3 => ?_⟩
  · conv => whnf
    refine ⟨by rw [e7]; omega, ?_⟩
    conv => whnf
    refine ⟨by rw [e7]; omega, ?_⟩
    conv => whnf
    rw [e7, hz.1, hz.2.1]
    first | (rw [if_pos (by omega)] at h; exact h) | (rw [if_neg (by omega)] at h; exact h)
  · conv => whnf
    refine ⟨by rw [e7]; omega, ?_⟩
    conv => whnf
    refine ⟨by rw [e7]; omega, ?_⟩
    conv => whnf
    rw [e7, hz.1, hz.2.1]
    first | (rw [if_pos (by omega)] at h; exact h) | (rw [if_neg (by omega)] at h; exact h)
theorem l_nextWay (T : ZTh (XX Ln xs) CZ RZ) {d b : Nat} {Q : ZQ} {p w : Nat} {B : Nat → Bool} {I : ZI} {L : ZL} (hB : Bits I 534 B) (hp : p < 625) (hd : w < 8) (m : Nat) : ∀ (r : Nat), (r ≤ 8) → (r : Int) < (m : Int) → (Q (.inl (some (.inl ((srch (fun i => B (8 * p + i)) w r : Nat) : Int)))) I L) → RZ d k_X3_nextWay Q 3 [.inr (.ref 533, 4), .inl ((p : Int)), .inl ((w : Int)), .inl ((r : Int) - 1), zj] [] b I L := by
  induction m with
  | zero =>
    intro r hr hm h
    exfalso
    omega
  | succ m ih =>
    intro r hr hm h
    obtain ⟨m0, m1, m2, m3⟩ := hB p hp
    have e7 : zand ((r : Int) - 1 + (w : Int) - 3) 7 = (((r - 1 + w + 5) % 8 : Nat) : Int) ∨ r = 0 := by
      by_cases e : r = 0
      · exact Or.inr e
      · left; rw [zand_7]; omega
    have hb9 := zb m1 (d := (r - 1 + w + 5) % 8) (Nat.mod_lt _ (by decide))
    refine T.go [3] 90 ?_
    conv => whnf
    refine ⟨by omega, fun c4 => ?_, fun c4 => ?_⟩
    · conv => whnf
      obtain rfl : r = 0 := by omega
      exact h
    · conv => whnf
      refine ⟨by omega, fun c18 => by exfalso; omega, fun c18 => ?_⟩
      conv => whnf
      refine ⟨by omega, fun c25 => by exfalso; omega, fun c25 => ?_⟩
      conv => whnf
      refine ⟨by decide, _, rfl, ?_⟩
      conv => whnf
      refine ⟨by omega, by decide, ?_⟩
      conv => whnf
      have e8 : zand ((r : Int) - 1 + (w : Int) - 3) 7 = (((r - 1 + w + 5) % 8 : Nat) : Int) := by omega
      rw [e8, m2]
      refine ⟨by omega, ?_⟩
      conv => whnf
      refine ⟨by exact hb9.2.2.2.2, fun c39 => ?_, fun c39 => ?_⟩
      · conv => whnf
        refine T.fg [4] ?_
        obtain ⟨r2, rfl⟩ : ∃ r2, r = r2 + 1 := ⟨r - 1, by omega⟩
        have hs : srch (fun i => B (8 * p + i)) w (r2 + 1) = srch (fun i => B (8 * p + i)) w r2 := by
          have hb8 : B (8 * p + (r2 + w + 5) % 8) = false := by
            rw [← m3 _ (Nat.mod_lt _ (by decide))]
            exact hb9.2.2.1.mp c39
          show (bif B (8 * p + (r2 + w + 5) % 8) then _ else _) = _
          rw [hb8]
          rfl
        rw [hs] at h
        have ih2 := ih r2 (by omega) (by omega) h
        rw [show ((r2 + 1 : Nat) : Int) - 1 + -1 = (r2 : Int) - 1 by omega]
        exact ih2
      · conv => whnf
        obtain ⟨r2, rfl⟩ : ∃ r2, r = r2 + 1 := ⟨r - 1, by omega⟩
        have hs : srch (fun i => B (8 * p + i)) w (r2 + 1) = (r2 + w + 5) % 8 := by
          have hb8 : B (8 * p + (r2 + w + 5) % 8) = true := by
            rw [← m3 _ (Nat.mod_lt _ (by decide))]
            cases e : m0.testBit ((r2 + w + 5) % 8) with
            | true => rfl
            | false => exact (c39 (hb9.2.2.1.mpr e)).elim
          show (bif B (8 * p + (r2 + w + 5) % 8) then _ else _) = _
          rw [hb8]
          rfl
        rw [hs] at h
        exact h
theorem s_X3_nextWay (T : ZTh (XX Ln xs) CZ RZ) {d b : Nat} {p w : Nat} (B : Nat → Bool) {I : ZI} {L : ZL} {Q : ZQ} (hB : Bits I 534 B) (hp : p < 625) (hd : w < 8) (h : Q (.inl (some (.inl (((nxd (fun i => B (8 * p + i)) w : Nat) : Int))))) I L) : CZ (d + 1) k_X3_nextWay [.inr (.ref 533, 4), .inl ((p : Int)), .inl ((w : Int))] b I L Q := by
  refine T.call rfl ?_
  refine T.go [3] 90 ?_
  conv => whnf
  exact l_nextWay T hB hp hd 9 8 (by omega) (by omega) h
theorem s_X3_isHole (T : ZTh (XX Ln xs) CZ RZ) {d b : Nat} {l : Int} {I : ZI} {L : ZL} {Q : ZQ} (hl : 0 ≤ l ∧ l < 192) (hz : zR (I 543 l)) (h : I 543 l < 0 → Q (.inl (some (.inl (1)))) I L) (h2 : 0 ≤ I 543 l → Q (.inl (some (.inl (0)))) I L) : CZ (d + 1) k_X3_isHole [.inr (.ref 533, 4), .inl l] b I L Q := by
  refine T.call rfl ?_
  refine T.go [] 90 ?_
  conv => whnf
  refine ⟨by decide, _, rfl, ?_⟩
  conv => whnf
  refine ⟨by omega, by decide, ?_⟩
  conv => whnf
  refine ⟨by omega, fun c6 => ?_, fun c6 => ?_⟩
  · conv => whnf
    refine ⟨by omega, ?_⟩
    exact h2 c6
  · conv => whnf
    refine ⟨by omega, ?_⟩
    exact h c6
theorem l_countHoles (T : ZTh (XX Ln xs) CZ RZ) {d b : Nat} {Q : ZQ} {n : Nat} {I : ZI} {L : ZL} (hn : n ≤ 192) (hL : I 533 10 = n) (hz : ∀ j : Nat, j < n → zR (I 543 j)) (h : Q (.inl (some (.inl (cn (fun j => decide (I 543 (j : Int) < 0)) n)))) I L) (m : Nat) : ∀ (j : Nat) (c : Int), (j ≤ n) → (c = cn (fun j => decide (I 543 (j : Int) < 0)) j) → 192 - (j : Int) < (m : Int) → RZ (d + 1) k_X3_countHoles Q 4 [.inr (.ref 533, 4), .inl c, .inl ((j : Int))] [] b I L := by
  induction m with
  | zero =>
    intro j c hj hc hm
    exfalso
    omega
  | succ m ih =>
    intro j c hj hc hm
    refine T.go [4] 90 ?_
    conv => whnf
    refine ⟨by decide, ?_⟩
    conv => whnf
    refine ⟨by omega, fun c9 => ?_, fun c9 => ?_⟩
    · conv => whnf
      obtain rfl : j = n := by omega
      rw [hc]
      exact h
    · conv => whnf
      refine zinv0 (s_X3_isHole T  (by first | assumption | omega | rfl | decide) (by exact hz j (by omega)) ?_ ?_)
      · intro cha_14
        conv => whnf
        refine ⟨by decide, fun c => absurd c (by decide), fun _ => ?_⟩
        conv => whnf
        exact ih (j + 1) _ (by omega) (by rw [hc, cn_s]; simp [cha_14]) (by omega)
      · intro ch2a_14
        conv => whnf
        refine ⟨by decide, fun _ => ?_, fun c => absurd c (by decide)⟩
        conv => whnf
        exact ih (j + 1) _ (by omega) (by rw [hc, cn_s]; simp [show ¬ I 543 (j : Int) < 0 by omega]) (by omega)
theorem s_X3_countHoles (T : ZTh (XX Ln xs) CZ RZ) {d b : Nat} (n : Nat) {I : ZI} {L : ZL} {Q : ZQ} (hn : n ≤ 192) (hL : I 533 10 = n) (hz : ∀ j : Nat, j < n → zR (I 543 j)) (h : Q (.inl (some (.inl (cn (fun j => decide (I 543 (j : Int) < 0)) n)))) I L) : CZ (d + 2) k_X3_countHoles [.inr (.ref 533, 4)] b I L Q := by
  refine T.call rfl ?_
  refine T.go [4] 90 ?_
  conv => whnf
  exact l_countHoles T hn hL hz h 193 0 0 (by omega) rfl (by omega)
theorem s_X3_bend (T : ZTh (XX Ln xs) CZ RZ) {d b : Nat} {l e f c : Nat} {I : ZI} {L : ZL} {Q : ZQ} (hl : l < 192) (hf : I 539 l = f) (hc : I 540 l = c) (he : e < c ∧ f + c ≤ 192) (h : Q (.inl (some (.inl ((I 536 (f + e : Nat) - I 536 (if e = 0 then f + c - 1 else f + e - 1 : Nat) + 3) % 8 - 3)))) I L) : CZ (d + 1) k_X3_bend [.inr (.ref 533, 4), .inl ((l : Int)), .inl ((e : Int))] b I L Q := by
  refine T.call rfl ?_
  refine T.go [] 90 ?_
  conv => whnf
  refine ⟨by decide, _, rfl, ?_⟩
  conv => whnf
  refine ⟨by omega, by decide, ?_⟩
  conv => whnf
  refine ⟨by decide, _, rfl, ?_⟩
  conv => whnf
  refine ⟨by omega, by decide, ?_⟩
  conv => whnf
  refine ⟨by omega, fun c16 => ?_, fun c16 => ?_⟩
  · conv => whnf
    refine ⟨by decide, _, rfl, ?_⟩
    conv => whnf
    refine ⟨by omega, by decide, ?_⟩
    conv => whnf
    refine ⟨by decide, _, rfl, ?_⟩
    conv => whnf
    refine ⟨by omega, by decide, ?_⟩
    conv => whnf
    rw [zand_7, hf]
    first
      | (rw [if_pos (by omega)] at h; rw [hc]; rw [show (f : Int) + (c : Int) - 1 = ((f + c - 1 : Nat) : Int) by omega, show (f : Int) + (e : Int) = ((f + e : Nat) : Int) by omega]; exact h)
      | (rw [if_neg (by omega)] at h; rw [show (f : Int) + (e : Int) - 1 = ((f + e - 1 : Nat) : Int) by omega, show (f : Int) + (e : Int) = ((f + e : Nat) : Int) by omega]; exact h)
  · conv => whnf
    refine ⟨by decide, _, rfl, ?_⟩
    conv => whnf
    refine ⟨by omega, by decide, ?_⟩
    conv => whnf
    refine ⟨by decide, _, rfl, ?_⟩
    conv => whnf
    refine ⟨by omega, by decide, ?_⟩
    conv => whnf
    refine ⟨by decide, _, rfl, ?_⟩
    conv => whnf
    refine ⟨by omega, by decide, ?_⟩
    conv => whnf
    rw [zand_7, hf]
    first
      | (rw [if_pos (by omega)] at h; rw [hc]; rw [show (f : Int) + (c : Int) - 1 = ((f + c - 1 : Nat) : Int) by omega, show (f : Int) + (e : Int) = ((f + e : Nat) : Int) by omega]; exact h)
      | (rw [if_neg (by omega)] at h; rw [show (f : Int) + (e : Int) - 1 = ((f + e - 1 : Nat) : Int) by omega, show (f : Int) + (e : Int) = ((f + e : Nat) : Int) by omega]; exact h)
end
