/-! STATES, 1 -/
section
variable {Ln : Nat} {xs : Nat → Int32} {CZ : Nat → ZC} {RZ : Nat → Nat → ZQ → ZP}
/-- what a state holds: x, y, form of each piece, the number of shapes, the shapes -/
abbrev Mo : Type := (Int → Int) × (Int → Int) × (Int → Int) × Nat × (Nat → Nat → Bool)
def mX (M : Mo) : Int → Int := M.1
def mY (M : Mo) : Int → Int := M.2.1
def mF (M : Mo) : Int → Int := M.2.2.1
def mN (M : Mo) : Nat := M.2.2.2.1
def mS (M : Mo) : Nat → Nat → Bool := M.2.2.2.2
/-- the number of a piece's form, where it lies -/
def fi (M : Mo) (j : Nat) : Nat := 8 * j + (mF M j).toNat
def fo (M : Mo) (j : Nat) : Nat := 48 * (mY M j).toNat + 4 * (mX M j).toNat
/-- the quarters that a placed piece covers -/
def cvr (M : Mo) (j q : Nat) : Bool := shf (fS (fi M j)) (fo M j) q
/-- a piece's form and place are on the board -/
def InB (W H i : Nat) (x y : Int) : Prop := 0 ≤ x ∧ x + fW i ≤ W ∧ 0 ≤ y ∧ y + fH i ≤ H
/-- what holds of each placing that is met: the pieces lie on the board, none overlaps -/
def Wq (W H : Nat) (M : Mo) : Prop := (4 ≤ W ∧ W ≤ 12 ∧ 4 ≤ H ∧ H ≤ 12) ∧
  (∀ j : Nat, j < 7 → mF M j = -1 ∨ (0 ≤ mF M j ∧ mF M j < 8 ∧ InB W H (fi M j) (mX M j) (mY M j))) ∧
  (∀ i j : Nat, i < 7 → j < 7 → i ≠ j → mF M i ≠ -1 → mF M j ≠ -1 → ∀ q, cvr M i q = true → cvr M j q = true → False)
/-- of each catalogue: the shapes are sets of quarters of the board, and not empty -/
def Ws (W H : Nat) (M : Mo) : Prop := mN M ≤ 8 ∧ ∀ k, k < mN M → (∀ q, mS M k q = true → q < 576 ∧ q % 48 / 4 < W ∧ q / 48 < H) ∧ ∃ q, mS M k q = true
def Wf (W H : Nat) (M : Mo) : Prop := Wq W H M ∧ Ws W H M
/-- a placing of the class holds M's -/
def PlC (I : ZI) (p : Nat) (M : Mo) : Prop := ∀ j, 0 ≤ j → j < 7 → I (p + 3) j = mF M j ∧ (mF M j ≠ -1 → I (p + 1) j = mX M j ∧ I (p + 2) j = mY M j)
theorem PlC.fr {I I' : ZI} {p : Nat} {M : Mo} (h : PlC I p M) (h1 : ∀ a b, p < a → a < p + 4 → I' a b = I a b) : PlC I' p M := fun j j0 j7 => by
  rw [h1 _ _ (by omega) (by omega), h1 _ _ (by omega) (by omega), h1 _ _ (by omega) (by omega)]
  exact h j j0 j7
theorem PlC.zR {I : ZI} {p W H : Nat} {M : Mo} (h : PlC I p M) (hw : Wq W H M) {j : Int} (j0 : 0 ≤ j) (j7 : j < 7) : zR (I (p + 3) j) := by
  obtain ⟨n, rfl⟩ := Int.eq_ofNat_of_zero_le j0
  rw [(h n j0 j7).1]
  rcases hw.2.1 n (by omega) with e | ⟨e1, e2, _⟩
  · rw [e]; decide
  · exact ⟨by omega, by omega⟩
/-- a state of the class holds M, on a board of W by H -/
def StC (I : ZI) (L : ZL) (s W H : Nat) (M : Mo) : Prop := I s 0 = W ∧ I s 1 = H ∧ PlC I (s + 1) M ∧ I s 4 = mN M ∧ ∀ k : Nat, k < mN M → RgS L (s + 6 + 2 * k) (mS M k) ∧ RgM I (s + 6 + 2 * k) (mS M k)
theorem StC.fr {I I' : ZI} {L L' : ZL} {s W H : Nat} {M : Mo} (h : StC I L s W H M) (hn : mN M ≤ 8) (h1 : ∀ a b, s ≤ a → a < s + 22 → I' a b = I a b) (h2 : ∀ a b, s ≤ a → a < s + 22 → L' a b = L a b) : StC I' L' s W H M := by
  obtain ⟨a1, a2, a4, a3, a5⟩ := h
  refine ⟨?_, ?_, a4.fr (fun a b _ _ => h1 a b (by omega) (by omega)), ?_, fun k hk => ?_⟩
  · rw [h1 _ _ (by omega) (by omega)]; exact a1
  · rw [h1 _ _ (by omega) (by omega)]; exact a2
  · rw [h1 _ _ (by omega) (by omega)]; exact a3
  · exact ⟨(a5 k hk).1.row (fun j => h2 _ _ (by omega) (by omega)), (a5 k hk).2.row (fun j => h1 _ _ (by omega) (by omega))⟩
theorem za_pl {s : Nat} (h : s ∈ stR) : za (s + 1) 0 = s + 1 + 2 ∧ za (s + 1) 1 = s + 1 + 3 ∧ za (s + 1) 2 = s + 1 + 4 := (za_st h).2.2
theorem Wq.form {W H : Nat} {M : Mo} (h : Wq W H M) {j : Nat} (hj : j < 7) (hf : mF M j ≠ -1) : fi M j < 56 ∧ (8 * (j : Int) + mF M j = fi M j) ∧ 0 ≤ mF M j ∧ mF M j < 8 ∧ InB W H (fi M j) (mX M j) (mY M j) := by
  rcases h.2.1 j hj with e | ⟨e1, e2, e3⟩
  · exact (hf e).elim
  · have : fi M j = 8 * j + (mF M j).toNat := rfl
    exact ⟨by omega, by omega, e1, e2, e3⟩
theorem fi_div {j : Nat} {k : Int} (h0 : 0 ≤ k) (h : k < 8) : (8 * j + k.toNat) / 8 = j ∧ (8 * j + k.toNat) % 8 = k.toNat := by omega
theorem s_X11_neighbour (T : ZTh (XX Ln xs) CZ RZ) {d b : Nat} {q s : Int} {I : ZI} {L : ZL} {Q : ZQ} (hq : 0 ≤ q ∧ q < 576) (hs : 0 ≤ s ∧ s ≤ 2) (h : Q (.inl (some (.inl (nb q s)))) I L) : CZ (d + 1) k_X11_neighbour [.inl q, .inl s] b I L Q := by
  refine T.call rfl ?_
  have hd := d_out (q % 4) (by omega) (by omega)
  have hz := zs_d (Ln := Ln) (xs := xs) (i := (2 * (q % 4) + 6) % 8) (by omega) (by omega)
  have key : ∀ z, z = nb q s → Q (.inl (some (.inl z))) I L := fun z e => by rw [e]; exact h
  refine T.go [] 90 ?_
  conv => whnf
  refine ⟨by omega, ?_⟩
  conv => whnf
  refine ⟨by omega, fun c5 => ?_, fun c5 => ?_⟩
  · conv => whnf
    refine ⟨by omega, ?_⟩
    conv => whnf
    refine ⟨by omega, ?_⟩
    conv => whnf
    refine ⟨by omega, Or.inl ⟨by omega, ?_⟩⟩
    conv => whnf
    refine ⟨by omega, ?_⟩
    conv => whnf
    refine ⟨by omega, Or.inl ⟨by omega, ?_⟩⟩
    conv => whnf
    refine ⟨by omega, ?_⟩
    conv => whnf
    refine ⟨by omega, fun c67 => ?_, fun c67 => ?_⟩
    · conv => whnf
      refine key _ ?_
      unfold nb
      repeat' split
      all_goals omega
    · conv => whnf
      refine ⟨by omega, fun c74 => ?_, fun c74 => ?_⟩
      · conv => whnf
        refine key _ ?_
        unfold nb
        repeat' split
        all_goals omega
      · conv => whnf
        refine ⟨by omega, fun c79 => ?_, fun c79 => ?_⟩
        · conv => whnf
          refine key _ ?_
          unfold nb
          repeat' split
          all_goals omega
        · conv => whnf
          refine ⟨by omega, fun c86 => ?_, fun c86 => ?_⟩
          · conv => whnf
            refine ⟨by omega, ?_⟩
            conv => whnf
            refine key _ ?_
            unfold nb
            repeat' split
            all_goals omega
          · conv => whnf
            refine key _ ?_
            unfold nb
            repeat' split
            all_goals omega
  · conv => whnf
    refine ⟨by omega, fun c13 => ?_, fun c13 => ?_⟩
    · conv => whnf
      refine ⟨by omega, ?_⟩
      conv => whnf
      refine key _ ?_
      unfold nb
      repeat' split
      all_goals omega
    · conv => whnf
      refine ⟨by omega, ?_⟩
      conv => whnf
      refine key _ ?_
      unfold nb
      repeat' split
      all_goals omega
theorem l_overlap (T : ZTh (XX Ln xs) CZ RZ) {d b : Nat} {Q : ZQ} {r o x y x2 y2 : Nat} {S S2 : Nat → Bool} {I : ZI} {L : ZL} (hz : za r 0 = r + 2) (hn : r ≠ 304 ∧ r ≠ 578) (hzo : za o 0 = o + 2) (hno : o ≠ 304 ∧ o ≠ 578) (hS : RgS L r S) (hS2 : RgS L o S2) (hh : I r 5 = hg S) (ht : tp S = 0) (hx : x < 12 ∧ y < 12 ∧ y + hg S ≤ 12) (hx2 : x2 < 12 ∧ y2 < 12) (hb1 : Bx S x y) (hb2 : Bx S2 x2 y2) (h : (∃ q, shf S (48 * y + 4 * x) q = true ∧ shf S2 (48 * y2 + 4 * x2) q = true) → Q (.inl (some (.inl 1))) I L) (h2 : ¬ (∃ q, shf S (48 * y + 4 * x) q = true ∧ shf S2 (48 * y2 + 4 * x2) q = true) → Q (.inl (some (.inl 0))) I L) (m : Nat) : ∀ (i : Nat), (i ≤ hg S) → (∀ q, q / 48 < y + i → shf S (48 * y + 4 * x) q = true → shf S2 (48 * y2 + 4 * x2) q = false) → 12 - (i : Int) < (m : Int) → RZ (d + 1) k_X8_overlap Q 3 [.inr (.ref r, 7), .inl ((x : Int)), .inl ((y : Int)), .inr (.ref o, 7), .inl ((x2 : Int)), .inl ((y2 : Int)), .inl ((i : Int))] [] b I L := by
  induction m with
  | zero =>
    intro i hi hp hm
    have hb := box_le S
    exfalso
    omega
  | succ m ih =>
    intro i hi hp hm
    have hb := box_le S
    refine T.go [3] 90 ?_
    conv => whnf
    refine ⟨(show (¬ (_ : Nat) = _) ∧ (¬ (_ : Nat) = _) from by omega), ?_⟩
    conv => whnf
    refine ⟨by omega, fun c9 => ?_, fun c9 => ?_⟩
    · conv => whnf
      refine ⟨by omega, ?_⟩
      refine h2 ?_
      rintro ⟨q, hq1, hq2⟩
      by_cases e : q / 48 < y + i
      · rw [hp q e hq1] at hq2; cases hq2
      · have hs := hq1
        unfold shf at hs
        rw [Bool.and_eq_true, decide_eq_true_iff] at hs
        have h3 := hb1 _ hs.2
        have h4 := in_box (S := S) (y := (q - (48 * y + 4 * x)) / 48) (i := (q - (48 * y + 4 * x)) % 48) (by omega) (by omega) (by rw [show 48 * ((q - (48 * y + 4 * x)) / 48) + (q - (48 * y + 4 * x)) % 48 = q - (48 * y + 4 * x) by omega]; exact hs.2)
        omega
    · conv => whnf
      refine zinv0 (s_X6_rowAt T  (by first | assumption | omega | rfl | decide) (by first | assumption | omega | rfl | decide) (by first | assumption | omega | rfl | decide) ?_ ?_)
      · intro cha_15 chb_15
        conv => whnf
        refine ⟨by omega, ?_⟩
        conv => whnf
        refine zinv0 (s_X6_rowAt T  (by first | assumption | omega | rfl | decide) (by first | assumption | omega | rfl | decide) (by first | assumption | omega | rfl | decide) ?_ ?_)
        · intro cha_30 chb_30
          conv => whnf
          refine ⟨by omega, ?_⟩
          conv => whnf
          refine ⟨fun c40 => ?_, fun c40 => ?_, fun c40 => ?_⟩
          · conv => whnf
            refine ⟨by decide, fun c => absurd c (by decide), fun _ => ?_⟩
            conv => whnf
            refine ⟨by omega, ?_⟩
            refine h ?_
            have hne := l_ne_lt c40
            obtain ⟨j, hj, hw⟩ := bt_ne.mp hne
            rw [bt_and, show (4 * (x : Int)) = ((4 * x : Nat) : Int) by omega, show (4 * (x2 : Int)) = ((4 * x2 : Nat) : Int) by omega, bt_shl _ (by omega), bt_shl _ (by omega), show (y : Int) + (i : Int) - (y2 : Int) = ((y + i - y2 : Nat) : Int) by omega, hS i (by omega), hS2 (y + i - y2) (by omega)] at hw
            simp only [Bool.and_eq_true, decide_eq_true_iff, Bool.not_eq_true', decide_eq_false_iff_not] at hw
            obtain ⟨⟨-, g1, g2, g3⟩, -, g4, g5, g6⟩ := hw
            have k1 := hb1 _ g3
            have k2 : (48 * i + (j - 4 * x)) % 48 = j - 4 * x := by omega
            have k3 : j < 48 := by omega
            refine ⟨48 * (y + i) + j, ?_, ?_⟩
            · rw [shf_row hb1 k3]
              have g7 : y ≤ y + i := by omega
              have g8 : 4 * x ≤ j := by omega
              have g9 : y + i - y = i := by omega
              rw [g9]
              simp [g8, g3]
            · rw [shf_row hb2 k3]
              have g7 : y2 ≤ y + i := by omega
              have g8 : 4 * x2 ≤ j := by omega
              simp [g7, g8, g6]
          · conv => whnf
            refine ⟨by decide, fun _ => ?_, fun c => absurd c (by decide)⟩
            conv => whnf
            refine ih (i + 1) (by omega) (fun q hq hs => ?_) (by omega)
            by_cases e : q / 48 < y + i
            · exact hp q e hs
            · have e2 : q / 48 = y + i := by omega
              have eq : q = 48 * (y + i) + q % 48 := by omega
              rw [eq] at hs ⊢
              rw [shf_row hb1 (by omega)] at hs
              rw [shf_row hb2 (by omega)]
              cases hs2 : (decide (y2 ≤ y + i) && (decide (4 * x2 ≤ q % 48) && S2 (48 * (y + i - y2) + (q % 48 - 4 * x2)))) with
              | false => rfl
              | true =>
                exfalso
                simp only [Bool.and_eq_true, decide_eq_true_iff] at hs hs2
                have hw := bt_eq0.mp c40 (q % 48) (by omega)
                rw [bt_and, show (4 * (x : Int)) = ((4 * x : Nat) : Int) by omega, show (4 * (x2 : Int)) = ((4 * x2 : Nat) : Int) by omega, bt_shl _ (by omega), bt_shl _ (by omega), show (y : Int) + (i : Int) - (y2 : Int) = ((y + i - y2 : Nat) : Int) by omega, hS i (by omega), hS2 (y + i - y2) (by omega)] at hw
                have g1 : y + i - y = i := by omega
                rw [g1] at hs
                have g2 : q % 48 < 64 := by omega
                have g3 : ¬ (q % 48 < 4 * x) := by omega
                have g4 : ¬ (q % 48 < 4 * x2) := by omega
                have g5 : q % 48 - 4 * x < 48 := by omega
                have g6 : q % 48 - 4 * x2 < 48 := by omega
                simp [g2, g3, g4, g5, g6, hs.2.2, hs2.2.2] at hw
          · conv => whnf
            refine ⟨by decide, fun c => absurd c (by decide), fun _ => ?_⟩
            conv => whnf
            refine ⟨by omega, ?_⟩
            refine h ?_
            have hne := l_ne_gt c40
            obtain ⟨j, hj, hw⟩ := bt_ne.mp hne
            rw [bt_and, show (4 * (x : Int)) = ((4 * x : Nat) : Int) by omega, show (4 * (x2 : Int)) = ((4 * x2 : Nat) : Int) by omega, bt_shl _ (by omega), bt_shl _ (by omega), show (y : Int) + (i : Int) - (y2 : Int) = ((y + i - y2 : Nat) : Int) by omega, hS i (by omega), hS2 (y + i - y2) (by omega)] at hw
            simp only [Bool.and_eq_true, decide_eq_true_iff, Bool.not_eq_true', decide_eq_false_iff_not] at hw
            obtain ⟨⟨-, g1, g2, g3⟩, -, g4, g5, g6⟩ := hw
            have k1 := hb1 _ g3
            have k2 : (48 * i + (j - 4 * x)) % 48 = j - 4 * x := by omega
            have k3 : j < 48 := by omega
            refine ⟨48 * (y + i) + j, ?_, ?_⟩
            · rw [shf_row hb1 k3]
              have g7 : y ≤ y + i := by omega
              have g8 : 4 * x ≤ j := by omega
              have g9 : y + i - y = i := by omega
              rw [g9]
              simp [g8, g3]
            · rw [shf_row hb2 k3]
              have g7 : y2 ≤ y + i := by omega
              have g8 : 4 * x2 ≤ j := by omega
              simp [g7, g8, g6]
        · intro ch2a_30
          conv => whnf
          refine ⟨by omega, ?_⟩
          conv => whnf
          refine ⟨fun c40 => ?_, fun c40 => ?_, fun c40 => ?_⟩
          · conv => whnf
            refine ⟨by decide, fun c => absurd c (by decide), fun _ => ?_⟩
            conv => whnf
            refine ⟨by omega, ?_⟩
            refine h ?_
            have hne := l_ne_lt c40
            obtain ⟨j, hj, hw⟩ := bt_ne.mp hne
            rw [bt_and, show (4 * (x2 : Int)) = ((4 * x2 : Nat) : Int) by omega, bt_shl _ (by omega), bt_zero] at hw
            simp at hw
          · conv => whnf
            refine ⟨by decide, fun _ => ?_, fun c => absurd c (by decide)⟩
            conv => whnf
            refine ih (i + 1) (by omega) (fun q hq hs => ?_) (by omega)
            by_cases e : q / 48 < y + i
            · exact hp q e hs
            · have e2 : q / 48 = y + i := by omega
              have eq : q = 48 * (y + i) + q % 48 := by omega
              rw [eq] at hs ⊢
              rw [shf_row hb1 (by omega)] at hs
              rw [shf_row hb2 (by omega)]
              cases hs2 : (decide (y2 ≤ y + i) && (decide (4 * x2 ≤ q % 48) && S2 (48 * (y + i - y2) + (q % 48 - 4 * x2)))) with
              | false => rfl
              | true =>
                exfalso
                simp only [Bool.and_eq_true, decide_eq_true_iff] at hs2
                have := hb2 _ hs2.2.2
                omega
          · conv => whnf
            refine ⟨by decide, fun c => absurd c (by decide), fun _ => ?_⟩
            conv => whnf
            refine ⟨by omega, ?_⟩
            refine h ?_
            have hne := l_ne_gt c40
            obtain ⟨j, hj, hw⟩ := bt_ne.mp hne
            rw [bt_and, show (4 * (x2 : Int)) = ((4 * x2 : Nat) : Int) by omega, bt_shl _ (by omega), bt_zero] at hw
            simp at hw
      · intro ch2a_15
        exfalso; omega
theorem s_X8_overlap (T : ZTh (XX Ln xs) CZ RZ) {d b : Nat} {r o x y x2 y2 : Nat} (S S2 : Nat → Bool) {I : ZI} {L : ZL} {Q : ZQ} (hz : za r 0 = r + 2) (hn : r ≠ 304 ∧ r ≠ 578) (hzo : za o 0 = o + 2) (hno : o ≠ 304 ∧ o ≠ 578) (hS : RgS L r S) (hS2 : RgS L o S2) (hh : I r 5 = hg S) (ht : tp S = 0) (hx : x < 12 ∧ y < 12 ∧ y + hg S ≤ 12) (hx2 : x2 < 12 ∧ y2 < 12) (hb1 : Bx S x y) (hb2 : Bx S2 x2 y2) (h : (∃ q, shf S (48 * y + 4 * x) q = true ∧ shf S2 (48 * y2 + 4 * x2) q = true) → Q (.inl (some (.inl (1)))) I L) (h2 : ¬ (∃ q, shf S (48 * y + 4 * x) q = true ∧ shf S2 (48 * y2 + 4 * x2) q = true) → Q (.inl (some (.inl (0)))) I L) : CZ (d + 2) k_X8_overlap [.inr (.ref r, 7), .inl ((x : Int)), .inl ((y : Int)), .inr (.ref o, 7), .inl ((x2 : Int)), .inl ((y2 : Int))] b I L Q := by
  refine T.call rfl ?_
  refine T.go [3] 90 ?_
  conv => whnf
  exact l_overlap T hz hn hzo hno hS hS2 hh ht hx hx2 hb1 hb2 h h2 13 0 (by omega) (fun q hq hs => by
    unfold shf at hs
    rw [Bool.and_eq_true, decide_eq_true_iff] at hs
    omega) (by omega)
end
