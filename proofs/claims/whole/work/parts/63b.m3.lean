/-! REGIONS' LOOKS AND SHIFTS -/
theorem RgS.congr {L : ZL} {r : Nat} {S S' : Nat → Bool} (h : RgS L r S) (he : ∀ q, q < 576 → S q = S' q) : RgS L r S' := by
  intro y hy i
  rw [h y hy]
  by_cases hi : i < 48
  · rw [he (48 * y + i) (by omega)]
  · simp [hi]
theorem RgS.row {L L' : ZL} {r : Nat} {S : Nat → Bool} (h : RgS L r S) (he : ∀ i : Int, L' (r + 1) i = L (r + 1) i) : RgS L' r S := by
  intro y hy i
  rw [he]
  exact h y hy i
theorem RgM.row {I I' : ZI} {r : Nat} {S : Nat → Bool} (h : RgM I r S) (he : ∀ i : Int, I' r i = I r i) : RgM I' r S := by
  unfold RgM
  rw [he, he, he, he, he]
  exact h
noncomputable def lt (S : Nat → Bool) : Nat := (lo (colO S) 12).toNat
noncomputable def tp (S : Nat → Bool) : Nat := (lo (rowO S) 12).toNat
noncomputable def wd (S : Nat → Bool) : Nat := (lw (colO S) 12).toNat
noncomputable def hg (S : Nat → Bool) : Nat := (lw (rowO S) 12).toNat
theorem box_le (S : Nat → Bool) : lt S + wd S ≤ 12 ∧ tp S + hg S ≤ 12 ∧ ((lt S : Nat) : Int) = lo (colO S) 12 ∧ ((wd S : Nat) : Int) = lw (colO S) 12 ∧ ((tp S : Nat) : Int) = lo (rowO S) 12 ∧ ((hg S : Nat) : Int) = lw (rowO S) 12 := by
  have h1 := lw_pos (colO S) 12
  have h2 := lw_pos (rowO S) 12
  have h3 := lo_bound (colO S) 12
  have h4 := lo_bound (rowO S) 12
  unfold lt wd tp hg
  omega
theorem RgM.at {I : ZI} {r : Nat} {S : Nat → Bool} (h : RgM I r S) : I r 2 = (lt S : Nat) ∧ I r 3 = (tp S : Nat) ∧ I r 4 = (wd S : Nat) ∧ I r 5 = (hg S : Nat) := by
  have hb := box_le S
  obtain ⟨_, h2, h3, h4, h5⟩ := h
  rw [h2, h3, h4, h5]
  omega
theorem in_box {S : Nat → Bool} {y i : Nat} (hy : y < 12) (hi : i < 48) (h : S (48 * y + i) = true) : tp S ≤ y ∧ y < tp S + hg S ∧ lt S ≤ i / 4 ∧ i / 4 < lt S + wd S := by
  have hb := box_le S
  have h1 := row_in hy hi h
  have h2 := col_in hy hi h
  omega
/-- a set with its least box at the upper left corner -/
noncomputable def nrm (S : Nat → Bool) (q : Nat) : Bool := decide (q / 48 + tp S < 12) && (decide (q % 48 + 4 * lt S < 48) && S (48 * (q / 48 + tp S) + (q % 48 + 4 * lt S)))
/-- turned once, flipped -/
noncomputable def trn (S : Nat → Bool) (q : Nat) : Bool := (decide (q / 48 < wd S) && decide (q % 48 / 4 < hg S)) && S (48 * (tp S + (hg S - 1 - q % 48 / 4)) + (4 * (lt S + q / 48) + (q % 4 + 3) % 4))
noncomputable def flp (S : Nat → Bool) (q : Nat) : Bool := (decide (q / 48 < hg S) && decide (q % 48 / 4 < wd S)) && S (48 * (tp S + q / 48) + (4 * (lt S + (wd S - 1 - q % 48 / 4)) + (4 - q % 4) % 4))
theorem nrm_high {S : Nat → Bool} {q : Nat} (h : hg S ≤ q / 48) : nrm S q = false := by
  cases e : nrm S q with
  | false => rfl
  | true =>
    unfold nrm at e
    rw [Bool.and_eq_true, Bool.and_eq_true, decide_eq_true_iff, decide_eq_true_iff] at e
    have := in_box e.1 (by omega) e.2.2
    omega
/-- two sets are alike by shifting, as the class asks it -/
def AL (S S2 : Nat → Bool) : Prop := cn S 576 = cn S2 576 ∧ lw (colO S) 12 = lw (colO S2) 12 ∧ lw (rowO S) 12 = lw (rowO S2) 12 ∧ ∀ q, q < 576 → nrm S q = nrm S2 q
theorem nrm_bits {L : ZL} {r : Nat} {S : Nat → Bool} (h : RgS L r S) {y : Nat} (hy : y + tp S < 12) (i : Nat) : bt (zlsr (L (r + 1) ((tp S : Nat) + (y : Int))) (4 * ((lt S : Nat) : Int))) i = (decide (i < 48) && nrm S (48 * y + i)) := by
  have hb := box_le S
  rw [show (4 * ((lt S : Nat) : Int)) = ((4 * lt S : Nat) : Int) by omega]
  rw [show ((tp S : Nat) : Int) + (y : Int) = ((y + tp S : Nat) : Int) by omega]
  by_cases h12 : lt S < 12
  · rw [bt_shr _ (by omega), h _ hy]
    unfold nrm
    by_cases hi : i < 48
    · have e1 : (48 * y + i) / 48 = y := by omega
      have e2 : (48 * y + i) % 48 = i := by omega
      rw [e1, e2]
      simp only [hi, hy, decide_true, Bool.true_and, Nat.add_comm]
    · have e3 : ¬ (4 * lt S + i < 48) := by omega
      simp [hi, e3]
  · have := lo_bound (colO S) 12
    unfold lt at h12
    omega
theorem alike_row {L : ZL} {r o : Nat} {S S2 : Nat → Bool} (h : RgS L r S) (h2 : RgS L o S2) {y : Nat} (hy : y + tp S < 12) (hy2 : y + tp S2 < 12) : zlsr (L (r + 1) ((tp S : Nat) + (y : Int))) (4 * ((lt S : Nat) : Int)) = zlsr (L (o + 1) ((tp S2 : Nat) + (y : Int))) (4 * ((lt S2 : Nat) : Int)) ↔ ∀ i, i < 48 → nrm S (48 * y + i) = nrm S2 (48 * y + i) := by
  constructor
  · intro e i hi
    have e1 := nrm_bits h hy i
    rw [e, nrm_bits h2 hy2 i] at e1
    simp only [hi, decide_true, Bool.true_and] at e1
    exact e1.symm
  · intro e
    apply bt_ext
    intro i _
    rw [nrm_bits h hy, nrm_bits h2 hy2]
    by_cases hi : i < 48
    · rw [e i hi]
    · simp [hi]
theorem fq_run {S : Nat → Bool} {y : Nat} (hy : y < 12) (h0 : ∀ q, q < 48 * y → S q = false) {k : Nat} (hk : k < 48) (h1 : S (48 * y + k) = true) (h2 : ∀ i, i < k → S (48 * y + i) = false) : fq S = 48 * (y : Int) + k := by
  have hc : cn S 576 ≠ 0 := fun c => by
    have := cn_zero c (48 * y + k) (by omega)
    rw [h1] at this
    cases this
  unfold fq
  rw [if_neg hc]
  rcases lo_spec S 576 with ⟨c, _⟩ | ⟨_, j, j1, j2, j3, j4⟩
  · exact (hc c).elim
  · rw [j2]
    have a : ¬ j < 48 * y + k := by
      intro c
      by_cases e : j < 48 * y
      · rw [h0 j e] at j3; cases j3
      · have := h2 (j - 48 * y) (by omega)
        rw [show 48 * y + (j - 48 * y) = j by omega, j3] at this
        cases this
    have b : ¬ 48 * y + k < j := by
      intro c
      have := j4 _ c
      rw [h1] at this
      cases this
    omega
theorem fq_none {S : Nat → Bool} (h0 : ∀ q, q < 576 → S q = false) : fq S = -1 := by
  unfold fq
  rw [if_pos (cn_false h0)]
theorem low_ex {w : Int64} (h : w ≠ 0) : ∃ k, k < 64 ∧ bt w k = true ∧ ∀ i, i < k → bt w i = false := by
  obtain ⟨i, hi, hb⟩ := bt_ne.mp h
  have key : ∀ n i, i < n → i < 64 → bt w i = true → ∃ k, k < 64 ∧ bt w k = true ∧ ∀ i, i < k → bt w i = false := by
    intro n
    induction n with
    | zero => intro i hi; omega
    | succ n ih =>
      intro i hi h64 hb
      by_cases e : ∃ j, j < i ∧ bt w j = true
      · obtain ⟨j, hj, hbj⟩ := e
        exact ih j (by omega) (by omega) hbj
      · refine ⟨i, h64, hb, fun j hj => ?_⟩
        cases hc : bt w j with
        | false => rfl
        | true => exact (e ⟨j, hj, hc⟩).elim
  exact key (i + 1) i (by omega) hi hb
theorem rot_bit {c : Int64} (hc : ∀ i, 4 ≤ i → bt c i = false) (k : Nat) : bt ((zlsh c 1 &&& 15) ||| zlsr c 3) k = (decide (k < 4) && bt c ((k + 3) % 4)) := by
  rw [bt_or, bt_and, bt_15, show (1 : Int) = ((1 : Nat) : Int) from rfl, show (3 : Int) = ((3 : Nat) : Int) from rfl, bt_shl _ (by decide), bt_shr _ (by decide)]
  by_cases hk : k < 4
  · by_cases h0 : k = 0
    · subst h0; simp
    · have e : (k + 3) % 4 = k - 1 := by omega
      rw [e, hc (3 + k) (by omega)]
      have : k < 64 := by omega
      have h1 : ¬ k < 1 := by omega
      simp [hk, this, h1]
  · rw [hc (3 + k) (by omega)]
    simp [hk]
theorem bt_5 (i : Nat) : bt 5 i = (decide (i = 0) || decide (i = 2)) := by
  by_cases hi : i < 64
  · have : ∀ i, i < 64 → bt 5 i = (decide (i = 0) || decide (i = 2)) := by decide +kernel
    exact this i hi
  · rw [bt_ge (by omega)]
    have h1 : ¬ i = 0 := by omega
    have h2 : ¬ i = 2 := by omega
    simp [h1, h2]
theorem bt_8 (i : Nat) : bt 8 i = decide (i = 3) := by
  by_cases hi : i < 64
  · have : ∀ i, i < 64 → bt 8 i = decide (i = 3) := by decide +kernel
    exact this i hi
  · rw [bt_ge (by omega)]
    have h1 : ¬ i = 3 := by omega
    simp [h1]
theorem bt_2 (i : Nat) : bt 2 i = decide (i = 1) := by
  by_cases hi : i < 64
  · have : ∀ i, i < 64 → bt 2 i = decide (i = 1) := by decide +kernel
    exact this i hi
  · rw [bt_ge (by omega)]
    have h1 : ¬ i = 1 := by omega
    simp [h1]
theorem flip_bit {c : Int64} (hc : ∀ i, 4 ≤ i → bt c i = false) (k : Nat) : bt (((c &&& 5) ||| (zlsh c 2 &&& 8)) ||| (zlsr c 2 &&& 2)) k = (decide (k < 4) && bt c ((4 - k) % 4)) := by
  rw [bt_or, bt_or, bt_and, bt_and, bt_and, bt_5, bt_8, bt_2, show (2 : Int) = ((2 : Nat) : Int) from rfl, bt_shl _ (by decide), bt_shr _ (by decide)]
  by_cases hk : k < 4
  · have : k = 0 ∨ k = 1 ∨ k = 2 ∨ k = 3 := by omega
    rcases this with e | e | e | e <;> subst e <;> simp
  · have h0 : ¬ k = 0 := by omega
    have h1 : ¬ k = 1 := by omega
    have h2 : ¬ k = 2 := by omega
    have h3 : ¬ k = 3 := by omega
    simp [h0, h1, h2, h3, hk]
/-- the cell at x, y of a region, as a number -/
theorem cell_bit {L : ZL} {r : Nat} {S : Nat → Bool} (h : RgS L r S) {y x : Nat} (hy : y < 12) (hx : x < 12) (k : Nat) : bt (zlsr (L (r + 1) (y : Int)) (4 * (x : Int)) &&& 15) k = (decide (k < 4) && S (48 * y + (4 * x + k))) := by
  rw [bt_and, bt_15, show (4 * (x : Int)) = ((4 * x : Nat) : Int) by omega, bt_shr _ (by omega), h y hy]
  by_cases hk : k < 4
  · have : 4 * x + k < 48 := by omega
    simp [hk, this]
  · simp [hk]
/-- a row with one more cell -/
theorem put_cell {w c : Int64} {m : Nat} (hm : m < 12) (hc : ∀ i, 4 ≤ i → bt c i = false) (j : Nat) : bt (w ||| zlsh c (4 * (m : Int))) j = (bt w j || (decide (j / 4 = m) && bt c (j % 4))) := by
  rw [bt_or, show (4 * (m : Int)) = ((4 * m : Nat) : Int) by omega, bt_shl _ (by omega)]
  congr 1
  by_cases e : j / 4 = m
  · have h1 : j < 64 := by omega
    have h2 : ¬ j < 4 * m := by omega
    have h3 : j - 4 * m = j % 4 := by omega
    simp [e, h1, h2, h3]
  · simp only [e, decide_false, Bool.false_and]
    by_cases h2 : j < 4 * m
    · simp [h2]
    · rw [hc (j - 4 * m) (by omega)]
      simp
