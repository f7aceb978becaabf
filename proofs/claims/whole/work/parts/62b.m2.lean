/-! REGIONS' BITS -/
theorem bt_15 (i : Nat) : bt 15 i = decide (i < 4) := by
  by_cases hi : i < 64
  · have : ∀ i, i < 64 → bt 15 i = decide (i < 4) := by decide +kernel
    exact this i hi
  · rw [bt_ge (by omega)]
    simp
    omega
theorem bt_1 (i : Nat) : bt 1 i = decide (i = 0) := by
  by_cases hi : i < 64
  · have : ∀ i, i < 64 → bt 1 i = decide (i = 0) := by decide +kernel
    exact this i hi
  · rw [bt_ge (by omega)]
    simp
    omega
theorem bt_eq0 {w : Int64} : w = 0 ↔ ∀ i, i < 64 → bt w i = false := by
  constructor
  · rintro rfl i _
    exact bt_zero i
  · intro h
    exact bt_ext fun i hi => by rw [h i hi, bt_zero]
/-- the cell at x of a row -/
theorem cell_0 {w : Int64} {x : Nat} (hx : x < 16) : zlsr w (4 * (x : Int)) &&& 15 = 0 ↔ ∀ k, k < 4 → bt w (4 * x + k) = false := by
  rw [bt_eq0, show (4 * (x : Int)) = ((4 * x : Nat) : Int) by omega]
  constructor
  · intro h k hk
    have := h k (by omega)
    rw [bt_and, bt_shr w (by omega), bt_15] at this
    simpa [hk] using this
  · intro h i hi
    rw [bt_and, bt_shr w (by omega), bt_15]
    by_cases hk : i < 4
    · rw [h i hk]; rfl
    · simp [hk]
theorem bit_0 {w : Int64} {k : Nat} (hk : k < 64) : zlsr w (k : Int) &&& 1 = 0 ↔ bt w k = false := by
  rw [bt_eq0]
  constructor
  · intro h
    have := h 0 (by omega)
    rw [bt_and, bt_shr w hk, bt_1] at this
    simpa using this
  · intro h i hi
    rw [bt_and, bt_shr w hk, bt_1]
    by_cases e : i = 0
    · subst e
      rw [Nat.add_zero, h]; rfl
    · simp [e]
theorem RgS.at' {L : ZL} {r : Nat} {S : Nat → Bool} (h : RgS L r S) {q : Nat} (hq : q < 576) : bt (L (r + 1) ((q / 48 : Nat) : Int)) (q % 48) = S q := by
  rw [h (q / 48) (by omega)]
  have e : 48 * (q / 48) + q % 48 = q := by omega
  rw [e]
  simp
  intro c
  omega
/-- the rows read so far, put one on the other -/
noncomputable def orO (S : Nat → Bool) (y i : Nat) : Bool := dc (i < 48 ∧ ∃ y', y' < y ∧ S (48 * y' + i) = true)
theorem orO_0 (S : Nat → Bool) (i : Nat) : orO S 0 i = false := by
  rw [orO, dc_not]
  rintro ⟨_, y', h, _⟩
  omega
theorem orO_s {L : ZL} {r : Nat} {S : Nat → Bool} (h : RgS L r S) {y : Nat} (hy : y < 12) {w : Int64} (hw : ∀ i, bt w i = orO S y i) (i : Nat) : bt (w ||| L (r + 1) y) i = orO S (y + 1) i := by
  rw [bt_or, hw, h y hy]
  apply Bool.eq_iff_iff.mpr
  rw [Bool.or_eq_true, Bool.and_eq_true, decide_eq_true_iff, orO, orO, dc_iff, dc_iff]
  constructor
  · rintro (⟨h1, y', h2, h3⟩ | ⟨h1, h2⟩)
    · exact ⟨h1, y', by omega, h3⟩
    · exact ⟨h1, y, by omega, h2⟩
  · rintro ⟨h1, y', h2, h3⟩
    by_cases e : y' = y
    · subst e; exact Or.inr ⟨h1, h3⟩
    · exact Or.inl ⟨h1, y', by omega, h3⟩
theorem orO_row {S : Nat → Bool} {y : Nat} (h : rowO S y = false) (i : Nat) : orO S (y + 1) i = orO S y i := by
  rw [rowO, dc_not] at h
  apply dc_congr
  constructor
  · rintro ⟨h1, y', h2, h3⟩
    refine ⟨h1, y', ?_, h3⟩
    apply Classical.byContradiction
    intro c
    have e : y' = y := by omega
    subst e
    exact h ⟨i, h1, h3⟩
  · rintro ⟨h1, y', h2, h3⟩
    exact ⟨h1, y', by omega, h3⟩
theorem orO_col {S : Nat → Bool} {w : Int64} (hw : ∀ i, bt w i = orO S 12 i) (x : Nat) (hx : x < 12) : zlsr w (4 * (x : Int)) &&& 15 = 0 ↔ colO S x = false := by
  rw [cell_0 (by omega), colO, dc_not]
  constructor
  · rintro h ⟨y, hy, k, hk, hs⟩
    have := h k hk
    rw [hw, orO, dc_not] at this
    exact this ⟨by omega, y, hy, by rw [← Nat.add_assoc]; exact hs⟩
  · intro h k hk
    rw [hw, orO, dc_not]
    rintro ⟨_, y, hy, hs⟩
    exact h ⟨y, hy, k, hk, by rw [Nat.add_assoc]; exact hs⟩
/-- a set shifted by a number -/
def shf (S : Nat → Bool) (o q : Nat) : Bool := decide (o ≤ q) && S (q - o)
/-- a set that lies in a box at the upper left corner and stays on the widest board when it is put at x, y -/
def Bx (S : Nat → Bool) (x y : Nat) : Prop := ∀ q, S q = true → q / 48 + y < 12 ∧ q % 48 + 4 * x < 48
theorem shf_row {S : Nat → Bool} {x y Y j : Nat} (hb : Bx S x y) (hj : j < 48) : shf S (48 * y + 4 * x) (48 * Y + j) = (decide (y ≤ Y) && (decide (4 * x ≤ j) && S (48 * (Y - y) + (j - 4 * x)))) := by
  unfold shf
  by_cases h1 : y ≤ Y
  · by_cases h2 : 4 * x ≤ j
    · have e : 48 * Y + j - (48 * y + 4 * x) = 48 * (Y - y) + (j - 4 * x) := by omega
      rw [e]
      simp [h1, h2]
      intro
      omega
    · simp only [h1, h2, decide_true, decide_false, Bool.false_and, Bool.and_false]
      by_cases h3 : 48 * y + 4 * x ≤ 48 * Y + j
      · cases hs : S (48 * Y + j - (48 * y + 4 * x)) with
        | false => simp
        | true =>
          have := hb _ hs
          have e : 48 * Y + j - (48 * y + 4 * x) = 48 * (Y - y - 1) + (48 + j - 4 * x) := by omega
          omega
      · simp [h3]
  · simp only [h1, decide_false, Bool.false_and]
    by_cases h3 : 48 * y + 4 * x ≤ 48 * Y + j
    · omega
    · simp [h3]
theorem lw_lt {f : Nat → Bool} {n i : Nat} (hi : i < n) (h : f i = true) : lo f n ≤ i ∧ (i : Int) < lo f n + lw f n := by
  have hc : cn f n ≠ 0 := fun c => by
    have := cn_zero c i hi
    rw [h] at this
    cases this
  rcases lo_spec f n with ⟨h1, h2⟩ | ⟨h1, j, j1, j2, j3, j4⟩
  · exact (hc h1).elim
  · rcases lw_spec f n with ⟨k1, k2⟩ | ⟨k1, k, k2, k3, k4, k5⟩
    · exact (hc k1).elim
    · constructor
      · apply Classical.byContradiction
        intro c
        have := j4 i (by omega)
        rw [h] at this
        cases this
      · apply Classical.byContradiction
        intro c
        have := k5 i (by omega) hi
        rw [h] at this
        cases this
theorem row_in {S : Nat → Bool} {y : Nat} (hy : y < 12) {i : Nat} (hi : i < 48) (h : S (48 * y + i) = true) : lo (rowO S) 12 ≤ y ∧ (y : Int) < lo (rowO S) 12 + lw (rowO S) 12 := lw_lt hy (by rw [rowO, dc_iff]; exact ⟨i, hi, h⟩)
theorem col_in {S : Nat → Bool} {y : Nat} (hy : y < 12) {i : Nat} (hi : i < 48) (h : S (48 * y + i) = true) : lo (colO S) 12 ≤ (i / 4 : Nat) ∧ ((i / 4 : Nat) : Int) < lo (colO S) 12 + lw (colO S) 12 := lw_lt (by omega) (by
  rw [colO, dc_iff]
  refine ⟨y, hy, i % 4, by omega, ?_⟩
  have : 48 * y + 4 * (i / 4) + i % 4 = 48 * y + i := by omega
  rw [this]
  exact h)
theorem popc_xor {L : ZL} {r o : Nat} {S S' : Nat → Bool} (h : RgS L r S) (h' : RgS L o S') {y : Nat} (hy : y < 12) : popc (L (r + 1) y ^^^ L (o + 1) y) = cn (fun i => S (48 * y + i) ^^ S' (48 * y + i)) 48 := by
  unfold popc
  rw [show (64 : Nat) = 48 + 16 from rfl, cn_add, cn_congr 48 (g := fun i => S (48 * y + i) ^^ S' (48 * y + i)) (fun i hi => by rw [bt_xor, h y hy, h' y hy]; simp [hi]), cn_false (n := 16) (fun i hi => by
    rw [bt_xor, h y hy, h' y hy]
    have hc : ¬ (48 + i < 48) := by omega
    simp [hc])]
  omega
/-- the least of a row's bits -/
theorem low_bit {w : Int64} {k : Nat} (hk : k < 64) (h1 : bt w k = true) (h0 : ∀ i, i < k → bt w i = false) : popc ((w &&& -w) - 1) = k := by
  have hn : (w &&& -w).toBitVec = BitVec.twoPow 64 k := by
    apply BitVec.eq_of_getLsbD_eq
    intro i hi
    show bt (w &&& -w) i = _
    rw [bt_and]
    show (w.toBitVec.getLsbD i && (-w.toBitVec).getLsbD i) = _
    rw [BitVec.getLsbD_neg, BitVec.getLsbD_twoPow]
    by_cases e : i = k
    · subst e
      have hne : ¬ ∃ j, j < i ∧ w.toBitVec.getLsbD j = true := by
        rintro ⟨j, hj, hb⟩
        have h9 : w.toBitVec.getLsbD j = false := h0 j hj
        rw [hb] at h9
        cases h9
      have h8 : w.toBitVec.getLsbD i = true := h1
      rw [h8]
      simp only [hne, decide_false, hi, decide_true, Bool.true_and]
      simp
    · by_cases hl : i < k
      · have h9 : w.toBitVec.getLsbD i = false := h0 i hl
        rw [h9]
        simp
        omega
      · have hex : ∃ j, j < i ∧ w.toBitVec.getLsbD j = true := ⟨k, by omega, h1⟩
        simp only [hex, decide_true, hi, Bool.true_and, Bool.xor_true]
        cases w.toBitVec.getLsbD i <;> simp <;> omega
  have hm : ∀ i, i < 64 → bt ((w &&& -w) - 1) i = decide (i < k) := by
    intro i hi
    show ((w &&& -w).toBitVec - 1#64).getLsbD i = _
    rw [hn]
    have : ∀ k, k < 64 → ∀ i, i < 64 → (BitVec.twoPow 64 k - 1#64).getLsbD i = decide (i < k) := by decide +kernel
    exact this k hk i hi
  unfold popc
  obtain ⟨m, hm2⟩ : ∃ m, 64 = k + m := ⟨64 - k, by omega⟩
  have e1 : cn (bt ((w &&& -w) - 1)) 64 = cn (bt ((w &&& -w) - 1)) (k + m) := by rw [← hm2]
  rw [e1, cn_add, cn_false (n := m) (fun i hi => by
    rw [hm (k + i) (by omega)]; simp)]
  have e2 : ∀ n, n ≤ k → cn (bt ((w &&& -w) - 1)) n = n := by
    intro n
    induction n with
    | zero => intro; rfl
    | succ n ih =>
      intro h
      rw [cn_s, ih (by omega), hm n (by omega)]
      simp [show n < k by omega]
  rw [e2 k (by omega)]
  omega
/-- the least quarter of a set -/
noncomputable def fq (S : Nat → Bool) : Int := if cn S 576 = 0 then -1 else lo S 576
theorem rowO_f {S : Nat → Bool} {y : Nat} (h : rowO S y = false) : cn (fun i => S (48 * y + i)) 48 = 0 := by
  have h4 := rowO_cn (S := S) (y := y)
  rw [h] at h4
  exact Classical.byContradiction fun c => by simpa using h4.mpr c
