/-! THE FORMS: piece and look, 8 to a piece -/
def fmT : List Nat := [662029145223503859, 662029145223503859, 1070435769529489163237205443390399427737813088, 1070435769529489163237205443390399427737813088, 14985164810121907296, 14985164810121907296, 200706706786788205551661232541777947221032972, 200706706786788205551661232541777947221032972, 662029145223503859, 662029145223503859, 1070435769529489163237205443390399427737813088, 1070435769529489163237205443390399427737813088, 14985164810121907296, 14985164810121907296, 200706706786788205551661232541777947221032972, 200706706786788205551661232541777947221032972, 2533274790396063, 13510798882111731, 13510798882111731, 69242844270821472, 69242844270821472, 58265320179105804, 58265320179105804, 2533274790396063, 41376821576466630, 41376821576466630, 41376821576466630, 41376821576466630, 41376821576466630, 41376821576466630, 41376821576466630, 41376821576466630, 3315, 2550, 713053462628383260466546212870, 237684487542797234905282510860, 3315, 2550, 713053462628383260466546212870, 237684487542797234905282510860, 147, 147, 844424930131974, 844424930131974, 198, 198, 2533274790395916, 2533274790395916, 147, 147, 844424930131974, 844424930131974, 198, 198, 2533274790395916, 2533274790395916]
def fwT : List Nat := [4, 4, 2, 2, 4, 4, 2, 2, 4, 4, 2, 2, 4, 4, 2, 2, 2, 2, 2, 2, 2, 2, 2, 2, 2, 2, 2, 2, 2, 2, 2, 2, 3, 3, 1, 1, 3, 3, 1, 1, 2, 2, 1, 1, 2, 2, 1, 1, 2, 2, 1, 1, 2, 2, 1, 1]
def fhT : List Nat := [2, 2, 4, 4, 2, 2, 4, 4, 2, 2, 4, 4, 2, 2, 4, 4, 2, 2, 2, 2, 2, 2, 2, 2, 2, 2, 2, 2, 2, 2, 2, 2, 1, 1, 3, 3, 1, 1, 3, 3, 1, 1, 2, 2, 1, 1, 2, 2, 1, 1, 2, 2, 1, 1, 2, 2]
def fnT : List Nat := [16, 16, 16, 16, 16, 16, 16, 16, 16, 16, 16, 16, 16, 16, 16, 16, 8, 8, 8, 8, 8, 8, 8, 8, 8, 8, 8, 8, 8, 8, 8, 8, 8, 8, 8, 8, 8, 8, 8, 8, 4, 4, 4, 4, 4, 4, 4, 4, 4, 4, 4, 4, 4, 4, 4, 4]
def fvT : List Nat := [1, 0, 1, 0, 1, 0, 1, 0, 1, 0, 1, 0, 1, 0, 1, 0, 1, 1, 0, 1, 0, 1, 0, 0, 1, 0, 0, 0, 0, 0, 0, 0, 1, 1, 1, 1, 0, 0, 0, 0, 1, 0, 1, 0, 1, 0, 1, 0, 1, 0, 1, 0, 1, 0, 1, 0]
def fcT : List Nat := [3, 3, 3, 3, 3, 3, 3, 3, 3, 3, 3, 3, 3, 3, 3, 3, 3, 3, 3, 3, 3, 3, 3, 3, 4, 4, 4, 4, 4, 4, 4, 4, 4, 4, 4, 4, 4, 4, 4, 4, 3, 3, 3, 3, 3, 3, 3, 3, 3, 3, 3, 3, 3, 3, 3, 3]
def cxT : List (List Nat) := [[0, 4, 2, 0], [4, 0, 2, 4], [2, 2, 0, 2], [2, 2, 0, 2], [4, 0, 2, 4], [0, 4, 2, 0], [0, 0, 2, 0], [0, 0, 2, 0], [0, 4, 2, 0], [4, 0, 2, 4], [2, 2, 0, 2], [2, 2, 0, 2], [4, 0, 2, 4], [0, 4, 2, 0], [0, 0, 2, 0], [0, 0, 2, 0], [0, 2, 0, 0], [2, 0, 2, 2], [2, 2, 0, 2], [2, 2, 0, 2], [2, 0, 2, 2], [0, 2, 0, 0], [0, 0, 2, 0], [0, 0, 2, 0], [1, 2, 1, 0], [1, 0, 1, 2], [2, 1, 0, 1], [2, 1, 0, 1], [1, 0, 1, 2], [1, 2, 1, 0], [0, 1, 2, 1], [0, 1, 2, 1], [0, 2, 3, 1], [3, 1, 0, 2], [1, 1, 0, 0], [1, 1, 0, 0], [3, 1, 0, 2], [0, 2, 3, 1], [0, 0, 1, 1], [0, 0, 1, 1], [0, 2, 1, 0], [2, 0, 1, 2], [1, 1, 0, 1], [1, 1, 0, 1], [2, 0, 1, 2], [0, 2, 1, 0], [0, 0, 1, 0], [0, 0, 1, 0], [0, 2, 1, 0], [2, 0, 1, 2], [1, 1, 0, 1], [1, 1, 0, 1], [2, 0, 1, 2], [0, 2, 1, 0], [0, 0, 1, 0], [0, 0, 1, 0]]
def cyT : List (List Nat) := [[0, 0, 2, 0], [0, 0, 2, 0], [0, 4, 2, 0], [4, 0, 2, 4], [2, 2, 0, 2], [2, 2, 0, 2], [4, 0, 2, 4], [0, 4, 2, 0], [0, 0, 2, 0], [0, 0, 2, 0], [0, 4, 2, 0], [4, 0, 2, 4], [2, 2, 0, 2], [2, 2, 0, 2], [4, 0, 2, 4], [0, 4, 2, 0], [0, 0, 2, 0], [0, 0, 2, 0], [0, 2, 0, 0], [2, 0, 2, 2], [2, 2, 0, 2], [2, 2, 0, 2], [2, 0, 2, 2], [0, 2, 0, 0], [0, 1, 2, 1], [0, 1, 2, 1], [1, 2, 1, 0], [1, 0, 1, 2], [2, 1, 0, 1], [2, 1, 0, 1], [1, 0, 1, 2], [1, 2, 1, 0], [0, 0, 1, 1], [0, 0, 1, 1], [0, 2, 3, 1], [3, 1, 0, 2], [1, 1, 0, 0], [1, 1, 0, 0], [3, 1, 0, 2], [0, 2, 3, 1], [0, 0, 1, 0], [0, 0, 1, 0], [0, 2, 1, 0], [2, 0, 1, 2], [1, 1, 0, 1], [1, 1, 0, 1], [2, 0, 1, 2], [0, 2, 1, 0], [0, 0, 1, 0], [0, 0, 1, 0], [0, 2, 1, 0], [2, 0, 1, 2], [1, 1, 0, 1], [1, 1, 0, 1], [2, 0, 1, 2], [0, 2, 1, 0]]
def fS (i q : Nat) : Bool := (fmT.getD i 0).testBit q
def fW (i : Nat) : Nat := fwT.getD i 0
def fH (i : Nat) : Nat := fhT.getD i 0
def fN (i : Nat) : Nat := fnT.getD i 0
/-- 1 if no form ahead of it is the same -/
def fV (i : Nat) : Nat := fvT.getD i 0
def fC (i : Nat) : Nat := fcT.getD i 0
def cX (i c : Nat) : Nat := (cxT.getD i []).getD c 0
def cY (i c : Nat) : Nat := (cyT.getD i []).getD c 0
theorem lo_congr {f g : Nat → Bool} : ∀ {n : Nat}, (∀ i, i < n → f i = g i) → lo f n = lo g n
  | 0, _ => rfl
  | n + 1, h => by
    rw [lo_s, lo_s, h n (by omega), lo_congr (n := n) (fun i hi => h i (by omega)), cn_congr n (fun i hi => h i (by omega))]
theorem lw_congr {f g : Nat → Bool} : ∀ {n : Nat}, (∀ i, i < n → f i = g i) → lw f n = lw g n
  | 0, _ => rfl
  | n + 1, h => by
    rw [lw_s, lw_s, h n (by omega), lw_congr (n := n) (fun i hi => h i (by omega)), lo_congr (n := n + 1) h]
/-- what occupies rows and columns, to be computed -/
def rowB (S : Nat → Bool) (y : Nat) : Bool := (List.range 48).any fun i => S (48 * y + i)
def colB (S : Nat → Bool) (x : Nat) : Bool := (List.range 12).any fun y => (List.range 4).any fun k => S (48 * y + 4 * x + k)
theorem rowO_B (S : Nat → Bool) (y : Nat) : rowO S y = rowB S y := by
  apply Bool.eq_iff_iff.mpr
  rw [rowO, dc_iff, rowB, List.any_eq_true]
  constructor
  · rintro ⟨i, hi, h⟩
    exact ⟨i, List.mem_range.mpr hi, h⟩
  · rintro ⟨i, hi, h⟩
    exact ⟨i, List.mem_range.mp hi, h⟩
theorem colO_B (S : Nat → Bool) (x : Nat) : colO S x = colB S x := by
  apply Bool.eq_iff_iff.mpr
  rw [colO, dc_iff, colB, List.any_eq_true]
  constructor
  · rintro ⟨y, hy, k, hk, h⟩
    exact ⟨y, List.mem_range.mpr hy, List.any_eq_true.mpr ⟨k, List.mem_range.mpr hk, h⟩⟩
  · rintro ⟨y, hy, h⟩
    obtain ⟨k, hk, h⟩ := List.any_eq_true.mp h
    exact ⟨y, List.mem_range.mp hy, k, List.mem_range.mp hk, h⟩
theorem fm_box : (List.range 56).all (fun i => decide (lo (rowB (fS i)) 12 = 0 ∧ lw (rowB (fS i)) 12 = fH i ∧ lo (colB (fS i)) 12 = 0 ∧ lw (colB (fS i)) 12 = fW i ∧ cn (fS i) 576 = fN i)) = true := by decide +kernel
theorem fS_box {i : Nat} (hi : i < 56) : tp (fS i) = 0 ∧ hg (fS i) = fH i ∧ lt (fS i) = 0 ∧ wd (fS i) = fW i ∧ cn (fS i) 576 = fN i := by
  have h := of_decide_eq_true (List.all_eq_true.mp fm_box i (List.mem_range.mpr hi))
  obtain ⟨h1, h2, h3, h4, h5⟩ := h
  unfold tp hg lt wd
  rw [lo_congr (fun y _ => rowO_B (fS i) y), lw_congr (fun y _ => rowO_B (fS i) y), lo_congr (fun y _ => colO_B (fS i) y), lw_congr (fun y _ => colO_B (fS i) y), h1, h2, h3, h4]
  exact ⟨rfl, by omega, rfl, by omega, h5⟩
theorem fm_dim : (List.range 56).all (fun i => decide (1 ≤ fW i ∧ fW i ≤ 4 ∧ 1 ≤ fH i ∧ fH i ≤ 4 ∧ fmT.getD i 0 < 2 ^ 192 ∧ fV i ≤ 1)) = true := by decide +kernel
theorem fW_b {i : Nat} (hi : i < 56) : 1 ≤ fW i ∧ fW i ≤ 4 ∧ 1 ≤ fH i ∧ fH i ≤ 4 ∧ fmT.getD i 0 < 2 ^ 192 ∧ fV i ≤ 1 := of_decide_eq_true (List.all_eq_true.mp fm_dim i (List.mem_range.mpr hi))
theorem fS_lt {i q : Nat} (hi : i < 56) (h : fS i q = true) : q < 192 := by
  apply Classical.byContradiction
  intro c
  have h1 : (fmT.getD i 0).testBit q = false := Nat.testBit_lt_two_pow (Nat.lt_of_lt_of_le (fW_b hi).2.2.2.2.1 (Nat.pow_le_pow_right (by decide) (by omega)))
  unfold fS at h
  rw [h1] at h
  cases h
theorem fS_in {i q : Nat} (hi : i < 56) (h : fS i q = true) : q / 48 < fH i ∧ q % 48 < 4 * fW i := by
  have h1 := fS_lt hi h
  have hb := fS_box hi
  have := in_box (S := fS i) (y := q / 48) (i := q % 48) (by omega) (by omega) (by rw [show 48 * (q / 48) + q % 48 = q by omega]; exact h)
  omega
theorem fS_Bx {i x y : Nat} (hi : i < 56) (hx : x + fW i ≤ 12) (hy : y + fH i ≤ 12) : Bx (fS i) x y := fun q hq => by
  have := fS_in hi hq
  omega
/-- the forms stand in the heap -/
def FormOK (I : ZI) (L : ZL) : Prop := ∀ i : Nat, i < 56 → RgS L (5 + 5 * i) (fS i) ∧ RgM I (5 + 5 * i) (fS i) ∧ I (2 + 5 * i) 0 = fC i ∧ I (2 + 5 * i) 4 = fq (fS i) ∧ I (2 + 5 * i) 5 = fV i ∧ ∀ c : Nat, c < 4 → I (3 + 5 * i) c = cX i c ∧ I (4 + 5 * i) c = cY i c
theorem FormOK.fr {I I' : ZI} {L L' : ZL} (h : FormOK I L) (h1 : ∀ a b, 2 ≤ a → a < 282 → I' a b = I a b) (h2 : ∀ a b, 2 ≤ a → a < 282 → L' a b = L a b) : FormOK I' L' := by
  intro i hi
  obtain ⟨a1, a2, a3, a4, a5, a6⟩ := h i hi
  refine ⟨a1.row (fun j => h2 _ _ (by omega) (by omega)), a2.row (fun j => h1 _ _ (by omega) (by omega)), ?_, ?_, ?_, fun c hc => ?_⟩
  · rw [h1 _ _ (by omega) (by omega)]; exact a3
  · rw [h1 _ _ (by omega) (by omega)]; exact a4
  · rw [h1 _ _ (by omega) (by omega)]; exact a5
  · rw [h1 _ _ (by omega) (by omega), h1 _ _ (by omega) (by omega)]; exact a6 c hc
theorem za_fm0 : (List.range 56).all (fun i => decide (za 1 i = 2 + 5 * i + 1 ∧ za (2 + 5 * i) 1 = 2 + 5 * i + 2 ∧ za (2 + 5 * i) 2 = 2 + 5 * i + 3 ∧ za (2 + 5 * i) 3 = 2 + 5 * i + 4 ∧ za (5 + 5 * i) 0 = 5 + 5 * i + 2)) = true := by decide +kernel
theorem za_fm {i : Nat} (hi : i < 56) : za 1 i = 2 + 5 * i + 1 ∧ za (2 + 5 * i) 1 = 2 + 5 * i + 2 ∧ za (2 + 5 * i) 2 = 2 + 5 * i + 3 ∧ za (2 + 5 * i) 3 = 2 + 5 * i + 4 ∧ za (5 + 5 * i) 0 = 5 + 5 * i + 2 := of_decide_eq_true (List.all_eq_true.mp za_fm0 i (List.mem_range.mpr hi))
/-- a state's references -/
def stR : List Nat := [282, 305, 327, 349, 371, 393, 415, 437, 459, 482, 504, 581]
theorem za_st0 : stR.all (fun s => (decide (za s 2 = s + 2 ∧ za s 3 = s + 6 ∧ za (s + 1) 0 = s + 3 ∧ za (s + 1) 1 = s + 4 ∧ za (s + 1) 2 = s + 5)) && (List.range 8).all (fun k => decide (za (s + 5) k = s + 6 + 2 * k + 1 ∧ za (s + 6 + 2 * k) 0 = s + 6 + 2 * k + 2))) = true := by decide +kernel
theorem za_st {s : Nat} (h : s ∈ stR) : za s 2 = s + 2 ∧ za s 3 = s + 6 ∧ za (s + 1) 0 = s + 3 ∧ za (s + 1) 1 = s + 4 ∧ za (s + 1) 2 = s + 5 := of_decide_eq_true ((Bool.and_eq_true_iff.mp (List.all_eq_true.mp za_st0 s h)).1)
theorem za_sh {s : Nat} (h : s ∈ stR) {k : Nat} (hk : k < 8) : za (s + 5) k = s + 6 + 2 * k + 1 ∧ za (s + 6 + 2 * k) 0 = s + 6 + 2 * k + 2 := of_decide_eq_true (List.all_eq_true.mp ((Bool.and_eq_true_iff.mp (List.all_eq_true.mp za_st0 s h)).2) k (List.mem_range.mpr hk))
theorem st_rng {s : Nat} (h : s ∈ stR) : 282 ≤ s ∧ s ≤ 581 ∧ (s + 21 < 304 ∨ (304 < s ∧ s + 21 < 527) ∨ 578 < s) := by
  have : stR.all (fun s => decide (282 ≤ s ∧ s ≤ 581 ∧ (s + 21 < 304 ∨ (304 < s ∧ s + 21 < 527) ∨ 578 < s))) = true := by decide +kernel
  exact of_decide_eq_true (List.all_eq_true.mp this s h)
