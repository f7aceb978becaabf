/-! FRAMES, SETS OF QUARTERS -/
theorem v2_ap (f : ZI) (r : Nat) (i v : Int) (a : Nat) (b : Int) : v2 f r i v a b = if a = r ∧ b = i then v else f a b := rfl
theorem w2_ap (f : ZL) (r : Nat) (i : Int) (v : Int64) (a : Nat) (b : Int) : w2 f r i v a b = if a = r ∧ b = i then v else f a b := rfl
theorem zur_ap {α : Type} (f : Nat → Int → α) (r : Nat) (g : Int → α) (a : Nat) (b : Int) : zur f r g a b = if a = r then g b else f a b := by
  unfold zur
  split <;> rfl
theorem v2_eq (f : ZI) (r : Nat) (i v : Int) : v2 f r i v r i = v := if_pos ⟨rfl, rfl⟩
theorem v2_ne {f : ZI} {r : Nat} {i v : Int} {a : Nat} {b : Int} (h : ¬ (a = r ∧ b = i)) : v2 f r i v a b = f a b := if_neg h
theorem w2_eq (f : ZL) (r : Nat) (i : Int) (v : Int64) : w2 f r i v r i = v := if_pos ⟨rfl, rfl⟩
theorem w2_ne {f : ZL} {r : Nat} {i : Int} {v : Int64} {a : Nat} {b : Int} (h : ¬ (a = r ∧ b = i)) : w2 f r i v a b = f a b := if_neg h
/-- nothing but P has changed -/
def Fr {α : Type} (P : Nat → Int → Prop) (f g : Nat → Int → α) : Prop := ∀ a b, ¬ P a b → g a b = f a b
theorem Fr.refl {α : Type} {P : Nat → Int → Prop} (f : Nat → Int → α) : Fr P f f := fun _ _ _ => rfl
theorem Fr.trans {α : Type} {P : Nat → Int → Prop} {f g h : Nat → Int → α} (h1 : Fr P f g) (h2 : Fr P g h) : Fr P f h := fun a b c => (h2 a b c).trans (h1 a b c)
theorem Fr.mono {α : Type} {P P' : Nat → Int → Prop} {f g : Nat → Int → α} (h1 : Fr P f g) (h : ∀ a b, P a b → P' a b) : Fr P' f g := fun a b c => h1 a b (fun d => c (h a b d))
theorem Fr.v2 {P : Nat → Int → Prop} {f g : ZI} (h : Fr P f g) {r : Nat} {i v : Int} (hp : P r i) : Fr P f (v2 g r i v) := fun a b c => by
  rw [v2_ne (fun e => c (by rw [e.1, e.2]; exact hp))]
  exact h a b c
theorem Fr.w2 {P : Nat → Int → Prop} {f g : ZL} (h : Fr P f g) {r : Nat} {i : Int} {v : Int64} (hp : P r i) : Fr P f (w2 g r i v) := fun a b c => by
  rw [w2_ne (fun e => c (by rw [e.1, e.2]; exact hp))]
  exact h a b c
theorem Fr.zur {α : Type} {P : Nat → Int → Prop} {f g : Nat → Int → α} (h : Fr P f g) {r : Nat} {k : Int → α} (hp : ∀ i, P r i) : Fr P f (zur g r k) := fun a b c => by
  rw [zur_ap, if_neg (fun e => c (by rw [e]; exact hp b))]
  exact h a b c
noncomputable def dc (p : Prop) : Bool := @decide p (Classical.propDecidable p)
theorem dc_iff {p : Prop} : dc p = true ↔ p := @decide_eq_true_iff p (Classical.propDecidable p)
theorem dc_not {p : Prop} : dc p = false ↔ ¬ p := by
  have h := dc_iff (p := p)
  cases hd : dc p <;> rw [hd] at h <;> simp at h ⊢ <;> exact h
theorem dc_congr {p q : Prop} (h : p ↔ q) : dc p = dc q := by rw [propext h]
/-- the first place, and how far it is from there to the last one -/
def lo (f : Nat → Bool) : Nat → Int
  | 0 => 0
  | n + 1 => bif f n then (if cn f n = 0 then (n : Int) else lo f n) else lo f n
def lw (f : Nat → Bool) : Nat → Int
  | 0 => 0
  | n + 1 => bif f n then ((n : Int) + 1 - lo f (n + 1)) else lw f n
noncomputable def rowO (S : Nat → Bool) (y : Nat) : Bool := dc (∃ i, i < 48 ∧ S (48 * y + i) = true)
noncomputable def colO (S : Nat → Bool) (x : Nat) : Bool := dc (∃ y, y < 12 ∧ ∃ k, k < 4 ∧ S (48 * y + 4 * x + k) = true)
/-- the rows of a region hold a set -/
def RgS (L : ZL) (r : Nat) (S : Nat → Bool) : Prop := ∀ y : Nat, y < 12 → ∀ i, bt (L (r + 1) (y : Int)) i = (decide (i < 48) && S (48 * y + i))
/-- its numbers are the set's -/
def RgM (I : ZI) (r : Nat) (S : Nat → Bool) : Prop := I r 1 = cn S 576 ∧ I r 2 = lo (colO S) 12 ∧ I r 3 = lo (rowO S) 12 ∧ I r 4 = lw (colO S) 12 ∧ I r 5 = lw (rowO S) 12
theorem cn_s (f : Nat → Bool) (n : Nat) : cn f (n + 1) = cn f n + (bif f n then 1 else 0) := rfl
theorem lo_s (f : Nat → Bool) (n : Nat) : lo f (n + 1) = bif f n then (if cn f n = 0 then (n : Int) else lo f n) else lo f n := rfl
theorem lw_s (f : Nat → Bool) (n : Nat) : lw f (n + 1) = bif f n then ((n : Int) + 1 - lo f (n + 1)) else lw f n := rfl
theorem lo_bound (f : Nat → Bool) : ∀ n : Nat, 0 ≤ lo f n ∧ (lo f n < n ∨ lo f n = 0)
  | 0 => ⟨Int.le_refl 0, Or.inr rfl⟩
  | n + 1 => by
    have h := lo_bound f n
    rw [lo_s]
    cases f n
    · simp only [cond_false]; omega
    · simp only [cond_true]; split <;> omega
theorem lo_spec (f : Nat → Bool) : ∀ n : Nat, (cn f n = 0 ∧ lo f n = 0) ∨ (cn f n ≠ 0 ∧ ∃ k : Nat, k < n ∧ lo f n = k ∧ f k = true ∧ ∀ i, i < k → f i = false)
  | 0 => Or.inl ⟨rfl, rfl⟩
  | n + 1 => by
    have h0 := cn_nonneg f n
    have h := lo_spec f n
    rw [lo_s, cn_s]
    cases hf : f n with
    | false =>
      simp only [cond_false, Int.add_zero]
      rcases h with h | ⟨h1, k, h2, h3, h4, h5⟩
      · exact Or.inl h
      · exact Or.inr ⟨h1, k, by omega, h3, h4, h5⟩
    | true =>
      simp only [cond_true]
      refine Or.inr ⟨by omega, ?_⟩
      rcases h with h | ⟨h1, k, h2, h3, h4, h5⟩
      · rw [if_pos h.1]
        exact ⟨n, by omega, rfl, hf, fun i hi => cn_zero h.1 i hi⟩
      · rw [if_neg h1]
        exact ⟨k, by omega, h3, h4, h5⟩
theorem lw_spec (f : Nat → Bool) : ∀ n : Nat, (cn f n = 0 ∧ lw f n = 0) ∨ (cn f n ≠ 0 ∧ ∃ k : Nat, k < n ∧ lo f n + lw f n = k + 1 ∧ f k = true ∧ ∀ i, k < i → i < n → f i = false)
  | 0 => Or.inl ⟨rfl, rfl⟩
  | n + 1 => by
    have h0 := cn_nonneg f n
    have h := lw_spec f n
    rw [lw_s]
    cases hf : f n with
    | false =>
      have hl : lo f (n + 1) = lo f n := by rw [lo_s, hf]; rfl
      have hc : cn f (n + 1) = cn f n := by rw [cn_s, hf]; simp
      rw [hl, hc]
      simp only [cond_false]
      rcases h with h | ⟨h1, k, h2, h3, h4, h5⟩
      · exact Or.inl h
      · refine Or.inr ⟨h1, k, by omega, h3, h4, fun i hi hn => ?_⟩
        by_cases e : i = n
        · rw [e]; exact hf
        · exact h5 i hi (by omega)
    | true =>
      simp only [cond_true]
      refine Or.inr ⟨by rw [cn_s, hf]; simp only [cond_true]; omega, n, by omega, by omega, hf, fun i hi hn => by omega⟩
theorem lw_pos (f : Nat → Bool) (n : Nat) : 0 ≤ lw f n ∧ lo f n + lw f n ≤ n := by
  have hb := lo_bound f n
  rcases lo_spec f n with ⟨h1, h2⟩ | ⟨h1, j, j1, j2, j3, j4⟩ <;> rcases lw_spec f n with ⟨k1, k2⟩ | ⟨k1, k, k2, k3, k4, k5⟩
  · omega
  · exact (k1 h1).elim
  · exact (h1 k1).elim
  · have : j ≤ k := by
      apply Classical.byContradiction
      intro c
      have := j4 k (by omega)
      rw [k4] at this
      cases this
    omega
theorem popc_row {L : ZL} {r : Nat} {S : Nat → Bool} (h : RgS L r S) {y : Nat} (hy : y < 12) : popc (L (r + 1) y) = cn (fun i => S (48 * y + i)) 48 := by
  unfold popc
  rw [show (64 : Nat) = 48 + 16 from rfl, cn_add, cn_congr 48 (g := fun i => S (48 * y + i)) (fun i hi => by rw [h y hy]; simp [hi]), cn_false (n := 16) (fun i hi => by rw [h y hy]; simp; omega)]
  omega
theorem popc_bound (w : Int64) : 0 ≤ popc w ∧ popc w ≤ 64 := ⟨cn_nonneg _ _, cn_le _ 64⟩
theorem row_ne {L : ZL} {r : Nat} {S : Nat → Bool} (h : RgS L r S) {y : Nat} (hy : y < 12) : L (r + 1) y ≠ 0 ↔ rowO S y = true := by
  rw [bt_ne, rowO, dc_iff]
  constructor
  · rintro ⟨i, hi, hb⟩
    rw [h y hy, Bool.and_eq_true, decide_eq_true_iff] at hb
    exact ⟨i, hb.1, hb.2⟩
  · rintro ⟨i, hi, hb⟩
    exact ⟨i, by omega, by rw [h y hy, Bool.and_eq_true, decide_eq_true_iff]; exact ⟨hi, hb⟩⟩
theorem cn_rows (S : Nat → Bool) (y : Nat) : cn S (48 * (y + 1)) = cn S (48 * y) + cn (fun i => S (48 * y + i)) 48 := by
  rw [show 48 * (y + 1) = 48 * y + 48 from by omega, cn_add]
theorem rowO_cn {S : Nat → Bool} {y : Nat} : rowO S y = true ↔ cn (fun i => S (48 * y + i)) 48 ≠ 0 := by
  rw [rowO, dc_iff]
  constructor
  · rintro ⟨i, hi, hb⟩ h
    have h9 : S (48 * y + i) = false := cn_zero h i hi
    rw [hb] at h9
    cases h9
  · intro h
    apply Classical.byContradiction
    intro c
    refine h (cn_false fun i hi => ?_)
    cases hb : S (48 * y + i) with
    | false => rfl
    | true => exact (c ⟨i, hi, hb⟩).elim
theorem rowO_zero {S : Nat → Bool} : ∀ {y : Nat}, cn S (48 * y) = 0 ↔ cn (rowO S) y = 0
  | 0 => by simp [cn]
  | y + 1 => by
    have h0 := cn_nonneg S (48 * y)
    have h1 := cn_nonneg (rowO S) y
    have h2 := cn_nonneg (fun i => S (48 * y + i)) 48
    have h3 := rowO_zero (S := S) (y := y)
    have h4 := rowO_cn (S := S) (y := y)
    rw [cn_rows]
    show _ ↔ cn (rowO S) y + (bif rowO S y then 1 else 0) = 0
    cases hr : rowO S y with
    | false =>
      rw [hr] at h4
      simp only [cond_false]
      have : cn (fun i => S (48 * y + i)) 48 = 0 := Classical.byContradiction fun c => by simpa using h4.mpr c
      omega
    | true =>
      simp only [cond_true]
      have := h4.mp hr
      omega
theorem lw_zero (f : Nat → Bool) (n : Nat) : lw f n = 0 ↔ cn f n = 0 := by
  rcases lo_spec f n with ⟨h1, h2⟩ | ⟨h1, j, j1, j2, j3, j4⟩ <;> rcases lw_spec f n with ⟨k1, k2⟩ | ⟨k1, k, k2, k3, k4, k5⟩
  · omega
  · exact (k1 h1).elim
  · exact (h1 k1).elim
  · have := lw_pos f n
    have : j ≤ k := by
      apply Classical.byContradiction
      intro c
      have := j4 k (by omega)
      rw [k4] at this
      cases this
    constructor
    · intro e; omega
    · intro e; exact (h1 e).elim
theorem stp_f {f : Nat → Bool} {x : Nat} (h : f x = false) : lo f (x + 1) = lo f x ∧ lw f (x + 1) = lw f x := by
  rw [lw_s, lo_s, h]
  exact ⟨rfl, rfl⟩
theorem stp_0 {f : Nat → Bool} {x : Nat} (h : f x = true) (h0 : lw f x = 0) : lo f (x + 1) = x ∧ lw f (x + 1) = x + 1 - x := by
  have e : lo f (x + 1) = x := by rw [lo_s, h, cond_true, if_pos ((lw_zero f x).mp h0)]
  exact ⟨e, by rw [lw_s, h, cond_true, e]⟩
theorem stp_1 {f : Nat → Bool} {x : Nat} (h : f x = true) (h0 : ¬ lw f x = 0) : lo f (x + 1) = lo f x ∧ lw f (x + 1) = x + 1 - lo f x := by
  have e : lo f (x + 1) = lo f x := by rw [lo_s, h, cond_true, if_neg (fun c => h0 ((lw_zero f x).mpr c))]
  exact ⟨e, by rw [lw_s, h, cond_true, e]⟩
theorem l_ne_lt {w : Int64} (h : w < 0) : ¬ w = 0 := fun e => by rw [e] at h; exact Int64.lt_irrefl h
theorem l_ne_gt {w : Int64} (h : 0 < w) : ¬ w = 0 := fun e => by rw [e] at h; exact Int64.lt_irrefl h
