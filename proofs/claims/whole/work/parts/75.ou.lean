/-! OUTLINES, 1: borders, by computing -/
def cq (x y k : Int) : Int := if 0 ≤ x ∧ x < 12 ∧ 0 ≤ y ∧ y < 12 then 48 * y + 4 * x + k else -1
/-- the quarter in a sector around a point, from a direction on to the next one; -1: none -/
def sct (p d : Nat) : Int :=
  let px := p % 25
  let py := p / 25
  let X : Int := ((px / 2 : Nat) : Int)
  let Y : Int := ((py / 2 : Nat) : Int)
  if px % 2 = 0 ∧ py % 2 = 0 then
    (match d with
    | 0 => cq X Y 0
    | 1 => cq X Y 3
    | 2 => cq (X - 1) Y 1
    | 3 => cq (X - 1) Y 0
    | 4 => cq (X - 1) (Y - 1) 2
    | 5 => cq (X - 1) (Y - 1) 1
    | 6 => cq X (Y - 1) 3
    | _ => cq X (Y - 1) 2)
  else if px % 2 = 1 ∧ py % 2 = 1 then
    (match d with
    | 0 => cq X Y 1
    | 1 => cq X Y 2
    | 2 => cq X Y 2
    | 3 => cq X Y 3
    | 4 => cq X Y 3
    | 5 => cq X Y 0
    | 6 => cq X Y 0
    | _ => cq X Y 1)
  else -1
/-- a side's border: 8 times the point where it begins, and its direction -/
def bd (q s : Nat) : Nat :=
  let k := q % 4
  let x := 2 * (q % 48 / 4)
  let y := 2 * (q / 48)
  if s = 2 then 8 * (25 * (y + 1) + (x + 1)) + (2 * k + 5) % 8 else
    let c := (k + s) % 4
    8 * (25 * (if 2 ≤ c then y + 2 else y) + (if c = 1 ∨ c = 2 then x + 2 else x)) + (2 * k + 3 * s) % 8
/-- where a border ends -/
def enp (e : Nat) : Nat := (((e / 8 : Nat) : Int) + (if e % 2 = 0 then 2 else 1) * (25 * dY ((e % 8 : Nat) : Int) + dX ((e % 8 : Nat) : Int))).toNat
theorem bd_ok0 : (List.range 576).all (fun q => (List.range 3).all fun s => decide (bd q s < 5000 ∧ sct (bd q s / 8) (bd q s % 8) = q ∧ sct (bd q s / 8) ((bd q s % 8 + 7) % 8) = nb q s ∧ enp (bd q s) < 625 ∧ sct (enp (bd q s)) ((bd q s % 8 + 3) % 8) = q ∧ sct (enp (bd q s)) ((bd q s % 8 + 4) % 8) = nb q s ∧ ((enp (bd q s) : Nat) : Int) = ((bd q s / 8 : Nat) : Int) + (if bd q s % 2 = 0 then 2 else 1) * (25 * dY ((bd q s % 8 : Nat) : Int) + dX ((bd q s % 8 : Nat) : Int)))) = true := by decide +kernel
theorem bd_ok {q s : Nat} (hq : q < 576) (hs : s < 3) : bd q s < 5000 ∧ sct (bd q s / 8) (bd q s % 8) = q ∧ sct (bd q s / 8) ((bd q s % 8 + 7) % 8) = nb q s ∧ enp (bd q s) < 625 ∧ sct (enp (bd q s)) ((bd q s % 8 + 3) % 8) = q ∧ sct (enp (bd q s)) ((bd q s % 8 + 4) % 8) = nb q s ∧ ((enp (bd q s) : Nat) : Int) = ((bd q s / 8 : Nat) : Int) + (if bd q s % 2 = 0 then 2 else 1) * (25 * dY ((bd q s % 8 : Nat) : Int) + dX ((bd q s % 8 : Nat) : Int)) := of_decide_eq_true (List.all_eq_true.mp (List.all_eq_true.mp bd_ok0 q (List.mem_range.mpr hq)) s (List.mem_range.mpr hs))
theorem sct_ok0 : (List.range 5000).all (fun e => decide (0 ≤ sct (e / 8) (e % 8) → sct (e / 8) (e % 8) ≠ sct (e / 8) ((e % 8 + 7) % 8) → sct (e / 8) (e % 8) < 576 ∧ ((bd (sct (e / 8) (e % 8)).toNat 0 = e ∧ nb (sct (e / 8) (e % 8)) 0 = sct (e / 8) ((e % 8 + 7) % 8)) ∨ (bd (sct (e / 8) (e % 8)).toNat 1 = e ∧ nb (sct (e / 8) (e % 8)) 1 = sct (e / 8) ((e % 8 + 7) % 8)) ∨ (bd (sct (e / 8) (e % 8)).toNat 2 = e ∧ nb (sct (e / 8) (e % 8)) 2 = sct (e / 8) ((e % 8 + 7) % 8))))) = true := by decide +kernel
theorem sct_ok {e : Nat} (he : e < 5000) (h0 : 0 ≤ sct (e / 8) (e % 8)) (h1 : sct (e / 8) (e % 8) ≠ sct (e / 8) ((e % 8 + 7) % 8)) : ∃ q s : Nat, q < 576 ∧ s < 3 ∧ sct (e / 8) (e % 8) = q ∧ bd q s = e ∧ nb q s = sct (e / 8) ((e % 8 + 7) % 8) := by
  have h := of_decide_eq_true (List.all_eq_true.mp sct_ok0 e (List.mem_range.mpr he)) h0 h1
  obtain ⟨q, hq⟩ := Int.eq_ofNat_of_zero_le h0
  rw [hq] at h ⊢
  obtain ⟨h2, h | h | h⟩ := h
  · exact ⟨q, 0, by omega, by omega, rfl, h.1, h.2⟩
  · exact ⟨q, 1, by omega, by omega, rfl, h.1, h.2⟩
  · exact ⟨q, 2, by omega, by omega, rfl, h.1, h.2⟩
/-- filled, of a quarter or none -/
def fil (O : Nat → Bool) (q : Int) : Bool := decide (0 ≤ q) && O q.toNat
/-- the borders of a set -/
noncomputable def bs (O : Nat → Bool) (e : Nat) : Bool := dc (∃ q s : Nat, q < 576 ∧ s < 3 ∧ O q = true ∧ fil O (nb q s) = false ∧ bd q s = e)
theorem fil_n (O : Nat → Bool) (q : Nat) : fil O (q : Int) = O q := by
  unfold fil
  simp
theorem bs_lt {O : Nat → Bool} {e : Nat} (h : bs O e = true) : e < 5000 := by
  rw [bs, dc_iff] at h
  obtain ⟨q, s, hq, hs, _, _, rfl⟩ := h
  exact (bd_ok hq hs).1
theorem bs_F {O : Nat → Bool} {e : Nat} (he : e < 5000) : bs O e = (fil O (sct (e / 8) (e % 8)) && !fil O (sct (e / 8) ((e % 8 + 7) % 8))) := by
  apply Bool.eq_iff_iff.mpr
  rw [bs, dc_iff, Bool.and_eq_true, Bool.not_eq_true']
  constructor
  · rintro ⟨q, s, hq, hs, hO, hn, rfl⟩
    obtain ⟨_, h1, h2, _⟩ := bd_ok hq hs
    rw [h1, h2, fil_n]
    exact ⟨hO, hn⟩
  · rintro ⟨h1, h2⟩
    have h0 : 0 ≤ sct (e / 8) (e % 8) := by
      unfold fil at h1
      rw [Bool.and_eq_true, decide_eq_true_iff] at h1
      exact h1.1
    obtain ⟨q, s, hq, hs, h3, h4, h5⟩ := sct_ok he h0 (fun c => by rw [c, h2] at h1; cases h1)
    rw [h3, fil_n] at h1
    rw [← h5] at h2
    exact ⟨q, s, hq, hs, h1, h2, h4⟩
theorem bs_end {O : Nat → Bool} {e : Nat} (h : bs O e = true) : enp e < 625 ∧ fil O (sct (enp e) ((e % 8 + 3) % 8)) = true ∧ fil O (sct (enp e) ((e % 8 + 4) % 8)) = false ∧ ((enp e : Nat) : Int) = ((e / 8 : Nat) : Int) + (if e % 2 = 0 then 2 else 1) * (25 * dY ((e % 8 : Nat) : Int) + dX ((e % 8 : Nat) : Int)) := by
  rw [bs, dc_iff] at h
  obtain ⟨q, s, hq, hs, hO, hn, rfl⟩ := h
  obtain ⟨_, _, _, h3, h4, h5, h6⟩ := bd_ok hq hs
  exact ⟨h3, by rw [h4, fil_n]; exact hO, by rw [h5]; exact hn, h6⟩
/-- of the directions in which borders begin at a point, the one with the sharpest turn to the right, behind one of direction d -/
def srch (f : Nat → Bool) (d : Nat) : Nat → Nat
  | 0 => d
  | r + 1 => bif f ((r + d + 5) % 8) then (r + d + 5) % 8 else srch f d r
def nxd (f : Nat → Bool) (d : Nat) : Nat := srch f d 8
theorem srch_congr {f g : Nat → Bool} (h : ∀ i, i < 8 → f i = g i) (d : Nat) : ∀ r, srch f d r = srch g d r
  | 0 => rfl
  | r + 1 => by
    show (bif f ((r + d + 5) % 8) then _ else _) = (bif g ((r + d + 5) % 8) then _ else _)
    rw [h _ (Nat.mod_lt _ (by decide)), srch_congr h d r]
def stm (m i : Nat) : Bool := m.testBit i && !m.testBit ((i + 7) % 8)
theorem nxd_all : (List.range 256).all (fun m => (List.range 8).all fun d => !(m.testBit ((d + 3) % 8) && !m.testBit ((d + 4) % 8)) || (decide (nxd (stm m) d < 8) && stm m (nxd (stm m) d) && (List.range 8).all fun d2 => !(m.testBit ((d2 + 3) % 8) && !m.testBit ((d2 + 4) % 8)) || !(decide (nxd (stm m) d = nxd (stm m) d2)) || decide (d = d2))) = true := by decide +kernel
theorem mask8 : ∀ a b c d e f g h : Bool, (List.range 8).all (fun i => decide (((bif a then 1 else 0) + (bif b then 2 else 0) + (bif c then 4 else 0) + (bif d then 8 else 0) + (bif e then 16 else 0) + (bif f then 32 else 0) + (bif g then 64 else 0) + (bif h then 128 else 0) : Nat).testBit i = [a, b, c, d, e, f, g, h].getD i false)) = true ∧ ((bif a then 1 else 0) + (bif b then 2 else 0) + (bif c then 4 else 0) + (bif d then 8 else 0) + (bif e then 16 else 0) + (bif f then 32 else 0) + (bif g then 64 else 0) + (bif h then 128 else 0) : Nat) < 256 := by decide +kernel
theorem mask_ex (f : Nat → Bool) : ∃ m, m < 256 ∧ ∀ i, i < 8 → m.testBit i = f i := by
  obtain ⟨h1, h2⟩ := mask8 (f 0) (f 1) (f 2) (f 3) (f 4) (f 5) (f 6) (f 7)
  refine ⟨_, h2, fun i hi => ?_⟩
  have h := of_decide_eq_true (List.all_eq_true.mp h1 i (List.mem_range.mpr hi))
  rw [h]
  match i, hi with
  | 0, _ => rfl
  | 1, _ => rfl
  | 2, _ => rfl
  | 3, _ => rfl
  | 4, _ => rfl
  | 5, _ => rfl
  | 6, _ => rfl
  | 7, _ => rfl
  | i + 8, h => omega
/-- the border behind a border -/
noncomputable def nxb (O : Nat → Bool) (e : Nat) : Nat := 8 * enp e + nxd (fun d => bs O (8 * enp e + d)) (e % 8)
theorem nxb_local {O : Nat → Bool} {p : Nat} (hp : p < 625) : ∃ m, m < 256 ∧ (∀ i, i < 8 → m.testBit i = fil O (sct p i)) ∧ ∀ d, nxd (fun d => bs O (8 * p + d)) d = nxd (stm m) d := by
  obtain ⟨m, h1, h2⟩ := mask_ex (fun d => fil O (sct p d))
  refine ⟨m, h1, h2, fun d => srch_congr (fun i hi => ?_) d 8⟩
  rw [bs_F (by omega)]
  unfold stm
  rw [h2 i hi, h2 _ (Nat.mod_lt _ (by decide)), show (8 * p + i) / 8 = p by omega, show (8 * p + i) % 8 = i by omega]
theorem nxb_in {O : Nat → Bool} {e : Nat} (h : bs O e = true) : bs O (nxb O e) = true ∧ nxb O e / 8 = enp e ∧ nxb O e % 8 = nxd (fun d => bs O (8 * enp e + d)) (e % 8) := by
  obtain ⟨h1, h2, h3, _⟩ := bs_end h
  obtain ⟨m, m1, m2, m3⟩ := nxb_local (O := O) h1
  have ha := List.all_eq_true.mp (List.all_eq_true.mp nxd_all m (List.mem_range.mpr m1)) (e % 8) (List.mem_range.mpr (Nat.mod_lt _ (by decide)))
  rw [m2 _ (Nat.mod_lt _ (by decide)), m2 _ (Nat.mod_lt _ (by decide)), h2, h3] at ha
  simp only [Bool.not_false, Bool.and_self, Bool.not_true, Bool.false_or, Bool.and_eq_true, decide_eq_true_iff] at ha
  obtain ⟨⟨a1, a2⟩, _⟩ := ha
  unfold nxb
  rw [m3]
  refine ⟨?_, by omega, by omega⟩
  rw [bs_F (by omega), show (8 * enp e + nxd (stm m) (e % 8)) / 8 = enp e by omega, show (8 * enp e + nxd (stm m) (e % 8)) % 8 = nxd (stm m) (e % 8) by omega]
  have a3 : (m.testBit (nxd (stm m) (e % 8)) && !m.testBit ((nxd (stm m) (e % 8) + 7) % 8)) = true := a2
  rw [m2 _ a1, m2 _ (Nat.mod_lt _ (by decide))] at a3
  exact a3
theorem nxb_inj {O : Nat → Bool} {e e2 : Nat} (h : bs O e = true) (h' : bs O e2 = true) (he : nxb O e = nxb O e2) : e = e2 := by
  obtain ⟨h1, h2, h3, h4⟩ := bs_end h
  obtain ⟨k1, k2, k3, k4⟩ := bs_end h'
  obtain ⟨_, p1, p2⟩ := nxb_in h
  obtain ⟨_, r1, r2⟩ := nxb_in h'
  have ep : enp e = enp e2 := by rw [← p1, ← r1, he]
  obtain ⟨m, m1, m2, m3⟩ := nxb_local (O := O) h1
  have ha := List.all_eq_true.mp (List.all_eq_true.mp nxd_all m (List.mem_range.mpr m1)) (e % 8) (List.mem_range.mpr (Nat.mod_lt _ (by decide)))
  rw [m2 _ (Nat.mod_lt _ (by decide)), m2 _ (Nat.mod_lt _ (by decide)), h2, h3] at ha
  simp only [Bool.not_false, Bool.and_self, Bool.not_true, Bool.false_or, Bool.and_eq_true] at ha
  have hb := List.all_eq_true.mp ha.2 (e2 % 8) (List.mem_range.mpr (Nat.mod_lt _ (by decide)))
  rw [← ep] at k2 k3 r2
  rw [m2 _ (Nat.mod_lt _ (by decide)), m2 _ (Nat.mod_lt _ (by decide)), k2, k3] at hb
  rw [m3] at p2 r2
  have e3 : nxd (stm m) (e % 8) = nxd (stm m) (e2 % 8) := by rw [← p2, ← r2, he]
  rw [e3] at hb
  simp only [Bool.not_false, Bool.and_self, Bool.not_true, Bool.false_or, decide_true, decide_eq_true_iff] at hb
  have e5 : e % 2 = e2 % 2 := by omega
  rw [ep, k4, ← hb, ← e5] at h4
  omega
theorem cn_drop {f g : Nat → Bool} {k : Nat} (h : ∀ i, f i = true → g i = true ∨ i = k) : ∀ n, cn f n ≤ cn g n + (if k < n then 1 else 0)
  | 0 => by simp [cn]
  | n + 1 => by
    have ih := cn_drop h n
    rw [cn_s, cn_s]
    by_cases e : k = n
    · subst e
      rw [if_neg (by omega)] at ih
      rw [if_pos (by omega)]
      cases f k <;> cases g k <;> simp only [cond_true, cond_false] <;> omega
    · have e2 : (k < n + 1) ↔ (k < n) := by omega
      simp only [e2]
      cases hf : f n with
      | false => cases g n <;> simp only [cond_true, cond_false] <;> omega
      | true =>
        rcases h n hf with hg | hg
        · rw [hg]; simp only [cond_true]; omega
        · omega
theorem cn_image {g : Nat → Nat} : ∀ {m : Nat} {D B : Nat → Bool} {n : Nat}, (∀ e, e < n → B e = true → ∃ i, i < m ∧ D i = true ∧ g i = e) → cn B n ≤ cn D m
  | 0, D, B, n, h => by
    rw [cn_false (n := n) (fun i hi => by
      cases hb : B i with
      | false => rfl
      | true => obtain ⟨j, hj, _⟩ := h i hi hb; omega)]
    exact Int.le_refl 0
  | m + 1, D, B, n, h => by
    rw [cn_s]
    cases hd : D m with
    | false =>
      have := cn_image (g := g) (m := m) (D := D) (B := B) (n := n) (fun e he hb => by
        obtain ⟨i, i1, i2, i3⟩ := h e he hb
        refine ⟨i, ?_, i2, i3⟩
        by_cases c : i = m
        · rw [c, hd] at i2; cases i2
        · omega)
      simp only [cond_false]
      omega
    | true =>
      have := cn_image (g := g) (m := m) (D := D) (B := fun e => B e && !decide (e = g m)) (n := n) (fun e he hb => by
        simp only [Bool.and_eq_true, Bool.not_eq_true', decide_eq_false_iff_not] at hb
        obtain ⟨i, i1, i2, i3⟩ := h e he hb.1
        refine ⟨i, ?_, i2, i3⟩
        by_cases c : i = m
        · rw [c] at i3; exact (hb.2 i3.symm).elim
        · omega)
      have h2 := cn_drop (f := B) (g := fun e => B e && !decide (e = g m)) (k := g m) (fun i hi => by
        by_cases c : i = g m
        · exact Or.inr c
        · exact Or.inl (by simp [hi, c])) n
      simp only [cond_true]
      split at h2 <;> omega
theorem cn_third (O : Nat → Bool) : ∀ n, cn (fun i => O (i / 3)) (3 * n) = 3 * cn O n
  | 0 => rfl
  | n + 1 => by
    rw [show 3 * (n + 1) = 3 * n + 1 + 1 + 1 by omega, cn_s, cn_s, cn_s, cn_third O n, cn_s, show 3 * n / 3 = n by omega, show (3 * n + 1) / 3 = n by omega, show (3 * n + 1 + 1) / 3 = n by omega]
    cases O n <;> simp only [cond_true, cond_false] <;> omega
theorem bs_count (O : Nat → Bool) : cn (bs O) 5000 ≤ 3 * cn O 576 := by
  rw [← cn_third O 576]
  refine cn_image (g := fun i => bd (i / 3) (i % 3)) (fun e he hb => ?_)
  rw [bs, dc_iff] at hb
  obtain ⟨q, s, hq, hs, hO, _, h2⟩ := hb
  refine ⟨3 * q + s, by omega, ?_, ?_⟩
  · rw [show (3 * q + s) / 3 = q by omega]; exact hO
  · show bd ((3 * q + s) / 3) ((3 * q + s) % 3) = e
    rw [show (3 * q + s) / 3 = q by omega, show (3 * q + s) % 3 = s by omega]; exact h2
