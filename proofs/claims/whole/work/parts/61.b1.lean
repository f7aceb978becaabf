/-! NUMBERS: counting, bits of longs, Long.bitCount -/
/-- how many of the first n -/
def cn (f : Nat → Bool) : Nat → Int
  | 0 => 0
  | n + 1 => cn f n + (bif f n then 1 else 0)
theorem cn_congr {f g : Nat → Bool} : ∀ n, (∀ i, i < n → f i = g i) → cn f n = cn g n
  | 0, _ => rfl
  | n + 1, h => by
    show cn f n + _ = cn g n + _
    rw [cn_congr n (fun i hi => h i (by omega)), h n (by omega)]
theorem cn_add (f : Nat → Bool) (n : Nat) : ∀ m, cn f (n + m) = cn f n + cn (fun i => f (n + i)) m
  | 0 => (Int.add_zero _).symm
  | m + 1 => by
    show cn f (n + m) + (bif f (n + m) then 1 else 0) = cn f n + (cn (fun i => f (n + i)) m + (bif f (n + m) then 1 else 0))
    rw [cn_add f n m]
    omega
theorem cn_nonneg (f : Nat → Bool) : ∀ n, 0 ≤ cn f n
  | 0 => Int.le_refl 0
  | n + 1 => by
    have := cn_nonneg f n
    show 0 ≤ cn f n + _
    cases f n <;> simp only [cond_true, cond_false] <;> omega
theorem cn_le (f : Nat → Bool) : ∀ n : Nat, cn f n ≤ n
  | 0 => Int.le_refl 0
  | n + 1 => by
    have := cn_le f n
    show cn f n + _ ≤ _
    cases f n <;> simp only [cond_true, cond_false] <;> omega
theorem cn_zero {f : Nat → Bool} : ∀ {n : Nat}, cn f n = 0 → ∀ i, i < n → f i = false
  | 0, _, i, hi => by omega
  | n + 1, h, i, hi => by
    have h0 := cn_nonneg f n
    have h1 : cn f n + (bif f n then 1 else 0) = 0 := h
    cases hf : f n with
    | true => rw [hf] at h1; simp only [cond_true] at h1; omega
    | false =>
      rw [hf] at h1
      simp only [cond_false] at h1
      by_cases e : i = n
      · rw [e]; exact hf
      · exact cn_zero (n := n) (by omega) i (by omega)
theorem cn_false {f : Nat → Bool} : ∀ {n : Nat}, (∀ i, i < n → f i = false) → cn f n = 0
  | 0, _ => rfl
  | n + 1, h => by
    show cn f n + (bif f n then 1 else 0) = 0
    rw [h n (by omega), cn_false (n := n) (fun i hi => h i (by omega))]
    rfl
def bt (w : Int64) (i : Nat) : Bool := w.toBitVec.getLsbD i
def n6 (w : Int64) : Nat := w.toBitVec.toNat
theorem n6_lt (w : Int64) : n6 w < 18446744073709551616 := w.toBitVec.isLt
theorem bt_n6 (w : Int64) (i : Nat) : (n6 w).testBit i = bt w i := rfl
theorem bt_ge {w : Int64} {i : Nat} (h : 64 ≤ i) : bt w i = false := BitVec.getLsbD_of_ge _ _ h
theorem bt_zero (i : Nat) : bt 0 i = false := by
  show (0#64).getLsbD i = false
  simp
theorem bt_ext {a b : Int64} (h : ∀ i, i < 64 → bt a i = bt b i) : a = b := Int64.toBitVec_inj.mp (BitVec.eq_of_getLsbD_eq h)
theorem bt_and (a b : Int64) (i : Nat) : bt (a &&& b) i = (bt a i && bt b i) := BitVec.getLsbD_and
theorem bt_or (a b : Int64) (i : Nat) : bt (a ||| b) i = (bt a i || bt b i) := BitVec.getLsbD_or
theorem bt_xor (a b : Int64) (i : Nat) : bt (a ^^^ b) i = (bt a i ^^ bt b i) := BitVec.getLsbD_xor
theorem l6_am : ∀ k, k < 64 → ((l6 (k : Nat)).toBitVec.smod 64).toNat = k ∧ ((l6 (k : Nat)).toUInt64.toBitVec % 64).toNat = k := by decide +kernel
theorem bt_shl (a : Int64) {k : Nat} (hk : k < 64) (i : Nat) : bt (zlsh a k) i = (decide (i < 64) && (!decide (i < k) && bt a (i - k))) := by
  show (a.toBitVec <<< ((l6 k).toBitVec.smod 64)).getLsbD i = _
  rw [BitVec.shiftLeft_eq', (l6_am k hk).1, BitVec.getLsbD_shiftLeft]
  cases decide (i < 64) <;> cases decide (i < k) <;> rfl
theorem bt_shr (a : Int64) {k : Nat} (hk : k < 64) (i : Nat) : bt (zlsr a k) i = bt a (k + i) := by
  show (a.toBitVec >>> ((l6 k).toUInt64.toBitVec % 64)).getLsbD i = _
  rw [BitVec.ushiftRight_eq', (l6_am k hk).2, BitVec.getLsbD_ushiftRight]
  rfl
theorem bt_ne {w : Int64} : w ≠ 0 ↔ ∃ i, i < 64 ∧ bt w i = true := by
  constructor
  · intro h
    apply Classical.byContradiction
    intro c
    apply h
    apply bt_ext
    intro i hi
    rw [bt_zero]
    cases hb : bt w i with
    | false => rfl
    | true => exact (c ⟨i, hi, hb⟩).elim
  · rintro ⟨i, _, hb⟩ rfl
    rw [bt_zero] at hb
    cases hb
def popc (w : Int64) : Int := cn (bt w) 64
/-! the sum by bytes -/
theorem and_split {p q r s : Nat} (hp : p < 256) (hr : r < 256) : (p + 256 * q) &&& (r + 256 * s) = (p &&& r) + 256 * (q &&& s) := by
  have h1 : ((p + 256 * q) &&& (r + 256 * s)) % 2 ^ 8 = p &&& r := by
    rw [Nat.and_mod_two_pow]
    congr 1 <;> omega
  have h2 : ((p + 256 * q) &&& (r + 256 * s)) / 2 ^ 8 = q &&& s := by
    rw [Nat.and_div_two_pow]
    congr 1 <;> omega
  omega
theorem sw1 : ∀ b, b < 256 → ∀ t, t < 2 → (b / 2 + 128 * t) &&& 85 = (b / 2) &&& 85 := by decide +kernel
theorem sw2 : ∀ b, b < 256 → ∀ t, t < 4 → (b / 4 + 64 * t) &&& 51 = (b / 4) &&& 51 := by decide +kernel
theorem sw3 : ∀ b, b < 69 → ∀ t, t < 5 → (b + b / 16 + 16 * t) &&& 15 = (b + b / 16) &&& 15 := by decide +kernel
def q1 (b : Nat) : Nat := b - ((b / 2) &&& 85)
def q2 (b : Nat) : Nat := (b &&& 51) + ((b / 4) &&& 51)
def q3 (b : Nat) : Nat := (b + b / 16) &&& 15
theorem st1 {b x m : Nat} (hb : b < 256) : (b + 256 * x) - (((b + 256 * x) / 2) &&& (85 + 256 * m)) = q1 b + 256 * (x - ((x / 2) &&& m)) := by
  have h1 : (b + 256 * x) / 2 = (b / 2 + 128 * (x % 2)) + 256 * (x / 2) := by omega
  rw [h1, and_split (by omega) (by omega), sw1 b hb (x % 2) (by omega)]
  have h2 : (b / 2) &&& 85 ≤ b / 2 := Nat.and_le_left
  have h3 : (x / 2) &&& m ≤ x / 2 := Nat.and_le_left
  unfold q1
  omega
theorem st2 {b x m : Nat} (hb : b < 256) : ((b + 256 * x) &&& (51 + 256 * m)) + (((b + 256 * x) / 4) &&& (51 + 256 * m)) = q2 b + 256 * ((x &&& m) + ((x / 4) &&& m)) := by
  have h1 : (b + 256 * x) / 4 = (b / 4 + 64 * (x % 4)) + 256 * (x / 4) := by omega
  rw [h1, and_split (by omega) (by omega), and_split (by omega) (by omega), sw2 b hb (x % 4) (by omega)]
  unfold q2
  omega
theorem st3 {b x m : Nat} (hb : b < 69) (hx : x % 16 < 5) : ((b + 256 * x) + (b + 256 * x) / 16) &&& (15 + 256 * m) = q3 b + 256 * ((x + x / 16) &&& m) := by
  have h1 : (b + 256 * x) + (b + 256 * x) / 16 = (b + b / 16 + 16 * (x % 16)) + 256 * (x + x / 16) := by omega
  rw [h1, and_split (by omega) (by omega), sw3 b hb (x % 16) (by omega)]
  rfl
theorem q_all : ∀ b, b < 256 → q1 b < 256 ∧ q2 (q1 b) < 69 ∧ q2 (q1 b) % 16 < 5 ∧ q3 (q2 (q1 b)) ≤ 8 ∧ ((q3 (q2 (q1 b)) : Nat) : Int) = cn (fun i => b.testBit i) 8 := by decide +kernel
theorem by_split {x : Nat} (n : Nat) : cn (fun i => x.testBit i) (8 + n) = ((q3 (q2 (q1 (x % 256))) : Nat) : Int) + cn (fun i => (x / 256).testBit i) n := by
  rw [cn_add, (q_all (x % 256) (by omega)).2.2.2.2]
  congr 1
  · apply cn_congr
    intro i hi
    show x.testBit i = (x % 2 ^ 8).testBit i
    rw [Nat.testBit_mod_two_pow]
    simp [hi]
  · apply cn_congr
    intro i hi
    show x.testBit (8 + i) = (x / 2 ^ 8).testBit i
    rw [Nat.testBit_div_two_pow, Nat.add_comm]
theorem dv (l n y : Nat) (h : l < n) : (l + n * y) / n = y := by rw [Nat.add_mul_div_left _ _ (by omega), Nat.div_eq_of_lt h, Nat.zero_add]
theorem sw_fold (c0 c1 c2 c3 c4 c5 c6 c7 : Nat) (g0 : c0 ≤ 8) (g1 : c1 ≤ 8) (g2 : c2 ≤ 8) (g3 : c3 ≤ 8) (g4 : c4 ≤ 8) (g5 : c5 ≤ 8) (g6 : c6 ≤ 8) (g7 : c7 ≤ 8) : (((c0 + 256 * (c1 + 256 * (c2 + 256 * (c3 + 256 * (c4 + 256 * (c5 + 256 * (c6 + 256 * c7)))))) + (c0 + 256 * (c1 + 256 * (c2 + 256 * (c3 + 256 * (c4 + 256 * (c5 + 256 * (c6 + 256 * c7))))))) / 256 + (c0 + 256 * (c1 + 256 * (c2 + 256 * (c3 + 256 * (c4 + 256 * (c5 + 256 * (c6 + 256 * c7)))))) + (c0 + 256 * (c1 + 256 * (c2 + 256 * (c3 + 256 * (c4 + 256 * (c5 + 256 * (c6 + 256 * c7))))))) / 256) / 65536 + (c0 + 256 * (c1 + 256 * (c2 + 256 * (c3 + 256 * (c4 + 256 * (c5 + 256 * (c6 + 256 * c7)))))) + (c0 + 256 * (c1 + 256 * (c2 + 256 * (c3 + 256 * (c4 + 256 * (c5 + 256 * (c6 + 256 * c7))))))) / 256 + (c0 + 256 * (c1 + 256 * (c2 + 256 * (c3 + 256 * (c4 + 256 * (c5 + 256 * (c6 + 256 * c7)))))) + (c0 + 256 * (c1 + 256 * (c2 + 256 * (c3 + 256 * (c4 + 256 * (c5 + 256 * (c6 + 256 * c7))))))) / 256) / 65536) / 4294967296) % 128 : Nat) : Int) = (c0 : Int) + ((c1 : Int) + ((c2 : Int) + ((c3 : Int) + ((c4 : Int) + ((c5 : Int) + ((c6 : Int) + ((c7 : Int) + 0))))))) := by
  rw [dv c0 256 _ (by omega)]
  have h2 : c0 + 256 * (c1 + 256 * (c2 + 256 * (c3 + 256 * (c4 + 256 * (c5 + 256 * (c6 + 256 * c7)))))) + (c1 + 256 * (c2 + 256 * (c3 + 256 * (c4 + 256 * (c5 + 256 * (c6 + 256 * c7)))))) = (c0 + c1 + 256 * (c1 + c2)) + 65536 * ((c2 + c3) + 256 * ((c3 + c4) + 256 * ((c4 + c5) + 256 * ((c5 + c6) + 256 * ((c6 + c7) + 256 * c7))))) := by omega
  rw [h2, dv _ 65536 _ (by omega)]
  clear h2
  have h3 : (c0 + c1 + 256 * (c1 + c2)) + 65536 * ((c2 + c3) + 256 * ((c3 + c4) + 256 * ((c4 + c5) + 256 * ((c5 + c6) + 256 * ((c6 + c7) + 256 * c7))))) + ((c2 + c3) + 256 * ((c3 + c4) + 256 * ((c4 + c5) + 256 * ((c5 + c6) + 256 * ((c6 + c7) + 256 * c7))))) = ((c0 + c1 + c2 + c3) + 256 * ((c1 + c2 + c3 + c4) + 256 * ((c2 + c3 + c4 + c5) + 256 * (c3 + c4 + c5 + c6)))) + 4294967296 * ((c4 + c5 + c6 + c7) + 256 * ((c5 + c6 + c7) + 256 * ((c6 + c7) + 256 * c7))) := by omega
  rw [h3, dv _ 4294967296 _ (by omega)]
  clear h3
  have h4 : ((c0 + c1 + c2 + c3) + 256 * ((c1 + c2 + c3 + c4) + 256 * ((c2 + c3 + c4 + c5) + 256 * (c3 + c4 + c5 + c6)))) + 4294967296 * ((c4 + c5 + c6 + c7) + 256 * ((c5 + c6 + c7) + 256 * ((c6 + c7) + 256 * c7))) + ((c4 + c5 + c6 + c7) + 256 * ((c5 + c6 + c7) + 256 * ((c6 + c7) + 256 * c7))) = (c0 + c1 + c2 + c3 + c4 + c5 + c6 + c7) + 128 * (2 * ((c1 + c2 + c3 + c4) + 256 * ((c2 + c3 + c4 + c5) + 256 * (c3 + c4 + c5 + c6))) + 33554432 * ((c4 + c5 + c6 + c7) + 256 * ((c5 + c6 + c7) + 256 * ((c6 + c7) + 256 * c7))) + 2 * ((c5 + c6 + c7) + 256 * ((c6 + c7) + 256 * c7))) := by omega
  rw [h4, Nat.add_mul_mod_self_left, Nat.mod_eq_of_lt (by omega)]
  omega
def sw (x : Nat) : Nat :=
  let a := x - ((x / 2) &&& 6148914691236517205)
  let c := (a &&& 3689348814741910323) + ((a / 4) &&& 3689348814741910323)
  let e := (c + c / 16) &&& 1085102592571150095
  let f := e + e / 256
  let g := f + f / 65536
  (g + g / 4294967296) % 128
theorem sw_eq {x : Nat} (h : x < 18446744073709551616) : ((sw x : Nat) : Int) = cn (fun i => x.testBit i) 64 := by
  have e : x = x % 256 + 256 * (x / 256 % 256 + 256 * (x / 256 / 256 % 256 + 256 * (x / 256 / 256 / 256 % 256 + 256 * (x / 256 / 256 / 256 / 256 % 256 + 256 * (x / 256 / 256 / 256 / 256 / 256 % 256 + 256 * (x / 256 / 256 / 256 / 256 / 256 / 256 % 256 + 256 * (x / 256 / 256 / 256 / 256 / 256 / 256 / 256))))))) := by omega
  have hr : cn (fun i => x.testBit i) 64 = ((q3 (q2 (q1 (x % 256))) : Nat) : Int) + (((q3 (q2 (q1 (x / 256 % 256))) : Nat) : Int) + (((q3 (q2 (q1 (x / 256 / 256 % 256))) : Nat) : Int) + (((q3 (q2 (q1 (x / 256 / 256 / 256 % 256))) : Nat) : Int) + (((q3 (q2 (q1 (x / 256 / 256 / 256 / 256 % 256))) : Nat) : Int) + (((q3 (q2 (q1 (x / 256 / 256 / 256 / 256 / 256 % 256))) : Nat) : Int) + (((q3 (q2 (q1 (x / 256 / 256 / 256 / 256 / 256 / 256 % 256))) : Nat) : Int) + (((q3 (q2 (q1 (x / 256 / 256 / 256 / 256 / 256 / 256 / 256 % 256))) : Nat) : Int) + 0))))))) := by
    rw [show (64 : Nat) = 8 + 56 from rfl, by_split, show (56 : Nat) = 8 + 48 from rfl, by_split, show (48 : Nat) = 8 + 40 from rfl, by_split, show (40 : Nat) = 8 + 32 from rfl, by_split, show (32 : Nat) = 8 + 24 from rfl, by_split, show (24 : Nat) = 8 + 16 from rfl, by_split, show (16 : Nat) = 8 + 8 from rfl, by_split, show (8 : Nat) = 8 + 0 from rfl, by_split]
    rfl
  rw [hr]
  have h7 : x / 256 / 256 / 256 / 256 / 256 / 256 / 256 % 256 = x / 256 / 256 / 256 / 256 / 256 / 256 / 256 := by omega
  rw [h7]
  have k0 : x % 256 < 256 := by omega
  have k1 : x / 256 % 256 < 256 := by omega
  have k2 : x / 256 / 256 % 256 < 256 := by omega
  have k3 : x / 256 / 256 / 256 % 256 < 256 := by omega
  have k4 : x / 256 / 256 / 256 / 256 % 256 < 256 := by omega
  have k5 : x / 256 / 256 / 256 / 256 / 256 % 256 < 256 := by omega
  have k6 : x / 256 / 256 / 256 / 256 / 256 / 256 % 256 < 256 := by omega
  have k7 : x / 256 / 256 / 256 / 256 / 256 / 256 / 256 < 256 := by omega
  generalize x % 256 = b0 at *
  generalize x / 256 % 256 = b1 at *
  generalize x / 256 / 256 % 256 = b2 at *
  generalize x / 256 / 256 / 256 % 256 = b3 at *
  generalize x / 256 / 256 / 256 / 256 % 256 = b4 at *
  generalize x / 256 / 256 / 256 / 256 / 256 % 256 = b5 at *
  generalize x / 256 / 256 / 256 / 256 / 256 / 256 % 256 = b6 at *
  generalize x / 256 / 256 / 256 / 256 / 256 / 256 / 256 = b7 at *
  have a0 := q_all b0 k0
  have a1 := q_all b1 k1
  have a2 := q_all b2 k2
  have a3 := q_all b3 k3
  have a4 := q_all b4 k4
  have a5 := q_all b5 k5
  have a6 := q_all b6 k6
  have a7 := q_all b7 k7
  have hsw : sw x = sw (b0 + 256 * (b1 + 256 * (b2 + 256 * (b3 + 256 * (b4 + 256 * (b5 + 256 * (b6 + 256 * b7))))))) := congrArg sw e
  rw [hsw]
  clear hsw e hr h h7
  have s1 : (b0 + 256 * (b1 + 256 * (b2 + 256 * (b3 + 256 * (b4 + 256 * (b5 + 256 * (b6 + 256 * b7))))))) - (((b0 + 256 * (b1 + 256 * (b2 + 256 * (b3 + 256 * (b4 + 256 * (b5 + 256 * (b6 + 256 * b7))))))) / 2) &&& 6148914691236517205) = q1 b0 + 256 * (q1 b1 + 256 * (q1 b2 + 256 * (q1 b3 + 256 * (q1 b4 + 256 * (q1 b5 + 256 * (q1 b6 + 256 * q1 b7)))))) := by
    rw [show (6148914691236517205 : Nat) = 85 + 256 * (85 + 256 * (85 + 256 * (85 + 256 * (85 + 256 * (85 + 256 * (85 + 256 * 85)))))) from rfl, st1 k0, st1 k1, st1 k2, st1 k3, st1 k4, st1 k5, st1 k6]
    rfl
  have s2 : ((q1 b0 + 256 * (q1 b1 + 256 * (q1 b2 + 256 * (q1 b3 + 256 * (q1 b4 + 256 * (q1 b5 + 256 * (q1 b6 + 256 * q1 b7)))))))  &&& 3689348814741910323) + (((q1 b0 + 256 * (q1 b1 + 256 * (q1 b2 + 256 * (q1 b3 + 256 * (q1 b4 + 256 * (q1 b5 + 256 * (q1 b6 + 256 * q1 b7))))))) / 4) &&& 3689348814741910323) = q2 (q1 b0) + 256 * (q2 (q1 b1) + 256 * (q2 (q1 b2) + 256 * (q2 (q1 b3) + 256 * (q2 (q1 b4) + 256 * (q2 (q1 b5) + 256 * (q2 (q1 b6) + 256 * q2 (q1 b7))))))) := by
    rw [show (3689348814741910323 : Nat) = 51 + 256 * (51 + 256 * (51 + 256 * (51 + 256 * (51 + 256 * (51 + 256 * (51 + 256 * 51)))))) from rfl, st2 a0.1, st2 a1.1, st2 a2.1, st2 a3.1, st2 a4.1, st2 a5.1, st2 a6.1]
    rfl
  have s3 : ((q2 (q1 b0) + 256 * (q2 (q1 b1) + 256 * (q2 (q1 b2) + 256 * (q2 (q1 b3) + 256 * (q2 (q1 b4) + 256 * (q2 (q1 b5) + 256 * (q2 (q1 b6) + 256 * q2 (q1 b7)))))))) + (q2 (q1 b0) + 256 * (q2 (q1 b1) + 256 * (q2 (q1 b2) + 256 * (q2 (q1 b3) + 256 * (q2 (q1 b4) + 256 * (q2 (q1 b5) + 256 * (q2 (q1 b6) + 256 * q2 (q1 b7)))))))) / 16) &&& 1085102592571150095 = q3 (q2 (q1 b0)) + 256 * (q3 (q2 (q1 b1)) + 256 * (q3 (q2 (q1 b2)) + 256 * (q3 (q2 (q1 b3)) + 256 * (q3 (q2 (q1 b4)) + 256 * (q3 (q2 (q1 b5)) + 256 * (q3 (q2 (q1 b6)) + 256 * q3 (q2 (q1 b7)))))))) := by
    rw [show (1085102592571150095 : Nat) = 15 + 256 * (15 + 256 * (15 + 256 * (15 + 256 * (15 + 256 * (15 + 256 * (15 + 256 * 15)))))) from rfl, st3 a0.2.1 (by omega), st3 a1.2.1 (by omega), st3 a2.2.1 (by omega), st3 a3.2.1 (by omega), st3 a4.2.1 (by omega), st3 a5.2.1 (by omega), st3 a6.2.1 (by omega)]
    rfl
  unfold sw
  simp only []
  rw [s1, s2, s3]
  have g0 := a0.2.2.2.1
  have g1 := a1.2.2.2.1
  have g2 := a2.2.2.2.1
  have g3 := a3.2.2.2.1
  have g4 := a4.2.2.2.1
  have g5 := a5.2.2.2.1
  have g6 := a6.2.2.2.1
  have g7 := a7.2.2.2.1
  clear a0 a1 a2 a3 a4 a5 a6 a7 s1 s2 s3
  generalize q3 (q2 (q1 b0)) = c0 at *
  generalize q3 (q2 (q1 b1)) = c1 at *
  generalize q3 (q2 (q1 b2)) = c2 at *
  generalize q3 (q2 (q1 b3)) = c3 at *
  generalize q3 (q2 (q1 b4)) = c4 at *
  generalize q3 (q2 (q1 b5)) = c5 at *
  generalize q3 (q2 (q1 b6)) = c6 at *
  generalize q3 (q2 (q1 b7)) = c7 at *
  exact sw_fold c0 c1 c2 c3 c4 c5 c6 c7 g0 g1 g2 g3 g4 g5 g6 g7
theorem n6_and (a b : Int64) : n6 (a &&& b) = n6 a &&& n6 b := BitVec.toNat_and ..
theorem n6_add {a b : Int64} (h : n6 a + n6 b < 18446744073709551616) : n6 (a + b) = n6 a + n6 b := by
  show (a.toBitVec + b.toBitVec).toNat = _
  rw [BitVec.toNat_add]
  exact Nat.mod_eq_of_lt h
theorem n6_sub {a b : Int64} (h : n6 b ≤ n6 a) : n6 (a - b) = n6 a - n6 b := by
  show (a.toBitVec - b.toBitVec).toNat = _
  have h1 : b.toBitVec ≤ a.toBitVec := h
  exact BitVec.toNat_sub_of_le h1
theorem n6_shr (a : Int64) {k : Nat} (hk : k < 64) : n6 (zlsr a k) = n6 a / 2 ^ k := by
  show (a.toBitVec >>> ((l6 k).toUInt64.toBitVec % 64)).toNat = _
  rw [BitVec.ushiftRight_eq', (l6_am k hk).2, BitVec.toNat_ushiftRight, Nat.shiftRight_eq_div_pow]
  rfl
theorem n6_last (a : Int64) : zand a.toInt32.toInt 127 = ((n6 a % 128 : Nat) : Int) := by
  unfold zand
  rw [i3_of]
  have h : (a.toInt32 &&& i3 127).toBitVec.toNat = n6 a % 128 := by
    show ((a.toBitVec.signExtend 32) &&& (127#32)).toNat = _
    apply Nat.eq_of_testBit_eq
    intro i
    show (a.toBitVec.signExtend 32 &&& 127#32).getLsbD i = (n6 a % 2 ^ 7).testBit i
    rw [BitVec.getLsbD_and, BitVec.getLsbD_signExtend, Nat.testBit_mod_two_pow]
    show _ = (decide (i < 7) && bt a i)
    have h7 : ∀ i, (127#32).getLsbD i = decide (i < 7) := by
      intro i
      by_cases hi : i < 32
      · have : ∀ i, i < 32 → (127#32).getLsbD i = decide (i < 7) := by decide +kernel
        exact this i hi
      · rw [BitVec.getLsbD_of_ge _ _ (by omega)]
        simp
        omega
    rw [h7]
    by_cases hi : i < 7
    · simp [hi, show i < 32 by omega, show i < 64 by omega, bt]
    · simp [hi]
  have h2 : (a.toInt32 &&& i3 127).toInt = (((a.toInt32 &&& i3 127).toBitVec.toNat : Nat) : Int) := by
    show (a.toInt32 &&& i3 127).toBitVec.toInt = _
    rw [BitVec.toInt_eq_toNat_of_lt]
    rw [h]
    omega
  rw [h2, h]
theorem popc_eq (w : Int64) : popc w = ((sw (n6 w) : Nat) : Int) := (sw_eq (n6_lt w)).symm
theorem popc_run (w a c e f g : Int64) (ha : a = w - (zlsr w 1 &&& 6148914691236517205)) (hc : c = (a &&& 3689348814741910323) + (zlsr a 2 &&& 3689348814741910323)) (he : e = (c + zlsr c 4) &&& 1085102592571150095) (hf : f = e + zlsr e 8) (hg : g = f + zlsr f 16) : zand (g + zlsr g 32).toInt32.toInt 127 = popc w := by
  have hw := n6_lt w
  have m1 : n6 6148914691236517205 = 6148914691236517205 := rfl
  have m2 : n6 3689348814741910323 = 3689348814741910323 := rfl
  have m3 : n6 1085102592571150095 = 1085102592571150095 := rfl
  have l1 : (n6 w / 2) &&& 6148914691236517205 ≤ n6 w / 2 := Nat.and_le_left
  have na : n6 a = n6 w - ((n6 w / 2) &&& 6148914691236517205) := by
    have e1 : n6 (zlsr w 1 &&& 6148914691236517205) = (n6 w / 2) &&& 6148914691236517205 := by
      rw [n6_and, m1, show (1 : Int) = ((1 : Nat) : Int) from rfl, n6_shr w (by decide)]
    rw [ha, n6_sub (by rw [e1]; omega), e1]
  have l2 : n6 a &&& 3689348814741910323 ≤ 3689348814741910323 := Nat.and_le_right
  have l3 : (n6 a / 4) &&& 3689348814741910323 ≤ 3689348814741910323 := Nat.and_le_right
  have nc : n6 c = (n6 a &&& 3689348814741910323) + ((n6 a / 4) &&& 3689348814741910323) := by
    have e1 : n6 (zlsr a 2 &&& 3689348814741910323) = (n6 a / 4) &&& 3689348814741910323 := by
      rw [n6_and, m2, show (2 : Int) = ((2 : Nat) : Int) from rfl, n6_shr a (by decide)]
    have e2 : n6 (a &&& 3689348814741910323) = n6 a &&& 3689348814741910323 := by rw [n6_and, m2]
    rw [hc, n6_add (by rw [e1, e2]; omega), e1, e2]
  have l4 : (n6 c + n6 c / 16) &&& 1085102592571150095 ≤ 1085102592571150095 := Nat.and_le_right
  have ne : n6 e = (n6 c + n6 c / 16) &&& 1085102592571150095 := by
    have e1 : n6 (zlsr c 4) = n6 c / 16 := by rw [show (4 : Int) = ((4 : Nat) : Int) from rfl, n6_shr c (by decide)]
    rw [he, n6_and, m3, n6_add (by rw [e1]; omega), e1]
  have nf : n6 f = n6 e + n6 e / 256 := by
    have e1 : n6 (zlsr e 8) = n6 e / 256 := by rw [show (8 : Int) = ((8 : Nat) : Int) from rfl, n6_shr e (by decide)]
    rw [hf, n6_add (by rw [e1]; omega), e1]
  have ng : n6 g = n6 f + n6 f / 65536 := by
    have e1 : n6 (zlsr f 16) = n6 f / 65536 := by rw [show (16 : Int) = ((16 : Nat) : Int) from rfl, n6_shr f (by decide)]
    rw [hg, n6_add (by rw [e1]; omega), e1]
  have nl : n6 (g + zlsr g 32) = n6 g + n6 g / 4294967296 := by
    have e1 : n6 (zlsr g 32) = n6 g / 4294967296 := by rw [show (32 : Int) = ((32 : Nat) : Int) from rfl, n6_shr g (by decide)]
    rw [n6_add (by rw [e1]; omega), e1]
  rw [n6_last, nl, popc_eq, ng, nf, ne, nc, na]
  rfl
