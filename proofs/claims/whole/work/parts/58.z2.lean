/-! THE Z MACHINE, 2: what the numbers say -/
theorem i3_toInt {z : Int} (h : zR z) : (i3 z).toInt = z := Int32.toInt_ofInt_of_le (by have := h.1; omega) (by have := h.2; omega)
theorem i3_of (x : Int32) : i3 x.toInt = x := Int32.ofInt_toInt x
theorem zR_of (x : Int32) : zR x.toInt := ⟨by have := x.le_toInt; omega, by have := x.toInt_lt; omega⟩
theorem i3_add (x y : Int) : i3 (x + y) = i3 x + i3 y := Int32.ofInt_add x y
theorem i3_sub (x y : Int) : i3 (x - y) = i3 x - i3 y := Int32.ofInt_sub x y
theorem i3_mul (x y : Int) : i3 (x * y) = i3 x * i3 y := Int32.ofInt_mul x y
theorem i3_neg (x : Int) : i3 (-x) = -i3 x := Int32.ofInt_neg x
theorem i3_eq {x y : Int} (hx : zR x) (hy : zR y) : i3 x = i3 y ↔ x = y := ⟨fun h => by rw [← i3_toInt hx, ← i3_toInt hy, h], fun h => by rw [h]⟩
theorem i3_lt {x y : Int} (hx : zR x) (hy : zR y) : i3 x < i3 y ↔ x < y := by rw [Int32.lt_iff_toInt_lt, i3_toInt hx, i3_toInt hy]
theorem i3_le {x y : Int} (hx : zR x) (hy : zR y) : i3 x ≤ i3 y ↔ x ≤ y := by rw [Int32.le_iff_toInt_le, i3_toInt hx, i3_toInt hy]
theorem zR0 : zR 0 := by decide
theorem i3_0 : (0 : Int32) = i3 0 := rfl
theorem i3_clamp {z : Int} (h0 : 0 ≤ z) (h : z ≤ 2147483647) : (i3 z).toNatClampNeg = z.toNat := by
  show (i3 z).toInt.toNat = z.toNat
  rw [i3_toInt ⟨by omega, h⟩]
theorem i3_inb {z : Int} {n : Nat} (h0 : 0 ≤ z) (h : z < (n : Int)) (hM : z ≤ 2147483647) : inb (i3 z) n ∧ (((i3 z).toNatClampNeg : Nat) : Int) = z := by
  rw [inb, i3_clamp h0 hM]
  refine ⟨⟨?_, by omega⟩, by omega⟩
  rw [i3_0]
  exact (i3_le zR0 ⟨by omega, hM⟩).mpr h0
theorem i3_div {x y : Int} (hx : zR x) (h0 : 0 < y) (hy : y ≤ 2147483647) : i3 x / i3 y = i3 (x.tdiv y) := (Int32.ofInt_tdiv (a := x) (b := y) hx.1 hx.2 (Int.le_trans (b := 0) (by decide) (by omega)) hy).symm
theorem i3_mod {x y : Int} (hx0 : 0 ≤ x) (hx : x ≤ 2147483647) (h0 : 0 < y) (hy : y ≤ 2147483647) : i3 x % i3 y = i3 (x % y) := by
  have h1 : x.tmod y = x % y := by rw [Int.tmod_eq_emod_of_nonneg hx0]
  rw [← h1]
  exact (Int32.ofInt_tmod (a := x) (b := y) (Int.le_trans (b := 0) (by decide) hx0) hx (Int.le_trans (b := 0) (by decide) (by omega)) hy).symm
theorem tdiv_b {x y : Int} (hx : zR x) (h0 : 0 < y) (h : ¬ x = -2147483648) : -2147483648 ≤ x.tdiv y ∧ x.tdiv y ≤ 2147483647 := by
  have h1 := Int.natAbs_tdiv_le_natAbs x y
  have := hx.1
  have := hx.2
  omega
theorem sh_am : ∀ k, k < 32 → ((i3 (k : Nat) &&& 31).toBitVec.smod 32).toNat = k ∧ (((i3 (k : Nat)).toUInt32 &&& Int32.toUInt32 31).toBitVec.toNat % 32 = k) := by decide +kernel
theorem i3_shl {x y : Int} (h0 : 0 ≤ y) (h : y ≤ 31) : i3 x <<< (i3 y &&& 31) = i3 (x * 2 ^ y.toNat) := by
  obtain ⟨k, rfl⟩ := Int.eq_ofNat_of_zero_le h0
  have hk : k < 32 := by omega
  apply Int32.toBitVec.inj
  show (i3 x).toBitVec <<< ((i3 k &&& 31).toBitVec.smod 32) = _
  rw [BitVec.shiftLeft_eq', (sh_am k hk).1, BitVec.shiftLeft_eq_mul_twoPow]
  show _ = BitVec.ofInt 32 (x * 2 ^ k)
  rw [BitVec.ofInt_mul]
  congr 1
  apply BitVec.eq_of_toNat_eq
  have : ∀ k, k < 32 → (BitVec.twoPow 32 k).toNat = (BitVec.ofInt 32 (2 ^ k)).toNat := by decide +kernel
  exact this k hk
theorem i3_shr {x y : Int} (hx : zR x) (h0 : 0 ≤ y) (h : y ≤ 31) : i3 x >>> (i3 y &&& 31) = i3 (x / 2 ^ y.toNat) := by
  obtain ⟨k, rfl⟩ := Int.eq_ofNat_of_zero_le h0
  have hk : k < 32 := by omega
  have h1 : (i3 x >>> (i3 k &&& 31)).toInt = x / 2 ^ k := by
    show ((i3 x).toBitVec.sshiftRight' ((i3 k &&& 31).toBitVec.smod 32)).toInt = _
    rw [BitVec.toInt_sshiftRight', (sh_am k hk).1, Int.shiftRight_eq_div_pow]
    show (i3 x).toInt / _ = _
    rw [i3_toInt hx]
    norm_cast
  rw [← i3_of (i3 x >>> (i3 k &&& 31)), h1]
  rfl
theorem i3_shu {x y : Int} (h0 : 0 ≤ y) (h : y ≤ 31) : ((i3 x).toUInt32 >>> ((i3 y).toUInt32 &&& Int32.toUInt32 31)).toInt32 = i3 (x % 4294967296 / 2 ^ y.toNat) := by
  obtain ⟨k, rfl⟩ := Int.eq_ofNat_of_zero_le h0
  have hk : k < 32 := by omega
  apply Int32.toBitVec.inj
  show (i3 x).toBitVec >>> (((i3 k).toUInt32 &&& Int32.toUInt32 31).toBitVec % 32) = BitVec.ofInt 32 _
  apply BitVec.eq_of_toNat_eq
  rw [BitVec.ushiftRight_eq', BitVec.toNat_ushiftRight, BitVec.toNat_ofInt]
  have h2 : (((i3 k).toUInt32 &&& Int32.toUInt32 31).toBitVec % 32).toNat = k := (sh_am k hk).2
  rw [h2, Nat.shiftRight_eq_div_pow]
  show (BitVec.ofInt 32 x).toNat / 2 ^ k = _
  rw [BitVec.toNat_ofInt]
  have e0 : ((2 ^ 32 : Nat) : Int) = 4294967296 := by decide
  rw [e0]
  have e1 : (Int.toNat (k : Int)) = k := by omega
  rw [e1]
  have h3 : 0 ≤ x % 4294967296 := Int.emod_nonneg _ (by decide)
  have h4 : x % 4294967296 < 4294967296 := Int.emod_lt_of_pos _ (by decide)
  obtain ⟨m, hm⟩ := Int.eq_ofNat_of_zero_le h3
  rw [hm] at h4 ⊢
  have h5 : ((m : Int) / 2 ^ k) = ((m / 2 ^ k : Nat) : Int) := by rw [Int.natCast_ediv, Int.natCast_pow]; rfl
  rw [h5]
  have h6 : m / 2 ^ k ≤ m := Nat.div_le_self _ _
  have h7 : ((m / 2 ^ k : Nat) : Int) % 4294967296 = ((m / 2 ^ k : Nat) : Int) := by
    have h8 : ((m / 2 ^ k : Nat) : Int) ≤ (m : Int) := Int.ofNat_le.mpr h6
    exact Int.emod_eq_of_lt (Int.natCast_nonneg _) (by omega)
  rw [h7]
  exact (Int.toNat_natCast _).symm
theorem l6_of {z : Int} (h : zR z) : (i3 z).toInt64 = l6 z := by
  apply Int64.toInt.inj
  rw [Int32.toInt_toInt64, i3_toInt h]
  exact (Int64.toInt_ofInt_of_le (by have := h.1; omega) (by have := h.2; omega)).symm
theorem sh6_am : ∀ k, k < 64 → (i3 (k : Nat)).toInt64 &&& 63 = l6 (k : Nat) ∧ ((i3 (k : Nat)).toInt64.toUInt64 &&& Int64.toUInt64 63) = (l6 (k : Nat)).toUInt64 := by decide +kernel
theorem l6_shl {x : Int64} {y : Int} (h0 : 0 ≤ y) (h : y ≤ 63) : x <<< ((i3 y).toInt64 &&& 63) = zlsh x y := by
  obtain ⟨k, rfl⟩ := Int.eq_ofNat_of_zero_le h0
  rw [(sh6_am k (by omega)).1]
  rfl
theorem l6_shr {x : Int64} {y : Int} (h0 : 0 ≤ y) (h : y ≤ 63) : (x.toUInt64 >>> ((i3 y).toInt64.toUInt64 &&& Int64.toUInt64 63)).toInt64 = zlsr x y := by
  obtain ⟨k, rfl⟩ := Int.eq_ofNat_of_zero_le h0
  rw [(sh6_am k (by omega)).2]
  rfl
theorem i3_byte (x : Int) : (i3 x).toInt8.toInt32 = i3 ((x + 128) % 256 - 128) := by
  apply Int32.toInt.inj
  have h1 : 0 ≤ (x + 128) % 256 := Int.emod_nonneg _ (by decide)
  have h2 : (x + 128) % 256 < 256 := Int.emod_lt_of_pos _ (by decide)
  rw [i3_toInt ⟨by omega, by omega⟩, i3, Int32.toInt8_ofInt, Int8.toInt_toInt32, Int8.toInt_ofInt]
  show x.bmod 256 = _
  rw [Int.bmod_def]
  split <;> omega
theorem lcmp_tri {x y : Int64} {p : Prop} (h1 : x < y → p) (h2 : x = y → p) (h3 : y < x → p) : p := by
  by_cases a : x < y
  · exact h1 a
  · by_cases b : x = y
    · exact h2 b
    · exact h3 (by
        rw [Int64.lt_iff_toInt_lt] at a ⊢
        have : ¬ x.toInt = y.toInt := fun e => b (Int64.toInt.inj e)
        omega)
theorem zfj_iff (j : Nat) (k : Int → Prop) : zfj j k ↔ k (j : Int) := by
  unfold zfj
  split <;> exact Iff.rfl
