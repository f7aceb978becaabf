/-! THE REFERENCE ANSWERS, 12: ways, fits -/
section
variable {Ln : Nat} {xs : Nat → Int32} {CZ : Nat → ZC} {RZ : Nat → Nat → ZQ → ZP}
/-- the x and the y of the j-th quarter of form i, its first quarter at q -/
def fxR (q i j : Nat) : Int := ((q / 4 % 12 : Nat) : Int) - lX i (lF i - 16 * i) + lX i j
def fyR (q i j : Nat) : Int := ((q / 4 / 12 : Nat) : Int) - lY i (lF i - 16 * i) + lY i j
/-- the first j quarters of form i are free, its first quarter at q -/
def FitN (R : Nat → Bool) (q i j : Nat) : Prop := ∀ k, k < j → 0 ≤ fxR q i k ∧ fxR q i k ≤ 11 ∧ 0 ≤ fyR q i k ∧ fyR q i k ≤ 11 ∧ R (48 * (fyR q i k).toNat + 4 * (fxR q i k).toNat + lQ i k) = true
theorem lx0_am : (List.range 56).all (fun i => (List.range 16).any (fun j => decide (j < pN (i / 8)) && decide (lX i j = 0))) = true := by decide +kernel
theorem lx0 {i : Nat} (hi : i < 56) : ∃ j, j < pN (i / 8) ∧ lX i j = 0 := by
  obtain ⟨j, -, h⟩ := List.any_eq_true.mp (List.all_eq_true.mp lx0_am i (List.mem_range.mpr hi))
  rw [Bool.and_eq_true, decide_eq_true_iff, decide_eq_true_iff] at h
  exact ⟨j, h⟩
theorem fWH_am : (List.range 56).all (fun i => decide (fW i ≤ 4 ∧ fH i ≤ 4 ∧ (fV i = 0 ∨ fV i = 1))) = true := by decide +kernel
theorem fWH4 {i : Nat} (hi : i < 56) : fW i ≤ 4 ∧ fH i ≤ 4 ∧ (fV i = 0 ∨ fV i = 1) := of_decide_eq_true (List.all_eq_true.mp fWH_am i (List.mem_range.mpr hi))
theorem lf_ok {i : Nat} (hi : i < 56) : lF i - 16 * i < pN (i / 8) ∧ 16 * i ≤ lF i ∧ lY i (lF i - 16 * i) = 0 ∧ fQ i = 4 * lX i (lF i - 16 * i) + lQ i (lF i - 16 * i) ∧ lQ i (lF i - 16 * i) < 4 ∧ lX i (lF i - 16 * i) < 4 ∧ lF i - 16 * i < 16 := by
  obtain ⟨-, -, b3, b4, b5, -⟩ := bx_ok hi
  have h16 := pN_16 (i / 8)
  obtain ⟨c1, c2, c3, c4⟩ := lz_in (i := i) (k := lF i - 16 * i) hi (by omega)
  have hq := (fQ_ok hi).2
  have hw := fWH4 hi
  unfold lz at b5
  omega
theorem fit_iff {R : Nat → Bool} {q i : Nat} (hi : i < 56) (hq : q ≤ 576) : (q % 4 = lQ i (lF i - 16 * i) ∧ FitN R q i (pN (i / 8))) ↔ fitC R q i = true := by
  obtain ⟨l1, l2, l3, l4, l5, l6, l7⟩ := lf_ok hi
  have hw := fWH4 hi
  have h16 := pN_16 (i / 8)
  rw [fitC, dc_iff]
  by_cases e : q = 576
  · subst e
    constructor
    · rintro ⟨-, h⟩
      have := (h _ l1).2.2.2.1
      unfold fyR at this
      rw [l3] at this
      omega
    · rintro ⟨-, -, h⟩
      obtain ⟨c1, c2, c3, c4⟩ := lz_in hi l1
      have := (h _ (by have := fS_lt hi c1; omega) c1).1
      omega
  · constructor
    · rintro ⟨h1, h2⟩
      obtain ⟨j0, j1, j2⟩ := lx0 hi
      have hx := (h2 j0 j1).1
      unfold fxR at hx
      rw [j2] at hx
      refine ⟨by omega, by omega, fun z hz hS => ?_⟩
      obtain ⟨k, k1, k2⟩ := lz_ex hi hS
      obtain ⟨g1, g2, g3, g4, g5⟩ := h2 k k1
      obtain ⟨c1, c2, c3, c4⟩ := lz_in hi k1
      unfold fxR at g1 g2 g5
      unfold fyR at g3 g4 g5
      unfold lz at k2
      refine ⟨by omega, by omega, ?_⟩
      rw [← g5]
      congr 1
      omega
    · rintro ⟨h1, h2, h3⟩
      refine ⟨by omega, fun k hk => ?_⟩
      obtain ⟨c1, c2, c3, c4⟩ := lz_in hi hk
      obtain ⟨g1, g2, g3⟩ := h3 (lz i k) (by have := fS_lt hi c1; omega) c1
      have hz : lz i k = 48 * lY i k + 4 * lX i k + lQ i k := rfl
      rw [hz] at g1 g2 g3
      unfold fxR fyR
      refine ⟨by omega, by omega, by omega, by omega, ?_⟩
      rw [← g3]
      congr 1
      omega
theorem FitN_s {R : Nat → Bool} {q i j : Nat} : FitN R q i (j + 1) ↔ FitN R q i j ∧ 0 ≤ fxR q i j ∧ fxR q i j ≤ 11 ∧ 0 ≤ fyR q i j ∧ fyR q i j ≤ 11 ∧ R (48 * (fyR q i j).toNat + 4 * (fxR q i j).toNat + lQ i j) = true := by
  constructor
  · intro h
    exact ⟨fun k hk => h k (by omega), h j (by omega)⟩
  · rintro ⟨h1, h2⟩ k hk
    by_cases e : k = j
    · rw [e]; exact h2
    · exact h1 k (by omega)
theorem bi_dc {p : Prop} {x : Int} (h : x = bi (dc p)) : (x = 0 ∨ x = 1) ∧ (x = 1 ↔ p) := by
  cases e : dc p with
  | true => rw [e] at h; exact ⟨Or.inr h, fun _ => dc_iff.mp e, fun _ => h⟩
  | false => rw [e] at h; exact ⟨Or.inl h, fun g => by rw [h] at g; exact absurd g (by decide), fun g => (dc_not.mp e g).elim⟩
theorem bi_of {p : Prop} {x : Int} (h : x = 0 ∨ x = 1) (h2 : x = 1 ↔ p) : x = bi (dc p) := by
  cases e : dc p with
  | true => exact h2.mpr (dc_iff.mp e)
  | false =>
    rcases h with g | g
    · exact g
    · exact (dc_not.mp e (h2.mp g)).elim
theorem l_mfi (T : ZTh (XX Ln xs) CZ RZ) {d b : Nat} {Q : ZQ} {q i : Nat} {R : Nat → Bool} {x5 y6 : Int} {I : ZI} {L : ZL} (hT : TabOK I) (hi : i < 56) (hq : q ≤ 576) (hx5 : x5 = ((q / 4 % 12 : Nat) : Int) - lX i (lF i - 16 * i)) (hy6 : y6 = ((q / 4 / 12 : Nat) : Int) - lY i (lF i - 16 * i)) (hA : ArB I 637 R) (h : Q (.inl (some (.inl (bi (dc (FitN R q i (pN (i / 8)))))))) I L) (m : Nat) : ∀ (j : Nat) (ok : Int), (j ≤ pN (i / 8)) → (ok = bi (dc (FitN R q i j))) → 16 - (j : Int) < (m : Int) → RZ (d + 1) k_X12_fits Q 66 [.inr (.ref 603, 13), .inl (((i / 8 : Nat) : Int)), .inl (((i % 8 : Nat) : Int)), zj, zj, .inl x5, .inl y6, .inl ok, .inl ((j : Int)), zj, zj, zj] [] b I L := by
  induction m with
  | zero =>
    intro j ok hj hok hm
    have := pN_16 (i / 8)
    exfalso
    omega
  | succ m ih =>
    intro j ok hj hok hm
    obtain ⟨t1, t2, t3, t4⟩ := id hT
    obtain ⟨l1, l2, l3, l4, l5, l6, l7⟩ := lf_ok hi
    obtain ⟨f1, f2, f3⟩ := t3 i (lF i - 16 * i) hi l7
    rw [show 16 * i + (lF i - 16 * i) = lF i by omega] at f1 f2 f3
    have f4 := (t4 i hi).1
    have f5 := (t1 (i / 8) (by omega)).2.2.2
    have h16 := pN_16 (i / 8)
    have hjx := fun g : j < pN (i / 8) => t3 i j hi (by omega)
    have hjz := fun g : j < pN (i / 8) => lz_in hi g
    have hw4 := fWH4 hi
    obtain ⟨hb1, hb2⟩ := bi_dc hok
    have hxr : j < pN (i / 8) → fxR q i j = x5 + lX i j := fun _ => by unfold fxR; omega
    have hyr : j < pN (i / 8) → fyR q i j = y6 + lY i j := fun _ => by unfold fyR; omega
    have ei : 128 * ((i / 8 : Nat) : Int) + 16 * ((i % 8 : Nat) : Int) = 16 * (i : Int) := by omega
    refine T.go [66] 150 ?_
    conv => whnf
    refine ⟨by decide, _, rfl, ?_⟩
    conv => whnf
    refine ⟨by omega, by decide, ?_⟩
    conv => whnf
    refine ⟨by rw [f5]; exact ⟨⟨by omega, by omega⟩, ⟨by omega, by omega⟩⟩, fun c74 => ?_, fun c74 => ?_⟩
    · conv => whnf
      refine ⟨by omega, ?_⟩
      rw [f5] at c74
      obtain rfl : j = pN (i / 8) := by omega
      rw [hok]
      exact h
    · conv => whnf
      refine ⟨by omega, fun c79 => ?_, fun c79 => ?_⟩
      · conv => whnf
        refine ⟨by omega, ?_⟩
        have hn : ¬ FitN R q i j := fun g => by
          have := hb2.mpr g
          omega
        have e : dc (FitN R q i (pN (i / 8))) = false := dc_not.mpr (fun g => hn (fun k hk => g k (by omega)))
        rw [e] at h
        rw [c79]
        exact h
      · conv => whnf
        refine zinv0 (s_X12_lookAt T (p := ((i / 8 : Nat) : Int)) (l := ((i % 8 : Nat) : Int))  ?_)
        rw [f5] at c74
        obtain ⟨j1, j2, j3⟩ := hjx (by omega)
        obtain ⟨z1, z2, z3, z4⟩ := hjz (by omega)
        rw [show ((16 * i + j : Nat) : Int) = 16 * (i : Int) + (j : Int) by omega] at j1 j2 j3
        have hxr2 := hxr (by omega)
        have hyr2 := hyr (by omega)
        rw [ei]
        conv => whnf
        refine ⟨by decide, _, rfl, ?_⟩
        conv => whnf
        refine ⟨by omega, by decide, ?_⟩
        conv => whnf
        refine ⟨by decide, _, rfl, ?_⟩
        conv => whnf
        refine ⟨by omega, by decide, ?_⟩
        conv => whnf
        refine ⟨by omega, ?_⟩
        conv => whnf
        refine zinv0 (s_X12_isIn T (v := x5 + I 615 (16 * (i : Int) + (j : Int))) (a := 0) (z := 11) (by omega) (by omega) (by omega) ?_ ?_)
        · intro cha_123
          conv => whnf
          refine ⟨by decide, fun c => absurd c (by decide), fun _ => ?_⟩
          conv => whnf
          refine ⟨by omega, ?_⟩
          conv => whnf
          refine zinv0 (s_X12_isIn T (v := y6 + I 616 (16 * (i : Int) + (j : Int))) (a := 0) (z := 11) (by omega) (by omega) (by omega) ?_ ?_)
          · intro cha_136
            conv => whnf
            refine ⟨by decide, fun c => absurd c (by decide), fun _ => ?_⟩
            conv => whnf
            refine ⟨by decide, _, rfl, ?_⟩
            conv => whnf
            refine ⟨by decide, _, rfl, ?_⟩
            conv => whnf
            refine ⟨by omega, by decide, ?_⟩
            conv => whnf
            have hR9 := hA (48 * (fyR q i j).toNat + 4 * (fxR q i j).toNat + lQ i j) (by omega)
            rw [show ((48 * (fyR q i j).toNat + 4 * (fxR q i j).toNat + lQ i j : Nat) : Int) = 4 * (12 * (y6 + I 616 (16 * (i : Int) + (j : Int))) + (x5 + I 615 (16 * (i : Int) + (j : Int)))) + I 617 (16 * (i : Int) + (j : Int)) by omega] at hR9
            have hb9 := bi_b (R (48 * (fyR q i j).toNat + 4 * (fxR q i j).toNat + lQ i j))
            refine ⟨by omega, by decide, ?_⟩
            conv => whnf
            rw [hR9]
            refine ⟨by omega, fun c165 => ?_, fun c165 => ?_⟩
            · conv => whnf
              refine T.fg [9, 10, 11] ?_
              have hF : ok = 1 := by omega
              refine ih (j + 1) _ (by omega) (bi_of (by omega) ?_) (by omega)
              rw [FitN_s]
              refine ⟨fun g => absurd g (by decide), fun g => ?_⟩
              rw [g.2.2.2.2.2] at c165
              exact absurd c165 (by decide)
            · conv => whnf
              refine T.fg [9, 10, 11] ?_
              have hF : ok = 1 := by omega
              refine ih (j + 1) _ (by omega) (bi_of (by omega) ?_) (by omega)
              rw [FitN_s]
              refine ⟨fun _ => ⟨hb2.mp hF, by omega, by omega, by omega, by omega, ?_⟩, fun _ => rfl⟩
              cases e : R (48 * (fyR q i j).toNat + 4 * (fxR q i j).toNat + lQ i j) with
              | true => rfl
              | false => rw [e] at c165; exact absurd rfl c165
          · intro ch2a_136
            conv => whnf
            refine ⟨by decide, fun _ => ?_, fun c => absurd c (by decide)⟩
            conv => whnf
            refine T.fg [9, 10, 11] ?_
            have hF : ok = 1 := by omega
            refine ih (j + 1) _ (by omega) (bi_of (by omega) ?_) (by omega)
            rw [FitN_s]
            refine ⟨fun g => absurd g (by decide), fun g => ?_⟩
            have := g.2
            exfalso
            omega
        · intro ch2a_123
          conv => whnf
          refine ⟨by decide, fun _ => ?_, fun c => absurd c (by decide)⟩
          conv => whnf
          refine T.fg [9, 10, 11] ?_
          have hF : ok = 1 := by omega
          refine ih (j + 1) _ (by omega) (bi_of (by omega) ?_) (by omega)
          rw [FitN_s]
          refine ⟨fun g => absurd g (by decide), fun g => ?_⟩
          have := g.2
          exfalso
          omega
theorem s_X12_fits (T : ZTh (XX Ln xs) CZ RZ) {d b : Nat} {q i : Nat} (R : Nat → Bool) {I : ZI} {L : ZL} {Q : ZQ} (hT : TabOK I) (hi : i < 56) (hq : q ≤ 576) (hA : ArB I 637 R) (h : Q (.inl (some (.inl (bi (fitC R q i))))) I L) : CZ (d + 2) k_X12_fits [.inr (.ref 603, 13), .inl (((i / 8 : Nat) : Int)), .inl (((i % 8 : Nat) : Int)), .inl ((q : Int))] b I L Q := by
  refine T.call rfl ?_
  obtain ⟨t1, t2, t3, t4⟩ := id hT
  obtain ⟨l1, l2, l3, l4, l5, l6, l7⟩ := lf_ok hi
  obtain ⟨f1, f2, f3⟩ := t3 i (lF i - 16 * i) hi l7
  rw [show 16 * i + (lF i - 16 * i) = lF i by omega] at f1 f2 f3
  have f4 := (t4 i hi).1
  have f5 := (t1 (i / 8) (by omega)).2.2.2
  have h16 := pN_16 (i / 8)
  have e8 : (8 : Int) * ((i / 8 : Nat) : Int) + ((i % 8 : Nat) : Int) = (i : Int) := by omega
  have hfi := fit_iff (R := R) hi hq
  have hbb := dc_iff (p := FitN R q i (pN (i / 8)))
  refine T.go [66] 120 ?_
  conv => whnf
  refine ⟨by decide, _, rfl, ?_⟩
  conv => whnf
  rw [e8]
  refine ⟨by omega, by decide, ?_⟩
  conv => whnf
  refine ⟨by decide, _, rfl, ?_⟩
  conv => whnf
  rw [f4]
  refine ⟨by omega, by decide, ?_⟩
  conv => whnf
  refine ⟨by omega, ?_⟩
  conv => whnf
  rw [f3]
  refine ⟨by omega, fun c23 => ?_, fun c23 => ?_⟩
  · conv => whnf
    refine ⟨by omega, Or.inl ⟨by omega, ?_⟩⟩
    conv => whnf
    refine ⟨by omega, ?_⟩
    conv => whnf
    refine ⟨by decide, _, rfl, ?_⟩
    conv => whnf
    rw [f1]
    refine ⟨by omega, by decide, ?_⟩
    conv => whnf
    refine ⟨by omega, Or.inl ⟨by omega, ?_⟩⟩
    conv => whnf
    refine ⟨by omega, Or.inl ⟨by omega, ?_⟩⟩
    conv => whnf
    refine ⟨by decide, _, rfl, ?_⟩
    conv => whnf
    rw [f2]
    refine ⟨by omega, by decide, ?_⟩
    conv => whnf
    refine T.fg [3, 4] ?_
    refine l_mfi T (q := q) (R := R) hT hi hq (by omega) (by omega) hA ?_ 17 0 1 (by omega) (bi_of (Or.inr rfl) ⟨fun _ k hk => absurd hk (Nat.not_lt_zero k), fun _ => rfl⟩) (by omega)
    have e : dc (FitN R q i (pN (i / 8))) = fitC R q i := by
      apply Bool.eq_iff_iff.mpr
      rw [dc_iff, ← hfi]
      exact ⟨fun g => ⟨by omega, g⟩, fun g => g.2⟩
    rw [e]
    exact h
  · conv => whnf
    refine ⟨by omega, ?_⟩
    have e : fitC R q i = false := by
      cases g : fitC R q i with
      | false => rfl
      | true => have := (hfi.mpr g).1; omega
    rw [e] at h
    exact h
end
