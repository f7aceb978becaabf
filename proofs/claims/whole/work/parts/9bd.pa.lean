/-! TEXTS, 11: what is read is well formed -/
section
variable {Ln : Nat} {xs : Nat → Int32} {CZ : Nat → ZC} {RZ : Nat → Nat → ZQ → ZP}
theorem qw9_g {u : Nat → Int} {n W H : Nat} {s : PE} (h : pc (pKw u n 3 (qw9 u n W H s)) = 0) : pc s = 0 ∧ 0 ≤ nmA u n (pp (pKw u n 6 s)) ∧ nmA u n (pp (pKw u n 6 s)) ≤ (W : Int) - 1 ∧ 0 ≤ nmA u n (pp (qw5 u n W s)) ∧ nmA u n (pp (qw5 u n W s)) ≤ (H : Int) - 1 ∧ 0 ≤ nmA u n (pp (qw7 u n W H s)) ∧ nmA u n (pp (qw7 u n W H s)) ≤ 3 := by
  have z9 : pc (qw9 u n W H s) = 0 := (pKw_g h).1
  have z8 : pc (pNu u n 0 3 (qw7 u n W H s)) = 0 := by
    unfold qw9 at z9
    by_cases e : tkU u n (pp (qw8 u n W H s)) = 8
    · rw [if_pos e] at z9; exact (pKw_g z9).1
    · rw [if_neg e] at z9; exact z9
  have z7 := pNu_g z8
  have z6 : pc (pNu u n 0 ((H : Int) - 1) (qw5 u n W s)) = 0 := (pKw_g z7.1).1
  have z5 := pNu_g z6
  have z5b : pc (pNu u n 0 ((W : Int) - 1) (pKw u n 6 s)) = 0 := z5.1
  have z4 := pNu_g z5b
  exact ⟨(pKw_g z4.1).1, z4.2.2.1, z4.2.2.2.1, z5.2.2.1, z5.2.2.2.1, z7.2.2.1, z7.2.2.2.1⟩
theorem pcR_bad {u : Nat → Int} {n W H : Nat} {M : Mo} {s : PE} (h : ¬ pc s = 0) (v v' : Int) : pcR u n W H M v s = pcR u n W H M v' s := by
  have hb : ¬ pc (pKw u n 3 (qw9 u n W H s)) = 0 := fun e => h (qw9_g e).1
  unfold pcR
  rw [pcQ_0 hb, pcQ_0 hb]
theorem pcR_wf {u : Nat → Int} {n W H : Nat} {M : Mo} {v : Int} {s : PE} (hw : Wf W H M) (hv : pc s = 0 → 0 ≤ v ∧ v ≤ 6) : Wf W H (pcR u n W H M v s).2 := by
  unfold pcR
  by_cases h : pc (pKw u n 3 (qw9 u n W H s)) = 0
  · obtain ⟨g0, g1, g2, g3, g4, g5, g6⟩ := qw9_g h
    have gv := hv g0
    obtain ⟨f, hf⟩ : ∃ f : Int, f = 2 * nmA u n (pp (qw7 u n W H s)) + (if tkU u n (pp (qw8 u n W H s)) = 8 then 1 else 0) := ⟨_, rfl⟩
    have hfb : 0 ≤ f ∧ f ≤ 7 := by
      rw [hf]
      by_cases e : tkU u n (pp (qw8 u n W H s)) = 8
      · rw [if_pos e]; omega
      · rw [if_neg e]; omega
    rw [← hf]
    by_cases h2 : why W H M v.toNat (8 * v.toNat + f.toNat) (nmA u n (pp (pKw u n 6 s))) (nmA u n (pp (qw5 u n W s))) = 0
    · rw [pcQ_2 h h2]
      have h3 := hw.1.put (p := v.toNat) (k := f.toNat) (by omega) (by omega) h2
      rw [show ((f.toNat : Nat) : Int) = f by omega] at h3
      exact ⟨h3, hw.2⟩
    · rw [pcQ_1 h h2]; exact hw
  · rw [pcQ_0 h]; exact hw
theorem qw3_g {u : Nat → Int} {n : Nat} {M : Mo} {s : PE} (h : pc (qw3 u n M s) = 0) : qw3 u n M s = qw2 u n s ∧ pc (qw2 u n s) = 0 ∧ 0 ≤ nmA u n (pp (pKw u n 5 s)) ∧ nmA u n (pp (pKw u n 5 s)) ≤ 6 := by
  unfold qw3 at h ⊢
  by_cases e : pc (qw2 u n s) = 0 ∧ ¬ mF M (nmA u n (pp (pKw u n 5 s))) = -1
  · rw [if_pos e] at h
    exact (pFl_g (by decide) h).elim
  · rw [if_neg e] at h ⊢
    have := pNu_g (show pc (pNu u n 0 6 (pKw u n 5 s)) = 0 from h)
    exact ⟨rfl, h, this.2.2.1, this.2.2.2.1⟩
theorem pPc_wf {u : Nat → Int} {n W H : Nat} {M : Mo} {s : PE} (hw : Wf W H M) : Wf W H (pPc u n W H M s).2 := pcR_wf hw (fun h => (qw3_g h).2.2)
/-- a set of quarters of the board -/
def OnB (W H : Nat) (S : Nat → Bool) : Prop := ∀ q, S q = true → q < 576 ∧ q % 48 / 4 < W ∧ q / 48 < H
theorem crP_in {x y sx sy : Int} {n W H q : Nat} (hsx : sx = -1 ∨ sx = 0 ∨ sx = 1) (hsy : sy = -1 ∨ sy = 1) (hx : 0 ≤ x ∧ x ≤ W) (hy : 0 ≤ y ∧ y ≤ H) (hx2 : 0 ≤ x + sx * (n : Int) ∧ x + sx * (n : Int) ≤ W) (hy2 : 0 ≤ y + sy * (n : Int) ∧ y + sy * (n : Int) ≤ H) (hWH : W ≤ 12 ∧ H ≤ 12) (h : crP x y sx sy n q = true) : q < 576 ∧ q % 48 / 4 < W ∧ q / 48 < H := by
  obtain ⟨j, hj, h1, h2⟩ := dc_iff.mp h
  unfold eR at h1
  unfold pat eR at h2
  rw [Bool.or_eq_true, Bool.and_eq_true, decide_eq_true_iff, decide_eq_true_iff] at h2
  rcases hsx with e | e | e <;> rcases hsy with e2 | e2 <;> subst e <;> subst e2
  all_goals first
    | (rcases h2 with h2 | ⟨h2, -⟩ <;> omega)
    | (rcases h2 with h2 | ⟨h2, h3⟩
       · omega
       · rw [if_pos rfl] at h3; cases h3)
theorem pEd_on {u : Nat → Int} {n W H : Nat} {a : PO4} (hWH : W ≤ 12 ∧ H ≤ 12) (hxy : (0 ≤ eX a ∧ eX a ≤ W) ∧ 0 ≤ eY a ∧ eY a ≤ H) (h : OnB W H (eS a)) : OnB W H (eS (pEd u n W H a)) := by
  by_cases h1 : tkU u n (pp a.1) < 10
  · rw [pEd_0 h1]; exact h
  · by_cases h2 : pc (pNu u n 1 12 (0, po a.1, nxT u n (pp a.1))) = 0
    · by_cases h3 : 0 ≤ eX a + dX (dT u n a.1) * lT u n a.1 ∧ eX a + dX (dT u n a.1) * lT u n a.1 ≤ W ∧ 0 ≤ eY a + dY (dT u n a.1) * lT u n a.1 ∧ eY a + dY (dT u n a.1) * lT u n a.1 ≤ H
      · rw [pEd_3 h1 h2 h3]
        intro q hq
        have hq' : (eS a q ^^ (!decide (dY (dT u n a.1) = 0) && crP (eX a) (eY a) (dX (dT u n a.1)) (dY (dT u n a.1)) (lT u n a.1).toNat q)) = true := hq
        cases hS : eS a q with
        | true => exact h q hS
        | false =>
          rw [hS, Bool.false_xor, Bool.and_eq_true] at hq'
          obtain ⟨g1, g2⟩ := hq'
          have ht18 := tkU_18 (u := u) (n := n) (p := pp a.1)
          have hdt : dT u n a.1 = ((tkU u n (pp a.1) : Nat) : Int) - 10 := rfl
          have hd3 := dX_3 (z := dT u n a.1) (by omega) (by omega)
          have hlt := (pNu_g h2).2.2.1
          have hlt2 : 1 ≤ lT u n a.1 := hlt
          have hln : (((lT u n a.1).toNat : Nat) : Int) = lT u n a.1 := by omega
          have hy0 : ¬ dY (dT u n a.1) = 0 := fun e => by rw [decide_eq_true e] at g1; cases g1
          exact crP_in hd3.1 (by omega) hxy.1 hxy.2 (by rw [hln]; exact ⟨h3.1, h3.2.1⟩) (by rw [hln]; exact h3.2.2) hWH g2
      · rw [pEd_2 h1 h2 h3]; exact h
    · rw [pEd_1 h1 h2]; exact h
theorem pEs_on {u : Nat → Int} {n W H : Nat} (hWH : W ≤ 12 ∧ H ≤ 12) : ∀ (m : Nat) (a : PO4), ((0 ≤ eX a ∧ eX a ≤ W) ∧ 0 ≤ eY a ∧ eY a ≤ H) → OnB W H (eS a) → OnB W H (eS (pEs u n W H m a))
  | 0, a, _, h => h
  | m + 1, a, hxy, h => by
    by_cases e : pc a.1 = 0 ∧ ¬ tkU u n (pp a.1) = 3
    · rw [pEs_s e.1 e.2]
      exact pEs_on hWH m _ (pEd_xy hxy) (pEd_on hWH hxy h)
    · rw [pEs_e e]; exact h
theorem Wf.shM {W H : Nat} {M : Mo} (h : Wf W H M) (h8 : mN M < 8) {S : Nat → Bool} (hS : OnB W H S) (h0 : ¬ cn S 576 = 0) : Wf W H (shM M S) := by
  obtain ⟨a1, a2, a3⟩ := h
  refine ⟨a1, ?_, fun k hk => ?_⟩
  · show mN M + 1 ≤ 8
    omega
  · show (∀ q, (if k = mN M then S else mS M k) q = true → _) ∧ ∃ q, (if k = mN M then S else mS M k) q = true
    by_cases e : k = mN M
    · rw [if_pos e]
      refine ⟨hS, ?_⟩
      apply Classical.byContradiction
      intro c
      refine h0 (cn_false (fun i _ => ?_))
      cases e2 : S i with
      | false => rfl
      | true => exact absurd ⟨i, e2⟩ c
    · rw [if_neg e]
      have hk' : k < mN M + 1 := hk
      exact a3 k (by omega)
theorem pOl_wf {u : Nat → Int} {n W H : Nat} {M : Mo} {x y : Int} {s : PE} (hw : Wf W H M) (h8 : mN M < 8) (hx : 0 ≤ x ∧ x ≤ W) (hy : 0 ≤ y ∧ y ≤ H) : Wf W H (pOl u n W H M x y s).2 := by
  have hWH : W ≤ 12 ∧ H ≤ 12 := ⟨hw.1.1.2.1, hw.1.1.2.2.2⟩
  unfold pOl
  obtain ⟨a, ha⟩ : ∃ a, a = pEs u n W H 700 (pEd u n W H (s, x, y, fun _ => false)) := ⟨_, rfl⟩
  have hon : OnB W H (eS a) := by
    rw [ha]
    exact pEs_on hWH 700 _ (pEd_xy ⟨hx, hy⟩) (pEd_on hWH ⟨hx, hy⟩ (fun q hq => by cases hq))
  rw [← ha]
  by_cases h1 : pc (pKw u n 3 a.1) = 0
  · by_cases h2 : eX a = x ∧ eY a = y ∧ ¬ cn (eS a) 576 = 0
    · rw [olE_2 h1 h2]; exact hw.shM h8 hon h2.2.2
    · rw [olE_1 h1 h2]; exact hw
  · rw [olE_0 h1]; exact hw
theorem pSh_wf {u : Nat → Int} {n W H : Nat} {M : Mo} {s : PE} (hw : Wf W H M) : Wf W H (pSh u n W H M s).2 := by
  by_cases h : pc (pNu u n 0 H (pNu u n 0 W (pKw u n 9 (s0Sh u n M s)))) = 0
  · rw [pSh_1 h]
    have g2 := pNu_g h
    have g1 := pNu_g g2.1
    have g0 := pKw_g g1.1
    refine pOl_wf hw ?_ ⟨g1.2.2.1, g1.2.2.2.1⟩ ⟨g2.2.2.1, g2.2.2.2.1⟩
    apply Classical.byContradiction
    intro c
    have g3 : pc (s0Sh u n M s) = 0 := g0.1
    have g4 := g0.2.1
    unfold s0Sh at g3 g4
    by_cases e : tkU u n (pp s) = 9 ∧ 8 ≤ mN M
    · rw [if_pos e] at g3
      exact pFl_g (by decide) g3
    · rw [if_neg e] at g4
      exact e ⟨g4, by omega⟩
  · rw [pSh_0 h]; exact hw
end
