/-! THE REFERENCE, TEXTS 9: directions, crossings -/
section
variable {Ln : Nat} {xs : Nat → Int32} {CZ : Nat → ZC} {RZ : Nat → Nat → ZQ → ZP}
theorem s_X12_directionHere (T : ZTh (XX Ln xs) CZ RZ) {d b : Nat} {u : Nat → Int} {n : Nat} {s : PE}  {I : ZI} {L : ZL} {Q : ZQ} (hS : PSm I u n s) (h : pc s = 0 ∧ 10 ≤ tkU u n (pp s) → Q (.inl (some (.inl (((tkU u n (pp s) : Nat) : Int) - 10)))) I L) (h2 : ¬ (pc s = 0 ∧ 10 ≤ tkU u n (pp s)) → Q (.inl (some (.inl (-1)))) I L) : CZ (d + 3) k_X12_directionHere [.inr (.ref 603, 13)] b I L Q := by
  refine T.call rfl ?_
  refine T.go [] 200 ?_
  conv => whnf
  refine zinv0 (s_X12_isWord T 10 (u := u) (n := n) (s := s) (by exact hS) (by omega) (by rfl) ?_ ?_)
  · intro cha_4
    conv => whnf
    refine ⟨by decide, fun c => absurd c (by decide), fun _ => ?_⟩
    conv => whnf
    have e9 := cha_4
    rw [show (0 : Int) = ((tkU u n (pp s) : Nat) : Int) - 10 by omega]
    exact h ⟨e9.1, by omega⟩
  · intro ch2a_4
    conv => whnf
    refine ⟨by decide, fun _ => ?_, fun c => absurd c (by decide)⟩
    conv => whnf
    refine zinv0 (s_X12_isWord T 11 (u := u) (n := n) (s := s) (by exact hS) (by omega) (by rfl) ?_ ?_)
    · intro cha_18
      conv => whnf
      refine ⟨by decide, fun c => absurd c (by decide), fun _ => ?_⟩
      conv => whnf
      have e9 := cha_18
      rw [show (1 : Int) = ((tkU u n (pp s) : Nat) : Int) - 10 by omega]
      exact h ⟨e9.1, by omega⟩
    · intro ch2a_18
      conv => whnf
      refine ⟨by decide, fun _ => ?_, fun c => absurd c (by decide)⟩
      conv => whnf
      refine zinv0 (s_X12_isWord T 12 (u := u) (n := n) (s := s) (by exact hS) (by omega) (by rfl) ?_ ?_)
      · intro cha_32
        conv => whnf
        refine ⟨by decide, fun c => absurd c (by decide), fun _ => ?_⟩
        conv => whnf
        have e9 := cha_32
        rw [show (2 : Int) = ((tkU u n (pp s) : Nat) : Int) - 10 by omega]
        exact h ⟨e9.1, by omega⟩
      · intro ch2a_32
        conv => whnf
        refine ⟨by decide, fun _ => ?_, fun c => absurd c (by decide)⟩
        conv => whnf
        refine zinv0 (s_X12_isWord T 13 (u := u) (n := n) (s := s) (by exact hS) (by omega) (by rfl) ?_ ?_)
        · intro cha_46
          conv => whnf
          refine ⟨by decide, fun c => absurd c (by decide), fun _ => ?_⟩
          conv => whnf
          have e9 := cha_46
          rw [show (3 : Int) = ((tkU u n (pp s) : Nat) : Int) - 10 by omega]
          exact h ⟨e9.1, by omega⟩
        · intro ch2a_46
          conv => whnf
          refine ⟨by decide, fun _ => ?_, fun c => absurd c (by decide)⟩
          conv => whnf
          refine zinv0 (s_X12_isWord T 14 (u := u) (n := n) (s := s) (by exact hS) (by omega) (by rfl) ?_ ?_)
          · intro cha_60
            conv => whnf
            refine ⟨by decide, fun c => absurd c (by decide), fun _ => ?_⟩
            conv => whnf
            have e9 := cha_60
            rw [show (4 : Int) = ((tkU u n (pp s) : Nat) : Int) - 10 by omega]
            exact h ⟨e9.1, by omega⟩
          · intro ch2a_60
            conv => whnf
            refine ⟨by decide, fun _ => ?_, fun c => absurd c (by decide)⟩
            conv => whnf
            refine zinv0 (s_X12_isWord T 15 (u := u) (n := n) (s := s) (by exact hS) (by omega) (by rfl) ?_ ?_)
            · intro cha_74
              conv => whnf
              refine ⟨by decide, fun c => absurd c (by decide), fun _ => ?_⟩
              conv => whnf
              have e9 := cha_74
              rw [show (5 : Int) = ((tkU u n (pp s) : Nat) : Int) - 10 by omega]
              exact h ⟨e9.1, by omega⟩
            · intro ch2a_74
              conv => whnf
              refine ⟨by decide, fun _ => ?_, fun c => absurd c (by decide)⟩
              conv => whnf
              refine zinv0 (s_X12_isWord T 16 (u := u) (n := n) (s := s) (by exact hS) (by omega) (by rfl) ?_ ?_)
              · intro cha_88
                conv => whnf
                refine ⟨by decide, fun c => absurd c (by decide), fun _ => ?_⟩
                conv => whnf
                have e9 := cha_88
                rw [show (6 : Int) = ((tkU u n (pp s) : Nat) : Int) - 10 by omega]
                exact h ⟨e9.1, by omega⟩
              · intro ch2a_88
                conv => whnf
                refine ⟨by decide, fun _ => ?_, fun c => absurd c (by decide)⟩
                conv => whnf
                refine zinv0 (s_X12_isWord T 17 (u := u) (n := n) (s := s) (by exact hS) (by omega) (by rfl) ?_ ?_)
                · intro cha_103
                  conv => whnf
                  refine ⟨by decide, fun c => absurd c (by decide), fun _ => ?_⟩
                  conv => whnf
                  have e9 := cha_103
                  rw [show (7 : Int) = ((tkU u n (pp s) : Nat) : Int) - 10 by omega]
                  exact h ⟨e9.1, by omega⟩
                · intro ch2a_103
                  conv => whnf
                  refine ⟨by decide, fun _ => ?_, fun c => absurd c (by decide)⟩
                  conv => whnf
                  refine h2 (fun g => ?_)
                  have := tkU_18 (u := u) (n := n) (p := pp s)
                  have q0 : ¬ tkU u n (pp s) = 10 := fun c => ch2a_4 ⟨g.1, c⟩
                  have q1 : ¬ tkU u n (pp s) = 11 := fun c => ch2a_18 ⟨g.1, c⟩
                  have q2 : ¬ tkU u n (pp s) = 12 := fun c => ch2a_32 ⟨g.1, c⟩
                  have q3 : ¬ tkU u n (pp s) = 13 := fun c => ch2a_46 ⟨g.1, c⟩
                  have q4 : ¬ tkU u n (pp s) = 14 := fun c => ch2a_60 ⟨g.1, c⟩
                  have q5 : ¬ tkU u n (pp s) = 15 := fun c => ch2a_74 ⟨g.1, c⟩
                  have q6 : ¬ tkU u n (pp s) = 16 := fun c => ch2a_88 ⟨g.1, c⟩
                  have q7 : ¬ tkU u n (pp s) = 17 := fun c => ch2a_103 ⟨g.1, c⟩
                  omega
def mx6 (k : Int) : Int := if k = 1 then 5 else if k = 3 then 1 else 3
def my6 (k : Int) : Int := if k = 0 then 1 else if k = 2 then 5 else 3
theorem m6_4 {k : Int} (h0 : 0 ≤ k) (h : k < 4) : (k = 0 ∧ mx6 k = 3 ∧ my6 k = 1) ∨ (k = 1 ∧ mx6 k = 5 ∧ my6 k = 3) ∨ (k = 2 ∧ mx6 k = 3 ∧ my6 k = 5) ∨ (k = 3 ∧ mx6 k = 1 ∧ my6 k = 3) := by
  rcases (show k = 0 ∨ k = 1 ∨ k = 2 ∨ k = 3 by omega) with e | e | e | e <;> subst e <;> decide
def slo (a1 a2 b1 b2 : Int) : Int := if a1 = b1 then 0 else if (a1 < b1 ↔ a2 < b2) then 1 else -1
/-- whether a line to the right crosses an edge -/
def rfX (px py a1 a2 b1 b2 : Int) : Bool := decide ((6 * min a2 b2 ≤ py ∧ py ≤ 6 * max a2 b2) ∧ ¬ 6 * min a2 b2 = 6 * max a2 b2 ∧ px < 6 * a1 + slo a1 a2 b1 b2 * (py - 6 * a2))
theorem pat_0k {sx sy : Int} {c j : Nat} (h : sx = 0) : pat sx sy c j = true ↔ j < 4 * c := by
  unfold pat
  rw [if_pos h, Bool.and_false, Bool.or_false, decide_eq_true_iff]
theorem pat_1k {sx sy : Int} {c j : Nat} (h : ¬ sx = 0) (h2 : sx = sy) : pat sx sy c j = true ↔ j < 4 * c ∨ (j / 4 = c ∧ (j % 4 = 2 ∨ j % 4 = 3)) := by
  unfold pat
  rw [if_neg h, if_pos h2]
  simp only [Bool.or_eq_true, Bool.and_eq_true, decide_eq_true_iff]
theorem pat_2k {sx sy : Int} {c j : Nat} (h : ¬ sx = 0) (h2 : ¬ sx = sy) : pat sx sy c j = true ↔ j < 4 * c ∨ (j / 4 = c ∧ (j % 4 = 0 ∨ j % 4 = 3)) := by
  unfold pat
  rw [if_neg h, if_neg h2]
  simp only [Bool.or_eq_true, Bool.and_eq_true, decide_eq_true_iff]
theorem slo_0 {a1 a2 b1 b2 : Int} (h : a1 = b1) : slo a1 a2 b1 b2 = 0 := if_pos h
theorem slo_1 {a1 a2 b1 b2 : Int} (h : ¬ a1 = b1) (h2 : a1 < b1 ↔ a2 < b2) : slo a1 a2 b1 b2 = 1 := by
  unfold slo
  rw [if_neg h, if_pos h2]
theorem slo_2 {a1 a2 b1 b2 : Int} (h : ¬ a1 = b1) (h2 : ¬ (a1 < b1 ↔ a2 < b2)) : slo a1 a2 b1 b2 = -1 := by
  unfold slo
  rw [if_neg h, if_neg h2]
theorem rf_cr {x y sx sy : Int} {n X Y k : Nat} (hsx : sx = -1 ∨ sx = 0 ∨ sx = 1) (hsy : sy = -1 ∨ sy = 1) (hn : 1 ≤ n ∧ n ≤ 12) (hx : 0 ≤ x ∧ x ≤ 12) (hy : 0 ≤ y ∧ y ≤ 12) (hx2 : 0 ≤ x + sx * (n : Int) ∧ x + sx * (n : Int) ≤ 12) (hy2 : 0 ≤ y + sy * (n : Int) ∧ y + sy * (n : Int) ≤ 12) (hX : X < 12) (hY : Y < 12) (hk : k < 4) : rfX (6 * (X : Int) + mx6 k) (6 * (Y : Int) + my6 k) x y (x + sx * (n : Int)) (y + sy * (n : Int)) = crP x y sx sy n (48 * Y + 4 * X + k) := by
  have h1 : (48 * Y + 4 * X + k) / 48 = Y := by omega
  have h2 : (48 * Y + 4 * X + k) % 48 = 4 * X + k := by omega
  have hm := m6_4 (k := (k : Int)) (by omega) (by omega)
  generalize mx6 (k : Int) = vx at hm ⊢
  generalize my6 (k : Int) = vy at hm ⊢
  apply Bool.eq_iff_iff.mpr
  unfold rfX crP
  rw [decide_eq_true_iff, dc_iff, h1, h2]
  have key : ∀ w : Int, slo x y (x + sx * (n : Int)) (y + sy * (n : Int)) = w → (((6 * min y (y + sy * (n : Int)) ≤ 6 * (Y : Int) + vy ∧ 6 * (Y : Int) + vy ≤ 6 * max y (y + sy * (n : Int))) ∧ ¬ 6 * min y (y + sy * (n : Int)) = 6 * max y (y + sy * (n : Int)) ∧ 6 * (X : Int) + vx < 6 * x + w * (6 * (Y : Int) + vy - 6 * y)) ↔ ∃ j, j < n ∧ eR y sy j = Y ∧ pat sx sy (eR x sx j) (4 * X + k) = true) → (((6 * min y (y + sy * (n : Int)) ≤ 6 * (Y : Int) + vy ∧ 6 * (Y : Int) + vy ≤ 6 * max y (y + sy * (n : Int))) ∧ ¬ 6 * min y (y + sy * (n : Int)) = 6 * max y (y + sy * (n : Int)) ∧ 6 * (X : Int) + vx < 6 * x + slo x y (x + sx * (n : Int)) (y + sy * (n : Int)) * (6 * (Y : Int) + vy - 6 * y)) ↔ ∃ j, j < n ∧ eR y sy j = Y ∧ pat sx sy (eR x sx j) (4 * X + k) = true) := fun w e h => by rw [e]; exact h
  rcases hsx with e | e | e <;> rcases hsy with e2 | e2 <;> subst e <;> subst e2
  · refine key 1 (slo_1 (by omega) (by omega)) ⟨fun ⟨⟨a1, a2⟩, a3, a4⟩ => ⟨(y - 1 - (Y : Int)).toNat, by omega, by unfold eR; omega, (pat_1k (by decide) rfl).mpr (by unfold eR; omega)⟩, fun ⟨j, b1, b2, b3⟩ => ?_⟩
    rw [pat_1k (by decide) rfl] at b3
    unfold eR at b2 b3
    omega
  · refine key (-1) (slo_2 (by omega) (by omega)) ⟨fun ⟨⟨a1, a2⟩, a3, a4⟩ => ⟨((Y : Int) - y).toNat, by omega, by unfold eR; omega, (pat_2k (by decide) (by decide)).mpr (by unfold eR; omega)⟩, fun ⟨j, b1, b2, b3⟩ => ?_⟩
    rw [pat_2k (by decide) (by decide)] at b3
    unfold eR at b2 b3
    omega
  · refine key 0 (slo_0 (by omega)) ⟨fun ⟨⟨a1, a2⟩, a3, a4⟩ => ⟨(y - 1 - (Y : Int)).toNat, by omega, by unfold eR; omega, (pat_0k rfl).mpr (by unfold eR; omega)⟩, fun ⟨j, b1, b2, b3⟩ => ?_⟩
    rw [pat_0k rfl] at b3
    unfold eR at b2 b3
    omega
  · refine key 0 (slo_0 (by omega)) ⟨fun ⟨⟨a1, a2⟩, a3, a4⟩ => ⟨((Y : Int) - y).toNat, by omega, by unfold eR; omega, (pat_0k rfl).mpr (by unfold eR; omega)⟩, fun ⟨j, b1, b2, b3⟩ => ?_⟩
    rw [pat_0k rfl] at b3
    unfold eR at b2 b3
    omega
  · refine key (-1) (slo_2 (by omega) (by omega)) ⟨fun ⟨⟨a1, a2⟩, a3, a4⟩ => ⟨(y - 1 - (Y : Int)).toNat, by omega, by unfold eR; omega, (pat_2k (by decide) (by decide)).mpr (by unfold eR; omega)⟩, fun ⟨j, b1, b2, b3⟩ => ?_⟩
    rw [pat_2k (by decide) (by decide)] at b3
    unfold eR at b2 b3
    omega
  · refine key 1 (slo_1 (by omega) (by omega)) ⟨fun ⟨⟨a1, a2⟩, a3, a4⟩ => ⟨((Y : Int) - y).toNat, by omega, by unfold eR; omega, (pat_1k (by decide) rfl).mpr (by unfold eR; omega)⟩, fun ⟨j, b1, b2, b3⟩ => ?_⟩
    rw [pat_1k (by decide) rfl] at b3
    unfold eR at b2 b3
    omega
theorem rf_no {px py a1 a2 b1 b2 : Int} (h : a2 = b2) : rfX px py a1 a2 b1 b2 = false := by
  unfold rfX
  rw [decide_eq_false (fun g => ?_)]
  exact g.2.1 (by rw [h]; omega)
theorem s_X12_middleX (T : ZTh (XX Ln xs) CZ RZ) {d b : Nat} {x k : Int} {I : ZI} {L : ZL} {Q : ZQ} (hk : 0 ≤ k ∧ k < 4) (h : Q (.inl (some (.inl (6 * x + mx6 k)))) I L) : CZ (d + 1) k_X12_middleX [.inl x, .inl k] b I L Q := by
  refine T.call rfl ?_
  have hm := m6_4 hk.1 hk.2
  refine T.go [] 90 ?_
  conv => whnf
  refine ⟨by omega, fun c6 => ?_, fun c6 => ?_⟩
  · conv => whnf
    refine ⟨by omega, fun c15 => ?_, fun c15 => ?_⟩
    · conv => whnf
      rw [show mx6 k = 3 by omega] at h
      exact h
    · conv => whnf
      rw [show mx6 k = 1 by omega] at h
      exact h
  · conv => whnf
    rw [show mx6 k = 5 by omega] at h
    exact h
theorem s_X12_middleY (T : ZTh (XX Ln xs) CZ RZ) {d b : Nat} {x k : Int} {I : ZI} {L : ZL} {Q : ZQ} (hk : 0 ≤ k ∧ k < 4) (h : Q (.inl (some (.inl (6 * x + my6 k)))) I L) : CZ (d + 1) k_X12_middleY [.inl x, .inl k] b I L Q := by
  refine T.call rfl ?_
  have hm := m6_4 hk.1 hk.2
  refine T.go [] 90 ?_
  conv => whnf
  refine ⟨by omega, fun c5 => ?_, fun c5 => ?_⟩
  · conv => whnf
    refine ⟨by omega, fun c14 => ?_, fun c14 => ?_⟩
    · conv => whnf
      rw [show my6 k = 3 by omega] at h
      exact h
    · conv => whnf
      rw [show my6 k = 5 by omega] at h
      exact h
  · conv => whnf
    rw [show my6 k = 1 by omega] at h
    exact h
theorem s_X12_crosses (T : ZTh (XX Ln xs) CZ RZ) {d b : Nat} {px py a1 a2 b1 b2 : Int} {I : ZI} {L : ZL} {Q : ZQ} (hb : (-200 ≤ px ∧ px ≤ 200) ∧ (-200 ≤ py ∧ py ≤ 200) ∧ (-200 ≤ a1 ∧ a1 ≤ 200) ∧ (-200 ≤ a2 ∧ a2 ≤ 200) ∧ (-200 ≤ b1 ∧ b1 ≤ 200) ∧ (-200 ≤ b2 ∧ b2 ≤ 200)) (h : Q (.inl (some (.inl (bi (rfX px py a1 a2 b1 b2))))) I L) : CZ (d + 2) k_X12_crosses [.inl px, .inl py, .inl a1, .inl a2, .inl b1, .inl b2] b I L Q := by
  refine T.call rfl ?_
  have key : ∀ z : Int, (z = 1 ∧ ((6 * min a2 b2 ≤ py ∧ py ≤ 6 * max a2 b2) ∧ ¬ 6 * min a2 b2 = 6 * max a2 b2 ∧ px < 6 * a1 + slo a1 a2 b1 b2 * (py - 6 * a2))) ∨ (z = 0 ∧ ¬ ((6 * min a2 b2 ≤ py ∧ py ≤ 6 * max a2 b2) ∧ ¬ 6 * min a2 b2 = 6 * max a2 b2 ∧ px < 6 * a1 + slo a1 a2 b1 b2 * (py - 6 * a2))) → Q (.inl (some (.inl z))) I L := fun z hz => by
    unfold rfX at h
    rcases hz with ⟨e, g⟩ | ⟨e, g⟩
    · rw [decide_eq_true g] at h; rw [e]; exact h
    · rw [decide_eq_false g] at h; rw [e]; exact h
  refine T.go [] 150 ?_
  conv => whnf
  refine ⟨by omega, ?_⟩
  conv => whnf
  refine ⟨by omega, ?_⟩
  conv => whnf
  refine ⟨by omega, ?_⟩
  conv => whnf
  refine ⟨by omega, ?_⟩
  conv => whnf
  refine ⟨by omega, ?_⟩
  conv => whnf
  refine zinv0 (s_X12_isIn T (v := py) (a := 6 * min a2 b2) (z := 6 * max a2 b2) (by omega) (by omega) (by omega) ?_ ?_)
  · intro cha_30
    conv => whnf
    refine ⟨by decide, fun c => absurd c (by decide), fun _ => ?_⟩
    conv => whnf
    refine ⟨by omega, fun c40 => ?_, fun c40 => ?_⟩
    · conv => whnf
      refine ⟨by omega, fun c48 => ?_, fun c48 => ?_⟩
      · conv => whnf
        refine ⟨by omega, fun c58 => ?_, fun c58 => ?_⟩
        · conv => whnf
          refine ⟨by omega, fun c69 => ?_, fun c69 => ?_⟩
          · conv => whnf
            refine ⟨by decide, fun c => absurd c (by decide), fun _ => ?_⟩
            conv => whnf
            refine ⟨by omega, fun c102 => ?_, fun c102 => ?_⟩
            · conv => whnf
              refine ⟨by omega, ?_⟩
              refine key 0 (Or.inr ⟨rfl, fun g => ?_⟩)
              have g3 := g.2.2
              rw [slo_1 (by omega) (by omega)] at g3
              omega
            · conv => whnf
              refine ⟨by omega, ?_⟩
              refine key 1 (Or.inl ⟨rfl, ⟨by omega, by omega⟩, by omega, ?_⟩)
              rw [slo_1 (by omega) (by omega)]
              omega
          · conv => whnf
            refine ⟨by decide, fun _ => ?_, fun c => absurd c (by decide)⟩
            conv => whnf
            refine ⟨by omega, fun c102 => ?_, fun c102 => ?_⟩
            · conv => whnf
              refine ⟨by omega, ?_⟩
              refine key 0 (Or.inr ⟨rfl, fun g => ?_⟩)
              have g3 := g.2.2
              rw [slo_2 (by omega) (by omega)] at g3
              omega
            · conv => whnf
              refine ⟨by omega, ?_⟩
              refine key 1 (Or.inl ⟨rfl, ⟨by omega, by omega⟩, by omega, ?_⟩)
              rw [slo_2 (by omega) (by omega)]
              omega
        · conv => whnf
          refine ⟨by omega, fun c69 => ?_, fun c69 => ?_⟩
          · conv => whnf
            refine ⟨by decide, fun _ => ?_, fun c => absurd c (by decide)⟩
            conv => whnf
            refine ⟨by omega, fun c102 => ?_, fun c102 => ?_⟩
            · conv => whnf
              refine ⟨by omega, ?_⟩
              refine key 0 (Or.inr ⟨rfl, fun g => ?_⟩)
              have g3 := g.2.2
              rw [slo_2 (by omega) (by omega)] at g3
              omega
            · conv => whnf
              refine ⟨by omega, ?_⟩
              refine key 1 (Or.inl ⟨rfl, ⟨by omega, by omega⟩, by omega, ?_⟩)
              rw [slo_2 (by omega) (by omega)]
              omega
          · conv => whnf
            refine ⟨by decide, fun c => absurd c (by decide), fun _ => ?_⟩
            conv => whnf
            refine ⟨by omega, fun c102 => ?_, fun c102 => ?_⟩
            · conv => whnf
              refine ⟨by omega, ?_⟩
              refine key 0 (Or.inr ⟨rfl, fun g => ?_⟩)
              have g3 := g.2.2
              rw [slo_1 (by omega) (by omega)] at g3
              omega
            · conv => whnf
              refine ⟨by omega, ?_⟩
              refine key 1 (Or.inl ⟨rfl, ⟨by omega, by omega⟩, by omega, ?_⟩)
              rw [slo_1 (by omega) (by omega)]
              omega
      · conv => whnf
        refine ⟨by omega, fun c102 => ?_, fun c102 => ?_⟩
        · conv => whnf
          refine ⟨by omega, ?_⟩
          refine key 0 (Or.inr ⟨rfl, fun g => ?_⟩)
          have g3 := g.2.2
          rw [slo_0 (by omega)] at g3
          omega
        · conv => whnf
          refine ⟨by omega, ?_⟩
          refine key 1 (Or.inl ⟨rfl, ⟨by omega, by omega⟩, by omega, ?_⟩)
          rw [slo_0 (by omega)]
          omega
    · conv => whnf
      refine ⟨by omega, ?_⟩
      exact key 0 (Or.inr ⟨rfl, fun g => g.2.1 (by omega)⟩)
  · intro ch2a_30
    conv => whnf
    refine ⟨by decide, fun _ => ?_, fun c => absurd c (by decide)⟩
    conv => whnf
    refine ⟨by omega, ?_⟩
    exact key 0 (Or.inr ⟨rfl, fun g => ch2a_30 ⟨by omega, by omega⟩⟩)
end
