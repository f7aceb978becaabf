/-! LOOKS -/
section
variable {Ln : Nat} {xs : Nat → Int32} {CZ : Nat → ZC} {RZ : Nat → Nat → ZQ → ZP}
noncomputable def trI (S : Nat → Bool) : Nat → Nat → Bool
  | 0 => S
  | n + 1 => trn (trI S n)
/-- the looks of a set, as the class makes them -/
noncomputable def lk8 (S : Nat → Bool) (k : Nat) : Nat → Bool := if k < 4 then trI (nrm S) k else trI (flp S) (k - 4)
theorem za_lk0 : (List.range 8).all (fun i => decide (za 545 i = 546 + 2 * i + 1 ∧ za (546 + 2 * i) 0 = 546 + 2 * i + 2)) = true := by decide +kernel
theorem za_lk {i : Nat} (hi : i < 8) : za 545 i = 546 + 2 * i + 1 ∧ za (546 + 2 * i) 0 = 546 + 2 * i + 2 := of_decide_eq_true (List.all_eq_true.mp za_lk0 i (List.mem_range.mpr hi))
/-- the table of looks holds those of S, for the numbers where A holds -/
def LkOK (I : ZI) (L : ZL) (S : Nat → Bool) (A : Nat → Prop) : Prop := ∀ k, k < 8 → A k → RgS L (546 + 2 * k) (lk8 S k) ∧ RgM I (546 + 2 * k) (lk8 S k)
theorem LkOK.fr {I I' : ZI} {L L' : ZL} {S : Nat → Bool} {A : Nat → Prop} (h : LkOK I L S A) (h1 : ∀ k, k < 8 → A k → ∀ b, I' (546 + 2 * k) b = I (546 + 2 * k) b) (h2 : ∀ k, k < 8 → A k → ∀ b, L' (546 + 2 * k + 1) b = L (546 + 2 * k + 1) b) : LkOK I' L' S A := fun k hk hA => ⟨(h k hk hA).1.row (h2 k hk hA), (h k hk hA).2.row (h1 k hk hA)⟩
def PLk : Nat → Int → Prop := fun a _ => 546 ≤ a ∧ a ≤ 561
theorem l_makeOf (T : ZTh (XX Ln xs) CZ RZ) {d b : Nat} {Q : ZQ} {S : Nat → Bool} {I0 : ZI} {L0 : ZL} (h : ∀ I' L', Fr PLk I0 I' → Fr PLk L0 L' → LkOK I' L' S (fun _ => True) → Q (.inl none) I' L') (m : Nat) : ∀ (i : Nat) (I : ZI) (L : ZL), (1 ≤ i ∧ i ≤ 4) → (Fr PLk I0 I) → (Fr PLk L0 L) → (∀ k, k < 8 → (k < i ∨ (4 ≤ k ∧ k < 4 + i)) → RgS L (546 + 2 * k) (lk8 S k) ∧ RgM I (546 + 2 * k) (lk8 S k)) → 4 - (i : Int) < (m : Int) → RZ (d + 3) k_X2_makeOf Q 22 [.inr (.ref 544, 3), zj, .inl ((i : Int))] [] b I L := by
  induction m with
  | zero =>
    intro i I L hi hfr hgr hL hm
    exfalso
    omega
  | succ m ih =>
    intro i I L hi hfr hgr hL hm
    have e1 : (i : Int) - 1 = ((i - 1 : Nat) : Int) := by omega
    have e2 : (4 : Int) + (i : Int) - 1 = ((3 + i : Nat) : Int) := by omega
    have e3 : (4 : Int) + (i : Int) = ((4 + i : Nat) : Int) := by omega
    have z1 := fun h : i - 1 < 8 => za_lk h
    have z2 := fun h : i < 8 => za_lk h
    have z3 := fun h : 3 + i < 8 => za_lk h
    have z4 := fun h : 4 + i < 8 => za_lk h
    refine T.go [22] 90 ?_
    conv => whnf
    refine ⟨by omega, fun c24 => ?_, fun c24 => ?_⟩
    · conv => whnf
      exact h I L hfr hgr (fun k hk _ => hL k hk (by omega))
    · conv => whnf
      refine ⟨by decide, _, rfl, ?_⟩
      conv => whnf
      refine ⟨by omega, by decide, _, (by rw [e1]; exact (z1 (by omega)).1), ?_⟩
      conv => whnf
      refine ⟨by decide, _, rfl, ?_⟩
      conv => whnf
      refine ⟨by omega, by decide, _, ((z2 (by omega)).1), ?_⟩
      conv => whnf
      refine zinv0 (s_X6_turnInto T (lk8 S (i - 1)) (by exact (z1 (by omega)).2) (by show (¬ (_ : Nat) = _) ∧ (¬ (_ : Nat) = _); omega) (by exact (z2 (by omega)).2) (by show (¬ (_ : Nat) = _) ∧ (¬ (_ : Nat) = _); omega) (by omega) (by exact (hL (i - 1) (by omega) (by omega)).1) (by exact (hL (i - 1) (by omega) (by omega)).2) ?_)
      intro I_41 L_41 hf_41 hg_41 hS_41 hM_41
      conv => whnf
      refine ⟨by decide, _, rfl, ?_⟩
      conv => whnf
      refine ⟨by omega, by decide, _, (by rw [e2]; exact (z3 (by omega)).1), ?_⟩
      conv => whnf
      refine ⟨by decide, _, rfl, ?_⟩
      conv => whnf
      refine ⟨by omega, by decide, _, (by rw [e3]; exact (z4 (by omega)).1), ?_⟩
      conv => whnf
      refine zinv0 (s_X6_turnInto T (lk8 S (3 + i)) (by exact (z3 (by omega)).2) (by show (¬ (_ : Nat) = _) ∧ (¬ (_ : Nat) = _); omega) (by exact (z4 (by omega)).2) (by show (¬ (_ : Nat) = _) ∧ (¬ (_ : Nat) = _); omega) (by omega) (by exact (hL (3 + i) (by omega) (by omega)).1.row (fun b => hg_41 _ _ (by omega))) (by exact (hL (3 + i) (by omega) (by omega)).2.row (fun b => hf_41 _ _ (by omega))) ?_)
      intro I_62 L_62 hf_62 hg_62 hS_62 hM_62
      conv => whnf
      have w1 : trn (lk8 S (i - 1)) = lk8 S i := by
        unfold lk8
        rw [if_pos (by omega), if_pos (by omega)]
        obtain ⟨j, rfl⟩ : ∃ j, i = j + 1 := ⟨i - 1, by omega⟩
        rfl
      have w2 : trn (lk8 S (3 + i)) = lk8 S (4 + i) := by
        unfold lk8
        rw [if_neg (by omega), if_neg (by omega)]
        obtain ⟨j, rfl⟩ : ∃ j, i = j + 1 := ⟨i - 1, by omega⟩
        rw [show 3 + (j + 1) - 4 = j by omega, show 4 + (j + 1) - 4 = j + 1 by omega]
        rfl
      rw [w1] at hS_41 hM_41
      rw [w2] at hS_62 hM_62
      refine ih (i + 1) _ _ (by omega) ((hfr.trans (hf_41.mono (fun a b c => by unfold PLk; omega))).trans (hf_62.mono (fun a b c => by unfold PLk; omega))) ((hgr.trans (hg_41.mono (fun a b c => by unfold PLk; omega))).trans (hg_62.mono (fun a b c => by unfold PLk; omega))) (fun k hk hA => ?_) (by omega)
      by_cases c1 : k = 4 + i
      · rw [c1]; exact ⟨hS_62, hM_62⟩
      · by_cases c2 : k = i
        · rw [c2]
          exact ⟨hS_41.row (fun b => hg_62 _ _ (by omega)), hM_41.row (fun b => hf_62 _ _ (by omega))⟩
        · obtain ⟨g1, g2⟩ := hL k hk (by omega)
          exact ⟨g1.row (fun b => by rw [hg_62 _ _ (by omega), hg_41 _ _ (by omega)]), g2.row (fun b => by rw [hf_62 _ _ (by omega), hf_41 _ _ (by omega)])⟩
theorem s_X2_makeOf (T : ZTh (XX Ln xs) CZ RZ) {d b : Nat} {r : Nat} (S : Nat → Bool) {I : ZI} {L : ZL} {Q : ZQ} (hz : za r 0 = r + 2) (hr : (r < 303 ∧ 281 < r) ∨ r = 528) (hS : RgS L r S) (hM : RgM I r S) (h : ∀ I' L', Fr PLk I I' → Fr PLk L L' → LkOK I' L' S (fun _ => True) → Q (.inl none) I' L') : CZ (d + 4) k_X2_makeOf [.inr (.ref 544, 3), .inr (.ref r, 7)] b I L Q := by
  refine T.call rfl ?_
  refine T.go [22] 90 ?_
  conv => whnf
  refine ⟨by decide, _, rfl, ?_⟩
  conv => whnf
  refine ⟨by omega, by decide, _, rfl, ?_⟩
  conv => whnf
  refine zinv0 (s_X6_moveInto T S (by first | assumption | omega | rfl | decide) (by show (¬ (_ : Nat) = _) ∧ (¬ (_ : Nat) = _); omega) (by rfl) (by show (¬ (_ : Nat) = _) ∧ (¬ (_ : Nat) = _); omega) (by omega) (by first | assumption | omega | rfl | decide) (by first | assumption | omega | rfl | decide) ?_)
  intro I_7 L_7 hf_7 hg_7 hS_7 hM_7
  conv => whnf
  refine ⟨by decide, _, rfl, ?_⟩
  conv => whnf
  refine ⟨by omega, by decide, _, rfl, ?_⟩
  conv => whnf
  refine zinv0 (s_X6_flipInto T S (by first | assumption | omega | rfl | decide) (by show (¬ (_ : Nat) = _) ∧ (¬ (_ : Nat) = _); omega) (by rfl) (by show (¬ (_ : Nat) = _) ∧ (¬ (_ : Nat) = _); omega) (by omega) (by exact hS.row (fun b => hg_7 _ _ (by omega))) (by exact hM.row (fun b => hf_7 _ _ (by omega))) ?_)
  intro I_17 L_17 hf_17 hg_17 hS_17 hM_17
  conv => whnf
  refine T.fg [1] ?_
  refine l_makeOf T (S := S) (I0 := I) (L0 := L) h 4 1 _ _ (by omega) ((hf_7.mono (fun a b c => by unfold PLk; omega)).trans (hf_17.mono (fun a b c => by unfold PLk; omega))) ((hg_7.mono (fun a b c => by unfold PLk; omega)).trans (hg_17.mono (fun a b c => by unfold PLk; omega))) (fun k hk hA => ?_) (by omega)
  by_cases c1 : k = 4
  · subst c1; exact ⟨hS_17, hM_17⟩
  · obtain rfl : k = 0 := by omega
    exact ⟨hS_7.row (fun b => hg_17 _ _ (by omega)), hM_7.row (fun b => hf_17 _ _ (by omega))⟩
/-- the first look of A that is alike by shifting to B; -1: none -/
noncomputable def flk (A B : Nat → Bool) : Nat → Nat → Int
  | 0, _ => -1
  | m + 1, k => bif dc (AL (lk8 A k) B) then (k : Int) else flk A B m (k + 1)
theorem flk_b (A B : Nat → Bool) : ∀ m k, flk A B m k = -1 ∨ (k ≤ flk A B m k ∧ flk A B m k < (k + m : Nat))
  | 0, _ => Or.inl rfl
  | m + 1, k => by
    unfold flk
    have := flk_b A B m (k + 1)
    cases dc (AL (lk8 A k) B)
    · simp only [cond_false]; omega
    · simp only [cond_true]; omega
theorem l_firstLike (T : ZTh (XX Ln xs) CZ RZ) {d b : Nat} {Q : ZQ} {r : Nat} {A B : Nat → Bool} {I : ZI} {L : ZL} (hz : za r 0 = r + 2) (hn : r ≠ 304 ∧ r ≠ 578) (hS : RgS L r B) (hM : RgM I r B) (hL : LkOK I L A (fun _ => True)) (m : Nat) : ∀ (k : Nat), (k ≤ 8) → (Q (.inl (some (.inl (flk A B (8 - k) k)))) I L) → 8 - (k : Int) < (m : Int) → RZ (d + 2) k_X2_firstLike Q 2 [.inr (.ref 544, 3), .inr (.ref r, 7), .inl ((k : Int))] [] b I L := by
  induction m with
  | zero =>
    intro k hk h hm
    exfalso
    omega
  | succ m ih =>
    intro k hk h hm
    have z1 := fun h : k < 8 => za_lk h
    refine T.go [2] 90 ?_
    conv => whnf
    refine ⟨by omega, fun c5 => ?_, fun c5 => ?_⟩
    · conv => whnf
      obtain rfl : k = 8 := by omega
      exact h
    · conv => whnf
      refine ⟨by decide, _, rfl, ?_⟩
      conv => whnf
      refine ⟨by omega, by decide, _, ((z1 (by omega)).1), ?_⟩
      conv => whnf
      refine zinv0 (s_X6_isAlikeByShifting T (lk8 A k) B (by exact (z1 (by omega)).2) (by show (¬ (_ : Nat) = _) ∧ (¬ (_ : Nat) = _); omega) (by exact hz) (by exact hn) (by exact (hL k (by omega) trivial).1) (by exact hS) (by exact (hL k (by omega) trivial).2) (by exact hM) ?_ ?_)
      · intro cha_15
        conv => whnf
        refine ⟨by decide, fun c => absurd c (by decide), fun _ => ?_⟩
        conv => whnf
        rw [show 8 - k = (8 - (k + 1)) + 1 by omega] at h
        unfold flk at h
        rw [dc_iff.mpr cha_15] at h
        exact h
      · intro ch2a_15
        conv => whnf
        refine ⟨by decide, fun _ => ?_, fun c => absurd c (by decide)⟩
        conv => whnf
        rw [show 8 - k = (8 - (k + 1)) + 1 by omega] at h
        unfold flk at h
        rw [dc_not.mpr ch2a_15] at h
        exact ih (k + 1) (by omega) h (by omega)
theorem s_X2_firstLike (T : ZTh (XX Ln xs) CZ RZ) {d b : Nat} {r : Nat} (A B : Nat → Bool) {I : ZI} {L : ZL} {Q : ZQ} (hz : za r 0 = r + 2) (hn : r ≠ 304 ∧ r ≠ 578) (hS : RgS L r B) (hM : RgM I r B) (hL : LkOK I L A (fun _ => True)) (h : Q (.inl (some (.inl (flk A B 8 0)))) I L) : CZ (d + 3) k_X2_firstLike [.inr (.ref 544, 3), .inr (.ref r, 7)] b I L Q := by
  refine T.call rfl ?_
  refine T.go [2] 90 ?_
  conv => whnf
  exact l_firstLike T hz hn hS hM hL 9 0 (by omega) h (by omega)
theorem l_lkDiff (T : ZTh (XX Ln xs) CZ RZ) {d b : Nat} {Q : ZQ} {A : Nat → Bool} {I : ZI} {L : ZL} (hL : LkOK I L A (fun _ => True)) (h : Q (.inl (some (.inl (cn (fun k => decide (flk A (lk8 A k) 8 0 = k)) 8)))) I L) (m : Nat) : ∀ (k : Nat) (c : Int), (k ≤ 8) → (c = cn (fun k => decide (flk A (lk8 A k) 8 0 = k)) k) → 8 - (k : Int) < (m : Int) → RZ (d + 3) k_X2_countDifferent Q 4 [.inr (.ref 544, 3), .inl c, .inl ((k : Int))] [] b I L := by
  induction m with
  | zero =>
    intro k c hk hc hm
    exfalso
    omega
  | succ m ih =>
    intro k c hk hc hm
    have z1 := fun h : k < 8 => za_lk h
    have hb := flk_b A (lk8 A k) 8 0
    refine T.go [4] 90 ?_
    conv => whnf
    refine ⟨by omega, fun c7 => ?_, fun c7 => ?_⟩
    · conv => whnf
      obtain rfl : k = 8 := by omega
      rw [hc]
      exact h
    · conv => whnf
      refine ⟨by decide, _, rfl, ?_⟩
      conv => whnf
      refine ⟨by omega, by decide, _, ((z1 (by omega)).1), ?_⟩
      conv => whnf
      refine zinv0 (s_X2_firstLike T A (lk8 A k) (by exact (z1 (by omega)).2) (by show (¬ (_ : Nat) = _) ∧ (¬ (_ : Nat) = _); omega) (by exact (hL k (by omega) trivial).1) (by exact (hL k (by omega) trivial).2) (by exact hL) ?_)
      conv => whnf
      refine ⟨by omega, fun c21 => ?_, fun c21 => ?_⟩
      · conv => whnf
        exact ih (k + 1) _ (by omega) (by rw [hc, cn_s]; simp [c21]) (by omega)
      · conv => whnf
        exact ih (k + 1) _ (by omega) (by rw [hc, cn_s]; simp [c21]) (by omega)
theorem s_X2_countDifferent (T : ZTh (XX Ln xs) CZ RZ) {d b : Nat} (A : Nat → Bool) {I : ZI} {L : ZL} {Q : ZQ} (hL : LkOK I L A (fun _ => True)) (h : Q (.inl (some (.inl (cn (fun k => decide (flk A (lk8 A k) 8 0 = k)) 8)))) I L) : CZ (d + 4) k_X2_countDifferent [.inr (.ref 544, 3)] b I L Q := by
  refine T.call rfl ?_
  refine T.go [4] 90 ?_
  conv => whnf
  exact l_lkDiff T hL h 9 0 0 (by omega) rfl (by omega)
end
