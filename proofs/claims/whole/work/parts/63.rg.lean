/-! REGIONS, 1 -/
section
variable {X : Ext} {CZ : Nat → ZC} {RZ : Nat → Nat → ZQ → ZP}
theorem s_J13_bitCount_95d88 (T : ZTh X CZ RZ) {d b : Nat} {w : Int64} {I : ZI} {L : ZL} {Q : ZQ}  (h : Q (.inl (some (.inl (popc w)))) I L) : CZ (d + 1) k_J13_bitCount_95d88 [.inr (.long (w), 0)] b I L Q := by
  refine T.call rfl ?_
  refine T.go [] 90 ?_
  conv => whnf
  refine ⟨by omega, ?_⟩
  conv => whnf
  refine ⟨by omega, ?_⟩
  conv => whnf
  refine ⟨by omega, ?_⟩
  conv => whnf
  refine ⟨by omega, ?_⟩
  conv => whnf
  refine ⟨by omega, ?_⟩
  conv => whnf
  refine ⟨by omega, ?_⟩
  conv => whnf
  rw [popc_run w _ _ _ _ _ rfl rfl rfl rfl rfl]
  exact h
theorem s_X6_rowAt (T : ZTh X CZ RZ) {d b : Nat} {r : Nat} {y : Int} {I : ZI} {L : ZL} {Q : ZQ} (hz : za r 0 = r + 2) (hn : r ≠ 304 ∧ r ≠ 578) (hy : zR y) (h : 0 ≤ y → y < 12 → Q (.inl (some (.inr (.long (L (r + 1) y), 0)))) I L) (h2 : ¬ (0 ≤ y ∧ y < 12) → Q (.inl (some (.inr (.long (0), 0)))) I L) : CZ (d + 1) k_X6_rowAt [.inr (.ref r, 7), .inl y] b I L Q := by
  refine T.call rfl ?_
  refine T.go [] 90 ?_
  conv => whnf
  refine ⟨by omega, fun c1 => ?_, fun c1 => ?_⟩
  · conv => whnf
    first | exact h (by omega) (by omega) | exact h2 (by omega)
  · conv => whnf
    refine ⟨by omega, fun c7 => ?_, fun c7 => ?_⟩
    · conv => whnf
      first | exact h (by omega) (by omega) | exact h2 (by omega)
    · conv => whnf
      refine ⟨(show (¬ (_ : Nat) = _) ∧ (¬ (_ : Nat) = _) from by omega), _, (by assumption), ?_⟩
      conv => whnf
      refine ⟨by omega, ?_⟩
      conv => whnf
      first | exact h (by omega) (by omega) | exact h2 (by omega)
theorem l_fill7 (T : ZTh X CZ RZ) {d b : Nat} {Q : ZQ} {r : Nat} {v : Int} {I0 : ZI} {L : ZL} (hn : r ≠ 304 ∧ r ≠ 578) (h : ∀ I', Fr (fun a _ => a = r) I0 I' → (∀ j, 0 ≤ j → j < 7 → I' r j = v) → Q (.inl none) I' L) (m : Nat) : ∀ (i : Int) (I : ZI), (0 ≤ i) → (i ≤ 7) → (Fr (fun a _ => a = r) I0 I) → (∀ j, 0 ≤ j → j < i → I r j = v) → 7 - i < (m : Int) → RZ d k_J7_fill_53178 Q 5 [.inr (.ref r, 10007), .inl v, .inl i, .inl 7] [] b I L := by
  induction m with
  | zero =>
    intro i I hi0 hi hfr hv hm
    exfalso
    omega
  | succ m ih =>
    intro i I hi0 hi hfr hv hm
    refine T.go [5] 90 ?_
    conv => whnf
    refine ⟨by omega, fun c7 => ?_, fun c7 => ?_⟩
    · conv => whnf
      exact h I hfr (fun j h0 h1 => hv j h0 (by omega))
    · conv => whnf
      refine ⟨by omega, (show (¬ (_ : Nat) = _) ∧ (¬ (_ : Nat) = _) from by omega), ?_⟩
      conv => whnf
      exact ih (i + 1) _ (by omega) (by omega) (hfr.v2 rfl) (fun j h0 h1 => by
        by_cases e : j = i
        · rw [e, v2_eq]
        · rw [v2_ne (fun c => e c.2)]; exact hv j h0 (by omega)) (by omega)
theorem s_fill7 (T : ZTh X CZ RZ) {d b : Nat} {r : Nat} {v : Int} {I : ZI} {L : ZL} {Q : ZQ} (hn : r ≠ 304 ∧ r ≠ 578) (h : ∀ I', Fr (fun a _ => a = r) I I' → (∀ j, 0 ≤ j → j < 7 → I' r j = v) → Q (.inl none) I' L) : CZ (d + 1) k_J7_fill_53178 [.inr (.ref r, 10007), .inl v] b I L Q := by
  refine T.call rfl ?_
  refine T.go [5] 90 ?_
  conv => whnf
  exact l_fill7 T hn h 8 0 I (by omega) (by omega) (Fr.refl I) (fun j h0 h1 => by omega) (by omega)
theorem l_fill576 (T : ZTh X CZ RZ) {d b : Nat} {Q : ZQ} {r : Nat} {v : Int} {I0 : ZI} {L : ZL} (hn : r ≠ 304 ∧ r ≠ 578) (h : ∀ I', Fr (fun a _ => a = r) I0 I' → (∀ j, 0 ≤ j → j < 576 → I' r j = v) → Q (.inl none) I' L) (m : Nat) : ∀ (i : Int) (I : ZI), (0 ≤ i) → (i ≤ 576) → (Fr (fun a _ => a = r) I0 I) → (∀ j, 0 ≤ j → j < i → I r j = v) → 576 - i < (m : Int) → RZ d k_J7_fill_53178 Q 5 [.inr (.ref r, 10576), .inl v, .inl i, .inl 576] [] b I L := by
  induction m with
  | zero =>
    intro i I hi0 hi hfr hv hm
    exfalso
    omega
  | succ m ih =>
    intro i I hi0 hi hfr hv hm
    refine T.go [5] 90 ?_
    conv => whnf
    refine ⟨by omega, fun c7 => ?_, fun c7 => ?_⟩
    · conv => whnf
      exact h I hfr (fun j h0 h1 => hv j h0 (by omega))
    · conv => whnf
      refine ⟨by omega, (show (¬ (_ : Nat) = _) ∧ (¬ (_ : Nat) = _) from by omega), ?_⟩
      conv => whnf
      exact ih (i + 1) _ (by omega) (by omega) (hfr.v2 rfl) (fun j h0 h1 => by
        by_cases e : j = i
        · rw [e, v2_eq]
        · rw [v2_ne (fun c => e c.2)]; exact hv j h0 (by omega)) (by omega)
theorem s_fill576 (T : ZTh X CZ RZ) {d b : Nat} {r : Nat} {v : Int} {I : ZI} {L : ZL} {Q : ZQ} (hn : r ≠ 304 ∧ r ≠ 578) (h : ∀ I', Fr (fun a _ => a = r) I I' → (∀ j, 0 ≤ j → j < 576 → I' r j = v) → Q (.inl none) I' L) : CZ (d + 1) k_J7_fill_53178 [.inr (.ref r, 10576), .inl v] b I L Q := by
  refine T.call rfl ?_
  refine T.go [5] 90 ?_
  conv => whnf
  exact l_fill576 T hn h 577 0 I (by omega) (by omega) (Fr.refl I) (fun j h0 h1 => by omega) (by omega)
theorem l_fill625 (T : ZTh X CZ RZ) {d b : Nat} {Q : ZQ} {r : Nat} {v : Int} {I0 : ZI} {L : ZL} (hn : r ≠ 304 ∧ r ≠ 578) (h : ∀ I', Fr (fun a _ => a = r) I0 I' → (∀ j, 0 ≤ j → j < 625 → I' r j = v) → Q (.inl none) I' L) (m : Nat) : ∀ (i : Int) (I : ZI), (0 ≤ i) → (i ≤ 625) → (Fr (fun a _ => a = r) I0 I) → (∀ j, 0 ≤ j → j < i → I r j = v) → 625 - i < (m : Int) → RZ d k_J7_fill_53178 Q 5 [.inr (.ref r, 10625), .inl v, .inl i, .inl 625] [] b I L := by
  induction m with
  | zero =>
    intro i I hi0 hi hfr hv hm
    exfalso
    omega
  | succ m ih =>
    intro i I hi0 hi hfr hv hm
    refine T.go [5] 90 ?_
    conv => whnf
    refine ⟨by omega, fun c7 => ?_, fun c7 => ?_⟩
    · conv => whnf
      exact h I hfr (fun j h0 h1 => hv j h0 (by omega))
    · conv => whnf
      refine ⟨by omega, (show (¬ (_ : Nat) = _) ∧ (¬ (_ : Nat) = _) from by omega), ?_⟩
      conv => whnf
      exact ih (i + 1) _ (by omega) (by omega) (hfr.v2 rfl) (fun j h0 h1 => by
        by_cases e : j = i
        · rw [e, v2_eq]
        · rw [v2_ne (fun c => e c.2)]; exact hv j h0 (by omega)) (by omega)
theorem s_fill625 (T : ZTh X CZ RZ) {d b : Nat} {r : Nat} {v : Int} {I : ZI} {L : ZL} {Q : ZQ} (hn : r ≠ 304 ∧ r ≠ 578) (h : ∀ I', Fr (fun a _ => a = r) I I' → (∀ j, 0 ≤ j → j < 625 → I' r j = v) → Q (.inl none) I' L) : CZ (d + 1) k_J7_fill_53178 [.inr (.ref r, 10625), .inl v] b I L Q := by
  refine T.call rfl ?_
  refine T.go [5] 90 ?_
  conv => whnf
  exact l_fill625 T hn h 626 0 I (by omega) (by omega) (Fr.refl I) (fun j h0 h1 => by omega) (by omega)
theorem l_fillL (T : ZTh X CZ RZ) {d b : Nat} {Q : ZQ} {r : Nat} {v : Int64} {I : ZI} {L0 : ZL} (h : ∀ L', Fr (fun a _ => a = r) L0 L' → (∀ j, 0 ≤ j → j < 12 → L' r j = v) → Q (.inl none) I L') (m : Nat) : ∀ (i : Int) (L : ZL), (0 ≤ i) → (i ≤ 12) → (Fr (fun a _ => a = r) L0 L) → (∀ j, 0 ≤ j → j < i → L r j = v) → 12 - i < (m : Int) → RZ d k_J7_fill_d0a16 Q 6 [.inr (.ref r, 40012), .inr (.long (v), 0), zj, .inl i, .inl 12] [] b I L := by
  induction m with
  | zero =>
    intro i L hi0 hi hfr hv hm
    exfalso
    omega
  | succ m ih =>
    intro i L hi0 hi hfr hv hm
    refine T.go [6] 90 ?_
    conv => whnf
    refine ⟨by omega, fun c9 => ?_, fun c9 => ?_⟩
    · conv => whnf
      exact h L hfr (fun j h0 h1 => hv j h0 (by omega))
    · conv => whnf
      refine ⟨by omega, ?_⟩
      conv => whnf
      exact ih (i + 1) _ (by omega) (by omega) (hfr.w2 rfl) (fun j h0 h1 => by
        by_cases e : j = i
        · rw [e, w2_eq]
        · rw [w2_ne (fun c => e c.2)]; exact hv j h0 (by omega)) (by omega)
theorem s_J7_fill_d0a16 (T : ZTh X CZ RZ) {d b : Nat} {r : Nat} {v : Int64} {I : ZI} {L : ZL} {Q : ZQ}  (h : ∀ L', Fr (fun a _ => a = r) L L' → (∀ j, 0 ≤ j → j < 12 → L' r j = v) → Q (.inl none) I L') : CZ (d + 1) k_J7_fill_d0a16 [.inr (.ref r, 40012), .inr (.long (v), 0)] b I L Q := by
  refine T.call rfl ?_
  refine T.go [6] 90 ?_
  conv => whnf
  exact l_fillL T h 13 0 L (by omega) (by omega) (Fr.refl L) (fun j h0 h1 => by omega) (by omega)
theorem l_measureWidth (T : ZTh X CZ RZ) {d b : Nat} {Q : ZQ} {r : Nat} {w : Int64} {f : Nat → Bool} {I0 : ZI} {L : ZL} (hn : r ≠ 304 ∧ r ≠ 578) (hf : ∀ x : Nat, x < 12 → (zlsr w (4 * (x : Int)) &&& 15 = 0 ↔ f x = false)) (h : ∀ I', Fr (fun a b => a = r ∧ (b = 2 ∨ b = 4)) I0 I' → I' r 2 = lo f 12 → I' r 4 = lw f 12 → Q (.inl none) I' L) (m : Nat) : ∀ (x : Nat) (I : ZI), (x ≤ 12) → (Fr (fun a b => a = r ∧ (b = 2 ∨ b = 4)) I0 I) → (I r 2 = lo f x) → (I r 4 = lw f x) → 12 - (x : Int) < (m : Int) → RZ d k_X6_measureWidth Q 12 [.inr (.ref r, 7), .inr (.long (w), 0), zj, .inl ((x : Int))] [] b I L := by
  induction m with
  | zero =>
    intro x I hx hfr h2 h4 hm
    exfalso
    omega
  | succ m ih =>
    intro x I hx hfr h2 h4 hm
    have hl := lo_bound f x
    have hw := lw_pos f x
    refine T.go [12] 90 ?_
    conv => whnf
    refine ⟨by omega, fun c15 => ?_, fun c15 => ?_⟩
    · conv => whnf
      have e : x = 12 := by omega
      subst e
      exact h I hfr h2 h4
    · conv => whnf
      refine ⟨by omega, ?_⟩
      conv => whnf
      refine ⟨fun c28 => ?_, fun c28 => ?_, fun c28 => ?_⟩
      · conv => whnf
        refine ⟨by decide, fun c => absurd c (by decide), fun _ => ?_⟩
        conv => whnf
        refine ⟨(show (¬ (_ : Nat) = _) ∧ (¬ (_ : Nat) = _) from by omega), ?_⟩
        conv => whnf
        refine ⟨by omega, fun c37 => ?_, fun c37 => ?_⟩
        · conv => whnf
          refine ⟨(show (¬ (_ : Nat) = _) ∧ (¬ (_ : Nat) = _) from by omega), ?_⟩
          conv => whnf
          refine ⟨(show (¬ (_ : Nat) = _) ∧ (¬ (_ : Nat) = _) from by omega), ?_⟩
          conv => whnf
          refine ⟨(show (¬ (_ : Nat) = _) ∧ (¬ (_ : Nat) = _) from by omega), ?_⟩
          conv => whnf
          refine ⟨(show (¬ (_ : Nat) = _) ∧ (¬ (_ : Nat) = _) from by omega), ?_⟩
          conv => whnf
          have ht : f x = true := by
            cases e : f x with
            | true => rfl
            | false => exact ((l_ne_lt c28) ((hf x (by omega)).mpr e)).elim
          have hs := stp_1 ht (by rw [← h4]; exact c37)
          refine ih (x + 1) _ (by omega) ((hfr.v2 (by simp)).v2 (by simp)) ?_ ?_ (by omega)
          · rw [v2_ne (by simp), v2_eq, hs.1, h2]
          · rw [v2_eq, v2_eq, hs.2, h2]
        · conv => whnf
          refine ⟨(show (¬ (_ : Nat) = _) ∧ (¬ (_ : Nat) = _) from by omega), ?_⟩
          conv => whnf
          refine ⟨(show (¬ (_ : Nat) = _) ∧ (¬ (_ : Nat) = _) from by omega), ?_⟩
          conv => whnf
          refine ⟨(show (¬ (_ : Nat) = _) ∧ (¬ (_ : Nat) = _) from by omega), ?_⟩
          conv => whnf
          have ht : f x = true := by
            cases e : f x with
            | true => rfl
            | false => exact ((l_ne_lt c28) ((hf x (by omega)).mpr e)).elim
          have hs := stp_0 ht (by rw [← h4]; exact c37)
          refine ih (x + 1) _ (by omega) ((hfr.v2 (by simp)).v2 (by simp)) ?_ ?_ (by omega)
          · rw [v2_ne (by simp), v2_eq, hs.1]
          · rw [v2_eq, v2_eq, hs.2]
      · conv => whnf
        refine ⟨by decide, fun _ => ?_, fun c => absurd c (by decide)⟩
        conv => whnf
        have hs := stp_f ((hf x (by omega)).mp c28)
        exact ih (x + 1) I (by omega) hfr (h2.trans hs.1.symm) (h4.trans hs.2.symm) (by omega)
      · conv => whnf
        refine ⟨by decide, fun c => absurd c (by decide), fun _ => ?_⟩
        conv => whnf
        refine ⟨(show (¬ (_ : Nat) = _) ∧ (¬ (_ : Nat) = _) from by omega), ?_⟩
        conv => whnf
        refine ⟨by omega, fun c37 => ?_, fun c37 => ?_⟩
        · conv => whnf
          refine ⟨(show (¬ (_ : Nat) = _) ∧ (¬ (_ : Nat) = _) from by omega), ?_⟩
          conv => whnf
          refine ⟨(show (¬ (_ : Nat) = _) ∧ (¬ (_ : Nat) = _) from by omega), ?_⟩
          conv => whnf
          refine ⟨(show (¬ (_ : Nat) = _) ∧ (¬ (_ : Nat) = _) from by omega), ?_⟩
          conv => whnf
          refine ⟨(show (¬ (_ : Nat) = _) ∧ (¬ (_ : Nat) = _) from by omega), ?_⟩
          conv => whnf
          have ht : f x = true := by
            cases e : f x with
            | true => rfl
            | false => exact ((l_ne_gt c28) ((hf x (by omega)).mpr e)).elim
          have hs := stp_1 ht (by rw [← h4]; exact c37)
          refine ih (x + 1) _ (by omega) ((hfr.v2 (by simp)).v2 (by simp)) ?_ ?_ (by omega)
          · rw [v2_ne (by simp), v2_eq, hs.1, h2]
          · rw [v2_eq, v2_eq, hs.2, h2]
        · conv => whnf
          refine ⟨(show (¬ (_ : Nat) = _) ∧ (¬ (_ : Nat) = _) from by omega), ?_⟩
          conv => whnf
          refine ⟨(show (¬ (_ : Nat) = _) ∧ (¬ (_ : Nat) = _) from by omega), ?_⟩
          conv => whnf
          refine ⟨(show (¬ (_ : Nat) = _) ∧ (¬ (_ : Nat) = _) from by omega), ?_⟩
          conv => whnf
          have ht : f x = true := by
            cases e : f x with
            | true => rfl
            | false => exact ((l_ne_gt c28) ((hf x (by omega)).mpr e)).elim
          have hs := stp_0 ht (by rw [← h4]; exact c37)
          refine ih (x + 1) _ (by omega) ((hfr.v2 (by simp)).v2 (by simp)) ?_ ?_ (by omega)
          · rw [v2_ne (by simp), v2_eq, hs.1]
          · rw [v2_eq, v2_eq, hs.2]
theorem s_X6_measureWidth (T : ZTh X CZ RZ) {d b : Nat} {r : Nat} {w : Int64} (f : Nat → Bool) {I : ZI} {L : ZL} {Q : ZQ} (hn : r ≠ 304 ∧ r ≠ 578) (hf : ∀ x : Nat, x < 12 → (zlsr w (4 * (x : Int)) &&& 15 = 0 ↔ f x = false)) (h : ∀ I', Fr (fun a b => a = r ∧ (b = 2 ∨ b = 4)) I I' → I' r 2 = lo f 12 → I' r 4 = lw f 12 → Q (.inl none) I' L) : CZ (d + 1) k_X6_measureWidth [.inr (.ref r, 7), .inr (.long (w), 0)] b I L Q := by
  refine T.call rfl ?_
  refine T.go [12] 90 ?_
  conv => whnf
  refine ⟨(show (¬ (_ : Nat) = _) ∧ (¬ (_ : Nat) = _) from by omega), ?_⟩
  conv => whnf
  refine ⟨(show (¬ (_ : Nat) = _) ∧ (¬ (_ : Nat) = _) from by omega), ?_⟩
  conv => whnf
  exact l_measureWidth T hn hf h 13 0 _ (by omega) (((Fr.refl I).v2 (by simp)).v2 (by simp)) (by rw [v2_ne (by simp), v2_eq]; rfl) (by rw [v2_eq]; rfl) (by omega)
theorem l_measure (T : ZTh X CZ RZ) {d b : Nat} {Q : ZQ} {r : Nat} {S : Nat → Bool} {I0 : ZI} {L : ZL} (hz : za r 0 = r + 2) (hn : r ≠ 304 ∧ r ≠ 578) (hS : RgS L r S) (h : ∀ I', Fr (fun a b => a = r ∧ 1 ≤ b ∧ b ≤ 5) I0 I' → RgM I' r S → Q (.inl none) I' L) (m : Nat) : ∀ (y : Nat) (w : Int64) (I : ZI), (y ≤ 12) → (Fr (fun a b => a = r ∧ 1 ≤ b ∧ b ≤ 5) I0 I) → (I r 1 = cn S (48 * y)) → (I r 3 = lo (rowO S) y) → (I r 5 = lw (rowO S) y) → (∀ i, bt w i = orO S y i) → 12 - (y : Int) < (m : Int) → RZ (d + 1) k_X6_measure Q 19 [.inr (.ref r, 7), .inr (.long (w), 0), zj, .inl ((y : Int))] [] b I L := by
  induction m with
  | zero =>
    intro y w I hy hfr h1 h3 h5 hw hm
    exfalso
    omega
  | succ m ih =>
    intro y w I hy hfr h1 h3 h5 hw hm
    have hl := lo_bound (rowO S) y
    have hlw := lw_pos (rowO S) y
    have hb1 := cn_nonneg S (48 * y)
    have hb2 := cn_le S (48 * y)
    refine T.go [19] 90 ?_
    conv => whnf
    refine ⟨by omega, fun c22 => ?_, fun c22 => ?_⟩
    · conv => whnf
      have e : y = 12 := by omega
      subst e
      refine zinv0 (s_X6_measureWidth T (colO S) (by first | assumption | omega | rfl | decide) (by exact orO_col hw) ?_)
      intro I_102 hf_102 h2_102 h4_102
      conv => whnf
      exact h _ (hfr.trans (hf_102.mono (by simp; omega))) ⟨by rw [hf_102 _ _ (by simp), h1], h2_102, by rw [hf_102 _ _ (by simp), h3], h4_102, by rw [hf_102 _ _ (by simp), h5]⟩
    · conv => whnf
      refine ⟨(show (¬ (_ : Nat) = _) ∧ (¬ (_ : Nat) = _) from by omega), _, (by assumption), ?_⟩
      conv => whnf
      refine ⟨by omega, ?_⟩
      conv => whnf
      refine ⟨fun c32 => ?_, fun c32 => ?_, fun c32 => ?_⟩
      · conv => whnf
        refine ⟨by decide, fun c => absurd c (by decide), fun _ => ?_⟩
        conv => whnf
        refine ⟨(show (¬ (_ : Nat) = _) ∧ (¬ (_ : Nat) = _) from by omega), ?_⟩
        conv => whnf
        refine ⟨by omega, fun c41 => ?_, fun c41 => ?_⟩
        · conv => whnf
          refine ⟨(show (¬ (_ : Nat) = _) ∧ (¬ (_ : Nat) = _) from by omega), ?_⟩
          conv => whnf
          refine ⟨(show (¬ (_ : Nat) = _) ∧ (¬ (_ : Nat) = _) from by omega), ?_⟩
          conv => whnf
          refine ⟨(show (¬ (_ : Nat) = _) ∧ (¬ (_ : Nat) = _) from by omega), ?_⟩
          conv => whnf
          refine ⟨(show (¬ (_ : Nat) = _) ∧ (¬ (_ : Nat) = _) from by omega), ?_⟩
          conv => whnf
          refine ⟨(show (¬ (_ : Nat) = _) ∧ (¬ (_ : Nat) = _) from by omega), ?_⟩
          conv => whnf
          refine ⟨(show (¬ (_ : Nat) = _) ∧ (¬ (_ : Nat) = _) from by omega), _, (by assumption), ?_⟩
          conv => whnf
          refine ⟨by omega, ?_⟩
          conv => whnf
          refine zinv0 (s_J13_bitCount_95d88 T   ?_)
          conv => whnf
          refine ⟨(show (¬ (_ : Nat) = _) ∧ (¬ (_ : Nat) = _) from by omega), ?_⟩
          conv => whnf
          refine ⟨(show (¬ (_ : Nat) = _) ∧ (¬ (_ : Nat) = _) from by omega), _, (by assumption), ?_⟩
          conv => whnf
          refine ⟨by omega, ?_⟩
          conv => whnf
          have ht : rowO S y = true := (row_ne hS (by omega)).mp (l_ne_lt c32)
          have hz5 : lw (rowO S) y = 0 ↔ I r 1 = 0 := by rw [lw_zero, ← rowO_zero, h1]
          have hs := stp_1 ht (by rw [hz5]; exact c41)
          refine ih (y + 1) _ _ (by omega) (((hfr.v2 (by simp)).v2 (by simp)).v2 (by simp)) ?_ ?_ ?_ (orO_s hS (by omega) hw) (by omega)
          · rw [v2_eq, v2_ne (by simp), v2_ne (by simp), h1, cn_rows, popc_row hS (by omega)]
          · rw [v2_ne (by simp), v2_ne (by simp), v2_eq, hs.1, h3]
          · rw [v2_ne (by simp), v2_eq, v2_eq, hs.2, h3]
        · conv => whnf
          refine ⟨(show (¬ (_ : Nat) = _) ∧ (¬ (_ : Nat) = _) from by omega), ?_⟩
          conv => whnf
          refine ⟨(show (¬ (_ : Nat) = _) ∧ (¬ (_ : Nat) = _) from by omega), ?_⟩
          conv => whnf
          refine ⟨(show (¬ (_ : Nat) = _) ∧ (¬ (_ : Nat) = _) from by omega), ?_⟩
          conv => whnf
          refine ⟨(show (¬ (_ : Nat) = _) ∧ (¬ (_ : Nat) = _) from by omega), ?_⟩
          conv => whnf
          refine ⟨(show (¬ (_ : Nat) = _) ∧ (¬ (_ : Nat) = _) from by omega), _, (by assumption), ?_⟩
          conv => whnf
          refine ⟨by omega, ?_⟩
          conv => whnf
          refine zinv0 (s_J13_bitCount_95d88 T   ?_)
          conv => whnf
          refine ⟨(show (¬ (_ : Nat) = _) ∧ (¬ (_ : Nat) = _) from by omega), ?_⟩
          conv => whnf
          refine ⟨(show (¬ (_ : Nat) = _) ∧ (¬ (_ : Nat) = _) from by omega), _, (by assumption), ?_⟩
          conv => whnf
          refine ⟨by omega, ?_⟩
          conv => whnf
          have ht : rowO S y = true := (row_ne hS (by omega)).mp (l_ne_lt c32)
          have hz5 : lw (rowO S) y = 0 ↔ I r 1 = 0 := by rw [lw_zero, ← rowO_zero, h1]
          have hs := stp_0 ht (by rw [hz5]; exact c41)
          refine ih (y + 1) _ _ (by omega) (((hfr.v2 (by simp)).v2 (by simp)).v2 (by simp)) ?_ ?_ ?_ (orO_s hS (by omega) hw) (by omega)
          · rw [v2_eq, v2_ne (by simp), v2_ne (by simp), h1, cn_rows, popc_row hS (by omega)]
          · rw [v2_ne (by simp), v2_ne (by simp), v2_eq, hs.1]
          · rw [v2_ne (by simp), v2_eq, v2_eq, hs.2]
      · conv => whnf
        refine ⟨by decide, fun _ => ?_, fun c => absurd c (by decide)⟩
        conv => whnf
        have ht : rowO S y = false := by
          cases e : rowO S y with
          | false => rfl
          | true => exact ((row_ne hS (by omega)).mpr e c32).elim
        have hs := stp_f ht
        refine ih (y + 1) w I (by omega) hfr (by rw [h1, cn_rows, rowO_f ht, Int.add_zero]) (h3.trans hs.1.symm) (h5.trans hs.2.symm) (fun i => by rw [orO_row ht]; exact hw i) (by omega)
      · conv => whnf
        refine ⟨by decide, fun c => absurd c (by decide), fun _ => ?_⟩
        conv => whnf
        refine ⟨(show (¬ (_ : Nat) = _) ∧ (¬ (_ : Nat) = _) from by omega), ?_⟩
        conv => whnf
        refine ⟨by omega, fun c41 => ?_, fun c41 => ?_⟩
        · conv => whnf
          refine ⟨(show (¬ (_ : Nat) = _) ∧ (¬ (_ : Nat) = _) from by omega), ?_⟩
          conv => whnf
          refine ⟨(show (¬ (_ : Nat) = _) ∧ (¬ (_ : Nat) = _) from by omega), ?_⟩
          conv => whnf
          refine ⟨(show (¬ (_ : Nat) = _) ∧ (¬ (_ : Nat) = _) from by omega), ?_⟩
          conv => whnf
          refine ⟨(show (¬ (_ : Nat) = _) ∧ (¬ (_ : Nat) = _) from by omega), ?_⟩
          conv => whnf
          refine ⟨(show (¬ (_ : Nat) = _) ∧ (¬ (_ : Nat) = _) from by omega), ?_⟩
          conv => whnf
          refine ⟨(show (¬ (_ : Nat) = _) ∧ (¬ (_ : Nat) = _) from by omega), _, (by assumption), ?_⟩
          conv => whnf
          refine ⟨by omega, ?_⟩
          conv => whnf
          refine zinv0 (s_J13_bitCount_95d88 T   ?_)
          conv => whnf
          refine ⟨(show (¬ (_ : Nat) = _) ∧ (¬ (_ : Nat) = _) from by omega), ?_⟩
          conv => whnf
          refine ⟨(show (¬ (_ : Nat) = _) ∧ (¬ (_ : Nat) = _) from by omega), _, (by assumption), ?_⟩
          conv => whnf
          refine ⟨by omega, ?_⟩
          conv => whnf
          have ht : rowO S y = true := (row_ne hS (by omega)).mp (l_ne_gt c32)
          have hz5 : lw (rowO S) y = 0 ↔ I r 1 = 0 := by rw [lw_zero, ← rowO_zero, h1]
          have hs := stp_1 ht (by rw [hz5]; exact c41)
          refine ih (y + 1) _ _ (by omega) (((hfr.v2 (by simp)).v2 (by simp)).v2 (by simp)) ?_ ?_ ?_ (orO_s hS (by omega) hw) (by omega)
          · rw [v2_eq, v2_ne (by simp), v2_ne (by simp), h1, cn_rows, popc_row hS (by omega)]
          · rw [v2_ne (by simp), v2_ne (by simp), v2_eq, hs.1, h3]
          · rw [v2_ne (by simp), v2_eq, v2_eq, hs.2, h3]
        · conv => whnf
          refine ⟨(show (¬ (_ : Nat) = _) ∧ (¬ (_ : Nat) = _) from by omega), ?_⟩
          conv => whnf
          refine ⟨(show (¬ (_ : Nat) = _) ∧ (¬ (_ : Nat) = _) from by omega), ?_⟩
          conv => whnf
          refine ⟨(show (¬ (_ : Nat) = _) ∧ (¬ (_ : Nat) = _) from by omega), ?_⟩
          conv => whnf
          refine ⟨(show (¬ (_ : Nat) = _) ∧ (¬ (_ : Nat) = _) from by omega), ?_⟩
          conv => whnf
          refine ⟨(show (¬ (_ : Nat) = _) ∧ (¬ (_ : Nat) = _) from by omega), _, (by assumption), ?_⟩
          conv => whnf
          refine ⟨by omega, ?_⟩
          conv => whnf
          refine zinv0 (s_J13_bitCount_95d88 T   ?_)
          conv => whnf
          refine ⟨(show (¬ (_ : Nat) = _) ∧ (¬ (_ : Nat) = _) from by omega), ?_⟩
          conv => whnf
          refine ⟨(show (¬ (_ : Nat) = _) ∧ (¬ (_ : Nat) = _) from by omega), _, (by assumption), ?_⟩
          conv => whnf
          refine ⟨by omega, ?_⟩
          conv => whnf
          have ht : rowO S y = true := (row_ne hS (by omega)).mp (l_ne_gt c32)
          have hz5 : lw (rowO S) y = 0 ↔ I r 1 = 0 := by rw [lw_zero, ← rowO_zero, h1]
          have hs := stp_0 ht (by rw [hz5]; exact c41)
          refine ih (y + 1) _ _ (by omega) (((hfr.v2 (by simp)).v2 (by simp)).v2 (by simp)) ?_ ?_ ?_ (orO_s hS (by omega) hw) (by omega)
          · rw [v2_eq, v2_ne (by simp), v2_ne (by simp), h1, cn_rows, popc_row hS (by omega)]
          · rw [v2_ne (by simp), v2_ne (by simp), v2_eq, hs.1]
          · rw [v2_ne (by simp), v2_eq, v2_eq, hs.2]
theorem s_X6_measure (T : ZTh X CZ RZ) {d b : Nat} {r : Nat} (S : Nat → Bool) {I : ZI} {L : ZL} {Q : ZQ} (hz : za r 0 = r + 2) (hn : r ≠ 304 ∧ r ≠ 578) (hS : RgS L r S) (h : ∀ I', Fr (fun a b => a = r ∧ 1 ≤ b ∧ b ≤ 5) I I' → RgM I' r S → Q (.inl none) I' L) : CZ (d + 2) k_X6_measure [.inr (.ref r, 7)] b I L Q := by
  refine T.call rfl ?_
  refine T.go [19] 90 ?_
  conv => whnf
  refine ⟨(show (¬ (_ : Nat) = _) ∧ (¬ (_ : Nat) = _) from by omega), ?_⟩
  conv => whnf
  refine ⟨(show (¬ (_ : Nat) = _) ∧ (¬ (_ : Nat) = _) from by omega), ?_⟩
  conv => whnf
  refine ⟨(show (¬ (_ : Nat) = _) ∧ (¬ (_ : Nat) = _) from by omega), ?_⟩
  conv => whnf
  exact l_measure T hz hn hS h 13 0 0 _ (by omega) ((((Fr.refl I).v2 (by simp)).v2 (by simp)).v2 (by simp)) (by rw [v2_ne (by simp), v2_ne (by simp), v2_eq]; rfl) (by rw [v2_ne (by simp), v2_eq]; rfl) (by rw [v2_eq]; rfl) (fun i => by rw [orO_0]; exact bt_zero i) (by omega)
theorem s_X6_clear (T : ZTh X CZ RZ) {d b : Nat} {r : Nat} {I : ZI} {L : ZL} {Q : ZQ} (hz : za r 0 = r + 2) (hn : r ≠ 304 ∧ r ≠ 578) (h : ∀ I' L', Fr (fun a b => a = r ∧ 1 ≤ b ∧ b ≤ 5) I I' → Fr (fun a _ => a = r + 1) L L' → RgS L' r (fun _ => false) → RgM I' r (fun _ => false) → Q (.inl none) I' L') : CZ (d + 3) k_X6_clear [.inr (.ref r, 7)] b I L Q := by
  refine T.call rfl ?_
  refine T.go [] 90 ?_
  conv => whnf
  refine ⟨(show (¬ (_ : Nat) = _) ∧ (¬ (_ : Nat) = _) from by omega), _, (by assumption), ?_⟩
  conv => whnf
  refine zinv0 (s_J7_fill_d0a16 T   ?_)
  intro L_5 hf_5 hv_5
  have hS0 : RgS L_5 r (fun _ => false) := fun y hy i => by rw [hv_5 y (by omega) (by omega), bt_zero]; simp
  conv => whnf
  refine zinv0 (s_X6_measure T (fun _ => false) (by first | assumption | omega | rfl | decide) (by first | assumption | omega | rfl | decide) (by first | assumption | omega | rfl | decide) ?_)
  intro I_9 hf_9 hM_9
  conv => whnf
  exact h _ _ hf_9 hf_5 hS0 hM_9
theorem s_X6_copy (T : ZTh X CZ RZ) {d b : Nat} {r o : Nat} (S : Nat → Bool) {I : ZI} {L : ZL} {Q : ZQ} (hz : za r 0 = r + 2) (hn : r ≠ 304 ∧ r ≠ 578) (hzo : za o 0 = o + 2) (hno : o ≠ 304 ∧ o ≠ 578) (hd : r ≠ o ∧ r ≠ 303 ∧ r ≠ 577 ∧ o ≠ 303 ∧ o ≠ 577) (hS : RgS L o S) (hM : RgM I o S) (h : ∀ I' L', Fr (fun a b => a = r ∧ 1 ≤ b ∧ b ≤ 5) I I' → Fr (fun a _ => a = r + 1) L L' → RgS L' r S → RgM I' r S → Q (.inl none) I' L') : CZ (d + 1) k_X6_copy [.inr (.ref r, 7), .inr (.ref o, 7)] b I L Q := by
  refine T.call rfl ?_
  refine T.go [] 90 ?_
  conv => whnf
  refine ⟨(show (¬ (_ : Nat) = _) ∧ (¬ (_ : Nat) = _) from by omega), _, (by assumption), ?_⟩
  conv => whnf
  refine ⟨(show (¬ (_ : Nat) = _) ∧ (¬ (_ : Nat) = _) from by omega), _, (by assumption), ?_⟩
  conv => whnf
  refine ⟨⟨by first | decide | omega, (show ¬ ((_ : Nat) = _) from by omega), (show ¬ ((_ : Nat) = _) from by omega), (show ¬ ((_ : Nat) = _) from by omega), (show ¬ ((_ : Nat) = _) from by omega)⟩, ?_⟩
  conv => whnf
  refine ⟨(show (¬ (_ : Nat) = _) ∧ (¬ (_ : Nat) = _) from by omega), ?_⟩
  conv => whnf
  refine ⟨(show (¬ (_ : Nat) = _) ∧ (¬ (_ : Nat) = _) from by omega), ?_⟩
  conv => whnf
  refine ⟨(show (¬ (_ : Nat) = _) ∧ (¬ (_ : Nat) = _) from by omega), ?_⟩
  conv => whnf
  refine ⟨(show (¬ (_ : Nat) = _) ∧ (¬ (_ : Nat) = _) from by omega), ?_⟩
  conv => whnf
  refine ⟨(show (¬ (_ : Nat) = _) ∧ (¬ (_ : Nat) = _) from by omega), ?_⟩
  conv => whnf
  refine ⟨(show (¬ (_ : Nat) = _) ∧ (¬ (_ : Nat) = _) from by omega), ?_⟩
  conv => whnf
  refine ⟨(show (¬ (_ : Nat) = _) ∧ (¬ (_ : Nat) = _) from by omega), ?_⟩
  conv => whnf
  refine ⟨(show (¬ (_ : Nat) = _) ∧ (¬ (_ : Nat) = _) from by omega), ?_⟩
  conv => whnf
  refine ⟨(show (¬ (_ : Nat) = _) ∧ (¬ (_ : Nat) = _) from by omega), ?_⟩
  conv => whnf
  refine ⟨(show (¬ (_ : Nat) = _) ∧ (¬ (_ : Nat) = _) from by omega), ?_⟩
  conv => whnf
  refine h _ _ ((((((Fr.refl I).v2 (by simp)).v2 (by simp)).v2 (by simp)).v2 (by simp)).v2 (by simp)) ((Fr.refl L).zur (fun _ => rfl)) ?_ ?_
  · intro y hy i
    rw [zur_ap, if_pos rfl]
    unfold zcpy
    rw [if_pos ⟨by omega, by omega⟩, show (0 : Int) + ((y : Int) - 0) = y by omega]
    exact hS y hy i
  · have hne : ¬ o = r := fun e => hd.1 e.symm
    simp [RgM, v2_ap, hne]
    exact hM
theorem s_X6_contains (T : ZTh X CZ RZ) {d b : Nat} {r : Nat} {q : Int} (S : Nat → Bool) {I : ZI} {L : ZL} {Q : ZQ} (hz : za r 0 = r + 2) (hn : r ≠ 304 ∧ r ≠ 578) (hS : RgS L r S) (hq : zR q) (h : 0 ≤ q → q < 576 → S q.toNat = true → Q (.inl (some (.inl (1)))) I L) (h2 : q < 0 ∨ 576 ≤ q ∨ S q.toNat = false → Q (.inl (some (.inl (0)))) I L) : CZ (d + 1) k_X6_contains [.inr (.ref r, 7), .inl q] b I L Q := by
  refine T.call rfl ?_
  refine T.go [] 90 ?_
  conv => whnf
  refine ⟨by omega, fun c1 => ?_, fun c1 => ?_⟩
  · conv => whnf
    refine ⟨by omega, ?_⟩
    exact h2 (by omega)
  · conv => whnf
    refine ⟨by omega, fun c8 => ?_, fun c8 => ?_⟩
    · conv => whnf
      refine ⟨by omega, ?_⟩
      exact h2 (by omega)
    · conv => whnf
      refine ⟨(show (¬ (_ : Nat) = _) ∧ (¬ (_ : Nat) = _) from by omega), _, (by assumption), ?_⟩
      conv => whnf
      refine ⟨by omega, Or.inl ⟨by omega, ?_⟩⟩
      conv => whnf
      refine ⟨by omega, ?_⟩
      conv => whnf
      refine ⟨by omega, ?_⟩
      conv => whnf
      obtain ⟨n, rfl⟩ := Int.eq_ofNat_of_zero_le c1
      have hn9 : n < 576 := by omega
      have e1 := hS.at' hn9
      have e2 := bit_0 (w := L (r + 1) (((n / 48 : Nat)) : Int)) (k := n % 48) (by omega)
      rw [e1] at e2
      rw [Int.natCast_ediv, Int.natCast_emod] at e2
      refine ⟨by omega, ?_⟩
      conv => whnf
      refine ⟨fun c28 => ?_, fun c28 => ?_, fun c28 => ?_⟩
      · conv => whnf
        refine ⟨by decide, fun c => absurd c (by decide), fun _ => ?_⟩
        conv => whnf
        refine ⟨by omega, ?_⟩
        refine h c1 c8 ?_
        cases e : S (n : Int).toNat with
        | true => rfl
        | false => exact absurd (e2.mpr e) (by first | exact l_ne_lt c28 | exact l_ne_gt c28)
      · conv => whnf
        refine ⟨by decide, fun _ => ?_, fun c => absurd c (by decide)⟩
        conv => whnf
        refine ⟨by omega, ?_⟩
        exact h2 (Or.inr (Or.inr (e2.mp c28)))
      · conv => whnf
        refine ⟨by decide, fun c => absurd c (by decide), fun _ => ?_⟩
        conv => whnf
        refine ⟨by omega, ?_⟩
        refine h c1 c8 ?_
        cases e : S (n : Int).toNat with
        | true => rfl
        | false => exact absurd (e2.mpr e) (by first | exact l_ne_lt c28 | exact l_ne_gt c28)
theorem l_countDifferent (T : ZTh X CZ RZ) {d b : Nat} {Q : ZQ} {r o : Nat} {S S2 : Nat → Bool} {I : ZI} {L : ZL} (hz : za r 0 = r + 2) (hn : r ≠ 304 ∧ r ≠ 578) (hzo : za o 0 = o + 2) (hno : o ≠ 304 ∧ o ≠ 578) (hS : RgS L r S) (hS2 : RgS L o S2) (h : Q (.inl (some (.inl (cn (fun q => S q ^^ S2 q) 576)))) I L) (m : Nat) : ∀ (y : Nat) (c : Int), (y ≤ 12) → (c = cn (fun q => S q ^^ S2 q) (48 * y)) → 12 - (y : Int) < (m : Int) → RZ (d + 1) k_X6_countDifferent Q 4 [.inr (.ref r, 7), .inr (.ref o, 7), .inl c, .inl ((y : Int))] [] b I L := by
  induction m with
  | zero =>
    intro y c hy hc hm
    exfalso
    omega
  | succ m ih =>
    intro y c hy hc hm
    refine T.go [4] 90 ?_
    conv => whnf
    refine ⟨by omega, fun c7 => ?_, fun c7 => ?_⟩
    · conv => whnf
      have e : y = 12 := by omega
      subst e
      rw [hc]
      exact h
    · conv => whnf
      refine ⟨(show (¬ (_ : Nat) = _) ∧ (¬ (_ : Nat) = _) from by omega), _, (by assumption), ?_⟩
      conv => whnf
      refine ⟨by omega, ?_⟩
      conv => whnf
      refine ⟨(show (¬ (_ : Nat) = _) ∧ (¬ (_ : Nat) = _) from by omega), _, (by assumption), ?_⟩
      conv => whnf
      refine ⟨by omega, ?_⟩
      conv => whnf
      refine zinv0 (s_J13_bitCount_95d88 T   ?_)
      conv => whnf
      exact ih (y + 1) _ (by omega) (by rw [popc_xor hS hS2 (by omega), hc, cn_rows]) (by omega)
theorem s_X6_countDifferent (T : ZTh X CZ RZ) {d b : Nat} {r o : Nat} (S S2 : Nat → Bool) {I : ZI} {L : ZL} {Q : ZQ} (hz : za r 0 = r + 2) (hn : r ≠ 304 ∧ r ≠ 578) (hzo : za o 0 = o + 2) (hno : o ≠ 304 ∧ o ≠ 578) (hS : RgS L r S) (hS2 : RgS L o S2) (h : Q (.inl (some (.inl (cn (fun q => S q ^^ S2 q) 576)))) I L) : CZ (d + 2) k_X6_countDifferent [.inr (.ref r, 7), .inr (.ref o, 7)] b I L Q := by
  refine T.call rfl ?_
  refine T.go [4] 90 ?_
  conv => whnf
  exact l_countDifferent T hz hn hzo hno hS hS2 h 13 0 0 (by omega) rfl (by omega)
theorem s_X6_hasSameQuarters (T : ZTh X CZ RZ) {d b : Nat} {r o : Nat} (S S2 : Nat → Bool) {I : ZI} {L : ZL} {Q : ZQ} (hz : za r 0 = r + 2) (hn : r ≠ 304 ∧ r ≠ 578) (hzo : za o 0 = o + 2) (hno : o ≠ 304 ∧ o ≠ 578) (hS : RgS L r S) (hS2 : RgS L o S2) (h : (∀ q, q < 576 → S q = S2 q) → Q (.inl (some (.inl (1)))) I L) (h2 : ¬ (∀ q, q < 576 → S q = S2 q) → Q (.inl (some (.inl (0)))) I L) : CZ (d + 3) k_X6_hasSameQuarters [.inr (.ref r, 7), .inr (.ref o, 7)] b I L Q := by
  refine T.call rfl ?_
  refine T.go [] 90 ?_
  conv => whnf
  refine zinv0 (s_X6_countDifferent T S S2 (by first | assumption | omega | rfl | decide) (by first | assumption | omega | rfl | decide) (by first | assumption | omega | rfl | decide) (by first | assumption | omega | rfl | decide) (by first | assumption | omega | rfl | decide) (by first | assumption | omega | rfl | decide) ?_)
  skip
  conv => whnf
  have hb1 := cn_nonneg (fun q => S q ^^ S2 q) 576
  have hb2 := cn_le (fun q => S q ^^ S2 q) 576
  refine ⟨by omega, fun c5 => ?_, fun c5 => ?_⟩
  · conv => whnf
    refine ⟨by omega, ?_⟩
    exact h2 (fun e => c5 (cn_false fun q hq => by simp [e q hq]))
  · conv => whnf
    refine ⟨by omega, ?_⟩
    exact h (fun q hq => by have := cn_zero c5 q hq; simpa using this)
end
