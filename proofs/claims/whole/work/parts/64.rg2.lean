/-! REGIONS, 2 -/
section
variable {X : Ext} {CZ : Nat → ZC} {RZ : Nat → Nat → ZQ → ZP}
theorem l_alike (T : ZTh X CZ RZ) {d b : Nat} {Q : ZQ} {r o : Nat} {S S2 : Nat → Bool} {I : ZI} {L : ZL} (hz : za r 0 = r + 2) (hn : r ≠ 304 ∧ r ≠ 578) (hzo : za o 0 = o + 2) (hno : o ≠ 304 ∧ o ≠ 578) (hS : RgS L r S) (hS2 : RgS L o S2) (hM : RgM I r S) (hM2 : RgM I o S2) (heq : hg S = hg S2) (h : (∀ q, q < 576 → nrm S q = nrm S2 q) → Q (.inl (some (.inl 1))) I L) (h2 : ¬ (∀ q, q < 576 → nrm S q = nrm S2 q) → Q (.inl (some (.inl 0))) I L) (m : Nat) : ∀ (y : Nat), (y ≤ hg S) → (∀ q, q / 48 < y → nrm S q = nrm S2 q) → 12 - (y : Int) < (m : Int) → RZ (d + 1) k_X6_isAlikeByShifting Q 37 [.inr (.ref r, 7), .inr (.ref o, 7), .inl ((y : Int))] [] b I L := by
  induction m with
  | zero =>
    intro y hy hq hm
    have hb := box_le S
    exfalso
    omega
  | succ m ih =>
    intro y hy hq hm
    have hb := box_le S
    have hb2 := box_le S2
    have ha := hM.at
    have ha2 := hM2.at
    obtain ⟨a2, a3, a4, a5⟩ := ha
    obtain ⟨b2, b3, b4, b5⟩ := ha2
    refine T.go [37] 90 ?_
    conv => whnf
    refine ⟨(show (¬ (_ : Nat) = _) ∧ (¬ (_ : Nat) = _) from by omega), ?_⟩
    conv => whnf
    refine ⟨by omega, fun c42 => ?_, fun c42 => ?_⟩
    · conv => whnf
      refine ⟨by omega, ?_⟩
      refine h (fun q hq2 => ?_)
      by_cases e : q / 48 < y
      · exact hq q e
      · rw [nrm_high (by omega), nrm_high (by omega)]
    · conv => whnf
      refine ⟨(show (¬ (_ : Nat) = _) ∧ (¬ (_ : Nat) = _) from by omega), ?_⟩
      conv => whnf
      refine zinv0 (s_X6_rowAt T  (by first | assumption | omega | rfl | decide) (by first | assumption | omega | rfl | decide) (by first | assumption | omega | rfl | decide) ?_ ?_)
      · intro cha_52 chb_52
        conv => whnf
        refine ⟨(show (¬ (_ : Nat) = _) ∧ (¬ (_ : Nat) = _) from by omega), ?_⟩
        conv => whnf
        refine ⟨by rw [a2]; omega, ?_⟩
        conv => whnf
        refine ⟨(show (¬ (_ : Nat) = _) ∧ (¬ (_ : Nat) = _) from by omega), ?_⟩
        conv => whnf
        refine zinv0 (s_X6_rowAt T  (by first | assumption | omega | rfl | decide) (by first | assumption | omega | rfl | decide) (by first | assumption | omega | rfl | decide) ?_ ?_)
        · intro cha_69 chb_69
          conv => whnf
          refine ⟨(show (¬ (_ : Nat) = _) ∧ (¬ (_ : Nat) = _) from by omega), ?_⟩
          conv => whnf
          refine ⟨by rw [b2]; omega, ?_⟩
          conv => whnf
          refine ⟨fun c79 => ?_, fun c79 => ?_, fun c79 => ?_⟩
          · conv => whnf
            refine ⟨by decide, fun c => absurd c (by decide), fun _ => ?_⟩
            conv => whnf
            refine ⟨by omega, ?_⟩
            refine h2 (fun e => ?_)
            rw [a3, a2, b3, b2] at c79
            have := (alike_row hS hS2 (y := y) (by omega) (by omega)).mpr (fun i hi => e _ (by omega))
            rw [this] at c79
            exact Int64.lt_irrefl c79
          · conv => whnf
            refine ⟨by decide, fun _ => ?_, fun c => absurd c (by decide)⟩
            conv => whnf
            refine ih (y + 1) (by omega) (fun q hq2 => ?_) (by omega)
            by_cases e : q / 48 < y
            · exact hq q e
            · rw [a3, a2, b3, b2] at c79
              have := (alike_row hS hS2 (y := y) (by omega) (by omega)).mp c79 (q % 48) (by omega)
              rw [show 48 * y + q % 48 = q by omega] at this
              exact this
          · conv => whnf
            refine ⟨by decide, fun c => absurd c (by decide), fun _ => ?_⟩
            conv => whnf
            refine ⟨by omega, ?_⟩
            refine h2 (fun e => ?_)
            rw [a3, a2, b3, b2] at c79
            have := (alike_row hS hS2 (y := y) (by omega) (by omega)).mpr (fun i hi => e _ (by omega))
            rw [this] at c79
            exact Int64.lt_irrefl c79
        · intro ch2a_69
          exfalso; omega
      · intro ch2a_52
        exfalso; omega
theorem s_X6_isAlikeByShifting (T : ZTh X CZ RZ) {d b : Nat} {r o : Nat} (S S2 : Nat → Bool) {I : ZI} {L : ZL} {Q : ZQ} (hz : za r 0 = r + 2) (hn : r ≠ 304 ∧ r ≠ 578) (hzo : za o 0 = o + 2) (hno : o ≠ 304 ∧ o ≠ 578) (hS : RgS L r S) (hS2 : RgS L o S2) (hM : RgM I r S) (hM2 : RgM I o S2) (h : AL S S2 → Q (.inl (some (.inl (1)))) I L) (h2 : ¬ AL S S2 → Q (.inl (some (.inl (0)))) I L) : CZ (d + 2) k_X6_isAlikeByShifting [.inr (.ref r, 7), .inr (.ref o, 7)] b I L Q := by
  refine T.call rfl ?_
  have ha := hM.at
  have ha2 := hM2.at
  obtain ⟨a1, -⟩ := hM
  obtain ⟨b1, -⟩ := hM2
  have hb := box_le S
  have hb2 := box_le S2
  have n1 := cn_nonneg S 576
  have n2 := cn_le S 576
  have n3 := cn_nonneg S2 576
  have n4 := cn_le S2 576
  refine T.go [37] 90 ?_
  conv => whnf
  refine ⟨(show (¬ (_ : Nat) = _) ∧ (¬ (_ : Nat) = _) from by omega), ?_⟩
  conv => whnf
  refine ⟨(show (¬ (_ : Nat) = _) ∧ (¬ (_ : Nat) = _) from by omega), ?_⟩
  conv => whnf
  refine ⟨by omega, fun c8 => ?_, fun c8 => ?_⟩
  · conv => whnf
    refine ⟨by omega, ?_⟩
    refine h2 (fun e => ?_)
    obtain ⟨e1, e2, e3, -⟩ := e
    omega
  · conv => whnf
    refine ⟨(show (¬ (_ : Nat) = _) ∧ (¬ (_ : Nat) = _) from by omega), ?_⟩
    conv => whnf
    refine ⟨(show (¬ (_ : Nat) = _) ∧ (¬ (_ : Nat) = _) from by omega), ?_⟩
    conv => whnf
    refine ⟨by omega, fun c19 => ?_, fun c19 => ?_⟩
    · conv => whnf
      refine ⟨by omega, ?_⟩
      refine h2 (fun e => ?_)
      obtain ⟨e1, e2, e3, -⟩ := e
      omega
    · conv => whnf
      refine ⟨(show (¬ (_ : Nat) = _) ∧ (¬ (_ : Nat) = _) from by omega), ?_⟩
      conv => whnf
      refine ⟨(show (¬ (_ : Nat) = _) ∧ (¬ (_ : Nat) = _) from by omega), ?_⟩
      conv => whnf
      refine ⟨by omega, fun c30 => ?_, fun c30 => ?_⟩
      · conv => whnf
        have hM : RgM I r S := ⟨a1, by omega, by omega, by omega, by omega⟩
        have hM2 : RgM I o S2 := ⟨b1, by omega, by omega, by omega, by omega⟩
        exact l_alike T hz hn hzo hno hS hS2 hM hM2 (by omega) (fun e => h ⟨by omega, by omega, by omega, e⟩) (fun e => h2 (fun c => e c.2.2.2)) 13 0 (by omega) (fun q hq => by omega) (by omega)
      · conv => whnf
        refine ⟨by omega, ?_⟩
        refine h2 (fun e => ?_)
        obtain ⟨e1, e2, e3, -⟩ := e
        omega
theorem l_exchange (T : ZTh X CZ RZ) {d b : Nat} {Q : ZQ} {r o x y : Nat} {S S2 : Nat → Bool} {I : ZI} {L0 : ZL} (hz : za r 0 = r + 2) (hn : r ≠ 304 ∧ r ≠ 578) (hzo : za o 0 = o + 2) (hno : o ≠ 304 ∧ o ≠ 578) (hd : r ≠ o) (hS : RgS L0 r S) (hS2 : RgS L0 o S2) (hh : I o 5 = hg S2) (ht : tp S2 = 0) (hx : x < 12 ∧ y + hg S2 ≤ 12) (hb2 : Bx S2 x y) (h : ∀ L', Fr (fun a _ => a = r + 1) L0 L' → RgS L' r (fun q => S q ^^ shf S2 (48 * y + 4 * x) q) → Q (.inl none) I L') (m : Nat) : ∀ (i : Nat) (L : ZL), (i ≤ hg S2) → (Fr (fun a _ => a = r + 1) L0 L) → (RgS L r (fun q => S q ^^ (decide (q / 48 < y + i) && shf S2 (48 * y + 4 * x) q))) → 12 - (i : Int) < (m : Int) → RZ (d + 1) k_X6_exchange Q 3 [.inr (.ref r, 7), .inr (.ref o, 7), .inl ((x : Int)), .inl ((y : Int)), .inl ((i : Int))] [] b I L := by
  induction m with
  | zero =>
    intro i L hi hfr hL hm
    have hb := box_le S2
    exfalso
    omega
  | succ m ih =>
    intro i L hi hfr hL hm
    have hb := box_le S2
    refine T.go [3] 90 ?_
    conv => whnf
    refine ⟨(show (¬ (_ : Nat) = _) ∧ (¬ (_ : Nat) = _) from by omega), ?_⟩
    conv => whnf
    refine ⟨by omega, fun c9 => ?_, fun c9 => ?_⟩
    · conv => whnf
      refine h L hfr (hL.congr (fun q hq => ?_))
      by_cases e : q / 48 < y + i
      · simp [e]
      · have k : shf S2 (48 * y + 4 * x) q = false := by
          cases hs : shf S2 (48 * y + 4 * x) q with
          | false => rfl
          | true =>
            unfold shf at hs
            rw [Bool.and_eq_true, decide_eq_true_iff] at hs
            have h3 := hb2 _ hs.2
            have h4 := in_box (S := S2) (y := (q - (48 * y + 4 * x)) / 48) (i := (q - (48 * y + 4 * x)) % 48) (by omega) (by omega) (by rw [show 48 * ((q - (48 * y + 4 * x)) / 48) + (q - (48 * y + 4 * x)) % 48 = q - (48 * y + 4 * x) by omega]; exact hs.2)
            omega
        simp [k]
    · conv => whnf
      refine ⟨by omega, fun c16 => ?_, fun c16 => ?_⟩
      · conv => whnf
        exfalso
        omega
      · conv => whnf
        refine ⟨by omega, fun c25 => ?_, fun c25 => ?_⟩
        · conv => whnf
          exfalso
          omega
        · conv => whnf
          refine ⟨(show (¬ (_ : Nat) = _) ∧ (¬ (_ : Nat) = _) from by omega), _, (by assumption), ?_⟩
          conv => whnf
          refine ⟨by omega, ?_⟩
          conv => whnf
          refine zinv0 (s_X6_rowAt T  (by first | assumption | omega | rfl | decide) (by first | assumption | omega | rfl | decide) (by first | assumption | omega | rfl | decide) ?_ ?_)
          · intro cha_41 chb_41
            conv => whnf
            refine ⟨by omega, ?_⟩
            conv => whnf
            refine ⟨by omega, ?_⟩
            conv => whnf
            have e1 : (y : Int) + (i : Int) = ((y + i : Nat) : Int) := by omega
            have hr2 : RgS L o S2 := hS2.row (fun j => hfr _ _ (by simp; omega))
            refine ih (i + 1) _ (by omega) (hfr.w2 rfl) ?_ (by omega)
            intro Y hY j
            by_cases eY : Y = y + i
            · rw [e1, eY, w2_eq, bt_xor, hL (y + i) (by omega), show (4 * (x : Int)) = ((4 * x : Nat) : Int) by omega, bt_shl _ (by omega), hr2 i (by omega)]
              by_cases hj : j < 48
              · dsimp only
                have k1 : (48 * (y + i) + j) / 48 = y + i := by omega
                have k2 : j < 64 := by omega
                rw [k1, shf_row hb2 hj]
                have k3 : y + i - y = i := by omega
                rw [k3]
                have k4 : ¬ (y + i < y + i) := by omega
                have k5 : y + i < y + (i + 1) := by omega
                have k6 : y ≤ y + i := by omega
                have k7 : j - 4 * x < 48 := by omega
                by_cases k8 : j < 4 * x
                · have k9 : ¬ (4 * x ≤ j) := by omega
                  simp [hj, k2, k8, k9]
                · have k9 : 4 * x ≤ j := by omega
                  simp [hj, k2, k5, k6, k7, k8, k9]
              · have k0 : S2 (48 * i + (j - 4 * x)) = true → j - 4 * x < 48 → False := fun hs hj2 => by
                  have := hb2 _ hs
                  omega
                simp only [hj, decide_false, Bool.false_and, Bool.false_xor]
                cases hs : S2 (48 * i + (j - 4 * x)) with
                | false => simp
                | true =>
                  have : ¬ (j - 4 * x < 48) := fun c => k0 hs c
                  simp [this]
            · rw [e1, w2_ne (by simp; omega), hL Y hY]
              by_cases hj : j < 48
              · dsimp only
                have k1 : (48 * Y + j) / 48 = Y := by omega
                rw [k1]
                have k2 : (Y < y + i) ↔ (Y < y + (i + 1)) := by omega
                simp only [hj, decide_true, Bool.true_and, k2]
              · simp [hj]
          · intro ch2a_41
            exfalso; omega
theorem s_X6_exchange (T : ZTh X CZ RZ) {d b : Nat} {r o x y : Nat} (S S2 : Nat → Bool) {I : ZI} {L : ZL} {Q : ZQ} (hz : za r 0 = r + 2) (hn : r ≠ 304 ∧ r ≠ 578) (hzo : za o 0 = o + 2) (hno : o ≠ 304 ∧ o ≠ 578) (hd : r ≠ o) (hS : RgS L r S) (hS2 : RgS L o S2) (hh : I o 5 = hg S2) (ht : tp S2 = 0) (hx : x < 12 ∧ y + hg S2 ≤ 12) (hb2 : Bx S2 x y) (h : ∀ L', Fr (fun a _ => a = r + 1) L L' → RgS L' r (fun q => S q ^^ shf S2 (48 * y + 4 * x) q) → Q (.inl none) I L') : CZ (d + 2) k_X6_exchange [.inr (.ref r, 7), .inr (.ref o, 7), .inl ((x : Int)), .inl ((y : Int))] b I L Q := by
  refine T.call rfl ?_
  refine T.go [3] 90 ?_
  conv => whnf
  refine l_exchange T hz hn hzo hno hd hS hS2 hh ht hx hb2 h 13 0 L (by omega) (Fr.refl L) (hS.congr (fun q hq => ?_)) (by omega)
  by_cases e : q / 48 < y
  · have : ¬ (48 * y + 4 * x ≤ q) := by omega
    simp [shf, this]
  · simp [e]
theorem l_containsAll (T : ZTh X CZ RZ) {d b : Nat} {Q : ZQ} {r o x y : Nat} {S S2 : Nat → Bool} {I : ZI} {L : ZL} (hz : za r 0 = r + 2) (hn : r ≠ 304 ∧ r ≠ 578) (hzo : za o 0 = o + 2) (hno : o ≠ 304 ∧ o ≠ 578) (hS : RgS L r S) (hS2 : RgS L o S2) (hh : I o 5 = hg S2) (ht : tp S2 = 0) (hx : x < 12 ∧ y < 12) (hb2 : ∀ q, q < 576 → S2 q = true → q % 48 + 4 * x < 64) (h : (∀ q, q < 576 → S2 q = true → q / 48 + y < 12 ∧ q % 48 + 4 * x < 48 ∧ S (q + (48 * y + 4 * x)) = true) → Q (.inl (some (.inl 1))) I L) (h2 : ¬ (∀ q, q < 576 → S2 q = true → q / 48 + y < 12 ∧ q % 48 + 4 * x < 48 ∧ S (q + (48 * y + 4 * x)) = true) → Q (.inl (some (.inl 0))) I L) (m : Nat) : ∀ (i : Nat), (i ≤ hg S2) → (∀ q, q < 576 → q / 48 < i → S2 q = true → q / 48 + y < 12 ∧ q % 48 + 4 * x < 48 ∧ S (q + (48 * y + 4 * x)) = true) → 12 - (i : Int) < (m : Int) → RZ (d + 1) k_X6_containsAll Q 3 [.inr (.ref r, 7), .inr (.ref o, 7), .inl ((x : Int)), .inl ((y : Int)), .inl ((i : Int)), zj, zj] [] b I L := by
  induction m with
  | zero =>
    intro i hi hp hm
    have hb := box_le S2
    exfalso
    omega
  | succ m ih =>
    intro i hi hp hm
    have hb := box_le S2
    refine T.go [3] 90 ?_
    conv => whnf
    refine ⟨(show (¬ (_ : Nat) = _) ∧ (¬ (_ : Nat) = _) from by omega), ?_⟩
    conv => whnf
    refine ⟨by omega, fun c9 => ?_, fun c9 => ?_⟩
    · conv => whnf
      refine ⟨by omega, ?_⟩
      refine h (fun q hq hs => hp q hq ?_ hs)
      have := in_box (S := S2) (y := q / 48) (i := q % 48) (by omega) (by omega) (by rw [show 48 * (q / 48) + q % 48 = q by omega]; exact hs)
      omega
    · conv => whnf
      refine zinv0 (s_X6_rowAt T  (by first | assumption | omega | rfl | decide) (by first | assumption | omega | rfl | decide) (by first | assumption | omega | rfl | decide) ?_ ?_)
      · intro cha_15 chb_15
        conv => whnf
        refine ⟨by omega, ?_⟩
        conv => whnf
        refine zinv0 (s_X6_rowAt T  (by first | assumption | omega | rfl | decide) (by first | assumption | omega | rfl | decide) (by first | assumption | omega | rfl | decide) ?_ ?_)
        · intro cha_29 chb_29
          conv => whnf
          refine ⟨fun c37 => ?_, fun c37 => ?_, fun c37 => ?_⟩
          · conv => whnf
            refine ⟨by decide, fun c => absurd c (by decide), fun _ => ?_⟩
            conv => whnf
            refine ⟨by omega, ?_⟩
            refine h2 (fun e => ?_)
            have hw : L (r + 1) ((y : Int) + (i : Int)) &&& zlsh (L (o + 1) (i : Int)) (4 * (x : Int)) = zlsh (L (o + 1) (i : Int)) (4 * (x : Int)) := by
              apply bt_ext
              intro j hj
              rw [bt_and]
              cases hb9 : bt (zlsh (L (o + 1) (i : Int)) (4 * (x : Int))) j with
              | false => simp
              | true =>
                rw [show (4 * (x : Int)) = ((4 * x : Nat) : Int) by omega, bt_shl _ (by omega), hS2 i (by omega)] at hb9
                simp only [Bool.and_eq_true, decide_eq_true_iff, Bool.not_eq_true', decide_eq_false_iff_not] at hb9
                obtain ⟨g1, g2, g3, g4⟩ := hb9
                have g5 := e _ (by omega) g4
                have g6 : (48 * i + (j - 4 * x)) / 48 = i := by omega
                have g7 : (48 * i + (j - 4 * x)) % 48 = j - 4 * x := by omega
                rw [g6, g7] at g5
                rw [show (y : Int) + (i : Int) = ((y + i : Nat) : Int) by omega, hS (y + i) (by omega)]
                rw [show 48 * i + (j - 4 * x) + (48 * y + 4 * x) = 48 * (y + i) + j by omega] at g5
                rw [g5.2.2]
                simp
                omega
            rw [hw] at c37
            exact Int64.lt_irrefl c37
          · conv => whnf
            refine ⟨by decide, fun _ => ?_, fun c => absurd c (by decide)⟩
            conv => whnf
            refine T.fg [5] ?_
            refine ih (i + 1) (by omega) (fun q hq h1 hs => ?_) (by omega)
            by_cases e : q / 48 < i
            · exact hp q hq e hs
            · have e2 : q / 48 = i := by omega
              have hw := congrArg (fun w => bt w (q % 48 + 4 * x)) c37
              simp only [bt_and] at hw
              rw [show (4 * (x : Int)) = ((4 * x : Nat) : Int) by omega, bt_shl _ (by omega), hS2 i (by omega)] at hw
              have g1 := hb2 q hq hs
              have g2 : q % 48 < 48 := by omega
              have g3 : ¬ (q % 48 + 4 * x < 4 * x) := by omega
              have g4 : q % 48 + 4 * x - 4 * x = q % 48 := by omega
              have g5 : 48 * i + q % 48 = q := by omega
              rw [g4, g5] at hw
              simp only [g1, g2, g3, hs, decide_true, decide_false, Bool.not_false, Bool.true_and, Bool.and_true] at hw
              rw [show (y : Int) + (i : Int) = ((y + i : Nat) : Int) by omega, hS (y + i) (by omega), Bool.and_eq_true, decide_eq_true_iff] at hw
              exact ⟨by omega, hw.1, by rw [show q + (48 * y + 4 * x) = 48 * (y + i) + (q % 48 + 4 * x) by omega]; exact hw.2⟩
          · conv => whnf
            refine ⟨by decide, fun c => absurd c (by decide), fun _ => ?_⟩
            conv => whnf
            refine ⟨by omega, ?_⟩
            refine h2 (fun e => ?_)
            have hw : L (r + 1) ((y : Int) + (i : Int)) &&& zlsh (L (o + 1) (i : Int)) (4 * (x : Int)) = zlsh (L (o + 1) (i : Int)) (4 * (x : Int)) := by
              apply bt_ext
              intro j hj
              rw [bt_and]
              cases hb9 : bt (zlsh (L (o + 1) (i : Int)) (4 * (x : Int))) j with
              | false => simp
              | true =>
                rw [show (4 * (x : Int)) = ((4 * x : Nat) : Int) by omega, bt_shl _ (by omega), hS2 i (by omega)] at hb9
                simp only [Bool.and_eq_true, decide_eq_true_iff, Bool.not_eq_true', decide_eq_false_iff_not] at hb9
                obtain ⟨g1, g2, g3, g4⟩ := hb9
                have g5 := e _ (by omega) g4
                have g6 : (48 * i + (j - 4 * x)) / 48 = i := by omega
                have g7 : (48 * i + (j - 4 * x)) % 48 = j - 4 * x := by omega
                rw [g6, g7] at g5
                rw [show (y : Int) + (i : Int) = ((y + i : Nat) : Int) by omega, hS (y + i) (by omega)]
                rw [show 48 * i + (j - 4 * x) + (48 * y + 4 * x) = 48 * (y + i) + j by omega] at g5
                rw [g5.2.2]
                simp
                omega
            rw [hw] at c37
            exact Int64.lt_irrefl c37
        · intro ch2a_29
          conv => whnf
          refine ⟨fun c37 => ?_, fun c37 => ?_, fun c37 => ?_⟩
          · conv => whnf
            refine ⟨by decide, fun c => absurd c (by decide), fun _ => ?_⟩
            conv => whnf
            refine ⟨by omega, ?_⟩
            refine h2 (fun e => ?_)
            have hw : 0 &&& zlsh (L (o + 1) (i : Int)) (4 * (x : Int)) = zlsh (L (o + 1) (i : Int)) (4 * (x : Int)) := by
              apply bt_ext
              intro j hj
              rw [bt_and]
              cases hb9 : bt (zlsh (L (o + 1) (i : Int)) (4 * (x : Int))) j with
              | false => simp
              | true =>
                rw [show (4 * (x : Int)) = ((4 * x : Nat) : Int) by omega, bt_shl _ (by omega), hS2 i (by omega)] at hb9
                simp only [Bool.and_eq_true, decide_eq_true_iff, Bool.not_eq_true', decide_eq_false_iff_not] at hb9
                obtain ⟨g1, g2, g3, g4⟩ := hb9
                have g5 := e _ (by omega) g4
                have g6 : (48 * i + (j - 4 * x)) / 48 = i := by omega
                have g7 : (48 * i + (j - 4 * x)) % 48 = j - 4 * x := by omega
                rw [g6, g7] at g5
                exfalso
                omega
            rw [hw] at c37
            exact Int64.lt_irrefl c37
          · conv => whnf
            refine ⟨by decide, fun _ => ?_, fun c => absurd c (by decide)⟩
            conv => whnf
            refine T.fg [5] ?_
            refine ih (i + 1) (by omega) (fun q hq h1 hs => ?_) (by omega)
            by_cases e : q / 48 < i
            · exact hp q hq e hs
            · have e2 : q / 48 = i := by omega
              have hw := congrArg (fun w => bt w (q % 48 + 4 * x)) c37
              simp only [bt_and] at hw
              rw [show (4 * (x : Int)) = ((4 * x : Nat) : Int) by omega, bt_shl _ (by omega), hS2 i (by omega)] at hw
              have g1 := hb2 q hq hs
              have g2 : q % 48 < 48 := by omega
              have g3 : ¬ (q % 48 + 4 * x < 4 * x) := by omega
              have g4 : q % 48 + 4 * x - 4 * x = q % 48 := by omega
              have g5 : 48 * i + q % 48 = q := by omega
              rw [g4, g5] at hw
              simp only [g1, g2, g3, hs, decide_true, decide_false, Bool.not_false, Bool.true_and, Bool.and_true] at hw
              rw [bt_zero] at hw
              cases hw
          · conv => whnf
            refine ⟨by decide, fun c => absurd c (by decide), fun _ => ?_⟩
            conv => whnf
            refine ⟨by omega, ?_⟩
            refine h2 (fun e => ?_)
            have hw : 0 &&& zlsh (L (o + 1) (i : Int)) (4 * (x : Int)) = zlsh (L (o + 1) (i : Int)) (4 * (x : Int)) := by
              apply bt_ext
              intro j hj
              rw [bt_and]
              cases hb9 : bt (zlsh (L (o + 1) (i : Int)) (4 * (x : Int))) j with
              | false => simp
              | true =>
                rw [show (4 * (x : Int)) = ((4 * x : Nat) : Int) by omega, bt_shl _ (by omega), hS2 i (by omega)] at hb9
                simp only [Bool.and_eq_true, decide_eq_true_iff, Bool.not_eq_true', decide_eq_false_iff_not] at hb9
                obtain ⟨g1, g2, g3, g4⟩ := hb9
                have g5 := e _ (by omega) g4
                have g6 : (48 * i + (j - 4 * x)) / 48 = i := by omega
                have g7 : (48 * i + (j - 4 * x)) % 48 = j - 4 * x := by omega
                rw [g6, g7] at g5
                exfalso
                omega
            rw [hw] at c37
            exact Int64.lt_irrefl c37
      · intro ch2a_15
        exfalso; omega
theorem s_X6_containsAll (T : ZTh X CZ RZ) {d b : Nat} {r o x y : Nat} (S S2 : Nat → Bool) {I : ZI} {L : ZL} {Q : ZQ} (hz : za r 0 = r + 2) (hn : r ≠ 304 ∧ r ≠ 578) (hzo : za o 0 = o + 2) (hno : o ≠ 304 ∧ o ≠ 578) (hS : RgS L r S) (hS2 : RgS L o S2) (hh : I o 5 = hg S2) (ht : tp S2 = 0) (hx : x < 12 ∧ y < 12) (hb2 : ∀ q, q < 576 → S2 q = true → q % 48 + 4 * x < 64) (h : (∀ q, q < 576 → S2 q = true → q / 48 + y < 12 ∧ q % 48 + 4 * x < 48 ∧ S (q + (48 * y + 4 * x)) = true) → Q (.inl (some (.inl (1)))) I L) (h2 : ¬ (∀ q, q < 576 → S2 q = true → q / 48 + y < 12 ∧ q % 48 + 4 * x < 48 ∧ S (q + (48 * y + 4 * x)) = true) → Q (.inl (some (.inl (0)))) I L) : CZ (d + 2) k_X6_containsAll [.inr (.ref r, 7), .inr (.ref o, 7), .inl ((x : Int)), .inl ((y : Int))] b I L Q := by
  refine T.call rfl ?_
  refine T.go [3] 90 ?_
  conv => whnf
  exact l_containsAll T hz hn hzo hno hS hS2 hh ht hx hb2 h h2 13 0 (by omega) (fun q hq h1 => by omega) (by omega)
theorem l_firstQuarter (T : ZTh X CZ RZ) {d b : Nat} {Q : ZQ} {r : Nat} {S : Nat → Bool} {I : ZI} {L : ZL} (hz : za r 0 = r + 2) (hn : r ≠ 304 ∧ r ≠ 578) (hS : RgS L r S) (h : Q (.inl (some (.inl (fq S)))) I L) (m : Nat) : ∀ (y : Nat), (y ≤ 12) → (∀ q, q < 48 * y → S q = false) → 12 - (y : Int) < (m : Int) → RZ (d + 1) k_X6_firstQuarter Q 2 [.inr (.ref r, 7), .inl ((y : Int)), zj, zj] [] b I L := by
  induction m with
  | zero =>
    intro y hy hp hm
    exfalso
    omega
  | succ m ih =>
    intro y hy hp hm
    refine T.go [2] 90 ?_
    conv => whnf
    refine ⟨by omega, fun c5 => ?_, fun c5 => ?_⟩
    · conv => whnf
      rw [← fq_none (S := S) (fun q hq => hp q (by omega))]
      exact h
    · conv => whnf
      refine ⟨(show (¬ (_ : Nat) = _) ∧ (¬ (_ : Nat) = _) from by omega), _, (by assumption), ?_⟩
      conv => whnf
      refine ⟨by omega, ?_⟩
      conv => whnf
      refine ⟨fun c17 => ?_, fun c17 => ?_, fun c17 => ?_⟩
      · conv => whnf
        refine ⟨by decide, fun c => absurd c (by decide), fun _ => ?_⟩
        conv => whnf
        refine zinv0 (s_J13_bitCount_95d88 T   ?_)
        conv => whnf
        obtain ⟨k, k1, k2, k3⟩ := low_ex (l_ne_lt c17)
        have k4 : k < 48 := by
          rw [hS y (by omega), Bool.and_eq_true, decide_eq_true_iff] at k2
          exact k2.1
        rw [low_bit k1 k2 k3, ← fq_run (y := y) (by omega) hp k4 (by rw [hS y (by omega)] at k2; simpa [k4] using k2) (fun i hi => by
          have := k3 i hi
          rw [hS y (by omega)] at this
          have g : i < 48 := by omega
          simpa [g] using this)]
        exact h
      · conv => whnf
        refine ⟨by decide, fun _ => ?_, fun c => absurd c (by decide)⟩
        conv => whnf
        refine T.fg [2] ?_
        refine ih (y + 1) (by omega) (fun q hq => ?_) (by omega)
        by_cases e : q < 48 * y
        · exact hp q e
        · have := bt_eq0.mp c17 (q - 48 * y) (by omega)
          rw [hS y (by omega), show 48 * y + (q - 48 * y) = q by omega] at this
          have g : q - 48 * y < 48 := by omega
          simpa [g] using this
      · conv => whnf
        refine ⟨by decide, fun c => absurd c (by decide), fun _ => ?_⟩
        conv => whnf
        refine zinv0 (s_J13_bitCount_95d88 T   ?_)
        conv => whnf
        obtain ⟨k, k1, k2, k3⟩ := low_ex (l_ne_gt c17)
        have k4 : k < 48 := by
          rw [hS y (by omega), Bool.and_eq_true, decide_eq_true_iff] at k2
          exact k2.1
        rw [low_bit k1 k2 k3, ← fq_run (y := y) (by omega) hp k4 (by rw [hS y (by omega)] at k2; simpa [k4] using k2) (fun i hi => by
          have := k3 i hi
          rw [hS y (by omega)] at this
          have g : i < 48 := by omega
          simpa [g] using this)]
        exact h
theorem s_X6_firstQuarter (T : ZTh X CZ RZ) {d b : Nat} {r : Nat} (S : Nat → Bool) {I : ZI} {L : ZL} {Q : ZQ} (hz : za r 0 = r + 2) (hn : r ≠ 304 ∧ r ≠ 578) (hS : RgS L r S) (h : Q (.inl (some (.inl (fq S)))) I L) : CZ (d + 2) k_X6_firstQuarter [.inr (.ref r, 7)] b I L Q := by
  refine T.call rfl ?_
  refine T.go [2] 90 ?_
  conv => whnf
  exact l_firstQuarter T hz hn hS h 13 0 (by omega) (fun q hq => by omega) (by omega)
end
