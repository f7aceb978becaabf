/-! REGIONS, 3: looks -/
section
variable {X : Ext} {CZ : Nat → ZC} {RZ : Nat → Nat → ZQ → ZP}
theorem l_moveInto (T : ZTh X CZ RZ) {d b : Nat} {Q : ZQ} {r t : Nat} {S : Nat → Bool} {I : ZI} {L0 : ZL} (hz : za r 0 = r + 2) (hn : r ≠ 304 ∧ r ≠ 578) (hzt : za t 0 = t + 2) (hnt : t ≠ 304 ∧ t ≠ 578) (hd : t ≠ r) (hS : RgS L0 r S) (hM : RgM I r S) (h : ∀ I' L', Fr (fun a b => a = t ∧ 1 ≤ b ∧ b ≤ 5) I I' → Fr (fun a _ => a = t + 1) L0 L' → RgS L' t (nrm S) → RgM I' t (nrm S) → Q (.inl none) I' L') (m : Nat) : ∀ (y : Nat) (L : ZL), (y ≤ 12) → (Fr (fun a _ => a = t + 1) L0 L) → (∀ Y : Nat, Y < y → ∀ i, bt (L (t + 1) (Y : Int)) i = (decide (i < 48) && nrm S (48 * Y + i))) → 12 - (y : Int) < (m : Int) → RZ (d + 2) k_X6_moveInto Q 2 [.inr (.ref r, 7), .inr (.ref t, 7), .inl ((y : Int))] [] b I L := by
  induction m with
  | zero =>
    intro y L hy hfr hp hm
    exfalso
    omega
  | succ m ih =>
    intro y L hy hfr hp hm
    have hb := box_le S
    obtain ⟨a2, a3, a4, a5⟩ := hM.at
    have hr2 : RgS L r S := hS.row (fun j => hfr _ _ (by simp; omega))
    refine T.go [2] 90 ?_
    conv => whnf
    refine ⟨by omega, fun c5 => ?_, fun c5 => ?_⟩
    · conv => whnf
      refine zinv0 (s_X6_measure T (nrm S) (by first | assumption | omega | rfl | decide) (by first | assumption | omega | rfl | decide) (by exact fun Y hY i => hp Y (by omega) i) ?_)
      intro I_38 hf_38 hM_38
      conv => whnf
      exact h _ _ hf_38 hfr (fun Y hY i => hp Y (by omega) i) hM_38
    · conv => whnf
      refine ⟨(show (¬ (_ : Nat) = _) ∧ (¬ (_ : Nat) = _) from by omega), _, (by assumption), ?_⟩
      conv => whnf
      refine ⟨(show (¬ (_ : Nat) = _) ∧ (¬ (_ : Nat) = _) from by omega), ?_⟩
      conv => whnf
      refine zinv0 (s_X6_rowAt T  (by first | assumption | omega | rfl | decide) (by first | assumption | omega | rfl | decide) (by first | assumption | omega | rfl | decide) ?_ ?_)
      · intro cha_20 chb_20
        conv => whnf
        refine ⟨(show (¬ (_ : Nat) = _) ∧ (¬ (_ : Nat) = _) from by omega), ?_⟩
        conv => whnf
        refine ⟨by rw [a2]; have := lo_bound (colO S) 12; omega, ?_⟩
        conv => whnf
        refine ⟨by omega, ?_⟩
        conv => whnf
        refine ih (y + 1) _ (by omega) (hfr.w2 rfl) (fun Y hY i => ?_) (by omega)
        by_cases e : Y = y
        · rw [e, w2_eq, a3, a2]
          exact nrm_bits hr2 (by omega) i
        · rw [w2_ne (by simp; omega)]
          exact hp Y (by omega) i
      · intro ch2a_20
        conv => whnf
        refine ⟨(show (¬ (_ : Nat) = _) ∧ (¬ (_ : Nat) = _) from by omega), ?_⟩
        conv => whnf
        refine ⟨by rw [a2]; have := lo_bound (colO S) 12; omega, ?_⟩
        conv => whnf
        refine ⟨by omega, ?_⟩
        conv => whnf
        refine ih (y + 1) _ (by omega) (hfr.w2 rfl) (fun Y hY i => ?_) (by omega)
        by_cases e : Y = y
        · rw [e, w2_eq, a2, show (4 * ((lt S : Nat) : Int)) = ((4 * lt S : Nat) : Int) by omega, bt_shr _ (by have := lo_bound (colO S) 12; omega), bt_zero]
          unfold nrm
          by_cases hi : i < 48
          · have e1 : (48 * y + i) / 48 = y := by omega
            have e2 : ¬ (y + tp S < 12) := by omega
            rw [e1]
            simp [e2]
          · simp [hi]
        · rw [w2_ne (by simp; omega)]
          exact hp Y (by omega) i
theorem s_X6_moveInto (T : ZTh X CZ RZ) {d b : Nat} {r t : Nat} (S : Nat → Bool) {I : ZI} {L : ZL} {Q : ZQ} (hz : za r 0 = r + 2) (hn : r ≠ 304 ∧ r ≠ 578) (hzt : za t 0 = t + 2) (hnt : t ≠ 304 ∧ t ≠ 578) (hd : t ≠ r) (hS : RgS L r S) (hM : RgM I r S) (h : ∀ I' L', Fr (fun a b => a = t ∧ 1 ≤ b ∧ b ≤ 5) I I' → Fr (fun a _ => a = t + 1) L L' → RgS L' t (nrm S) → RgM I' t (nrm S) → Q (.inl none) I' L') : CZ (d + 3) k_X6_moveInto [.inr (.ref r, 7), .inr (.ref t, 7)] b I L Q := by
  refine T.call rfl ?_
  refine T.go [2] 90 ?_
  conv => whnf
  exact l_moveInto T hz hn hzt hnt hd hS hM h 13 0 L (by omega) (Fr.refl L) (fun Y hY => by omega) (by omega)
theorem l_turnI (T : ZTh X CZ RZ) {d b : Nat} {Q : ZQ} {r t y : Nat} {S : Nat → Bool} {I : ZI} {L0 : ZL} (hz : za r 0 = r + 2) (hn : r ≠ 304 ∧ r ≠ 578) (hzt : za t 0 = t + 2) (hnt : t ≠ 304 ∧ t ≠ 578) (hd : t ≠ r) (hS : RgS L0 r S) (hM : RgM I r S) (hy : y < hg S) (hk : ∀ L', Fr (fun a _ => a = t + 1) L0 L' → RgS L' t (fun q => trn S q && decide (hg S - 1 - q % 48 / 4 < y + 1)) → RZ (d + 2) k_X6_turnInto Q 10 [.inr (.ref r, 7), .inr (.ref t, 7), .inl ((y : Int) + 1), zj, zj, zj] [] b I L') (m : Nat) : ∀ (x : Nat) (L : ZL), (x ≤ wd S) → (Fr (fun a _ => a = t + 1) L0 L) → (RgS L t (fun q => trn S q && (decide (hg S - 1 - q % 48 / 4 < y) || (decide (hg S - 1 - q % 48 / 4 = y) && decide (q / 48 < x))))) → 12 - (x : Int) < (m : Int) → RZ (d + 2) k_X6_turnInto Q 20 [.inr (.ref r, 7), .inr (.ref t, 7), .inl ((y : Int)), .inl ((x : Int)), zj, zj] [] b I L := by
  induction m with
  | zero =>
    intro x L hx hfr hp hm
    have hb := box_le S
    exfalso
    omega
  | succ m ih =>
    intro x L hx hfr hp hm
    have hb := box_le S
    obtain ⟨a2, a3, a4, a5⟩ := hM.at
    have hr2 : RgS L r S := hS.row (fun j => hfr _ _ (by simp; omega))
    refine T.go [10, 20] 90 ?_
    conv => whnf
    refine ⟨(show (¬ (_ : Nat) = _) ∧ (¬ (_ : Nat) = _) from by omega), ?_⟩
    conv => whnf
    refine ⟨by omega, fun c25 => ?_, fun c25 => ?_⟩
    · conv => whnf
      refine T.fg [3] ?_
      refine hk L hfr (hp.congr (fun q hq => ?_))
      cases ht : trn S q with
      | false => simp
      | true =>
        unfold trn at ht
        simp only [Bool.and_eq_true, decide_eq_true_iff] at ht
        have e1 : q / 48 < x := by omega
        simp only [e1, decide_true, Bool.and_true, Bool.true_and]
        by_cases e2 : hg S - 1 - q % 48 / 4 < y
        · have e3 : hg S - 1 - q % 48 / 4 < y + 1 := by omega
          simp [e2, e3]
        · by_cases e4 : hg S - 1 - q % 48 / 4 = y
          · have e3 : hg S - 1 - q % 48 / 4 < y + 1 := by omega
            simp [e4, e3]
          · have e3 : ¬ (hg S - 1 - q % 48 / 4 < y + 1) := by omega
            simp [e2, e4, e3]
    · conv => whnf
      refine ⟨by omega, fun c31 => ?_, fun c31 => ?_⟩
      · conv => whnf
        refine T.fg [3] ?_
        refine hk L hfr (hp.congr (fun q hq => ?_))
        cases ht : trn S q with
        | false => simp
        | true =>
          unfold trn at ht
          simp only [Bool.and_eq_true, decide_eq_true_iff] at ht
          have e1 : q / 48 < x := by omega
          simp only [e1, decide_true, Bool.and_true, Bool.true_and]
          by_cases e2 : hg S - 1 - q % 48 / 4 < y
          · have e3 : hg S - 1 - q % 48 / 4 < y + 1 := by omega
            simp [e2, e3]
          · by_cases e4 : hg S - 1 - q % 48 / 4 = y
            · have e3 : hg S - 1 - q % 48 / 4 < y + 1 := by omega
              simp [e4, e3]
            · have e3 : ¬ (hg S - 1 - q % 48 / 4 < y + 1) := by omega
              simp [e2, e4, e3]
      · conv => whnf
        refine ⟨(show (¬ (_ : Nat) = _) ∧ (¬ (_ : Nat) = _) from by omega), ?_⟩
        conv => whnf
        refine zinv0 (s_X6_rowAt T  (by first | assumption | omega | rfl | decide) (by first | assumption | omega | rfl | decide) (by first | assumption | omega | rfl | decide) ?_ ?_)
        · intro cha_41 chb_41
          conv => whnf
          refine ⟨(show (¬ (_ : Nat) = _) ∧ (¬ (_ : Nat) = _) from by omega), ?_⟩
          conv => whnf
          refine ⟨by rw [a2]; omega, ?_⟩
          conv => whnf
          refine ⟨(show (¬ (_ : Nat) = _) ∧ (¬ (_ : Nat) = _) from by omega), _, (by assumption), ?_⟩
          conv => whnf
          refine ⟨by omega, ?_⟩
          conv => whnf
          refine ⟨by omega, ?_⟩
          conv => whnf
          refine ⟨by omega, ?_⟩
          conv => whnf
          refine ⟨(show (¬ (_ : Nat) = _) ∧ (¬ (_ : Nat) = _) from by omega), ?_⟩
          conv => whnf
          refine ⟨by rw [a5]; omega, ?_⟩
          conv => whnf
          refine ⟨by omega, ?_⟩
          conv => whnf
          refine T.fg [4] ?_
          refine ih (x + 1) _ (by omega) (hfr.w2 rfl) ?_ (by omega)
          intro Y hY j
          by_cases eY : Y = x
          · have hc : ∀ k, bt (zlsr (L (r + 1) (I r 3 + (y : Int))) (4 * (I r 2 + (x : Int))) &&& 15) k = (decide (k < 4) && S (48 * (tp S + y) + (4 * (lt S + x) + k))) := fun k => by
              rw [a3, a2, show ((tp S : Nat) : Int) + (y : Int) = ((tp S + y : Nat) : Int) by omega, show ((lt S : Nat) : Int) + (x : Int) = ((lt S + x : Nat) : Int) by omega]
              exact cell_bit hr2 (by omega) (by omega) k
            have hc4 : ∀ k, 4 ≤ k → bt (zlsr (L (r + 1) (I r 3 + (y : Int))) (4 * (I r 2 + (x : Int))) &&& 15) k = false := fun k hk4 => by
              rw [hc k]
              have : ¬ k < 4 := by omega
              simp [this]
            rw [eY, w2_eq, a5, show ((hg S : Nat) : Int) - 1 - (y : Int) = ((hg S - 1 - y : Nat) : Int) by omega, put_cell (by omega) (fun k hk4 => by rw [rot_bit hc4, decide_eq_false (by omega)]; rfl), rot_bit hc4, hp x (by omega), hc]
            by_cases hj : j < 48
            · dsimp only
              have f1 : (48 * x + j) / 48 = x := by omega
              have f2 : (48 * x + j) % 48 = j := by omega
              have f3 : (48 * x + j) % 4 = j % 4 := by omega
              unfold trn
              rw [f1, f2, f3]
              have f4 : x < wd S := by omega
              have f5 : ¬ x < x := by omega
              have f6 : x < x + 1 := by omega
              have f7 : j % 4 < 4 := by omega
              have f8 : (j % 4 + 3) % 4 < 4 := by omega
              by_cases g1 : j / 4 < hg S
              · by_cases g2 : j / 4 = hg S - 1 - y
                · have g3 : hg S - 1 - j / 4 = y := by omega
                  have g4 : ¬ (y < y) := by omega
                  have g5 : hg S - 1 - (hg S - 1 - y) = y := by omega
                  have g6 : (j + 3) % 4 < 4 := by omega
                  have g7 : hg S - 1 - y < hg S := by omega
                  simp [hj, f4, f6, f7, f8, g2, g5, g6, g7]
                · have g3 : ¬ (hg S - 1 - j / 4 = y) := by omega
                  simp [hj, f4, g1, g2, g3]
              · have g2 : ¬ (j / 4 = hg S - 1 - y) := by omega
                simp [g1, g2]
            · have g2 : ¬ (j / 4 = hg S - 1 - y) := by omega
              simp [hj, g2]
          · rw [w2_ne (by simp; omega), hp Y hY]
            by_cases hj : j < 48
            · dsimp only
              have f1 : (48 * Y + j) / 48 = Y := by omega
              rw [f1]
              have f2 : (Y < x) ↔ (Y < x + 1) := by omega
              simp only [f2]
            · simp [hj]
        · intro ch2a_41
          exfalso; omega
theorem l_turnO (T : ZTh X CZ RZ) {d b : Nat} {Q : ZQ} {r t : Nat} {S : Nat → Bool} {I : ZI} {L0 : ZL} (hz : za r 0 = r + 2) (hn : r ≠ 304 ∧ r ≠ 578) (hzt : za t 0 = t + 2) (hnt : t ≠ 304 ∧ t ≠ 578) (hd : t ≠ r) (hS : RgS L0 r S) (hM : RgM I r S) (h : ∀ I' L', Fr (fun a b => a = t ∧ 1 ≤ b ∧ b ≤ 5) I I' → Fr (fun a _ => a = t + 1) L0 L' → RgS L' t (trn S) → RgM I' t (trn S) → Q (.inl none) I' L') (m : Nat) : ∀ (y : Nat) (L : ZL), (y ≤ hg S) → (Fr (fun a _ => a = t + 1) L0 L) → (RgS L t (fun q => trn S q && decide (hg S - 1 - q % 48 / 4 < y))) → 12 - (y : Int) < (m : Int) → RZ (d + 2) k_X6_turnInto Q 10 [.inr (.ref r, 7), .inr (.ref t, 7), .inl ((y : Int)), zj, zj, zj] [] b I L := by
  induction m with
  | zero =>
    intro y L hy hfr hp hm
    have hb := box_le S
    exfalso
    omega
  | succ m ih =>
    intro y L hy hfr hp hm
    have hb := box_le S
    obtain ⟨a2, a3, a4, a5⟩ := hM.at
    refine T.go [20] 90 ?_
    conv => whnf
    refine ⟨(show (¬ (_ : Nat) = _) ∧ (¬ (_ : Nat) = _) from by omega), ?_⟩
    conv => whnf
    refine ⟨by omega, fun c15 => ?_, fun c15 => ?_⟩
    · conv => whnf
      refine zinv0 (s_X6_measure T (trn S) (by first | assumption | omega | rfl | decide) (by first | assumption | omega | rfl | decide) (by exact hp.congr (fun q hq => by
        cases ht : trn S q with
        | false => simp
        | true =>
          have ht2 := ht
          unfold trn at ht2
          simp only [Bool.and_eq_true, decide_eq_true_iff] at ht2
          have : hg S - 1 - q % 48 / 4 < y := by omega
          simp [this])) ?_)
      intro I_105 hf_105 hM_105
      conv => whnf
      exact h _ _ hf_105 hfr (hp.congr (fun q hq => by
        cases ht : trn S q with
        | false => simp
        | true =>
          have ht2 := ht
          unfold trn at ht2
          simp only [Bool.and_eq_true, decide_eq_true_iff] at ht2
          have : hg S - 1 - q % 48 / 4 < y := by omega
          simp [this])) hM_105
    · conv => whnf
      refine l_turnI T (r := r) (t := t) (y := y) (S := S) (L0 := L0) hz hn hzt hnt hd hS hM (by omega) (fun L2 hf2 hp2 => ih (y + 1) L2 (by omega) hf2 hp2 (by omega)) 13 0 L (by omega) hfr (hp.congr (fun q hq => ?_)) (by omega)
      simp
theorem s_X6_turnInto (T : ZTh X CZ RZ) {d b : Nat} {r t : Nat} (S : Nat → Bool) {I : ZI} {L : ZL} {Q : ZQ} (hz : za r 0 = r + 2) (hn : r ≠ 304 ∧ r ≠ 578) (hzt : za t 0 = t + 2) (hnt : t ≠ 304 ∧ t ≠ 578) (hd : t ≠ r) (hS : RgS L r S) (hM : RgM I r S) (h : ∀ I' L', Fr (fun a b => a = t ∧ 1 ≤ b ∧ b ≤ 5) I I' → Fr (fun a _ => a = t + 1) L L' → RgS L' t (trn S) → RgM I' t (trn S) → Q (.inl none) I' L') : CZ (d + 3) k_X6_turnInto [.inr (.ref r, 7), .inr (.ref t, 7)] b I L Q := by
  refine T.call rfl ?_
  refine T.go [10] 90 ?_
  conv => whnf
  refine ⟨(show (¬ (_ : Nat) = _) ∧ (¬ (_ : Nat) = _) from by omega), _, (by assumption), ?_⟩
  conv => whnf
  refine zinv0 (s_J7_fill_d0a16 T   ?_)
  intro L_5 hf_5 hv_5
  conv => whnf
  have hf5 : Fr (fun a _ => a = t + 1) L L_5 := hf_5
  refine l_turnO T hz hn hzt hnt hd (hS.row (fun j => hf5 _ _ (by simp; omega))) hM (fun I2 L2 f1 f2 f3 f4 => h I2 L2 f1 (hf5.trans f2) f3 f4) 13 0 L_5 (by omega) (Fr.refl L_5) (fun Y hY i => ?_) (by omega)
  rw [hv_5 _ (by omega) (by omega), bt_zero]
  simp
theorem l_flipI (T : ZTh X CZ RZ) {d b : Nat} {Q : ZQ} {r t y : Nat} {S : Nat → Bool} {I : ZI} {L0 : ZL} (hz : za r 0 = r + 2) (hn : r ≠ 304 ∧ r ≠ 578) (hzt : za t 0 = t + 2) (hnt : t ≠ 304 ∧ t ≠ 578) (hd : t ≠ r) (hS : RgS L0 r S) (hM : RgM I r S) (hy : y < hg S) (hk : ∀ L', Fr (fun a _ => a = t + 1) L0 L' → RgS L' t (fun q => flp S q && decide (q / 48 < y + 1)) → RZ (d + 2) k_X6_flipInto Q 10 [.inr (.ref r, 7), .inr (.ref t, 7), .inl ((y : Int) + 1), zj, zj, zj] [] b I L') (m : Nat) : ∀ (x : Nat) (L : ZL), (x ≤ wd S) → (Fr (fun a _ => a = t + 1) L0 L) → (RgS L t (fun q => flp S q && (decide (q / 48 < y) || (decide (q / 48 = y) && decide (wd S - 1 - q % 48 / 4 < x))))) → 12 - (x : Int) < (m : Int) → RZ (d + 2) k_X6_flipInto Q 26 [.inr (.ref r, 7), .inr (.ref t, 7), .inl ((y : Int)), .inl ((x : Int)), zj, zj] [] b I L := by
  induction m with
  | zero =>
    intro x L hx hfr hp hm
    have hb := box_le S
    exfalso
    omega
  | succ m ih =>
    intro x L hx hfr hp hm
    have hb := box_le S
    obtain ⟨a2, a3, a4, a5⟩ := hM.at
    have hr2 : RgS L r S := hS.row (fun j => hfr _ _ (by simp; omega))
    refine T.go [10, 26] 90 ?_
    conv => whnf
    refine ⟨(show (¬ (_ : Nat) = _) ∧ (¬ (_ : Nat) = _) from by omega), ?_⟩
    conv => whnf
    refine ⟨by omega, fun c31 => ?_, fun c31 => ?_⟩
    · conv => whnf
      refine T.fg [3] ?_
      refine hk L hfr (hp.congr (fun q hq => ?_))
      cases ht : flp S q with
      | false => simp
      | true =>
        unfold flp at ht
        simp only [Bool.and_eq_true, decide_eq_true_iff] at ht
        have e1 : wd S - 1 - q % 48 / 4 < x := by omega
        simp only [e1, decide_true, Bool.and_true, Bool.true_and]
        by_cases e2 : q / 48 < y
        · have e3 : q / 48 < y + 1 := by omega
          simp [e2, e3]
        · by_cases e4 : q / 48 = y
          · have e3 : q / 48 < y + 1 := by omega
            simp [e4, e3]
          · have e3 : ¬ (q / 48 < y + 1) := by omega
            simp [e2, e4, e3]
    · conv => whnf
      refine ⟨(show (¬ (_ : Nat) = _) ∧ (¬ (_ : Nat) = _) from by omega), ?_⟩
      conv => whnf
      refine zinv0 (s_X6_rowAt T  (by first | assumption | omega | rfl | decide) (by first | assumption | omega | rfl | decide) (by first | assumption | omega | rfl | decide) ?_ ?_)
      · intro cha_41 chb_41
        conv => whnf
        refine ⟨(show (¬ (_ : Nat) = _) ∧ (¬ (_ : Nat) = _) from by omega), ?_⟩
        conv => whnf
        refine ⟨by rw [a2]; omega, ?_⟩
        conv => whnf
        refine ⟨(show (¬ (_ : Nat) = _) ∧ (¬ (_ : Nat) = _) from by omega), _, (by assumption), ?_⟩
        conv => whnf
        refine ⟨by omega, ?_⟩
        conv => whnf
        refine ⟨by omega, ?_⟩
        conv => whnf
        refine ⟨by omega, ?_⟩
        conv => whnf
        refine ⟨(show (¬ (_ : Nat) = _) ∧ (¬ (_ : Nat) = _) from by omega), ?_⟩
        conv => whnf
        refine ⟨by rw [a4]; omega, ?_⟩
        conv => whnf
        refine ⟨by omega, ?_⟩
        conv => whnf
        refine T.fg [4] ?_
        refine ih (x + 1) _ (by omega) (hfr.w2 rfl) ?_ (by omega)
        intro Y hY j
        by_cases eY : Y = y
        · have hc : ∀ k, bt (zlsr (L (r + 1) (I r 3 + (y : Int))) (4 * (I r 2 + (x : Int))) &&& 15) k = (decide (k < 4) && S (48 * (tp S + y) + (4 * (lt S + x) + k))) := fun k => by
            rw [a3, a2, show ((tp S : Nat) : Int) + (y : Int) = ((tp S + y : Nat) : Int) by omega, show ((lt S : Nat) : Int) + (x : Int) = ((lt S + x : Nat) : Int) by omega]
            exact cell_bit hr2 (by omega) (by omega) k
          have hc4 : ∀ k, 4 ≤ k → bt (zlsr (L (r + 1) (I r 3 + (y : Int))) (4 * (I r 2 + (x : Int))) &&& 15) k = false := fun k hk4 => by
            rw [hc k]
            have : ¬ k < 4 := by omega
            simp [this]
          rw [eY, w2_eq, a4, show ((wd S : Nat) : Int) - 1 - (x : Int) = ((wd S - 1 - x : Nat) : Int) by omega, put_cell (by omega) (fun k hk4 => by rw [flip_bit hc4, decide_eq_false (by omega)]; rfl), flip_bit hc4, hp y (by omega), hc]
          by_cases hj : j < 48
          · dsimp only
            have f1 : (48 * y + j) / 48 = y := by omega
            have f2 : (48 * y + j) % 48 = j := by omega
            have f3 : (48 * y + j) % 4 = j % 4 := by omega
            unfold flp
            rw [f1, f2, f3]
            have f4 : y < hg S := by omega
            have f5 : ¬ y < y := by omega
            have f7 : j % 4 < 4 := by omega
            have f8 : (4 - j % 4) % 4 < 4 := by omega
            by_cases g1 : j / 4 < wd S
            · by_cases g2 : j / 4 = wd S - 1 - x
              · have g3 : wd S - 1 - j / 4 = x := by omega
                have g4 : ¬ (x < x) := by omega
                have g5 : wd S - 1 - (wd S - 1 - x) = x := by omega
                have g6 : x < x + 1 := by omega
                have g7 : wd S - 1 - x < wd S := by omega
                simp [hj, f4, f5, f7, f8, g2, g5, g4, g6, g7]
              · have g3 : (wd S - 1 - j / 4 < x) ↔ (wd S - 1 - j / 4 < x + 1) := by omega
                simp [hj, f4, g1, g2, g3]
            · have g2 : ¬ (j / 4 = wd S - 1 - x) := by omega
              simp [g1, g2]
          · have g2 : ¬ (j / 4 = wd S - 1 - x) := by omega
            simp [hj, g2]
        · rw [w2_ne (by simp; omega), hp Y hY]
          by_cases hj : j < 48
          · dsimp only
            have f1 : (48 * Y + j) / 48 = Y := by omega
            rw [f1]
            simp [eY]
          · simp [hj]
      · intro ch2a_41
        exfalso; omega
theorem l_flipO (T : ZTh X CZ RZ) {d b : Nat} {Q : ZQ} {r t : Nat} {S : Nat → Bool} {I : ZI} {L0 : ZL} (hz : za r 0 = r + 2) (hn : r ≠ 304 ∧ r ≠ 578) (hzt : za t 0 = t + 2) (hnt : t ≠ 304 ∧ t ≠ 578) (hd : t ≠ r) (hS : RgS L0 r S) (hM : RgM I r S) (h : ∀ I' L', Fr (fun a b => a = t ∧ 1 ≤ b ∧ b ≤ 5) I I' → Fr (fun a _ => a = t + 1) L0 L' → RgS L' t (flp S) → RgM I' t (flp S) → Q (.inl none) I' L') (m : Nat) : ∀ (y : Nat) (L : ZL), (y ≤ hg S) → (Fr (fun a _ => a = t + 1) L0 L) → (RgS L t (fun q => flp S q && decide (q / 48 < y))) → 12 - (y : Int) < (m : Int) → RZ (d + 2) k_X6_flipInto Q 10 [.inr (.ref r, 7), .inr (.ref t, 7), .inl ((y : Int)), zj, zj, zj] [] b I L := by
  induction m with
  | zero =>
    intro y L hy hfr hp hm
    have hb := box_le S
    exfalso
    omega
  | succ m ih =>
    intro y L hy hfr hp hm
    have hb := box_le S
    obtain ⟨a2, a3, a4, a5⟩ := hM.at
    refine T.go [26] 90 ?_
    conv => whnf
    refine ⟨(show (¬ (_ : Nat) = _) ∧ (¬ (_ : Nat) = _) from by omega), ?_⟩
    conv => whnf
    refine ⟨by omega, fun c15 => ?_, fun c15 => ?_⟩
    · conv => whnf
      refine zinv0 (s_X6_measure T (flp S) (by first | assumption | omega | rfl | decide) (by first | assumption | omega | rfl | decide) (by exact hp.congr (fun q hq => by
        cases ht : flp S q with
        | false => simp
        | true =>
          have ht2 := ht
          unfold flp at ht2
          simp only [Bool.and_eq_true, decide_eq_true_iff] at ht2
          have : q / 48 < y := by omega
          simp [this])) ?_)
      intro I_116 hf_116 hM_116
      conv => whnf
      exact h _ _ hf_116 hfr (hp.congr (fun q hq => by
        cases ht : flp S q with
        | false => simp
        | true =>
          have ht2 := ht
          unfold flp at ht2
          simp only [Bool.and_eq_true, decide_eq_true_iff] at ht2
          have : q / 48 < y := by omega
          simp [this])) hM_116
    · conv => whnf
      refine ⟨by omega, fun c21 => by exfalso; omega, fun c21 => ?_⟩
      conv => whnf
      refine l_flipI T (r := r) (t := t) (y := y) (S := S) (L0 := L0) hz hn hzt hnt hd hS hM (by omega) (fun L2 hf2 hp2 => ih (y + 1) L2 (by omega) hf2 hp2 (by omega)) 13 0 L (by omega) hfr (hp.congr (fun q hq => ?_)) (by omega)
      simp
theorem s_X6_flipInto (T : ZTh X CZ RZ) {d b : Nat} {r t : Nat} (S : Nat → Bool) {I : ZI} {L : ZL} {Q : ZQ} (hz : za r 0 = r + 2) (hn : r ≠ 304 ∧ r ≠ 578) (hzt : za t 0 = t + 2) (hnt : t ≠ 304 ∧ t ≠ 578) (hd : t ≠ r) (hS : RgS L r S) (hM : RgM I r S) (h : ∀ I' L', Fr (fun a b => a = t ∧ 1 ≤ b ∧ b ≤ 5) I I' → Fr (fun a _ => a = t + 1) L L' → RgS L' t (flp S) → RgM I' t (flp S) → Q (.inl none) I' L') : CZ (d + 3) k_X6_flipInto [.inr (.ref r, 7), .inr (.ref t, 7)] b I L Q := by
  refine T.call rfl ?_
  refine T.go [10] 90 ?_
  conv => whnf
  refine ⟨(show (¬ (_ : Nat) = _) ∧ (¬ (_ : Nat) = _) from by omega), _, (by assumption), ?_⟩
  conv => whnf
  refine zinv0 (s_J7_fill_d0a16 T   ?_)
  intro L_5 hf_5 hv_5
  conv => whnf
  have hf5 : Fr (fun a _ => a = t + 1) L L_5 := hf_5
  refine l_flipO T hz hn hzt hnt hd (hS.row (fun j => hf5 _ _ (by simp; omega))) hM (fun I2 L2 f1 f2 f3 f4 => h I2 L2 f1 (hf5.trans f2) f3 f4) 13 0 L_5 (by omega) (Fr.refl L_5) (fun Y hY i => ?_) (by omega)
  rw [hv_5 _ (by omega) (by omega), bt_zero]
  simp
end
