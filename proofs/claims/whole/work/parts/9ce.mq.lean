/-! THE REFERENCE ANSWERS, 3 -/
section
variable {Ln : Nat} {xs : Nat → Int32} {CZ : Nat → ZC} {RZ : Nat → Nat → ZQ → ZP}
theorem s_X12_noTurn (T : ZTh (XX Ln xs) CZ RZ) {d b : Nat} {W H n bl : Nat} {M : Mo} {P SL : Nat → Mo} {v u : Nat → Int} {p t : Int} {I : ZI} {L : ZL} {Q : ZQ} (hC : MB I W H M P n SL v bl u) (hA : WfA W H M P n SL v) (hp : zR p) (ht : zR t) (h : 0 ≤ p ∧ p < 7 → 0 ≤ t ∧ t < 4 → Q (.inl (some (.inl (0)))) (v2 I 603 8 0) L) (h2 : ¬ (0 ≤ p ∧ p < 7) → Q (.inl (some (.inl (1)))) (v2 I 603 8 1) L) (h3 : 0 ≤ p ∧ p < 7 → ¬ (0 ≤ t ∧ t < 4) → Q (.inl (some (.inl (1)))) (v2 (v2 I 603 8 0) 603 8 2) L) : CZ (d + 3) k_X12_noTurn [.inr (.ref 603, 13), .inl p, .inl t] b I L Q := by
  refine T.call rfl ?_
  refine T.go [] 90 ?_
  conv => whnf
  refine zinv0 (s_X12_isPiece T  (by first | assumption | omega | rfl | decide) ?_ ?_)
  · intro cha_3
    conv => whnf
    refine ⟨by decide, fun _ => ?_, fun c => absurd c (by decide)⟩
    conv => whnf
    refine zinv0 (s_fails0 T   ?_)
    conv => whnf
    refine ⟨by decide, fun c => absurd c (by decide), fun _ => ?_⟩
    conv => whnf
    refine ⟨by omega, ?_⟩
    conv => whnf
    refine zinv0 (s_X12_isIn T (v := t) (a := 0) (z := 3) (by omega) (by omega) (by omega) ?_ ?_)
    · intro cha_27
      conv => whnf
      refine ⟨by decide, fun _ => ?_, fun c => absurd c (by decide)⟩
      conv => whnf
      refine zinv0 (s_refuses0 T  (by exact v2_eq _ _ _ _) ?_)
      conv => whnf
      refine ⟨by decide, fun _ => ?_, fun c => absurd c (by decide)⟩
      conv => whnf
      refine ⟨by omega, ?_⟩
      exact h cha_3 (by omega)
    · intro ch2a_27
      conv => whnf
      refine ⟨by decide, fun c => absurd c (by decide), fun _ => ?_⟩
      conv => whnf
      refine zinv0 (s_refuses1 T  (by exact v2_eq _ _ _ _) (by omega) ?_)
      conv => whnf
      refine ⟨by decide, fun c => absurd c (by decide), fun _ => ?_⟩
      conv => whnf
      refine ⟨by omega, ?_⟩
      exact h3 cha_3 (by omega)
  · intro ch2a_3
    conv => whnf
    refine ⟨by decide, fun c => absurd c (by decide), fun _ => ?_⟩
    conv => whnf
    refine zinv0 (s_fails1 T   ?_)
    conv => whnf
    refine ⟨by decide, fun _ => ?_, fun c => absurd c (by decide)⟩
    conv => whnf
    refine ⟨by omega, ?_⟩
    exact h2 ch2a_3
theorem s_X12_pieceAt (T : ZTh (XX Ln xs) CZ RZ) {d b : Nat} {W H n bl : Nat} {M : Mo} {P SL : Nat → Mo} {v u : Nat → Int} {q : Int} {I : ZI} {L : ZL} {Q : ZQ} (hC : MB I W H M P n SL v bl u) (hA : WfA W H M P n SL v) (hq : zR q) (h : ∀ I', Fr PSc I I' → I' 603 8 = 0 → MB I' W H M P n SL v bl u → Q (.inl (some (.inl (owAt M q)))) I' L) : CZ (d + 4) k_X12_pieceAt [.inr (.ref 603, 13), .inl q] b I L Q := by
  refine T.call rfl ?_
  have hC0 := hC.th hA 0
  obtain ⟨mT, mR, ⟨mW, mH⟩, ⟨mn, mn8⟩, mP, mS9, ⟨mb1, mb2, mb3⟩, mz⟩ := id hC0
  obtain ⟨⟨⟨⟨w1, w2, w3, w4⟩, -⟩, w5, w6⟩, wP, wS⟩ := id hA
  refine T.go [] 90 ?_
  conv => whnf
  refine ⟨by decide, ?_⟩
  conv => whnf
  refine ⟨by decide, _, rfl, ?_⟩
  conv => whnf
  refine zinv0 (s_X12_laysOwners T (W := W) (H := H) (M := M) (by exact mT) (by decide) (by exact mR) (by exact hA.1.1) ?_)
  intro I_10 hf_10 hv_10
  have hfr : Fr PSc I I_10 := (frTh I 0).trans (hf_10.mono (fun a b c => by unfold PSc; omega))
  have hC10 := hC.fr hA (fun a b _ g => hfr a b g)
  have h9 := h I_10 hfr (by rw [hf_10 _ _ (by omega), v2_eq]) hC10
  conv => whnf
  refine zinv0 (s_X12_isQuarter T (W := W) (H := H) (by first | assumption | omega | rfl | decide) (by exact ⟨hC10.2.2.1.1, w2⟩) (by exact ⟨hC10.2.2.1.2, w4⟩) ?_ ?_)
  · intro cha_15
    conv => whnf
    refine ⟨by decide, fun c => absurd c (by decide), fun _ => ?_⟩
    conv => whnf
    refine ⟨by decide, _, rfl, ?_⟩
    conv => whnf
    refine ⟨by omega, by decide, ?_⟩
    conv => whnf
    obtain ⟨qn, rfl⟩ := Int.eq_ofNat_of_zero_le cha_15.1.1
    rw [hv_10 qn (by omega)]
    have e : owAt M (qn : Int) = own M qn := by
      unfold owAt
      rw [if_pos ⟨by omega, by omega⟩, Int.toNat_natCast]
    rw [e] at h9
    exact h9
  · intro ch2a_15
    conv => whnf
    refine ⟨by decide, fun _ => ?_, fun c => absurd c (by decide)⟩
    conv => whnf
    have e : owAt M q = -1 := by
      unfold owAt
      by_cases c : 0 ≤ q ∧ q < 576
      · rw [if_pos c]
        apply Classical.byContradiction
        intro g
        have := own_in hA.1.1 g
        exact ch2a_15 ⟨c, by omega, by omega⟩
      · rw [if_neg c]
    rw [e] at h9
    exact h9
theorem s_X12_whyNot (T : ZTh (XX Ln xs) CZ RZ) {d b : Nat} {W H n bl : Nat} {M : Mo} {P SL : Nat → Mo} {v u : Nat → Int} {p x y t f : Int} {I : ZI} {L : ZL} {Q : ZQ} (hC : MB I W H M P n SL v bl u) (hA : WfA W H M P n SL v) (hp : zR p) (hx : zR x) (hy : zR y) (ht : zR t) (hf : f = 0 ∨ f = 1) (h : 0 ≤ p ∧ p < 7 → 0 ≤ t ∧ t < 4 → ∀ I', Fr PSc I I' → I' 603 8 = 0 → MB I' W H M P n SL v bl u → Q (.inl (some (.inl (aWhy W H M p x y t f)))) I' L) (h2 : ¬ (0 ≤ p ∧ p < 7) → ∀ I', Fr PSc I I' → I' 603 8 = 1 → MB I' W H M P n SL v bl u → Q (.inl (some (.inl (0)))) I' L) (h3 : 0 ≤ p ∧ p < 7 → ¬ (0 ≤ t ∧ t < 4) → ∀ I', Fr PSc I I' → I' 603 8 = 2 → MB I' W H M P n SL v bl u → Q (.inl (some (.inl (0)))) I' L) : CZ (d + 4) k_X12_whyNot [.inr (.ref 603, 13), .inl p, .inl x, .inl y, .inl t, .inl f] b I L Q := by
  refine T.call rfl ?_
  obtain ⟨mT, mR, ⟨mW, mH⟩, ⟨mn, mn8⟩, mP, mS9, ⟨mb1, mb2, mb3⟩, mz⟩ := id hC
  obtain ⟨⟨⟨⟨w1, w2, w3, w4⟩, -⟩, w5, w6⟩, wP, wS⟩ := id hA
  refine T.go [] 120 ?_
  conv => whnf
  refine zinv0 (s_X12_noTurn T (p := p) (t := t) (by exact hC) (by exact hA) (by first | assumption | omega | rfl | decide) (by first | assumption | omega | rfl | decide) ?_ ?_ ?_)
  · intro cha_4 chb_4
    conv => whnf
    refine ⟨by decide, fun _ => ?_, fun c => absurd c (by decide)⟩
    conv => whnf
    refine ⟨by decide, _, rfl, ?_⟩
    conv => whnf
    have hC1 := hC.th hA 0
    refine zinv0 (s_X12_laysOwners T (W := W) (H := H) (M := M) (by exact hC1.1) (by decide) (by exact hC1.2.1) (by exact hA.1.1) ?_)
    intro I_17 hf_17 hv_17
    have hfr : Fr PSc I I_17 := (frTh I 0).trans (hf_17.mono (fun a b c => by unfold PSc; omega))
    have hC17 := hC.fr hA (fun a b _ g => hfr a b g)
    have h9 := h cha_4 chb_4 I_17 hfr (by rw [hf_17 _ _ (by omega), v2_eq]) hC17
    obtain ⟨pn, rfl⟩ := Int.eq_ofNat_of_zero_le cha_4.1
    obtain ⟨tn, rfl⟩ := Int.eq_ofNat_of_zero_le chb_4.1
    conv => whnf
    refine ⟨by exact ⟨by omega, by omega⟩, fun c28 => ?_, fun c28 => ?_⟩
    · conv => whnf
      refine zinv0 (s_X12_reason T (p := pn) (t := tn) (f := 0) (W := W) (H := H) M (by exact hC17.1) (by exact hv_17) (by exact hA.1.1) (by exact hC17.2.2.1.1) (by exact hC17.2.2.1.2) (by omega) (by omega) (by exact hx) (by exact hy) ?_)
      conv => whnf
      obtain rfl : f = 0 := by omega
      unfold aWhy at h9
      rw [Int.toNat_natCast, show (2 * (tn : Int) + 0).toNat = 2 * tn + 0 by omega] at h9
      exact h9
    · conv => whnf
      refine zinv0 (s_X12_reason T (p := pn) (t := tn) (f := 1) (W := W) (H := H) M (by exact hC17.1) (by exact hv_17) (by exact hA.1.1) (by exact hC17.2.2.1.1) (by exact hC17.2.2.1.2) (by omega) (by omega) (by exact hx) (by exact hy) ?_)
      conv => whnf
      obtain rfl : f = 1 := by omega
      unfold aWhy at h9
      rw [Int.toNat_natCast, show (2 * (tn : Int) + 1).toNat = 2 * tn + 1 by omega] at h9
      exact h9
  · intro ch2a_4
    conv => whnf
    refine ⟨by decide, fun c => absurd c (by decide), fun _ => ?_⟩
    conv => whnf
    exact h2 ch2a_4 _ (frTh I 1) (v2_eq _ _ _ _) (hC.th hA 1)
  · intro ch3a_4 ch3b_4
    conv => whnf
    refine ⟨by decide, fun c => absurd c (by decide), fun _ => ?_⟩
    conv => whnf
    exact h3 ch3a_4 ch3b_4 _ ((frTh I 0).v2 PSc8) (v2_eq _ _ _ _) ((hC.th hA 0).th hA 2)
theorem spots_12 {W H : Nat} {M : Mo} {p k : Nat} (hp : p < 7) (hk : k < 8) (hW : W ≤ 12) (hH : H ≤ 12) : cn (fun z => decide (why W H M p (8 * p + k) ((z % 12 : Nat) : Int) ((z / 12 : Nat) : Int) = 0)) 144 = spotsA W H M p k := by
  have hf := fW_b (i := 8 * p + k) (by omega)
  have hx : ∀ x y : Nat, W ≤ x → why W H M p (8 * p + k) (x : Int) (y : Int) = 1 := fun x y h => why_1 (by unfold InB; omega)
  have hy : ∀ x y : Nat, H ≤ y → why W H M p (8 * p + k) (x : Int) (y : Int) = 1 := fun x y h => why_1 (by unfold InB; omega)
  have cut : ∀ (f : Nat → Bool) (a : Nat), (∀ i, a ≤ i → f i = false) → ∀ b, a ≤ b → cn f b = cn f a := fun f a h b => by
    induction b with
    | zero => intro hb; rw [show a = 0 by omega]
    | succ b ih =>
      intro hb
      by_cases e : a = b + 1
      · rw [e]
      · rw [cn_s, h b (by omega), ih (by omega)]
        simp
  have hr : ∀ y : Nat, cn (fun x => decide (why W H M p (8 * p + k) (x : Int) (y : Int) = 0)) 12 = spotsR W H M p k y := fun y => by
    unfold spotsR
    refine cut _ W (fun i hi => ?_) 12 hW
    rw [hx i y hi]
    rfl
  have h1 : ∀ y, cn (fun z => decide (why W H M p (8 * p + k) ((z % 12 : Nat) : Int) ((z / 12 : Nat) : Int) = 0)) (12 * y) = smI (spotsR W H M p k) y := by
    intro y
    induction y with
    | zero => rfl
    | succ y ih =>
      rw [show 12 * (y + 1) = 12 * y + 12 by omega, cn_add, ih, ← show smI (spotsR W H M p k) y + spotsR W H M p k y = smI (spotsR W H M p k) (y + 1) from rfl, ← hr y]
      congr 1
      refine cn_congr 12 (fun i hi => ?_)
      rw [show (12 * y + i) % 12 = i by omega, show (12 * y + i) / 12 = y by omega]
  have h2 : ∀ b, H ≤ b → smI (spotsR W H M p k) b = smI (spotsR W H M p k) H := by
    intro b
    induction b with
    | zero => intro hb; rw [show H = 0 by omega]
    | succ b ih =>
      intro hb
      by_cases e : H = b + 1
      · rw [e]
      · have h3 : spotsR W H M p k b = 0 := cn_false (fun i _ => by
          rw [hy i b (by omega)]
          rfl)
        show smI (spotsR W H M p k) b + spotsR W H M p k b = _
        rw [h3, ih (by omega), Int.add_zero]
  have := h1 12
  rw [show 12 * 12 = 144 from rfl] at this
  rw [this, h2 12 hH]
  rfl
theorem l_mplI (T : ZTh (XX Ln xs) CZ RZ) {d b : Nat} {Q : ZQ} {p its W H : Nat} {c0 : Int} {M : Mo} {I : ZI} {L : ZL} (hT : TabOK I) (hO : OwM I M) (hw : Wq W H M) (hW : I 603 5 = W) (hH : I 603 6 = H) (hp : p < 7) (hi : its < 8) (hk : RZ (d + 3) k_X12_places Q 34 [.inr (.ref 603, 13), .inl (p : Int), .inl (c0 + (if fV (8 * p + its) = 1 then spotsA W H M p its else 0)), .inl ((its : Int) + 1), zj] [] b I L) (m : Nat) : ∀ (z : Nat) (c : Int), (z ≤ 144) → (c = c0 + (if fV (8 * p + its) = 1 then cn (fun z => decide (why W H M p (8 * p + its) ((z % 12 : Nat) : Int) ((z / 12 : Nat) : Int) = 0)) z else 0)) → 144 - (z : Int) < (m : Int) → RZ (d + 3) k_X12_places Q 43 [.inr (.ref 603, 13), .inl ((p : Int)), .inl c, .inl ((its : Int)), .inl ((z : Int))] [] b I L := by
  induction m with
  | zero =>
    intro z c hz hc hm
    exfalso
    omega
  | succ m ih =>
    intro z c hz hc hm
    have g9 := (hT.2.2.2 (8 * p + its) (by omega)).2
    rw [show ((8 * p + its : Nat) : Int) = 8 * (p : Int) + (its : Int) by omega] at g9
    have hv1 := (fW_b (i := 8 * p + its) (by omega)).2.2.2.2.2
    have hsp := spots_12 (W := W) (H := H) (M := M) (p := p) (k := its) hp hi hw.1.2.1 hw.1.2.2.2
    refine T.go [34, 43] 90 ?_
    conv => whnf
    refine ⟨by omega, fun c48 => ?_, fun c48 => ?_⟩
    · conv => whnf
      refine T.fg [4] ?_
      rw [show z = 144 by omega, hsp] at hc
      rw [hc]
      exact hk
    · conv => whnf
      refine ⟨by decide, _, rfl, ?_⟩
      conv => whnf
      refine ⟨by omega, by decide, ?_⟩
      conv => whnf
      refine ⟨by rw [g9]; exact ⟨by omega, by omega⟩, fun c62 => ?_, fun c62 => ?_⟩
      · conv => whnf
        refine T.fg [4] ?_
        have hfv : ¬ fV (8 * p + its) = 1 := by rw [g9] at c62; omega
        rw [if_neg hfv] at hc hk
        rw [hc]
        exact hk
      · conv => whnf
        refine ⟨by omega, ?_⟩
        conv => whnf
        refine ⟨by omega, Or.inl ⟨by omega, ?_⟩⟩
        conv => whnf
        refine ⟨by omega, Or.inl ⟨by omega, ?_⟩⟩
        conv => whnf
        refine ⟨by omega, ?_⟩
        conv => whnf
        rw [show (z : Int) % 12 = ((z % 12 : Nat) : Int) by omega, show (z : Int) / 12 = ((z / 12 : Nat) : Int) by omega, show (its : Int) / 2 = ((its / 2 : Nat) : Int) by omega, show (its : Int) % 2 = ((its % 2 : Nat) : Int) by omega]
        refine zinv0 (s_X12_reason T (p := p) (t := its / 2) (f := its % 2) (W := W) (H := H) (x := ((z % 12 : Nat) : Int)) (y := ((z / 12 : Nat) : Int)) M (by exact hT) (by exact hO) (by exact hw) (by exact hW) (by exact hH) (by exact hp) (by omega) (by exact ⟨by omega, by omega⟩) (by exact ⟨by omega, by omega⟩) ?_)
        rw [show 2 * (its / 2) + its % 2 = its by omega]
        have hwb := @why_b W H M p (8 * p + its) ((z % 12 : Nat) : Int) ((z / 12 : Nat) : Int)
        have hfv : fV (8 * p + its) = 1 := by rw [g9] at c62; omega
        rw [if_pos hfv] at hc
        conv => whnf
        refine ⟨by omega, fun c87 => ?_, fun c87 => ?_⟩
        · conv => whnf
          refine ih (z + 1) _ (by omega) ?_ (by omega)
          rw [if_pos hfv, cn_s, decide_eq_false c87, cond_false, hc]
          omega
        · conv => whnf
          refine ih (z + 1) _ (by omega) ?_ (by omega)
          rw [if_pos hfv, cn_s, decide_eq_true c87, cond_true, hc]
          omega
theorem l_mplO (T : ZTh (XX Ln xs) CZ RZ) {d b : Nat} {Q : ZQ} {p W H : Nat} {M : Mo} {I : ZI} {L : ZL} (hT : TabOK I) (hO : OwM I M) (hw : Wq W H M) (hW : I 603 5 = W) (hH : I 603 6 = H) (hp : p < 7) (h : Q (.inl (some (.inl (placesA W H M p)))) I L) (m : Nat) : ∀ (its : Nat) (c : Int), (its ≤ 8) → (c = smI (fun k => if fV (8 * p + k) = 1 then spotsA W H M p k else 0) its) → 8 - (its : Int) < (m : Int) → RZ (d + 3) k_X12_places Q 34 [.inr (.ref 603, 13), .inl ((p : Int)), .inl c, .inl ((its : Int)), zj] [] b I L := by
  induction m with
  | zero =>
    intro its c hi hc hm
    exfalso
    omega
  | succ m ih =>
    intro its c hi hc hm
    refine T.go [43] 90 ?_
    conv => whnf
    refine ⟨by omega, fun c37 => ?_, fun c37 => ?_⟩
    · conv => whnf
      obtain rfl : its = 8 := by omega
      rw [hc]
      exact h
    · conv => whnf
      exact l_mplI T (W := W) (H := H) (M := M) (c0 := c) hT hO hw hW hH hp (by omega) (ih (its + 1) _ (by omega) (by rw [hc]; rfl) (by omega)) 145 0 _ (by omega) (by split <;> simp [cn]) (by omega)
theorem s_X12_places (T : ZTh (XX Ln xs) CZ RZ) {d b : Nat} {W H n bl : Nat} {M : Mo} {P SL : Nat → Mo} {v u : Nat → Int} {p : Int} {I : ZI} {L : ZL} {Q : ZQ} (hC : MB I W H M P n SL v bl u) (hA : WfA W H M P n SL v) (hp : zR p) (h : 0 ≤ p ∧ p < 7 → ∀ I', Fr PSc I I' → I' 603 8 = 0 → MB I' W H M P n SL v bl u → Q (.inl (some (.inl (placesA W H M p.toNat)))) I' L) (h2 : ¬ (0 ≤ p ∧ p < 7) → ∀ I', Fr PSc I I' → I' 603 8 = 1 → MB I' W H M P n SL v bl u → Q (.inl (some (.inl (0)))) I' L) : CZ (d + 4) k_X12_places [.inr (.ref 603, 13), .inl p] b I L Q := by
  refine T.call rfl ?_
  obtain ⟨mT, mR, ⟨mW, mH⟩, ⟨mn, mn8⟩, mP, mS9, ⟨mb1, mb2, mb3⟩, mz⟩ := id hC
  obtain ⟨⟨⟨⟨w1, w2, w3, w4⟩, -⟩, w5, w6⟩, wP, wS⟩ := id hA
  refine T.go [34] 90 ?_
  conv => whnf
  refine zinv0 (s_X12_isPiece T  (by first | assumption | omega | rfl | decide) ?_ ?_)
  · intro cha_3
    conv => whnf
    refine ⟨by decide, fun _ => ?_, fun c => absurd c (by decide)⟩
    conv => whnf
    refine zinv0 (s_fails0 T   ?_)
    have hC1 := hC.th hA 0
    obtain ⟨pn, rfl⟩ := Int.eq_ofNat_of_zero_le cha_3.1
    have hp7 : pn < 7 := by omega
    have hpm : ((pn : Nat) : Int).toNat = pn := Int.toNat_natCast pn
    rw [hpm] at h
    conv => whnf
    refine ⟨by decide, fun _ => ?_, fun c => absurd c (by decide)⟩
    conv => whnf
    refine ⟨by decide, _, rfl, ?_⟩
    conv => whnf
    refine zinv0 (s_X12_laysOwners T (W := W) (H := H) (M := M) (by exact hC1.1) (by decide) (by exact hC1.2.1) (by exact hA.1.1) ?_)
    intro I_27 hf_27 hv_27
    have hfr : Fr PSc I I_27 := (frTh I 0).trans (hf_27.mono (fun a b c => by unfold PSc; omega))
    have hC27 := hC.fr hA (fun a b _ g => hfr a b g)
    have h9 := h cha_3 I_27 hfr (by rw [hf_27 _ _ (by omega), v2_eq]) hC27
    conv => whnf
    exact l_mplO T (W := W) (H := H) (M := M) hC27.1 hv_27 hA.1.1 hC27.2.2.1.1 hC27.2.2.1.2 hp7 h9 9 0 0 (by omega) rfl (by omega)
  · intro ch2a_3
    conv => whnf
    refine ⟨by decide, fun c => absurd c (by decide), fun _ => ?_⟩
    conv => whnf
    refine zinv0 (s_fails1 T   ?_)
    conv => whnf
    refine ⟨by decide, fun c => absurd c (by decide), fun _ => ?_⟩
    conv => whnf
    exact h2 ch2a_3 _ (frTh I 1) (v2_eq _ _ _ _) (hC.th hA 1)
end
