/-! THE REFERENCE ANSWERS, 16: ways, firstWay -/
section
variable {Ln : Nat} {xs : Nat → Int32} {CZ : Nat → ZC} {RZ : Nat → Nat → ZQ → ZP}
theorem SW_z {most : Int} : ∀ {n : Nat} {R : Nat → Bool} {M : Mo} {a : Int × Mo}, (0 ≤ a.1 ∧ (a.1 = 0 → a.2 = offM)) → (0 ≤ (SW most n R M a).1 ∧ ((SW most n R M a).1 = 0 → (SW most n R M a).2 = offM))
  | 0, R, M, a, h => by
    show 0 ≤ a.1 + 1 ∧ (a.1 + 1 = 0 → _)
    exact ⟨by omega, fun g => by omega⟩
  | n + 1, R, M, a, h => by
    rw [SW_s]
    split
    · exact h
    · exact fk_inv (g := gSW most n R M (fq R).toNat) (P := fun a => 0 ≤ a.1 ∧ (a.1 = 0 → a.2 = offM)) (fun a k ha => by
        unfold gSW
        cases hc : decide (a.1 < most) && okC R M (fq R).toNat k with
        | false => exact ha
        | true => exact SW_z ha) 56 0 a h
theorem waysR_z {most : Int} {S : Nat → Bool} (h : (waysR most S).1 = 0) : (waysR most S).2 = offM := by
  unfold waysR at h ⊢
  split
  · rename_i c
    rw [if_pos c] at h
    exact (SW_z ⟨Int.le_refl _, fun _ => rfl⟩).2 h
  · rfl
theorem cn_fuN {f : Nat → Bool} : ∀ {n : Nat}, cn f n = n → ∀ i, i < n → f i = true
  | 0, _, i, hi => absurd hi (Nat.not_lt_zero i)
  | n + 1, h, i, hi => by
    have h' : cn f n + (bif f n then 1 else 0) = ((n + 1 : Nat) : Int) := h
    have hl := cn_le f n
    cases e : f n with
    | false =>
      rw [e] at h'
      have h2 : cn f n + 0 = ((n + 1 : Nat) : Int) := h'
      omega
    | true =>
      rw [e] at h'
      have h2 : cn f n + 1 = ((n + 1 : Nat) : Int) := h'
      by_cases c : i = n
      · rw [c]; exact e
      · exact cn_fuN (n := n) (by omega) i (by omega)
theorem skM_cn {R : Nat → Bool} {c : Nat → Nat} : ∀ {j : Nat}, (∀ i, i < j → c i < 56 ∧ okC (skR R c i) (skM R c i) (qF (skR R c i)) (c i) = true) → cn (fun p => !decide (mF (skM R c j) p = -1)) 7 = j
  | 0, _ => cn_non (fun _ => rfl) 7
  | j + 1, h => by
    have ih := skM_cn (j := j) (fun i hi => h i (by omega))
    obtain ⟨h1, h2⟩ := h j (by omega)
    have o1 := (okC_iff.mp h2).1
    have := cn_put (f := fun p : Nat => !decide (mF (skM R c j) p = -1)) (g := fun p : Nat => !decide (mF (skM R c (j + 1)) p = -1)) (k := c j / 8) (by show (!decide (mF (skM R c j) ((c j / 8 : Nat) : Int) = -1)) = false; rw [decide_eq_true o1]; rfl) (by
      show (!decide (mF (putK (skM R c j) (qF (skR R c j)) (c j)) ((c j / 8 : Nat) : Int) = -1)) = true
      rw [putK_F, if_pos rfl, decide_eq_false (by omega)]
      rfl) (fun i hi => by
      show (!decide (mF (putK (skM R c j) (qF (skR R c j)) (c j)) (i : Int) = -1)) = _
      rw [putK_F, if_neg (by omega)]) (n := 7) (by omega)
    rw [this, ih]
    omega
theorem skM_at {R : Nat → Bool} {c : Nat → Nat} {p i : Nat} : ∀ {j : Nat}, (∀ i, i < j → c i < 56 ∧ okC (skR R c i) (skM R c i) (qF (skR R c i)) (c i) = true) → i < j → c i / 8 = p → mF (skM R c j) p = ((c i % 8 : Nat) : Int) ∧ mX (skM R c j) p = (((qF (skR R c i) % 48 - fQ (c i)) / 4 : Nat) : Int) ∧ mY (skM R c j) p = ((qF (skR R c i) / 48 : Nat) : Int)
  | 0, _, hi, _ => absurd hi (Nat.not_lt_zero i)
  | j + 1, h, hi, hp => by
    obtain ⟨h1, h2⟩ := h j (by omega)
    have o1 := (okC_iff.mp h2).1
    by_cases e : i = j
    · subst e
      refine ⟨?_, ?_, ?_⟩
      · show (if (p : Int) = ((c i / 8 : Nat) : Int) then _ else _) = _
        rw [if_pos (by omega)]
      · show (if (p : Int) = ((c i / 8 : Nat) : Int) then _ else _) = _
        rw [if_pos (by omega)]
      · show (if (p : Int) = ((c i / 8 : Nat) : Int) then _ else _) = _
        rw [if_pos (by omega)]
    · have ih := skM_at (j := j) (fun i hi => h i (by omega)) (by omega) hp
      have hne : ¬ (p : Int) = ((c j / 8 : Nat) : Int) := fun g => by
        rw [← g, ih.1] at o1
        omega
      refine ⟨?_, ?_, ?_⟩
      · show (if (p : Int) = ((c j / 8 : Nat) : Int) then _ else _) = _
        rw [if_neg hne]; exact ih.1
      · show (if (p : Int) = ((c j / 8 : Nat) : Int) then _ else _) = _
        rw [if_neg hne]; exact ih.2.1
      · show (if (p : Int) = ((c j / 8 : Nat) : Int) then _ else _) = _
        rw [if_neg hne]; exact ih.2.2
theorem skM_ex {R : Nat → Bool} {c : Nat → Nat} {p : Nat} : ∀ {j : Nat}, mF (skM R c j) p ≠ -1 → ∃ i, i < j ∧ c i / 8 = p
  | 0, h => absurd rfl h
  | j + 1, h => by
    by_cases e : (p : Int) = ((c j / 8 : Nat) : Int)
    · exact ⟨j, by omega, by omega⟩
    · have h' : (if (p : Int) = ((c j / 8 : Nat) : Int) then ((c j % 8 : Nat) : Int) else mF (skM R c j) p) ≠ -1 := h
      rw [if_neg e] at h'
      obtain ⟨i, h1, h2⟩ := skM_ex h'
      exact ⟨i, by omega, h2⟩
theorem way_ex {R : Nat → Bool} {c : Nat → Nat} (h : ∀ i, i < 7 → c i < 56 ∧ okC (skR R c i) (skM R c i) (qF (skR R c i)) (c i) = true) {p : Nat} (hp : p < 7) : ∃ i, i < 7 ∧ c i / 8 = p := by
  have h1 := cn_fuN (f := fun p => !decide (mF (skM R c 7) p = -1)) (n := 7) (skM_cn h) p hp
  refine skM_ex (R := R) (j := 7) (fun e => ?_)
  have h2 : (!decide (mF (skM R c 7) p = -1)) = true := h1
  rw [decide_eq_true e] at h2
  cases h2
theorem l_miw (T : ZTh (XX Ln xs) CZ RZ) {d b : Nat} {Q : ZQ} {p ip : Nat} {w : Int} {R : Nat → Bool} {c : Nat → Nat} {I : ZI} {L : ZL} (hT : TabOK I) (hp : p < 7) (hw : 0 ≤ w ∧ w ≤ 3) (hc : ∀ j : Nat, j < 7 → c j < 56 ∧ I 638 (j : Int) = c j ∧ I 639 (j : Int) = qF (skR R c j) ∧ okC (skR R c j) (skM R c j) (qF (skR R c j)) (c j) = true) (hi : ip < 7 ∧ c ip / 8 = p) (h : Q (.inl (some (.inl (tellM (skM R c 7) p w)))) I L) (m : Nat) : ∀ (j : Nat), (j ≤ ip) → (ip : Int) - (j : Int) < (m : Int) → RZ d k_X12_inWay Q 2 [.inr (.ref 603, 13), .inl ((p : Int)), .inl w, .inl ((j : Int)), zj, zj] [] b I L := by
  induction m with
  | zero =>
    intro j hj hm
    exfalso
    omega
  | succ m ih =>
    intro j hj hm
    have key : ∀ {z z' : Int}, Q (.inl (some (.inl z'))) I L → z = z' → Q (.inl (some (.inl z))) I L := fun h e => by rw [e]; exact h
    obtain ⟨b1, b2, b3, b4⟩ := hc j (by omega)
    have hok := fun i hi => (⟨(hc i hi).1, (hc i hi).2.2.2⟩ : c i < 56 ∧ okC (skR R c i) (skM R c i) (qF (skR R c i)) (c i) = true)
    have hq9 := okC_q b1 (qF_le _) b4
    obtain ⟨l1, l2, l3, l4, l5, l6, l7⟩ := lf_ok b1
    obtain ⟨f1, f2, f3⟩ := hT.2.2.1 (c j) (lF (c j) - 16 * c j) b1 l7
    rw [show 16 * c j + (lF (c j) - 16 * c j) = lF (c j) by omega] at f1 f2 f3
    have f4 := (hT.2.2.2 (c j) b1).1
    obtain ⟨-, -, -, o4⟩ := okC_iff.mp b4
    have hm4 := ((fit_iff b1 (qF_le _)).mpr o4).1
    rw [fitC, dc_iff] at o4
    obtain ⟨o5, o6, -⟩ := o4
    refine T.go [2] 120 ?_
    conv => whnf
    refine ⟨by decide, _, rfl, ?_⟩
    conv => whnf
    refine ⟨by omega, by decide, ?_⟩
    conv => whnf
    rw [b2]
    refine ⟨by omega, Or.inl ⟨by omega, ?_⟩⟩
    conv => whnf
    refine ⟨by omega, fun c12 => ?_, fun c12 => ?_⟩
    · conv => whnf
      have hcj : c j / 8 = p := by omega
      obtain ⟨hv1, hv2, hv3⟩ := skM_at (j := 7) hok (i := j) (by omega) hcj
      have hne : ¬ mF (skM R c 7) p = -1 := by omega
      refine ⟨by decide, _, rfl, ?_⟩
      conv => whnf
      refine ⟨by decide, _, rfl, ?_⟩
      conv => whnf
      refine ⟨by omega, by decide, ?_⟩
      conv => whnf
      rw [b2]
      refine ⟨by omega, by decide, ?_⟩
      conv => whnf
      rw [f4]
      refine ⟨by decide, _, rfl, ?_⟩
      conv => whnf
      refine ⟨by omega, by decide, ?_⟩
      conv => whnf
      refine ⟨by omega, fun c43 => ?_, fun c43 => ?_⟩
      · conv => whnf
        refine ⟨by omega, fun c66 => ?_, fun c66 => ?_⟩
        · conv => whnf
          refine ⟨by omega, fun c89 => ?_, fun c89 => ?_⟩
          · conv => whnf
            refine ⟨by decide, _, rfl, ?_⟩
            conv => whnf
            refine ⟨by omega, by decide, ?_⟩
            conv => whnf
            rw [b2]
            refine ⟨by omega, ?_⟩
            conv => whnf
            obtain rfl : w = 3 := by omega
            have et : tellM (skM R c 7) p 3 = mF (skM R c 7) p % 2 := by
              unfold tellM
              rw [if_neg hne, if_neg (by decide), if_neg (by decide), if_neg (by decide)]
            rw [et] at h
            refine key h ?_
            rw [hv1]
            omega
          · conv => whnf
            refine ⟨by decide, _, rfl, ?_⟩
            conv => whnf
            refine ⟨by omega, by decide, ?_⟩
            conv => whnf
            rw [b2]
            refine ⟨by omega, ?_⟩
            conv => whnf
            refine ⟨by omega, Or.inl ⟨by omega, ?_⟩⟩
            conv => whnf
            obtain rfl : w = 2 := by omega
            have et : tellM (skM R c 7) p 2 = mF (skM R c 7) p / 2 := by
              unfold tellM
              rw [if_neg hne, if_neg (by decide), if_neg (by decide), if_pos rfl]
            rw [et] at h
            refine key h ?_
            rw [hv1]
            omega
        · conv => whnf
          rw [b3]
          refine ⟨by omega, Or.inl ⟨by omega, ?_⟩⟩
          conv => whnf
          refine ⟨by omega, Or.inl ⟨by omega, ?_⟩⟩
          conv => whnf
          refine ⟨by decide, _, rfl, ?_⟩
          conv => whnf
          rw [f2]
          refine ⟨by omega, by decide, ?_⟩
          conv => whnf
          obtain rfl : w = 1 := by omega
          have et : tellM (skM R c 7) p 1 = mY (skM R c 7) p := by
            unfold tellM
            rw [if_neg hne, if_neg (by decide), if_pos rfl]
          rw [et] at h
          refine key h ?_
          rw [hv3]
          omega
      · conv => whnf
        rw [b3]
        refine ⟨by omega, Or.inl ⟨by omega, ?_⟩⟩
        conv => whnf
        refine ⟨by omega, ?_⟩
        conv => whnf
        refine ⟨by decide, _, rfl, ?_⟩
        conv => whnf
        rw [f1]
        refine ⟨by omega, by decide, ?_⟩
        conv => whnf
        obtain rfl : w = 0 := by omega
        have et : tellM (skM R c 7) p 0 = mX (skM R c 7) p := by
          unfold tellM
          rw [if_neg hne, if_pos rfl]
        rw [et] at h
        refine key h ?_
        rw [hv2]
        omega
    · conv => whnf
      have hne : j ≠ ip := fun e => by rw [e] at c12; exact c12 (by omega)
      exact ih (j + 1) (by omega) (by omega)
theorem s_X12_inWay (T : ZTh (XX Ln xs) CZ RZ) {d b : Nat} {p : Nat} {w : Int} {R : Nat → Bool} {M' : Mo} {I : ZI} {L : ZL} {Q : ZQ} (hT : TabOK I) (hp : p < 7) (hw : 0 ≤ w ∧ w ≤ 3) (hW : WayM I R M') (h : Q (.inl (some (.inl (tellM M' p w)))) I L) : CZ (d + 1) k_X12_inWay [.inr (.ref 603, 13), .inl ((p : Int)), .inl w] b I L Q := by
  refine T.call rfl ?_
  obtain ⟨c, rfl, hc⟩ := hW
  obtain ⟨ip, i1, i2⟩ := way_ex (fun i hi => ⟨(hc i hi).1, (hc i hi).2.2.2⟩) hp
  refine T.go [2] 90 ?_
  conv => whnf
  exact l_miw T (R := R) (c := c) (ip := ip) hT hp hw hc ⟨i1, i2⟩ h (ip + 1) 0 (Nat.zero_le _) (by omega)
theorem s_X12_ways (T : ZTh (XX Ln xs) CZ RZ) {d b : Nat} {W H n bl : Nat} {M : Mo} {P SL : Nat → Mo} {v u : Nat → Int} {k : Int} {I : ZI} {L : ZL} {Q : ZQ} (hC : MB I W H M P n SL v bl u) (hA : WfA W H M P n SL v) (hk : zR k) (h : 0 ≤ k → k < mN M → ∀ I', Fr PSc I I' → I' 603 8 = 0 → MB I' W H M P n SL v bl u → Q (.inl (some (.inl (waysA M k.toNat)))) I' L) (h2 : ¬ (0 ≤ k ∧ k < mN M) → ∀ I', Fr PSc I I' → I' 603 8 = 1 → MB I' W H M P n SL v bl u → Q (.inl (some (.inl (0)))) I' L) : CZ (d + 6) k_X12_ways [.inr (.ref 603, 13), .inl k] b I L Q := by
  refine T.call rfl ?_
  obtain ⟨mT, mR, ⟨mW, mH⟩, ⟨mn, mn8⟩, mP, mS9, ⟨mb1, mb2, mb3⟩, mz⟩ := id hC
  obtain ⟨⟨⟨⟨w1, w2, w3, w4⟩, -⟩, w5, w6⟩, wP, wS⟩ := id hA
  refine T.go [] 90 ?_
  conv => whnf
  refine zinv0 (s_X12_isShape T (n := mN M) (by first | assumption | omega | rfl | decide) (by exact ⟨mR.1, w5⟩) ?_ ?_)
  · intro cha_3
    conv => whnf
    refine ⟨by decide, fun _ => ?_, fun c => absurd c (by decide)⟩
    conv => whnf
    refine zinv0 (s_fails0 T   ?_)
    conv => whnf
    refine ⟨by decide, fun _ => ?_, fun c => absurd c (by decide)⟩
    conv => whnf
    obtain ⟨kn, rfl⟩ := Int.eq_ofNat_of_zero_le cha_3.1
    have hC0 := hC.th hA 0
    refine zinv0 (s_X12_seeks T (k := kn) (W := W) (H := H) M (by exact hC0.1) (by exact hC0.2.1) (by exact hA.1.1) (by exact ⟨by omega, w5⟩) (by exact ⟨by decide, by decide⟩) ?_)
    intro I_27 hf_27 he_27 hW_27
    conv => whnf
    refine ⟨by decide, ?_⟩
    conv => whnf
    have h9 := h cha_3.1 cha_3.2 I_27 ((frTh I 0).trans (hf_27.mono PSk_c)) ((hf_27 _ _ (by unfold PSk; omega)).trans (v2_eq _ _ _ _)) (hC0.fr hA (fun a b _ g => hf_27 a b (fun c => g (PSk_c _ _ c))))
    unfold waysA at h9
    rw [Int.toNat_natCast kn] at h9
    rw [he_27]
    exact h9
  · intro ch2a_3
    conv => whnf
    refine ⟨by decide, fun c => absurd c (by decide), fun _ => ?_⟩
    conv => whnf
    refine zinv0 (s_fails1 T   ?_)
    conv => whnf
    refine ⟨by decide, fun c => absurd c (by decide), fun _ => ?_⟩
    conv => whnf
    exact h2 ch2a_3 _ (frTh I 1) (v2_eq _ _ _ _) (hC.th hA 1)
theorem s_X12_firstWay (T : ZTh (XX Ln xs) CZ RZ) {d b : Nat} {W H n bl : Nat} {M : Mo} {P SL : Nat → Mo} {v u : Nat → Int} {k p w : Int} {I : ZI} {L : ZL} {Q : ZQ} (hC : MB I W H M P n SL v bl u) (hA : WfA W H M P n SL v) (hk : zR k) (hp : zR p) (hw9 : zR w) (h : 0 ≤ k → k < mN M → 0 ≤ p ∧ p < 7 → 0 ≤ w ∧ w ≤ 3 → ∀ I', Fr PSc I I' → I' 603 8 = 0 → MB I' W H M P n SL v bl u → Q (.inl (some (.inl (firstA M k.toNat p.toNat w)))) I' L) (h2 : ¬ ((0 ≤ k ∧ k < mN M) ∧ 0 ≤ p ∧ p < 7) → ∀ I', Fr PSc I I' → I' 603 8 = 1 → MB I' W H M P n SL v bl u → Q (.inl (some (.inl (0)))) I' L) (h3 : (0 ≤ k ∧ k < mN M) ∧ (0 ≤ p ∧ p < 7) → ¬ (0 ≤ w ∧ w ≤ 3) → ∀ I', Fr PSc I I' → I' 603 8 = 2 → MB I' W H M P n SL v bl u → Q (.inl (some (.inl (0)))) I' L) : CZ (d + 6) k_X12_firstWay [.inr (.ref 603, 13), .inl k, .inl p, .inl w] b I L Q := by
  refine T.call rfl ?_
  obtain ⟨mT, mR, ⟨mW, mH⟩, ⟨mn, mn8⟩, mP, mS9, ⟨mb1, mb2, mb3⟩, mz⟩ := id hC
  obtain ⟨⟨⟨⟨w1, w2, w3, w4⟩, -⟩, w5, w6⟩, wP, wS⟩ := id hA
  have hC0 := hC.th hA 0
  refine T.go [] 150 ?_
  conv => whnf
  refine zinv0 (s_X12_isShape T (n := mN M) (by first | assumption | omega | rfl | decide) (by exact ⟨mR.1, w5⟩) ?_ ?_)
  · intro cha_3
    conv => whnf
    refine ⟨by decide, fun c => absurd c (by decide), fun _ => ?_⟩
    conv => whnf
    refine zinv0 (s_X12_isPiece T (p := p) (by exact hp) ?_ ?_)
    · intro cha_11
      conv => whnf
      refine ⟨by decide, fun _ => ?_, fun c => absurd c (by decide)⟩
      conv => whnf
      refine zinv0 (s_fails0 T   ?_)
      conv => whnf
      refine ⟨by decide, fun c => absurd c (by decide), fun _ => ?_⟩
      conv => whnf
      refine ⟨by omega, ?_⟩
      conv => whnf
      refine zinv0 (s_X12_isIn T (v := w) (a := 0) (z := 3) (by omega) (by omega) (by omega) ?_ ?_)
      · intro cha_35
        conv => whnf
        refine ⟨by decide, fun _ => ?_, fun c => absurd c (by decide)⟩
        conv => whnf
        refine zinv0 (s_refuses0 T  (by exact v2_eq _ _ _ _) ?_)
        conv => whnf
        refine ⟨by decide, fun _ => ?_, fun c => absurd c (by decide)⟩
        conv => whnf
        obtain ⟨kn, rfl⟩ := Int.eq_ofNat_of_zero_le cha_3.1
        obtain ⟨pn, rfl⟩ := Int.eq_ofNat_of_zero_le cha_11.1
        refine zinv0 (s_X12_seeks T (k := kn) (W := W) (H := H) M (by exact hC0.1) (by exact hC0.2.1) (by exact hA.1.1) (by exact ⟨by omega, w5⟩) (by exact ⟨by decide, by decide⟩) ?_)
        intro I_58 hf_58 he_58 hW_58
        have hfr9 : Fr PSc I I_58 := (frTh I 0).trans (hf_58.mono PSk_c)
        have hC9 := hC0.fr hA (fun a b _ g => hf_58 a b (fun c => g (PSk_c _ _ c)))
        have h9 := h cha_3.1 cha_3.2 cha_11 cha_35 I_58 hfr9 ((hf_58 _ _ (by unfold PSk; omega)).trans (v2_eq _ _ _ _)) hC9
        unfold firstA at h9
        rw [Int.toNat_natCast kn, Int.toNat_natCast pn, ← (waysR_same (m := 1) (m' := 1000) (by omega) (by omega) (mS M kn)).1] at h9
        have hwb := waysR_b (most := 1) (by omega) (mS M kn)
        conv => whnf
        refine ⟨by decide, ?_⟩
        conv => whnf
        refine ⟨by rw [he_58]; exact ⟨by omega, by omega⟩, fun c65 => ?_, fun c65 => ?_⟩
        · conv => whnf
          refine zinv0 (s_X12_inWay T (p := pn) (w := w) (R := mS M kn) (M' := (waysR 1 (mS M kn)).2) (by exact hC9.1) (by omega) (by exact cha_35) (by exact hW_58 (by omega) rfl) ?_)
          conv => whnf
          exact h9
        · conv => whnf
          have e0 : (waysR 1 (mS M kn)).2 = offM := by
            have e1 : (waysR 1 (mS M kn)).1 = 0 := by omega
            exact waysR_z e1
          rw [e0] at h9
          exact h9
      · intro ch2a_35
        conv => whnf
        refine ⟨by decide, fun c => absurd c (by decide), fun _ => ?_⟩
        conv => whnf
        refine zinv0 (s_refuses1 T  (by exact v2_eq _ _ _ _) (by omega) ?_)
        conv => whnf
        refine ⟨by decide, fun c => absurd c (by decide), fun _ => ?_⟩
        conv => whnf
        exact h3 ⟨cha_3, cha_11⟩ ch2a_35 _ ((frTh I 0).trans (frTh _ 2)) (v2_eq _ _ _ _) (hC0.th hA 2)
    · intro ch2a_11
      conv => whnf
      refine ⟨by decide, fun c => absurd c (by decide), fun _ => ?_⟩
      conv => whnf
      refine zinv0 (s_fails1 T   ?_)
      conv => whnf
      refine ⟨by decide, fun _ => ?_, fun c => absurd c (by decide)⟩
      conv => whnf
      exact h2 (fun g => ch2a_11 g.2) _ (frTh I 1) (v2_eq _ _ _ _) (hC.th hA 1)
  · intro ch2a_3
    conv => whnf
    refine ⟨by decide, fun _ => ?_, fun c => absurd c (by decide)⟩
    conv => whnf
    refine zinv0 (s_fails1 T   ?_)
    conv => whnf
    refine ⟨by decide, fun _ => ?_, fun c => absurd c (by decide)⟩
    conv => whnf
    exact h2 (fun g => ch2a_3 g.1) _ (frTh I 1) (v2_eq _ _ _ _) (hC.th hA 1)
end
