/-! THE REFERENCE ANSWERS, 2 -/
section
variable {Ln : Nat} {xs : Nat → Int32} {CZ : Nat → ZC} {RZ : Nat → Nat → ZQ → ZP}
theorem lk_first {S : Nat → Bool} {k : Nat} (hk : k < 8) : decide (flk S (lk8 S k) 8 0 = k) = dc (∀ i, i < k → ¬ lk8 S i = lk8 S k) := by
  have hq : ∀ i, lkq S (lk8 S k) i = true ↔ lk8 S i = lk8 S k := fun i => by rw [lkq_iff, nrm_lk8 S hk]
  rw [flk_lik S (lk8 S k) 8 0 (by omega)]
  apply Bool.eq_iff_iff.mpr
  rw [decide_eq_true_iff, dc_iff]
  rcases lik_spec S (lk8 S k) 8 0 with ⟨a, b⟩ | ⟨j, a, b, c, d, f⟩
  · have := (hq k).mpr rfl
    rw [b k (by omega) (by omega)] at this
    cases this
  · have hjk : ¬ k < j := fun g => by
      have := (hq k).mpr rfl
      rw [f k (by omega) g] at this
      cases this
    rw [c]
    constructor
    · intro e i hi g
      have := (hq i).mpr g
      rw [f i (by omega) (by omega)] at this
      cases this
    · intro h
      apply Classical.byContradiction
      intro g
      exact h j (by omega) ((hq j).mp d)
theorem eq_lk8 {S : Nat → Bool} {a c : Nat} : dc (∀ z, z < 576 → lk8 S a z = lk8 S c z) = true ↔ lk8 S a = lk8 S c := by
  rw [dc_iff]
  exact ⟨fun h => (lk8_Nz S a).ext (lk8_Nz S c) h, fun h z _ => by rw [h]⟩
/-- what looks may change -/
def PLo2 : Nat → Int → Prop := fun a b => a = 636 ∨ a = 642 ∨ (a = 603 ∧ 40 ≤ b ∧ b ≤ 43)
def nLk (S : Nat → Bool) (k i : Nat) : Prop := ∀ j, j < i → ¬ lk8 S j = lk8 S k
theorem l_mlkI (T : ZTh (XX Ln xs) CZ RZ) {d b : Nat} {Q : ZQ} {S : Nat → Bool} {k : Nat} {c0 : Int} {I0 : ZI} {L : ZL} (hS : ArB I0 633 S) (hk : k < 8) (hk2 : ∀ I' f, Fr PLo2 I0 I' → (f = 0 ∨ f = 1) → (f = 1 ↔ nLk S k k) → RZ (d + 4) k_X12_looks Q 102 [.inr (.ref 603, 13), .inl c0, .inl (k : Int), .inl f, zj] [] b I' L) (m : Nat) : ∀ (i : Nat) (f : Int) (I : ZI), (i ≤ k) → (Fr PLo2 I0 I) → (ArB I 636 (lk8 S k)) → ((f = 0 ∨ f = 1) ∧ (f = 1 ↔ nLk S k i)) → (k : Int) - (i : Int) < (m : Int) → RZ (d + 4) k_X12_looks Q 52 [.inr (.ref 603, 13), .inl c0, .inl ((k : Int)), .inl f, .inl ((i : Int))] [] b I L := by
  induction m with
  | zero =>
    intro i f I hi hfr hs hf hm
    exfalso
    omega
  | succ m ih =>
    intro i f I hi hfr hs hf hm
    refine T.go [52, 102] 90 ?_
    conv => whnf
    refine ⟨by omega, fun c55 => ?_, fun c55 => ?_⟩
    · conv => whnf
      refine T.fg [4] ?_
      obtain rfl : i = k := by omega
      exact hk2 I f hfr hf.1 hf.2
    · conv => whnf
      refine ⟨by decide, _, rfl, ?_⟩
      conv => whnf
      refine ⟨by decide, _, rfl, ?_⟩
      conv => whnf
      refine zinv0 (s_X12_laysLook T (its := i) S (by omega) (by omega) (by omega) (by exact hS.fr (fun b => hfr _ _ (by unfold PLo2; omega))) ?_)
      intro I_69 hf_69 hS_69
      have hfr2 : Fr PLo2 I0 I_69 := hfr.trans (hf_69.mono (fun a b c => by unfold PLo2; omega))
      have hs2 : ArB I_69 636 (lk8 S k) := hs.fr (fun b => hf_69 _ _ (by omega))
      conv => whnf
      refine ⟨by exact ⟨by omega, by omega⟩, fun c73 => ?_, fun c73 => ?_⟩
      · conv => whnf
        refine ih (i + 1) _ I_69 (by omega) hfr2 hs2 ?_ (by omega)
        refine ⟨Or.inl rfl, ⟨fun e => absurd e (by decide), fun e => ?_⟩⟩
        have : f = 1 := hf.2.mpr (fun j hj => e j (by omega))
        omega
      · conv => whnf
        refine ⟨by decide, _, rfl, ?_⟩
        conv => whnf
        refine ⟨by decide, _, rfl, ?_⟩
        conv => whnf
        refine zinv0 (s_X12_areEqual T (lk8 S k) (lk8 S i) (by decide) (by decide) (by exact hs2) (by exact hS_69) ?_)
        have hbb := bi_b (dc (∀ z, z < 576 → lk8 S k z = lk8 S i z))
        conv => whnf
        refine ⟨by omega, fun c87 => ?_, fun c87 => ?_⟩
        · conv => whnf
          refine ih (i + 1) _ I_69 (by omega) hfr2 hs2 ?_ (by omega)
          refine ⟨Or.inl rfl, ⟨fun e => absurd e (by decide), fun e => ?_⟩⟩
          have h1 : ¬ dc (∀ z, z < 576 → lk8 S k z = lk8 S i z) = true := fun g => e i (by omega) (eq_lk8.mp g).symm
          cases g : dc (∀ z, z < 576 → lk8 S k z = lk8 S i z) with
          | true => exact absurd g h1
          | false => rw [g] at c87; exact absurd rfl c87
        · conv => whnf
          refine ih (i + 1) _ I_69 (by omega) hfr2 hs2 ?_ (by omega)
          refine ⟨Or.inr rfl, ⟨fun _ j hj => ?_, fun _ => rfl⟩⟩
          by_cases ej : j = i
          · rw [ej]
            intro g
            rw [eq_lk8.mpr g.symm] at c87
            exact absurd c87 (by decide)
          · have : f = 1 := by omega
            exact hf.2.mp this j (by omega)
theorem l_mlkE (T : ZTh (XX Ln xs) CZ RZ) {d b : Nat} {Q : ZQ} {c0 k f : Int} {I : ZI} {L : ZL} (hf : f = 0 ∨ f = 1) (h : RZ (d + 4) k_X12_looks Q 18 [.inr (.ref 603, 13), .inl (c0 + f), .inl (k + 1), zj, zj] [] b I L) : RZ (d + 4) k_X12_looks Q 102 [.inr (.ref 603, 13), .inl c0, .inl k, .inl f, zj] [] b I L := by
  refine T.go [18] 90 ?_
  conv => whnf
  refine ⟨by exact ⟨by omega, by omega⟩, fun c104 => ?_, fun c104 => ?_⟩
  · conv => whnf
    refine T.fg [3] ?_
    rw [show f = 0 by omega] at h
    exact h
  · conv => whnf
    refine T.fg [3] ?_
    rw [show f = 1 by omega] at h
    exact h
theorem l_mlkO (T : ZTh (XX Ln xs) CZ RZ) {d b : Nat} {Q : ZQ} {S : Nat → Bool} {I0 : ZI} {L : ZL} (hS : ArB I0 633 S) (h : ∀ I', Fr PLo2 I0 I' → Q (.inl (some (.inl (if cn S 576 = 0 then 0 else cn (fun k => decide (flk S (lk8 S k) 8 0 = k)) 8)))) I' L) (m : Nat) : ∀ (k : Nat) (c : Int) (I : ZI), (k ≤ 8) → (Fr PLo2 I0 I) → (c = if cn S 576 = 0 then 0 else cn (fun k => decide (flk S (lk8 S k) 8 0 = k)) k) → 8 - (k : Int) < (m : Int) → RZ (d + 4) k_X12_looks Q 18 [.inr (.ref 603, 13), .inl c, .inl ((k : Int)), zj, zj] [] b I L := by
  induction m with
  | zero =>
    intro k c I hk hfr hc hm
    exfalso
    omega
  | succ m ih =>
    intro k c I hk hfr hc hm
    have hc1 := cn_nonneg S 576
    have hc2 := cn_le S 576
    have hS2 : ArB I 633 S := hS.fr (fun b => hfr _ _ (by unfold PLo2; omega))
    refine T.go [52] 90 ?_
    conv => whnf
    refine ⟨by omega, fun c21 => ?_, fun c21 => ?_⟩
    · conv => whnf
      obtain rfl : k = 8 := by omega
      rw [hc]
      exact h I hfr
    · conv => whnf
      refine ⟨by decide, _, rfl, ?_⟩
      conv => whnf
      refine zinv0 (s_X12_sizeOf T S (by decide) (by exact hS2) ?_)
      conv => whnf
      refine ⟨by omega, fun c31 => ?_, fun c31 => ?_⟩
      · conv => whnf
        have e : cn S 576 = 0 := by omega
        rw [if_pos e] at hc h
        rw [hc]
        exact h I hfr
      · conv => whnf
        refine ⟨by decide, _, rfl, ?_⟩
        conv => whnf
        refine ⟨by decide, _, rfl, ?_⟩
        conv => whnf
        refine zinv0 (s_X12_laysLook T (its := k) S (by omega) (by omega) (by omega) (by exact hS2) ?_)
        intro I_44 hf_44 hS_44
        conv => whnf
        refine l_mlkI T (I0 := I0) (S := S) (k := k) hS (by omega) (fun I2 f f2 f3 f4 => ?_) (k + 1) 0 1 I_44 (Nat.zero_le _) (hfr.trans (hf_44.mono (fun a b c => by unfold PLo2; omega))) hS_44 ⟨Or.inr rfl, ⟨fun _ j hj => absurd hj (Nat.not_lt_zero j), fun _ => rfl⟩⟩ (by omega)
        refine l_mlkE T f3 (ih (k + 1) _ I2 (by omega) f2 ?_ (by omega))
        rw [if_neg (by omega)] at hc
        rw [if_neg (by omega), cn_s, hc, lk_first (by omega)]
        congr 1
        cases g : dc (∀ i, i < k → ¬ lk8 S i = lk8 S k) with
        | true =>
          have : f = 1 := f4.mpr (dc_iff.mp g)
          rw [this]
          rfl
        | false =>
          have : ¬ f = 1 := fun e => dc_not.mp g (f4.mp e)
          have : f = 0 := by omega
          rw [this]
          rfl
theorem s_X12_looks (T : ZTh (XX Ln xs) CZ RZ) {d b : Nat} {W H n bl : Nat} {M : Mo} {P SL : Nat → Mo} {v u : Nat → Int}  {I : ZI} {L : ZL} {Q : ZQ} (hC : MB I W H M P n SL v bl u) (hA : WfA W H M P n SL v) (h : ∀ I', Fr PSc I I' → I' 603 8 = 0 → MB I' W H M P n SL v bl u → Q (.inl (some (.inl (looksA M)))) I' L) : CZ (d + 5) k_X12_looks [.inr (.ref 603, 13)] b I L Q := by
  refine T.call rfl ?_
  have hC0 := hC.th hA 0
  obtain ⟨mT, mR, ⟨mW, mH⟩, ⟨mn, mn8⟩, mP, mS9, ⟨mb1, mb2, mb3⟩, mz⟩ := id hC0
  obtain ⟨⟨⟨⟨w1, w2, w3, w4⟩, -⟩, w5, w6⟩, wP, wS⟩ := id hA
  refine T.go [18] 90 ?_
  conv => whnf
  refine ⟨by decide, ?_⟩
  conv => whnf
  refine ⟨by decide, _, rfl, ?_⟩
  conv => whnf
  refine zinv0 (s_takesN T (W := W) (H := H) M (by exact mT) (by exact mR) (by exact hA.1.1) (by omega) ?_)
  intro I_11 hf_11 hO_11 hS_11
  conv => whnf
  refine l_mlkO T (I0 := I_11) hS_11 (fun I2 f2 => ?_) 9 0 0 I_11 (by omega) (Fr.refl _) (by split <;> rfl) (by omega)
  have hfr : Fr PSc I I2 := ((frTh I 0).trans (hf_11.mono (fun a b c => by unfold PSc; omega))).trans (f2.mono (fun a b c => by unfold PLo2 at c; unfold PSc; omega))
  exact h I2 hfr (by rw [f2 _ _ (by unfold PLo2; omega), hf_11 _ _ (by omega), v2_eq]) (hC.fr hA (fun a b _ g => hfr a b g))
theorem l_mmiss (T : ZTh (XX Ln xs) CZ RZ) {d b : Nat} {Q : ZQ} {A B : Nat → Bool} {I : ZI} {L : ZL} (hA : ArB I 633 A) (hB : ArB I 634 B) (h : Q (.inl (some (.inl (cn (fun q => A q ^^ B q) 576)))) I L) (m : Nat) : ∀ (q : Nat) (c : Int), (q ≤ 576) → (c = cn (fun q => A q ^^ B q) q) → 576 - (q : Int) < (m : Int) → RZ (d + 4) k_X12_missing Q 44 [.inr (.ref 603, 13), zj, .inl c, .inl ((q : Int))] [] b I L := by
  induction m with
  | zero =>
    intro q c hq hc hm
    exfalso
    omega
  | succ m ih =>
    intro q c hq hc hm
    refine T.go [44] 90 ?_
    conv => whnf
    refine ⟨by omega, fun c48 => ?_, fun c48 => ?_⟩
    · conv => whnf
      obtain rfl : q = 576 := by omega
      rw [hc]
      exact h
    · conv => whnf
      refine ⟨by decide, _, rfl, ?_⟩
      conv => whnf
      refine ⟨by omega, by decide, ?_⟩
      conv => whnf
      refine ⟨by decide, _, rfl, ?_⟩
      conv => whnf
      refine ⟨by omega, by decide, ?_⟩
      conv => whnf
      refine ⟨by rw [hA q (by omega), hB q (by omega)]; have := bi_b (A q); have := bi_b (B q); exact ⟨⟨by omega, by omega⟩, ⟨by omega, by omega⟩⟩, fun c64 => ?_, fun c64 => ?_⟩
      · conv => whnf
        rw [hA q (by omega), hB q (by omega)] at c64
        refine ih (q + 1) _ (by omega) ?_ (by omega)
        rw [cn_s, hc]
        congr 1
        cases e1 : A q <;> cases e2 : B q <;> rw [e1, e2] at c64 <;> first | rfl | exact absurd rfl c64 | exact absurd c64 (by decide)
      · conv => whnf
        rw [hA q (by omega), hB q (by omega)] at c64
        refine ih (q + 1) _ (by omega) ?_ (by omega)
        rw [cn_s, hc]
        congr 1
        cases e1 : A q <;> cases e2 : B q <;> rw [e1, e2] at c64 <;> first | rfl | exact absurd rfl c64 | exact absurd c64 (by decide)
theorem s_X12_missing (T : ZTh (XX Ln xs) CZ RZ) {d b : Nat} {W H n bl : Nat} {M : Mo} {P SL : Nat → Mo} {v u : Nat → Int} {k : Int} {I : ZI} {L : ZL} {Q : ZQ} (hC : MB I W H M P n SL v bl u) (hA : WfA W H M P n SL v) (hk : zR k) (h : 0 ≤ k ∧ k < mN M → ∀ I', Fr PSc I I' → I' 603 8 = 0 → MB I' W H M P n SL v bl u → Q (.inl (some (.inl (cn (fun q => mS M k.toNat q ^^ sil M q) 576)))) I' L) (h2 : ¬ (0 ≤ k ∧ k < mN M) → ∀ I', Fr PSc I I' → I' 603 8 = 1 → MB I' W H M P n SL v bl u → Q (.inl (some (.inl (0)))) I' L) : CZ (d + 5) k_X12_missing [.inr (.ref 603, 13), .inl k] b I L Q := by
  refine T.call rfl ?_
  obtain ⟨mT, mR, ⟨mW, mH⟩, ⟨mn, mn8⟩, mP, mS9, ⟨mb1, mb2, mb3⟩, mz⟩ := id hC
  obtain ⟨⟨⟨⟨w1, w2, w3, w4⟩, -⟩, w5, w6⟩, wP, wS⟩ := id hA
  refine T.go [44] 90 ?_
  conv => whnf
  refine zinv0 (s_X12_isShape T (k := k) (n := mN M) (by exact hk) (by exact ⟨mR.1, w5⟩) ?_ ?_)
  · intro cha_3
    conv => whnf
    refine ⟨by decide, fun _ => ?_, fun c => absurd c (by decide)⟩
    conv => whnf
    refine zinv0 (s_fails0 T   ?_)
    have hC1 := hC.th hA 0
    obtain ⟨k, rfl⟩ := Int.eq_ofNat_of_zero_le cha_3.1
    have hkN : k < mN M := by omega
    have hmk : ((k : Nat) : Int).toNat = k := Int.toNat_natCast k
    rw [hmk] at h
    conv => whnf
    refine ⟨by decide, fun _ => ?_, fun c => absurd c (by decide)⟩
    conv => whnf
    refine ⟨by decide, _, rfl, ?_⟩
    conv => whnf
    refine zinv0 (s_takesK T (k := k) (W := W) (H := H) M (by exact hC1.1) (by exact hC1.2.1) (by exact hA.1.1) (by omega) (by exact ⟨hkN, w5⟩) ?_)
    intro I_28 hf_28 hO_28 hS_28
    have hf28 : Fr PSc (v2 I 603 8 0) I_28 := hf_28.mono (fun a b c => by unfold PSc; omega)
    have hC28 := hC1.fr hA (fun a b _ g => hf28 a b g)
    conv => whnf
    refine ⟨by decide, _, rfl, ?_⟩
    conv => whnf
    refine zinv0 (s_takesN T (W := W) (H := H) M (by exact hC28.1) (by exact hC28.2.1) (by exact hA.1.1) (by omega) ?_)
    intro I_37 hf_37 hO_37 hS_37
    have hf37 : Fr PSc I_28 I_37 := hf_37.mono (fun a b c => by unfold PSc; omega)
    have hC37 := hC28.fr hA (fun a b _ g => hf37 a b g)
    have hS1 : ArB I_37 633 (mS M k) := hS_28.fr (fun b => hf_37 _ _ (by omega))
    conv => whnf
    refine T.fg [1] ?_
    exact l_mmiss T hS1 hS_37 (h cha_3 I_37 (((frTh I 0).trans hf28).trans hf37) (by rw [hf_37 _ _ (by omega), hf_28 _ _ (by omega), v2_eq]) hC37) 577 0 0 (by omega) rfl (by omega)
  · intro ch2a_3
    conv => whnf
    refine ⟨by decide, fun c => absurd c (by decide), fun _ => ?_⟩
    conv => whnf
    refine zinv0 (s_fails1 T   ?_)
    conv => whnf
    refine ⟨by decide, fun c => absurd c (by decide), fun _ => ?_⟩
    conv => whnf
    exact h2 ch2a_3 _ (frTh I 1) (v2_eq _ _ _ _) (hC.th hA 1)
theorem s_X12_ofShape (T : ZTh (XX Ln xs) CZ RZ) {d b : Nat} {k : Nat} {w : Int} {W H n bl : Nat} {M : Mo} {P SL : Nat → Mo} {v u : Nat → Int}  {I : ZI} {L : ZL} {Q : ZQ} (hC : MB I W H M P n SL v bl u) (hA : WfA W H M P n SL v) (hk : k < mN M) (hw9 : 0 ≤ w ∧ w ≤ 4) (h : ∀ I', Fr PAl I I' → MB I' W H M P n SL v bl u → Q (.inl (some (.inl (aShape (mS M k) w)))) I' L) : CZ (d + 5) k_X12_ofShape [.inr (.ref 603, 13), .inl ((k : Int)), .inl w] b I L Q := by
  refine T.call rfl ?_
  obtain ⟨mT, mR, ⟨mW, mH⟩, ⟨mn, mn8⟩, mP, mS9, ⟨mb1, mb2, mb3⟩, mz⟩ := id hC
  obtain ⟨⟨⟨⟨w1, w2, w3, w4⟩, -⟩, w5, w6⟩, wP, wS⟩ := id hA
  have hne : ¬ cn (mS M k) 576 = 0 := by
    obtain ⟨q, hq⟩ := (w6 k hk).2
    exact cn_ex ((w6 k hk).1 q hq).1 hq
  refine T.go [] 90 ?_
  conv => whnf
  refine ⟨by decide, _, rfl, ?_⟩
  conv => whnf
  refine zinv0 (s_takesK T (k := k) (W := W) (H := H) M (by exact mT) (by exact mR) (by exact hA.1.1) (by omega) (by exact ⟨hk, w5⟩) ?_)
  intro I_6 hf_6 hO_6 hS_6
  conv => whnf
  refine ⟨by decide, _, rfl, ?_⟩
  conv => whnf
  refine zinv0 (s_X12_measures T (mS M k) (by decide) (by exact hS_6) ?_)
  intro I_14 hf_14 hB_14
  have hf14 : Fr PAl I I_14 := (show Fr PAl I I_6 from hf_6.mono (fun a b c => by unfold PAl; omega)).trans (hf_14.mono (fun a b c => by unfold PAl; omega))
  have hC14 := hC.fr hA (fun a b _ g => hf14 a b (fun c => g (PAl_c _ _ c)))
  have h9 := h I_14 hf14 hC14
  obtain ⟨b1, b2, b3⟩ := hB_14
  obtain ⟨b4, b5⟩ := b3 hne
  conv => whnf
  refine ⟨by omega, fun c18 => ?_, fun c18 => ?_⟩
  · conv => whnf
    refine ⟨by omega, fun c33 => ?_, fun c33 => ?_⟩
    · conv => whnf
      refine ⟨by omega, fun c45 => ?_, fun c45 => ?_⟩
      · conv => whnf
        refine ⟨by omega, fun c57 => ?_, fun c57 => ?_⟩
        · conv => whnf
          refine ⟨by decide, ?_⟩
          conv => whnf
          obtain rfl : w = 4 := by omega
          rw [b2]
          exact h9
        · conv => whnf
          refine ⟨by decide, ?_⟩
          conv => whnf
          obtain rfl : w = 3 := by omega
          rw [b1]
          exact h9
      · conv => whnf
        refine ⟨by decide, ?_⟩
        conv => whnf
        obtain rfl : w = 2 := by omega
        rw [b5]
        exact h9
    · conv => whnf
      refine ⟨by decide, ?_⟩
      conv => whnf
      obtain rfl : w = 1 := by omega
      rw [b4]
      exact h9
  · conv => whnf
    refine ⟨by decide, _, rfl, ?_⟩
    conv => whnf
    refine zinv0 (s_X12_sizeOf T (mS M k) (by decide) (by exact hS_6.fr (fun b => hf_14 _ _ (by omega))) ?_)
    conv => whnf
    obtain rfl : w = 0 := by omega
    exact h9
theorem s_X12_shape (T : ZTh (XX Ln xs) CZ RZ) {d b : Nat} {W H n bl : Nat} {M : Mo} {P SL : Nat → Mo} {v u : Nat → Int} {k w : Int} {I : ZI} {L : ZL} {Q : ZQ} (hC : MB I W H M P n SL v bl u) (hA : WfA W H M P n SL v) (hk : zR k) (hw9 : zR w) (h : 0 ≤ k ∧ k < mN M → 0 ≤ w ∧ w ≤ 4 → ∀ I', Fr PSc I I' → I' 603 8 = 0 → MB I' W H M P n SL v bl u → Q (.inl (some (.inl (aShape (mS M k.toNat) w)))) I' L) (h2 : ¬ (0 ≤ k ∧ k < mN M) → ∀ I', Fr PSc I I' → I' 603 8 = 1 → MB I' W H M P n SL v bl u → Q (.inl (some (.inl (0)))) I' L) (h3 : 0 ≤ k ∧ k < mN M → ¬ (0 ≤ w ∧ w ≤ 4) → ∀ I', Fr PSc I I' → I' 603 8 = 2 → MB I' W H M P n SL v bl u → Q (.inl (some (.inl (0)))) I' L) : CZ (d + 6) k_X12_shape [.inr (.ref 603, 13), .inl k, .inl w] b I L Q := by
  refine T.call rfl ?_
  obtain ⟨mT, mR, ⟨mW, mH⟩, ⟨mn, mn8⟩, mP, mS9, ⟨mb1, mb2, mb3⟩, mz⟩ := id hC
  obtain ⟨⟨⟨⟨w1, w2, w3, w4⟩, -⟩, w5, w6⟩, wP, wS⟩ := id hA
  refine T.go [] 120 ?_
  conv => whnf
  refine zinv0 (s_X12_isShape T (k := k) (n := mN M) (by exact hk) (by exact ⟨mR.1, w5⟩) ?_ ?_)
  · intro cha_3
    conv => whnf
    refine ⟨by decide, fun _ => ?_, fun c => absurd c (by decide)⟩
    conv => whnf
    refine zinv0 (s_fails0 T   ?_)
    have hC1 := hC.th hA 0
    obtain ⟨k, rfl⟩ := Int.eq_ofNat_of_zero_le cha_3.1
    have hkN : k < mN M := by omega
    have hmk : ((k : Nat) : Int).toNat = k := Int.toNat_natCast k
    rw [hmk] at h
    conv => whnf
    refine ⟨by decide, fun c => absurd c (by decide), fun _ => ?_⟩
    conv => whnf
    refine ⟨by omega, ?_⟩
    conv => whnf
    refine zinv0 (s_X12_isIn T (v := w) (a := 0) (z := 4) (by omega) (by omega) (by omega) ?_ ?_)
    · intro cha_27
      conv => whnf
      refine ⟨by decide, fun _ => ?_, fun c => absurd c (by decide)⟩
      conv => whnf
      refine zinv0 (s_refuses0 T  (by exact v2_eq _ _ _ _) ?_)
      conv => whnf
      refine ⟨by decide, fun _ => ?_, fun c => absurd c (by decide)⟩
      conv => whnf
      refine zinv0 (s_X12_ofShape T (k := k) (w := w) (by exact hC1) (by exact hA) (by exact hkN) (by exact cha_27) ?_)
      intro I_52 hf_52 hC_52
      conv => whnf
      exact h cha_3 cha_27 I_52 ((frTh I 0).trans (hf_52.mono PAl_c)) ((hf_52 _ _ (by unfold PAl; omega)).trans (v2_eq _ _ _ _)) hC_52
    · intro ch2a_27
      conv => whnf
      refine ⟨by decide, fun c => absurd c (by decide), fun _ => ?_⟩
      conv => whnf
      refine zinv0 (s_refuses1 T  (by exact v2_eq _ _ _ _) (by omega) ?_)
      conv => whnf
      refine ⟨by decide, fun c => absurd c (by decide), fun _ => ?_⟩
      conv => whnf
      exact h3 cha_3 ch2a_27 _ ((frTh I 0).v2 PSc8) (v2_eq _ _ _ _) (hC1.th hA 2)
  · intro ch2a_3
    conv => whnf
    refine ⟨by decide, fun c => absurd c (by decide), fun _ => ?_⟩
    conv => whnf
    refine zinv0 (s_fails1 T   ?_)
    conv => whnf
    refine ⟨by decide, fun _ => ?_, fun c => absurd c (by decide)⟩
    conv => whnf
    exact h2 ch2a_3 _ (frTh I 1) (v2_eq _ _ _ _) (hC.th hA 1)
theorem s_X12_hasQuarter (T : ZTh (XX Ln xs) CZ RZ) {d b : Nat} {W H n bl : Nat} {M : Mo} {P SL : Nat → Mo} {v u : Nat → Int} {k q : Int} {I : ZI} {L : ZL} {Q : ZQ} (hC : MB I W H M P n SL v bl u) (hA : WfA W H M P n SL v) (hk : zR k) (hq : zR q) (h : 0 ≤ k ∧ k < mN M → ∀ I', Fr PSc I I' → I' 603 8 = 0 → MB I' W H M P n SL v bl u → Q (.inl (some (.inl (bi (decide (0 ≤ q ∧ q < 576) && mS M k.toNat q.toNat))))) I' L) (h2 : ¬ (0 ≤ k ∧ k < mN M) → ∀ I', Fr PSc I I' → I' 603 8 = 1 → MB I' W H M P n SL v bl u → Q (.inl (some (.inl (0)))) I' L) : CZ (d + 3) k_X12_hasQuarter [.inr (.ref 603, 13), .inl k, .inl q] b I L Q := by
  refine T.call rfl ?_
  obtain ⟨mT, mR, ⟨mW, mH⟩, ⟨mn, mn8⟩, mP, mS9, ⟨mb1, mb2, mb3⟩, mz⟩ := id hC
  obtain ⟨⟨⟨⟨w1, w2, w3, w4⟩, -⟩, w5, w6⟩, wP, wS⟩ := id hA
  refine T.go [] 90 ?_
  conv => whnf
  refine zinv0 (s_X12_isShape T (k := k) (n := mN M) (by exact hk) (by exact ⟨mR.1, w5⟩) ?_ ?_)
  · intro cha_3
    conv => whnf
    refine ⟨by decide, fun _ => ?_, fun c => absurd c (by decide)⟩
    conv => whnf
    refine zinv0 (s_fails0 T   ?_)
    have hC1 := hC.th hA 0
    obtain ⟨k, rfl⟩ := Int.eq_ofNat_of_zero_le cha_3.1
    have hkN : k < mN M := by omega
    have hmk : ((k : Nat) : Int).toNat = k := Int.toNat_natCast k
    rw [hmk] at h
    conv => whnf
    refine ⟨by decide, fun c => absurd c (by decide), fun _ => ?_⟩
    conv => whnf
    refine zinv0 (s_X12_isQuarter T (W := W) (H := H) (by first | assumption | omega | rfl | decide) (by exact ⟨hC1.2.2.1.1, w2⟩) (by exact ⟨hC1.2.2.1.2, w4⟩) ?_ ?_)
    · intro cha_22
      conv => whnf
      refine ⟨by decide, fun c => absurd c (by decide), fun _ => ?_⟩
      conv => whnf
      refine ⟨by decide, _, rfl, ?_⟩
      conv => whnf
      obtain ⟨qn, rfl⟩ := Int.eq_ofNat_of_zero_le cha_22.1.1
      refine zinv0 (s_X12_hasBit T (k := k) (q := qn) (M := M) (by exact hC1.2.1) (by exact ⟨hkN, w5⟩) (by omega) ?_)
      have hbb := bi_b (mS M k qn)
      conv => whnf
      refine ⟨by exact ⟨by omega, by omega⟩, fun c37 => ?_, fun c37 => ?_⟩
      · conv => whnf
        refine ⟨by omega, ?_⟩
        have h9 := h cha_3 _ (frTh I 0) (v2_eq _ _ _ _) hC1
        rw [decide_eq_true cha_22.1, Bool.true_and, show ((qn : Nat) : Int).toNat = qn from Int.toNat_natCast qn] at h9
        cases g : mS M k qn with
        | true => rw [g] at h9; rw [g] at c37; exact absurd c37 (by decide)
        | false => rw [g] at h9; exact h9
      · conv => whnf
        refine ⟨by omega, ?_⟩
        have h9 := h cha_3 _ (frTh I 0) (v2_eq _ _ _ _) hC1
        rw [decide_eq_true cha_22.1, Bool.true_and, show ((qn : Nat) : Int).toNat = qn from Int.toNat_natCast qn] at h9
        cases g : mS M k qn with
        | true => rw [g] at h9; exact h9
        | false => rw [g] at h9; rw [g] at c37; exact absurd rfl c37
    · intro ch2a_22
      conv => whnf
      refine ⟨by decide, fun _ => ?_, fun c => absurd c (by decide)⟩
      conv => whnf
      refine ⟨by omega, ?_⟩
      have h9 := h cha_3 _ (frTh I 0) (v2_eq _ _ _ _) hC1
      have e : (decide (0 ≤ q ∧ q < 576) && mS M k q.toNat) = false := by
        cases g : (decide (0 ≤ q ∧ q < 576) && mS M k q.toNat) with
        | false => rfl
        | true =>
          rw [Bool.and_eq_true, decide_eq_true_iff] at g
          have g2 := (w6 k hkN).1 _ g.2
          exact absurd ⟨g.1, by omega, by omega⟩ ch2a_22
      rw [e] at h9
      exact h9
  · intro ch2a_3
    conv => whnf
    refine ⟨by decide, fun c => absurd c (by decide), fun _ => ?_⟩
    conv => whnf
    refine zinv0 (s_fails1 T   ?_)
    conv => whnf
    refine ⟨by decide, fun _ => ?_, fun c => absurd c (by decide)⟩
    conv => whnf
    refine ⟨by omega, ?_⟩
    exact h2 ch2a_3 _ (frTh I 1) (v2_eq _ _ _ _) (hC.th hA 1)
theorem s_X12_fullness (T : ZTh (XX Ln xs) CZ RZ) {d b : Nat} {W H n bl : Nat} {M : Mo} {P SL : Nat → Mo} {v u : Nat → Int}  {I : ZI} {L : ZL} {Q : ZQ} (hC : MB I W H M P n SL v bl u) (hA : WfA W H M P n SL v) (h : ∀ I', Fr PSc I I' → I' 603 8 = 0 → MB I' W H M P n SL v bl u → Q (.inl (some (.inr (.float (fullA M), 0)))) I' L) : CZ (d + 5) k_X12_fullness [.inr (.ref 603, 13)] b I L Q := by
  refine T.call rfl ?_
  have hC0 := hC.th hA 0
  obtain ⟨mT, mR, ⟨mW, mH⟩, ⟨mn, mn8⟩, mP, mS9, ⟨mb1, mb2, mb3⟩, mz⟩ := id hC0
  obtain ⟨⟨⟨⟨w1, w2, w3, w4⟩, -⟩, w5, w6⟩, wP, wS⟩ := id hA
  have hs := sil_cn hA.1.1
  have hs0 := cn_nonneg (sil M) 576
  obtain ⟨q, hq⟩ := Int.eq_ofNat_of_zero_le hs0
  refine T.go [] 90 ?_
  conv => whnf
  refine ⟨by decide, ?_⟩
  conv => whnf
  refine ⟨by decide, _, rfl, ?_⟩
  conv => whnf
  refine zinv0 (s_takesN T (W := W) (H := H) M (by exact mT) (by exact mR) (by exact hA.1.1) (by omega) ?_)
  intro I_11 hf_11 hO_11 hS_11
  conv => whnf
  refine ⟨by decide, _, rfl, ?_⟩
  conv => whnf
  refine zinv0 (s_X12_measures T (sil M) (by decide) (by exact hS_11) ?_)
  intro I_19 hf_19 hB_19
  have hfr : Fr PSc I I_19 := ((frTh I 0).trans (hf_11.mono (fun a b c => by unfold PSc; omega))).trans (hf_19.mono (fun a b c => by unfold PSc; omega))
  have h9 := h I_19 hfr (by rw [hf_19 _ _ (by omega), hf_11 _ _ (by omega), v2_eq]) (hC.fr hA (fun a b _ g => hfr a b g))
  obtain ⟨b1, b2, b3⟩ := hB_19
  have hbx := box_le (sil M)
  obtain ⟨a, ha⟩ : ∃ a, a = wd (sil M) * hg (sil M) := ⟨_, rfl⟩
  have ha2 : a ≤ 144 := by
    rw [ha]
    exact Nat.le_trans (Nat.mul_le_mul (show wd (sil M) ≤ 12 by omega) (show hg (sil M) ≤ 12 by omega)) (Nat.le_refl 144)
  have hm : 4 * I_19 603 42 * I_19 603 43 = 4 * (a : Int) := by
    rw [b1, b2, ha, Int.natCast_mul, Int.mul_assoc]
  have hz : wd (sil M) = 0 ↔ a = 0 := by
    rw [ha]
    constructor
    · intro e
      rw [e, Nat.zero_mul]
    · intro e
      by_cases h0 : cn (sil M) 576 = 0
      · exact (box_0 h0).1
      · obtain ⟨g0, ⟨q1, a1, a2, a3⟩, -⟩ := ext_of h0
        have := g0 q1 a1 a2
        have hp : 0 < wd (sil M) * hg (sil M) := Nat.mul_pos (by omega) (by omega)
        omega
  conv => whnf
  refine ⟨by decide, ?_⟩
  conv => whnf
  refine ⟨by rw [b1]; exact ⟨by omega, by omega⟩, fun c26 => ?_, fun c26 => ?_⟩
  · conv => whnf
    refine ⟨by decide, _, rfl, ?_⟩
    conv => whnf
    refine zinv0 (s_X12_sizeOf T (sil M) (by decide) (by exact hS_11.fr (fun b => hf_19 _ _ (by omega))) ?_)
    rw [hq]
    conv => whnf
    refine ⟨by decide, ?_⟩
    conv => whnf
    refine ⟨by decide, ?_⟩
    conv => whnf
    refine ⟨?_, ?_⟩
    · rw [hm]; exact n32_at (by omega) (by omega) (fun e => c26 (by rw [b1, hz.mpr e]; rfl))
    conv => whnf
    have e : fullA M = FP.fdiv (FP.i2f (i3 (cn (sil M) 576))) (FP.i2f (i3 (4 * ((wd (sil M) * hg (sil M) : Nat) : Int)))) := if_neg (fun e => c26 (by rw [b1, hz.mpr (ha.trans e)]; rfl))
    rw [e, hq, ← ha] at h9
    rw [hm]
    exact h9
  · conv => whnf
    have e : fullA M = 0 := if_pos (by rw [← ha]; exact hz.mp (by omega))
    rw [e] at h9
    exact h9
end
