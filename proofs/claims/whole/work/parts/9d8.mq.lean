/-! THE REFERENCE ANSWERS, 13: ways, choices -/
section
variable {Ln : Nat} {xs : Nat → Int32} {CZ : Nat → ZC} {RZ : Nat → Nat → ZQ → ZP}
def P37 : Nat → Int → Prop := fun a _ => a = 637
/-- one of the first j quarters of form i lies at z, its first quarter at q -/
def laid (q i j z : Nat) : Prop := ∃ k, k < j ∧ lz i k + (q - fQ i) = z
theorem laid_s {q i j z : Nat} : laid q i (j + 1) z ↔ laid q i j z ∨ lz i j + (q - fQ i) = z := by
  constructor
  · rintro ⟨k, h1, h2⟩
    by_cases e : k = j
    · rw [e] at h2; exact Or.inr h2
    · exact Or.inl ⟨k, by omega, h2⟩
  · rintro (⟨k, h1, h2⟩ | h)
    · exact ⟨k, by omega, h2⟩
    · exact ⟨j, by omega, h⟩
theorem laid_all {q i z : Nat} (hi : i < 56) : laid q i (pN (i / 8)) z ↔ shf (fS i) (q - fQ i) z = true := by
  unfold shf
  rw [Bool.and_eq_true, decide_eq_true_iff]
  constructor
  · rintro ⟨k, h1, h2⟩
    obtain ⟨c1, -⟩ := lz_in hi h1
    refine ⟨by omega, ?_⟩
    rw [show z - (q - fQ i) = lz i k by omega]
    exact c1
  · rintro ⟨h1, h2⟩
    obtain ⟨k, k1, k2⟩ := lz_ex hi h2
    exact ⟨k, k1, by omega⟩
/-- the first quarter of a set; 576: none -/
noncomputable def qF (R : Nat → Bool) : Nat := if fq R = -1 then 576 else (fq R).toNat
theorem qF_is {R : Nat → Bool} {k : Nat} (hk : k ≤ 576) (h1 : ∀ i, i < k → R i = false) (h2 : k = 576 ∨ R k = true) : qF R = k := by
  unfold qF
  rcases fq_spec R with ⟨e, g⟩ | ⟨j, j1, j2, j3, j4⟩
  · rw [if_pos e]
    rcases h2 with c | c
    · exact c.symm
    · apply Classical.byContradiction
      intro n
      rw [g k (by omega)] at c
      cases c
  · rw [if_neg (by omega), j2, Int.toNat_natCast]
    apply Classical.byContradiction
    intro n
    by_cases l : j < k
    · rw [h1 j l] at j3; cases j3
    · rcases h2 with c | c
      · omega
      · rw [j4 k (by omega)] at c; cases c
theorem qF_le (R : Nat → Bool) : qF R ≤ 576 := by
  unfold qF
  rcases fq_spec R with ⟨e, -⟩ | ⟨j, j1, j2, -⟩
  · rw [if_pos e]; omega
  · rw [if_neg (by omega), j2, Int.toNat_natCast]; omega
theorem okC_iff {R : Nat → Bool} {M : Mo} {q k : Nat} : okC R M q k = true ↔ mF M ((k / 8 : Nat) : Int) = -1 ∧ secO M (k / 8) = false ∧ fV k = 1 ∧ fitC R q k = true := by
  unfold okC
  rw [Bool.and_eq_true, Bool.and_eq_true, Bool.and_eq_true, decide_eq_true_iff, decide_eq_true_iff, Bool.not_eq_true']
  exact ⟨fun ⟨⟨a, b⟩, c, d⟩ => ⟨a, b, c, d⟩, fun ⟨a, b, c, d⟩ => ⟨⟨a, b⟩, c, d⟩⟩
theorem l_mto (T : ZTh (XX Ln xs) CZ RZ) {d b : Nat} {Q : ZQ} {q i : Nat} {f : Int} {R : Nat → Bool} {I0 : ZI} {L : ZL} (hT0 : TabOK I0) (hi : i < 56) (hq : q < 576) (hF : fitC R q i = true) (hf : f = 0 ∨ f = 1) (h : ∀ I', Fr P37 I0 I' → (∀ z : Nat, z < 576 → I' 637 (z : Int) = if shf (fS i) (q - fQ i) z = true then f else I0 637 (z : Int)) → Q (.inl none) I' L) (m : Nat) : ∀ (j : Nat) (I : ZI), (j ≤ pN (i / 8)) → (Fr P37 I0 I) → (∀ z : Nat, z < 576 → I 637 (z : Int) = if dc (laid q i j z) = true then f else I0 637 (z : Int)) → 16 - (j : Int) < (m : Int) → RZ (d + 1) k_X12_turnsOver Q 16 [.inr (.ref 603, 13), .inl (((i / 8 : Nat) : Int)), .inl (((i % 8 : Nat) : Int)), .inl ((q : Int)), .inl f, .inl ((lF i : Int)), .inl ((j : Int)), zj, zj, zj] [] b I L := by
  induction m with
  | zero =>
    intro j I hj hfr hv hm
    have := pN_16 (i / 8)
    exfalso
    omega
  | succ m ih =>
    intro j I hj hfr hv hm
    have hT := hT0.fr (fun a b g1 g2 => hfr a b (by show ¬ a = 637; omega))
    obtain ⟨t1, t2, t3, t4⟩ := id hT
    obtain ⟨l1, l2, l3, l4, l5, l6, l7⟩ := lf_ok hi
    obtain ⟨f1, f2, f3⟩ := t3 i (lF i - 16 * i) hi l7
    rw [show 16 * i + (lF i - 16 * i) = lF i by omega] at f1 f2 f3
    have f4 := (t4 i hi).1
    have f5 := (t1 (i / 8) (by omega)).2.2.2
    have h16 := pN_16 (i / 8)
    have hjx := fun g : j < pN (i / 8) => t3 i j hi (by omega)
    have hjz := fun g : j < pN (i / 8) => lz_in hi g
    have hw4 := fWH4 hi
    obtain ⟨m1, m2⟩ := (fit_iff hi (by omega)).mpr hF
    have hfq : fQ i ≤ q % 48 := by
      have h9 := hF
      rw [fitC, dc_iff] at h9
      exact h9.1
    have ei : 128 * ((i / 8 : Nat) : Int) + 16 * ((i % 8 : Nat) : Int) = 16 * (i : Int) := by omega
    refine T.go [16] 150 ?_
    conv => whnf
    refine ⟨by decide, _, rfl, ?_⟩
    conv => whnf
    refine ⟨by omega, by decide, ?_⟩
    conv => whnf
    refine ⟨by rw [f5]; exact ⟨⟨by omega, by omega⟩, ⟨by omega, by omega⟩⟩, fun c24 => ?_, fun c24 => ?_⟩
    · conv => whnf
      rw [f5] at c24
      obtain rfl : j = pN (i / 8) := by omega
      refine h I hfr (fun z hz => ?_)
      rw [hv z hz, show dc (laid q i (pN (i / 8)) z) = shf (fS i) (q - fQ i) z from Bool.eq_iff_iff.mpr (by rw [dc_iff]; exact laid_all hi)]
    · conv => whnf
      refine zinv0 (s_X12_lookAt T (p := ((i / 8 : Nat) : Int)) (l := ((i % 8 : Nat) : Int))  ?_)
      rw [f5] at c24
      obtain ⟨j1, j2, j3⟩ := hjx (by omega)
      obtain ⟨z1, z2, z3, z4⟩ := hjz (by omega)
      rw [show ((16 * i + j : Nat) : Int) = 16 * (i : Int) + (j : Int) by omega] at j1 j2 j3
      obtain ⟨g1, g2, g3, g4, g5⟩ := m2 j (by omega)
      unfold fxR at g1 g2
      unfold fyR at g3 g4
      have eX : ((q / 4 % 12 : Nat) : Int) = (q : Int) / 4 % 12 := by first | rfl | omega
      have eY : ((q / 4 / 12 : Nat) : Int) = (q : Int) / 4 / 12 := by first | rfl | omega
      rw [eX] at g1 g2
      rw [eY] at g3 g4
      have hlz : lz i j = 48 * lY i j + 4 * lX i j + lQ i j := rfl
      rw [ei]
      conv => whnf
      refine ⟨by omega, Or.inl ⟨by omega, ?_⟩⟩
      conv => whnf
      refine ⟨by omega, ?_⟩
      conv => whnf
      refine ⟨by decide, _, rfl, ?_⟩
      conv => whnf
      refine ⟨by omega, by decide, ?_⟩
      conv => whnf
      refine ⟨by decide, _, rfl, ?_⟩
      conv => whnf
      refine ⟨by omega, by decide, ?_⟩
      conv => whnf
      refine ⟨by omega, Or.inl ⟨by omega, ?_⟩⟩
      conv => whnf
      refine ⟨by omega, Or.inl ⟨by omega, ?_⟩⟩
      conv => whnf
      refine ⟨by decide, _, rfl, ?_⟩
      conv => whnf
      refine ⟨by omega, by decide, ?_⟩
      conv => whnf
      refine ⟨by decide, _, rfl, ?_⟩
      conv => whnf
      refine ⟨by omega, by decide, ?_⟩
      conv => whnf
      refine ⟨by decide, _, rfl, ?_⟩
      conv => whnf
      refine ⟨by decide, _, rfl, ?_⟩
      conv => whnf
      refine ⟨by omega, by decide, ?_⟩
      conv => whnf
      refine ⟨by omega, ⟨by decide, by decide, by omega⟩, ?_⟩
      conv => whnf
      refine T.fg [7, 8, 9] ?_
      have ex : 4 * (12 * ((q : Int) / 4 / 12 - I 616 (lF i : Int) + I 616 (16 * (i : Int) + (j : Int))) + ((q : Int) / 4 % 12 - I 615 (lF i : Int) + I 615 (16 * (i : Int) + (j : Int)))) + I 617 (16 * (i : Int) + (j : Int)) = ((lz i j + (q - fQ i) : Nat) : Int) := by omega
      refine ih (j + 1) _ (by omega) (hfr.v2 rfl) (fun z hz => ?_) (by omega)
      rw [ex]
      by_cases e : lz i j + (q - fQ i) = z
      · rw [e, v2_eq, if_pos (dc_iff.mpr (laid_s.mpr (Or.inr e)))]
      · rw [v2_ne (by omega), hv z hz]
        have : dc (laid q i (j + 1) z) = dc (laid q i j z) := dc_congr ⟨fun g => (laid_s.mp g).resolve_right e, fun g => laid_s.mpr (Or.inl g)⟩
        rw [this]
theorem s_X12_turnsOver (T : ZTh (XX Ln xs) CZ RZ) {d b : Nat} {q i : Nat} {f : Int} (R : Nat → Bool) {I : ZI} {L : ZL} {Q : ZQ} (hT : TabOK I) (hi : i < 56) (hq : q < 576) (hF : fitC R q i = true) (hf : f = 0 ∨ f = 1) (h : ∀ I', Fr P37 I I' → (∀ z : Nat, z < 576 → I' 637 (z : Int) = if shf (fS i) (q - fQ i) z = true then f else I 637 (z : Int)) → Q (.inl none) I' L) : CZ (d + 2) k_X12_turnsOver [.inr (.ref 603, 13), .inl (((i / 8 : Nat) : Int)), .inl (((i % 8 : Nat) : Int)), .inl ((q : Int)), .inl f] b I L Q := by
  refine T.call rfl ?_
  obtain ⟨t1, t2, t3, t4⟩ := id hT
  obtain ⟨l1, l2, l3, l4, l5, l6, l7⟩ := lf_ok hi
  obtain ⟨f1, f2, f3⟩ := t3 i (lF i - 16 * i) hi l7
  rw [show 16 * i + (lF i - 16 * i) = lF i by omega] at f1 f2 f3
  have f4 := (t4 i hi).1
  have f5 := (t1 (i / 8) (by omega)).2.2.2
  have h16 := pN_16 (i / 8)
  have e8 : (8 : Int) * ((i / 8 : Nat) : Int) + ((i % 8 : Nat) : Int) = (i : Int) := by omega
  refine T.go [16] 90 ?_
  conv => whnf
  refine ⟨by decide, _, rfl, ?_⟩
  conv => whnf
  rw [e8]
  refine ⟨by omega, by decide, ?_⟩
  conv => whnf
  rw [f4]
  exact l_mto T (R := R) (I0 := I) hT hi hq hF hf h 17 0 I (by omega) (Fr.refl I) (fun z hz => by rw [if_neg (fun g => by obtain ⟨k, k1, -⟩ := dc_iff.mp g; omega)]) (by omega)
def PCc : Nat → Int → Prop := fun a _ => a = 637 ∨ a = 640
theorem s_X12_changesChoice (T : ZTh (XX Ln xs) CZ RZ) {d b : Nat} {c k q : Nat} {f : Int} (R : Nat → Bool) {I : ZI} {L : ZL} {Q : ZQ} (hT : TabOK I) (hc : c < 8) (hk : k < 56) (hq : q < 576) (hck : I 638 (c : Int) = k) (hcq : I 639 (c : Int) = q) (hF : fitC R q k = true) (hf : f = 0 ∨ f = 1) (h : ∀ I', Fr PCc I I' → (∀ z : Nat, z < 576 → I' 637 (z : Int) = if shf (fS k) (q - fQ k) z = true then 1 - f else I 637 (z : Int)) → (∀ j : Int, I' 640 j = if j = ((k / 8 : Nat) : Int) then f else I 640 j) → Q (.inl none) I' L) : CZ (d + 3) k_X12_changesChoice [.inr (.ref 603, 13), .inl ((c : Int)), .inl f] b I L Q := by
  refine T.call rfl ?_
  refine T.go [] 90 ?_
  conv => whnf
  refine ⟨by decide, _, rfl, ?_⟩
  conv => whnf
  refine ⟨by omega, by decide, ?_⟩
  conv => whnf
  rw [hck]
  refine ⟨by omega, Or.inl ⟨by omega, ?_⟩⟩
  conv => whnf
  refine ⟨by decide, _, rfl, ?_⟩
  conv => whnf
  refine ⟨by omega, ⟨by decide, by decide, by omega⟩, ?_⟩
  conv => whnf
  refine ⟨by decide, _, rfl, ?_⟩
  conv => whnf
  refine ⟨by omega, by decide, ?_⟩
  conv => whnf
  rw [v2_ne (by omega), hck]
  refine ⟨by omega, ?_⟩
  conv => whnf
  refine ⟨by decide, _, rfl, ?_⟩
  conv => whnf
  refine ⟨by omega, by decide, ?_⟩
  conv => whnf
  refine ⟨by omega, fun c35 => ?_, fun c35 => ?_⟩
  · conv => whnf
    rw [v2_ne (by omega), hcq]
    refine zinv0 (s_X12_turnsOver T (q := q) (i := k) (f := 0) R (by exact hT.fr (fun a b g1 g2 => v2_ne (by omega))) (by exact hk) (by exact hq) (by exact hF) (by omega) ?_)
    intro I_43 hf_43 hv_43
    conv => whnf
    refine h I_43 (((Fr.refl I).v2 (Or.inr rfl)).trans (hf_43.mono (fun a b g => Or.inl g))) (fun z hz => ?_) (fun j => ?_)
    · rw [hv_43 z hz, v2_ne (by omega)]
      exact if_cg Iff.rfl (by omega) rfl
    · rw [hf_43 _ _ (by show ¬ (640 : Nat) = 637; omega), v2_ap]
      exact if_cg ⟨fun g => by have := g.2; omega, fun g => ⟨rfl, by omega⟩⟩ rfl rfl
  · conv => whnf
    rw [v2_ne (by omega), hcq]
    refine zinv0 (s_X12_turnsOver T (q := q) (i := k) (f := 1) R (by exact hT.fr (fun a b g1 g2 => v2_ne (by omega))) (by exact hk) (by exact hq) (by exact hF) (by omega) ?_)
    intro I_43 hf_43 hv_43
    conv => whnf
    refine h I_43 (((Fr.refl I).v2 (Or.inr rfl)).trans (hf_43.mono (fun a b g => Or.inl g))) (fun z hz => ?_) (fun j => ?_)
    · rw [hv_43 z hz, v2_ne (by omega)]
      exact if_cg Iff.rfl (by omega) rfl
    · rw [hf_43 _ _ (by show ¬ (640 : Nat) = 637; omega), v2_ap]
      exact if_cg ⟨fun g => by have := g.2; omega, fun g => ⟨rfl, by omega⟩⟩ rfl rfl
theorem l_mfl (T : ZTh (XX Ln xs) CZ RZ) {d b : Nat} {Q : ZQ} {R : Nat → Bool} {I : ZI} {L : ZL} (hA : ArB I 637 R) (h : Q (.inl (some (.inl (qF R : Int)))) I L) (m : Nat) : ∀ (q : Nat), (q ≤ 576) → (∀ i, i < q → R i = false) → 576 - (q : Int) < (m : Int) → RZ d k_X12_firstLeft Q 2 [.inr (.ref 603, 13), .inl ((q : Int))] [] b I L := by
  induction m with
  | zero =>
    intro q hq hz hm
    exfalso
    omega
  | succ m ih =>
    intro q hq hz hm
    have hbb := bi_b (R q)
    refine T.go [2] 90 ?_
    conv => whnf
    refine ⟨by omega, fun c6 => ?_, fun c6 => ?_⟩
    · conv => whnf
      obtain rfl : q = 576 := by omega
      rw [qF_is (Nat.le_refl _) hz (Or.inl rfl)] at h
      exact h
    · conv => whnf
      refine ⟨by decide, _, rfl, ?_⟩
      conv => whnf
      refine ⟨by omega, by decide, ?_⟩
      conv => whnf
      rw [hA q (by omega)]
      refine ⟨by omega, fun c15 => ?_, fun c15 => ?_⟩
      · conv => whnf
        have e : R q = true := by
          cases g : R q with
          | true => rfl
          | false => rw [g] at c15; exact absurd rfl c15
        rw [qF_is hq hz (Or.inr e)] at h
        exact h
      · conv => whnf
        refine ih (q + 1) (by omega) (fun i hi => ?_) (by omega)
        by_cases e : i = q
        · rw [e]
          cases g : R q with
          | false => rfl
          | true => rw [g] at c15; exact absurd c15 (by decide)
        · exact hz i (by omega)
theorem s_X12_firstLeft (T : ZTh (XX Ln xs) CZ RZ) {d b : Nat} (R : Nat → Bool) {I : ZI} {L : ZL} {Q : ZQ} (hA : ArB I 637 R) (h : Q (.inl (some (.inl ((qF R : Int))))) I L) : CZ (d + 1) k_X12_firstLeft [.inr (.ref 603, 13)] b I L Q := by
  refine T.call rfl ?_
  refine T.go [2] 90 ?_
  conv => whnf
  exact l_mfl T hA h 577 0 (by omega) (fun i hi => absurd hi (Nat.not_lt_zero i)) (by omega)
theorem s_X12_isSecond (T : ZTh (XX Ln xs) CZ RZ) {d b : Nat} {p : Nat} (M : Mo) {I : ZI} {L : ZL} {Q : ZQ} (hU : ∀ p : Nat, p < 7 → I 640 (p : Int) = bi (!decide (mF M p = -1))) (hp : p < 7) (h : Q (.inl (some (.inl (bi (secO M p))))) I L) : CZ (d + 1) k_X12_isSecond [.inr (.ref 603, 13), .inl ((p : Int))] b I L Q := by
  refine T.call rfl ?_
  refine T.go [] 90 ?_
  conv => whnf
  refine ⟨by omega, fun c2 => ?_, fun c2 => ?_⟩
  · conv => whnf
    obtain rfl : p = 1 := by omega
    have hb := bi_b (!decide (mF M 0 = -1))
    have hu : I 640 ((0 : Nat) : Int) = bi (!decide (mF M 0 = -1)) := hU 0 (by omega)
    refine ⟨by decide, _, rfl, ?_⟩
    conv => whnf
    refine ⟨by omega, by decide, ?_⟩
    conv => whnf
    rw [show ((1 : Nat) : Int) - 1 = ((0 : Nat) : Int) by omega, hu]
    refine ⟨by omega, fun c19 => ?_, fun c19 => ?_⟩
    · conv => whnf
      refine ⟨by omega, ?_⟩
      have hs : secO M 1 = false := by
        have e : decide (mF M 0 = -1) = false := by
          cases g : decide (mF M 0 = -1) with
          | false => rfl
          | true =>
            have c := c19
            rw [g] at c
            exact absurd rfl c
        unfold secO
        rw [e]
        rfl
      rw [hs] at h
      exact h
    · conv => whnf
      refine ⟨by omega, ?_⟩
      have hs : secO M 1 = true := by
        have e : decide (mF M 0 = -1) = true := by
          cases g : decide (mF M 0 = -1) with
          | true => rfl
          | false =>
            have c := c19
            rw [g] at c
            exact absurd c (by decide)
        unfold secO
        rw [e]
        rfl
      rw [hs] at h
      exact h
  · conv => whnf
    refine ⟨by omega, fun c8 => ?_, fun c8 => ?_⟩
    · conv => whnf
      refine ⟨by omega, ?_⟩
      have hs : secO M p = false := by
        unfold secO
        rw [decide_eq_false (show ¬ p = 1 by omega), decide_eq_false (show ¬ p = 6 by omega)]
        rfl
      rw [hs] at h
      exact h
    · conv => whnf
      obtain rfl : p = 6 := by omega
      have hb := bi_b (!decide (mF M 5 = -1))
      have hu : I 640 ((5 : Nat) : Int) = bi (!decide (mF M 5 = -1)) := hU 5 (by omega)
      refine ⟨by decide, _, rfl, ?_⟩
      conv => whnf
      refine ⟨by omega, by decide, ?_⟩
      conv => whnf
      rw [show ((6 : Nat) : Int) - 1 = ((5 : Nat) : Int) by omega, hu]
      refine ⟨by omega, fun c19 => ?_, fun c19 => ?_⟩
      · conv => whnf
        refine ⟨by omega, ?_⟩
        have hs : secO M 6 = false := by
          have e : decide (mF M 5 = -1) = false := by
            cases g : decide (mF M 5 = -1) with
            | false => rfl
            | true =>
              have c := c19
              rw [g] at c
              exact absurd rfl c
          unfold secO
          rw [e]
          rfl
        rw [hs] at h
        exact h
      · conv => whnf
        refine ⟨by omega, ?_⟩
        have hs : secO M 6 = true := by
          have e : decide (mF M 5 = -1) = true := by
            cases g : decide (mF M 5 = -1) with
            | true => rfl
            | false =>
              have c := c19
              rw [g] at c
              exact absurd c (by decide)
          unfold secO
          rw [e]
          rfl
        rw [hs] at h
        exact h
theorem l_mcf (T : ZTh (XX Ln xs) CZ RZ) {d b : Nat} {Q : ZQ} {q c : Nat} {R : Nat → Bool} {M : Mo} {I : ZI} {L : ZL} (hT : TabOK I) (hU : ∀ p : Nat, p < 7 → I 640 (p : Int) = bi (!decide (mF M p = -1))) (hq : q ≤ 576) (hA : ArB I 637 R) (h : ∀ k : Nat, c ≤ k → k ≤ 56 → (∀ i, c ≤ i → i < k → okC R M q i = false) → (k < 56 → okC R M q k = true) → Q (.inl (some (.inl (k : Int)))) I L) (m : Nat) : ∀ (k : Nat), (c ≤ k ∧ k ≤ 56) → (∀ i, c ≤ i → i < k → okC R M q i = false) → 56 - (k : Int) < (m : Int) → RZ (d + 2) k_X12_choiceFrom Q 2 [.inr (.ref 603, 13), zj, .inl ((q : Int)), .inl ((k : Int))] [] b I L := by
  induction m with
  | zero =>
    intro k hk hz hm
    exfalso
    omega
  | succ m ih =>
    intro k hk hz hm
    have hb1 := bi_b (!decide (mF M ((k / 8 : Nat) : Int) = -1))
    have hb2 := bi_b (secO M (k / 8))
    have hb3 := bi_b (fitC R q k)
    have hv4 := fun g : k < 56 => (hT.2.2.2 k g).2
    have hv5 := fun g : k < 56 => (fWH4 g).2.2
    have NO : okC R M q k = false → ∀ i, c ≤ i → i < k + 1 → okC R M q i = false := fun e i h1 h2 => by
      by_cases g : i = k
      · rw [g]; exact e
      · exact hz i h1 (by omega)
    have e8 : (k : Int) / 8 = ((k / 8 : Nat) : Int) := by omega
    refine T.go [2] 120 ?_
    conv => whnf
    refine ⟨by omega, fun c5 => ?_, fun c5 => ?_⟩
    · conv => whnf
      exact h k hk.1 hk.2 hz (fun g => absurd g (by omega))
    · conv => whnf
      refine ⟨by decide, _, rfl, ?_⟩
      conv => whnf
      refine ⟨by omega, Or.inl ⟨by omega, ?_⟩⟩
      conv => whnf
      refine ⟨by omega, by decide, ?_⟩
      conv => whnf
      rw [e8, hU (k / 8) (by omega)]
      refine ⟨by omega, fun c17 => ?_, fun c17 => ?_⟩
      · conv => whnf
        refine ih (k + 1) (by omega) (NO ?_) (by omega)
        cases e : okC R M q k with
        | false => rfl
        | true =>
          exfalso
          obtain ⟨o1, o2, o3, o4⟩ := okC_iff.mp e
          rw [decide_eq_true o1] at c17
          exact absurd rfl c17
      · conv => whnf
        refine ⟨by omega, Or.inl ⟨by omega, ?_⟩⟩
        conv => whnf
        refine zinv0 (s_X12_isSecond T (p := k / 8) M (by exact hU) (by omega) ?_)
        conv => whnf
        refine ⟨by omega, fun c28 => ?_, fun c28 => ?_⟩
        · conv => whnf
          refine ih (k + 1) (by omega) (NO ?_) (by omega)
          cases e : okC R M q k with
          | false => rfl
          | true =>
            exfalso
            obtain ⟨o1, o2, o3, o4⟩ := okC_iff.mp e
            rw [o2] at c28
            exact absurd rfl c28
        · conv => whnf
          refine ⟨by decide, _, rfl, ?_⟩
          conv => whnf
          refine ⟨by omega, by decide, ?_⟩
          conv => whnf
          have hv6 := hv4 (by omega)
          have hv7 := hv5 (by omega)
          refine ⟨by omega, fun c37 => ?_, fun c37 => ?_⟩
          · conv => whnf
            refine ih (k + 1) (by omega) (NO ?_) (by omega)
            cases e : okC R M q k with
            | false => rfl
            | true =>
              exfalso
              obtain ⟨o1, o2, o3, o4⟩ := okC_iff.mp e
              omega
          · conv => whnf
            refine ⟨by omega, Or.inl ⟨by omega, ?_⟩⟩
            conv => whnf
            refine ⟨by omega, ?_⟩
            conv => whnf
            refine zinv0 (s_X12_fits T (q := q) (i := k) R (by exact hT) (by omega) (by exact hq) (by exact hA) ?_)
            conv => whnf
            refine ⟨by omega, fun c53 => ?_, fun c53 => ?_⟩
            · conv => whnf
              refine h k hk.1 hk.2 hz (fun g => okC_iff.mpr ⟨?_, ?_, ?_, ?_⟩)
              · cases e : decide (mF M ((k / 8 : Nat) : Int) = -1) with
                | true => exact of_decide_eq_true e
                | false => rw [e] at c17; exact absurd c17 (by decide)
              · cases e : secO M (k / 8) with
                | false => rfl
                | true => rw [e] at c28; exact absurd c28 (by decide)
              · omega
              · cases e : fitC R q k with
                | true => rfl
                | false => rw [e] at c53; exact absurd rfl c53
            · conv => whnf
              refine ih (k + 1) (by omega) (NO ?_) (by omega)
              cases e : okC R M q k with
              | false => rfl
              | true =>
                exfalso
                obtain ⟨o1, o2, o3, o4⟩ := okC_iff.mp e
                rw [o4] at c53
                exact absurd c53 (by decide)
theorem s_X12_choiceFrom (T : ZTh (XX Ln xs) CZ RZ) {d b : Nat} {q c : Nat} (R : Nat → Bool) (M : Mo) {I : ZI} {L : ZL} {Q : ZQ} (hT : TabOK I) (hU : ∀ p : Nat, p < 7 → I 640 (p : Int) = bi (!decide (mF M p = -1))) (hq : q ≤ 576) (hA : ArB I 637 R) (hc : c ≤ 56) (h : ∀ k : Nat, c ≤ k → k ≤ 56 → (∀ i, c ≤ i → i < k → okC R M q i = false) → (k < 56 → okC R M q k = true) → Q (.inl (some (.inl ((k : Int))))) I L) : CZ (d + 3) k_X12_choiceFrom [.inr (.ref 603, 13), .inl ((c : Int)), .inl ((q : Int))] b I L Q := by
  refine T.call rfl ?_
  refine T.go [2] 90 ?_
  conv => whnf
  refine T.fg [1] ?_
  exact l_mcf T hT hU hq hA h 57 c ⟨Nat.le_refl _, hc⟩ (fun i h1 h2 => absurd h2 (by omega)) (by omega)
end
