/-! TEXTS, 6: a number -/
section
variable {Ln : Nat} {xs : Nat → Int32} {CZ : Nat → ZC} {RZ : Nat → Nat → ZQ → ZP}
theorem s_X4_readNumber (T : ZTh (XX Ln xs) CZ RZ) {d b : Nat} {a z : Int} {u : Nat → Int} {n c i : Nat} {s : PE} {I : ZI} {L : ZL} {Q : ZQ} (hS : PSt I u n c i s) (ha : zR a) (hzz : zR z) (h : ∀ I', Fr PRd I I' → PSt I' u n c (i + 1) (pNu u n a z s) → pc (pNu u n a z s) = 0 → Q (.inl (some (.inl (nmA u n (pp s))))) I' L) (h2 : ∀ I', Fr PRd I I' → PSt I' u n c i (pNu u n a z s) → ¬ pc (pNu u n a z s) = 0 → Q (.inl (some (.inl ((-1))))) I' L) : CZ (d + 2) k_X4_readNumber [.inr (.ref 575, 5), .inl a, .inl z] b I L Q := by
  refine T.call rfl ?_
  obtain ⟨k1, k2, k3, k4, k5, k6⟩ := id hS
  have hcz : zR (I 575 2) := by rw [k2]; exact ⟨by omega, by omega⟩
  refine T.go [] 150 ?_
  conv => whnf
  refine ⟨by decide, _, rfl, ?_⟩
  conv => whnf
  refine zinv0 (s_X10_kind T  (by exact k1) (by exact k6) ?_)
  conv => whnf
  refine ⟨fun c10 => ?_, fun c10 => ?_⟩
  · conv => whnf
    have c10n : tkU u n (pp s) = 2 := by rw [← k4]; exact Nat.add_left_cancel (n := 10020) c10
    have e580 : I 580 (i : Int) = nmA u n (pp s) := by rw [← k4]; exact (k1.2.2.2.1 i k1.2.2.2.2.2).2.2 (by rw [k4]; exact c10n)
    have hnb := nmA_b c10n
    refine ⟨by decide, _, rfl, ?_⟩
    conv => whnf
    refine zinv0 (s_X10_number T  (by exact k1) (by exact k6) ?_)
    rw [e580]
    conv => whnf
    refine ⟨by omega, fun c36 => ?_, fun c36 => ?_⟩
    · conv => whnf
      refine ⟨by decide, _, rfl, ?_⟩
      conv => whnf
      refine zinv0 (s_X10_start T  (by exact k1) (by exact k6) ?_)
      conv => whnf
      refine zinv0 (s_X4_fail T  (by exact hcz) ?_ ?_)
      · intro cha_59
        have e0 : pc s = 0 := by omega
        have hFl := hS.fail e0 (k := 2) (o := posA u n i) (by omega)
        conv => whnf
        refine ⟨by decide, ?_⟩
        conv => whnf
        refine ⟨by first | exact hcz | (rw [v2_ne (by omega), v2_eq]; decide), fun c66 => by exfalso; rw [v2_ne (by omega), v2_eq] at c66; exact absurd c66 (by decide), fun c66 => ?_⟩
        conv => whnf
        refine h2 _ (((Fr.refl I).v2 (Or.inl ⟨rfl, Or.inl rfl⟩)).v2 (Or.inl ⟨rfl, Or.inr rfl⟩)) ?_ ?_
        · rw [pNu_1 e0 c10n (by omega)]
          rw [pFl_0 e0, k4] at hFl
          rw [k4]
          exact hFl
        · rw [pNu_1 e0 c10n (by omega)]
          show ¬ (2 : Nat) = 0
          decide
      · intro ch2a_59
        have e0 : ¬ pc s = 0 := by omega
        conv => whnf
        refine ⟨by decide, ?_⟩
        conv => whnf
        refine ⟨by first | exact hcz | (rw [v2_ne (by omega), v2_eq]; decide), fun c66 => by exfalso; omega, fun c66 => ?_⟩
        conv => whnf
        have e9 : ¬ pc s = 0 := by omega
        refine h2 _ (Fr.refl I) ?_ ?_
        · rw [pNu_3 e9]; exact hS
        · rw [pNu_3 e9]; exact e9
    · conv => whnf
      refine ⟨by decide, _, rfl, ?_⟩
      conv => whnf
      refine zinv0 (s_X10_number T  (by exact k1) (by exact k6) ?_)
      rw [e580]
      conv => whnf
      refine ⟨by omega, fun c47 => ?_, fun c47 => ?_⟩
      · conv => whnf
        refine ⟨by decide, ?_⟩
        conv => whnf
        refine ⟨by first | exact hcz | (rw [v2_ne (by omega), v2_eq]; decide), fun c66 => ?_, fun c66 => ?_⟩
        · conv => whnf
          refine ⟨by decide, _, rfl, ?_⟩
          conv => whnf
          refine zinv0 (s_X10_number T  (by exact k1) (by exact k6) ?_)
          rw [e580]
          conv => whnf
          refine ⟨by decide, _, rfl, ?_⟩
          conv => whnf
          refine zinv0 (s_X10_advance T (u := u) (n := n) (c := c) (i := i) (by exact k1) (by exact k6) (by exact hS.lt (by omega)) ?_)
          conv => whnf
          have e0 : pc s = 0 := by omega
          have e1 := pNu_0 (a := a) (b := z) e0 c10n (by omega)
          refine h _ ((Fr.refl I).v2 (Or.inr ⟨rfl, rfl⟩)) ?_ (by rw [e1]; rfl)
          rw [e1]
          exact hS.adv e0 (hS.lt (by omega)) _
        · conv => whnf
          have e9 : ¬ pc s = 0 := by omega
          refine h2 _ (Fr.refl I) ?_ ?_
          · rw [pNu_3 e9]; exact hS
          · rw [pNu_3 e9]; exact e9
      · conv => whnf
        refine ⟨by decide, _, rfl, ?_⟩
        conv => whnf
        refine zinv0 (s_X10_start T  (by exact k1) (by exact k6) ?_)
        conv => whnf
        refine zinv0 (s_X4_fail T  (by exact hcz) ?_ ?_)
        · intro cha_59
          have e0 : pc s = 0 := by omega
          have hFl := hS.fail e0 (k := 2) (o := posA u n i) (by omega)
          conv => whnf
          refine ⟨by decide, ?_⟩
          conv => whnf
          refine ⟨by first | exact hcz | (rw [v2_ne (by omega), v2_eq]; decide), fun c66 => by exfalso; rw [v2_ne (by omega), v2_eq] at c66; exact absurd c66 (by decide), fun c66 => ?_⟩
          conv => whnf
          refine h2 _ (((Fr.refl I).v2 (Or.inl ⟨rfl, Or.inl rfl⟩)).v2 (Or.inl ⟨rfl, Or.inr rfl⟩)) ?_ ?_
          · rw [pNu_1 e0 c10n (by omega)]
            rw [pFl_0 e0, k4] at hFl
            rw [k4]
            exact hFl
          · rw [pNu_1 e0 c10n (by omega)]
            show ¬ (2 : Nat) = 0
            decide
        · intro ch2a_59
          have e0 : ¬ pc s = 0 := by omega
          conv => whnf
          refine ⟨by decide, ?_⟩
          conv => whnf
          refine ⟨by first | exact hcz | (rw [v2_ne (by omega), v2_eq]; decide), fun c66 => by exfalso; omega, fun c66 => ?_⟩
          conv => whnf
          have e9 : ¬ pc s = 0 := by omega
          refine h2 _ (Fr.refl I) ?_ ?_
          · rw [pNu_3 e9]; exact hS
          · rw [pNu_3 e9]; exact e9
  · conv => whnf
    have c10n : ¬ tkU u n (pp s) = 2 := fun e => c10 (by rw [k4, e])
    refine ⟨by decide, _, rfl, ?_⟩
    conv => whnf
    refine zinv0 (s_X10_start T  (by exact k1) (by exact k6) ?_)
    conv => whnf
    refine zinv0 (s_X4_fail T  (by exact hcz) ?_ ?_)
    · intro cha_22
      have e0 : pc s = 0 := by omega
      have hFl := hS.fail e0 (k := 1) (o := posA u n i) (by omega)
      conv => whnf
      refine ⟨by decide, ?_⟩
      conv => whnf
      refine ⟨by first | exact hcz | (rw [v2_ne (by omega), v2_eq]; decide), fun c66 => by exfalso; rw [v2_ne (by omega), v2_eq] at c66; exact absurd c66 (by decide), fun c66 => ?_⟩
      conv => whnf
      refine h2 _ (((Fr.refl I).v2 (Or.inl ⟨rfl, Or.inl rfl⟩)).v2 (Or.inl ⟨rfl, Or.inr rfl⟩)) ?_ ?_
      · rw [pNu_2 e0 c10n]
        rw [pFl_0 e0, k4] at hFl
        rw [k4]
        exact hFl
      · rw [pNu_2 e0 c10n]
        show ¬ (1 : Nat) = 0
        decide
    · intro ch2a_22
      have e0 : ¬ pc s = 0 := by omega
      conv => whnf
      refine ⟨by decide, ?_⟩
      conv => whnf
      refine ⟨by first | exact hcz | (rw [v2_ne (by omega), v2_eq]; decide), fun c66 => by exfalso; omega, fun c66 => ?_⟩
      conv => whnf
      have e9 : ¬ pc s = 0 := by omega
      refine h2 _ (Fr.refl I) ?_ ?_
      · rw [pNu_3 e9]; exact hS
      · rw [pNu_3 e9]; exact e9
/-- the state of an outline that is read: where the reading stands, the corner, the quarters -/
abbrev PO4 : Type := PE × Int × Int × (Nat → Bool)
def eX (a : PO4) : Int := a.2.1
def eY (a : PO4) : Int := a.2.2.1
def eS (a : PO4) : Nat → Bool := a.2.2.2
/-- an edge's direction and length -/
def dT (u : Nat → Int) (n : Nat) (s : PE) : Int := ((tkU u n (pp s) : Nat) : Int) - 10
def lT (u : Nat → Int) (n : Nat) (s : PE) : Int := nmA u n (nxT u n (pp s))
/-- behind an edge -/
noncomputable def pEd (u : Nat → Int) (n W H : Nat) (a : PO4) : PO4 :=
  if tkU u n (pp a.1) < 10 then (pFl 1 (pp a.1) a.1, eX a, eY a, eS a)
  else if pc (pNu u n 1 12 (0, po a.1, nxT u n (pp a.1))) = 0 then
    (if 0 ≤ eX a + dX (dT u n a.1) * lT u n a.1 ∧ eX a + dX (dT u n a.1) * lT u n a.1 ≤ W ∧ 0 ≤ eY a + dY (dT u n a.1) * lT u n a.1 ∧ eY a + dY (dT u n a.1) * lT u n a.1 ≤ H then
      (pNu u n 1 12 (0, po a.1, nxT u n (pp a.1)), eX a + dX (dT u n a.1) * lT u n a.1, eY a + dY (dT u n a.1) * lT u n a.1, fun q => eS a q ^^ (!decide (dY (dT u n a.1) = 0) && crP (eX a) (eY a) (dX (dT u n a.1)) (dY (dT u n a.1)) (lT u n a.1).toNat q))
    else (pFl 2 (nxT u n (pp a.1)) (pNu u n 1 12 (0, po a.1, nxT u n (pp a.1))), eX a, eY a, eS a))
  else (pNu u n 1 12 (0, po a.1, nxT u n (pp a.1)), eX a, eY a, eS a)
theorem pEd_0 {u : Nat → Int} {n W H : Nat} {a : PO4} (h : tkU u n (pp a.1) < 10) : pEd u n W H a = (pFl 1 (pp a.1) a.1, eX a, eY a, eS a) := if_pos h
theorem pEd_1 {u : Nat → Int} {n W H : Nat} {a : PO4} (h : ¬ tkU u n (pp a.1) < 10) (h2 : ¬ pc (pNu u n 1 12 (0, po a.1, nxT u n (pp a.1))) = 0) : pEd u n W H a = (pNu u n 1 12 (0, po a.1, nxT u n (pp a.1)), eX a, eY a, eS a) := by
  unfold pEd
  rw [if_neg h, if_neg h2]
theorem pEd_2 {u : Nat → Int} {n W H : Nat} {a : PO4} (h : ¬ tkU u n (pp a.1) < 10) (h2 : pc (pNu u n 1 12 (0, po a.1, nxT u n (pp a.1))) = 0) (h3 : ¬ (0 ≤ eX a + dX (dT u n a.1) * lT u n a.1 ∧ eX a + dX (dT u n a.1) * lT u n a.1 ≤ W ∧ 0 ≤ eY a + dY (dT u n a.1) * lT u n a.1 ∧ eY a + dY (dT u n a.1) * lT u n a.1 ≤ H)) : pEd u n W H a = (pFl 2 (nxT u n (pp a.1)) (pNu u n 1 12 (0, po a.1, nxT u n (pp a.1))), eX a, eY a, eS a) := by
  unfold pEd
  rw [if_neg h, if_pos h2, if_neg h3]
theorem pEd_3 {u : Nat → Int} {n W H : Nat} {a : PO4} (h : ¬ tkU u n (pp a.1) < 10) (h2 : pc (pNu u n 1 12 (0, po a.1, nxT u n (pp a.1))) = 0) (h3 : 0 ≤ eX a + dX (dT u n a.1) * lT u n a.1 ∧ eX a + dX (dT u n a.1) * lT u n a.1 ≤ W ∧ 0 ≤ eY a + dY (dT u n a.1) * lT u n a.1 ∧ eY a + dY (dT u n a.1) * lT u n a.1 ≤ H) : pEd u n W H a = (pNu u n 1 12 (0, po a.1, nxT u n (pp a.1)), eX a + dX (dT u n a.1) * lT u n a.1, eY a + dY (dT u n a.1) * lT u n a.1, fun q => eS a q ^^ (!decide (dY (dT u n a.1) = 0) && crP (eX a) (eY a) (dX (dT u n a.1)) (dY (dT u n a.1)) (lT u n a.1).toNat q)) := by
  unfold pEd
  rw [if_neg h, if_pos h2, if_pos h3]
end
