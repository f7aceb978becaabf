/-! TEXTS, 5: a word -/
section
variable {Ln : Nat} {xs : Nat → Int32} {CZ : Nat → ZC} {RZ : Nat → Nat → ZQ → ZP}
/-- where the reading of a text stands: the error's code (0: none), its offset, the token's beginning -/
abbrev PE : Type := Nat × Nat × Nat
def pc (s : PE) : Nat := s.1
def po (s : PE) : Nat := s.2.1
def pp (s : PE) : Nat := s.2.2
def pFl (k o : Nat) (s : PE) : PE := if pc s = 0 then (k, o, pp s) else s
/-- a word or semicolon that must stand here; a number -/
def pKw (u : Nat → Int) (n w : Nat) (s : PE) : PE := if pc s = 0 then (if tkU u n (pp s) = w then (0, po s, nxT u n (pp s)) else (1, pp s, pp s)) else s
def pNu (u : Nat → Int) (n : Nat) (a b : Int) (s : PE) : PE := if pc s = 0 then (if tkU u n (pp s) = 2 then (if nmA u n (pp s) < a ∨ b < nmA u n (pp s) then (2, pp s, pp s) else (0, po s, nxT u n (pp s))) else (1, pp s, pp s)) else s
theorem pFl_0 {k o : Nat} {s : PE} (h : pc s = 0) : pFl k o s = (k, o, pp s) := if_pos h
theorem pFl_1 {k o : Nat} {s : PE} (h : ¬ pc s = 0) : pFl k o s = s := if_neg h
theorem pKw_0 {u : Nat → Int} {n w : Nat} {s : PE} (h : pc s = 0) (h2 : tkU u n (pp s) = w) : pKw u n w s = (0, po s, nxT u n (pp s)) := by
  unfold pKw
  rw [if_pos h, if_pos h2]
theorem pKw_1 {u : Nat → Int} {n w : Nat} {s : PE} (h : pc s = 0) (h2 : ¬ tkU u n (pp s) = w) : pKw u n w s = (1, pp s, pp s) := by
  unfold pKw
  rw [if_pos h, if_neg h2]
theorem pKw_2 {u : Nat → Int} {n w : Nat} {s : PE} (h : ¬ pc s = 0) : pKw u n w s = s := if_neg h
theorem pNu_0 {u : Nat → Int} {n : Nat} {a b : Int} {s : PE} (h : pc s = 0) (h2 : tkU u n (pp s) = 2) (h3 : ¬ (nmA u n (pp s) < a ∨ b < nmA u n (pp s))) : pNu u n a b s = (0, po s, nxT u n (pp s)) := by
  unfold pNu
  rw [if_pos h, if_pos h2, if_neg h3]
theorem pNu_1 {u : Nat → Int} {n : Nat} {a b : Int} {s : PE} (h : pc s = 0) (h2 : tkU u n (pp s) = 2) (h3 : nmA u n (pp s) < a ∨ b < nmA u n (pp s)) : pNu u n a b s = (2, pp s, pp s) := by
  unfold pNu
  rw [if_pos h, if_pos h2, if_pos h3]
theorem pNu_2 {u : Nat → Int} {n : Nat} {a b : Int} {s : PE} (h : pc s = 0) (h2 : ¬ tkU u n (pp s) = 2) : pNu u n a b s = (1, pp s, pp s) := by
  unfold pNu
  rw [if_pos h, if_neg h2]
theorem pNu_3 {u : Nat → Int} {n : Nat} {a b : Int} {s : PE} (h : ¬ pc s = 0) : pNu u n a b s = s := if_neg h
theorem pKw_g {u : Nat → Int} {n w : Nat} {s : PE} (h : pc (pKw u n w s) = 0) : pc s = 0 ∧ tkU u n (pp s) = w ∧ pp (pKw u n w s) = nxT u n (pp s) := by
  by_cases h0 : pc s = 0
  · by_cases h2 : tkU u n (pp s) = w
    · rw [pKw_0 h0 h2]
      exact ⟨h0, h2, rfl⟩
    · rw [pKw_1 h0 h2] at h
      exact absurd h (by show ¬ (1 : Nat) = 0; decide)
  · rw [pKw_2 h0] at h
    exact absurd h h0
theorem pNu_g {u : Nat → Int} {n : Nat} {a b : Int} {s : PE} (h : pc (pNu u n a b s) = 0) : pc s = 0 ∧ tkU u n (pp s) = 2 ∧ a ≤ nmA u n (pp s) ∧ nmA u n (pp s) ≤ b ∧ pp (pNu u n a b s) = nxT u n (pp s) := by
  by_cases h0 : pc s = 0
  · by_cases h2 : tkU u n (pp s) = 2
    · by_cases h3 : nmA u n (pp s) < a ∨ b < nmA u n (pp s)
      · rw [pNu_1 h0 h2 h3] at h
        exact absurd h (by show ¬ (2 : Nat) = 0; decide)
      · rw [pNu_0 h0 h2 h3]
        exact ⟨h0, h2, by omega, by omega, rfl⟩
    · rw [pNu_2 h0 h2] at h
      exact absurd h (by show ¬ (1 : Nat) = 0; decide)
  · rw [pNu_3 h0] at h
    exact absurd h h0
theorem pFl_g {k o : Nat} {s : PE} (hk : k ≠ 0) (h : pc (pFl k o s) = 0) : False := by
  by_cases h0 : pc s = 0
  · rw [pFl_0 h0] at h
    exact hk h
  · rw [pFl_1 h0] at h
    exact h0 h
/-- a number's size -/
theorem nmA_b {u : Nat → Int} {n p : Nat} (h : tkU u n p = 2) : p < n ∧ 0 ≤ nmA u n p ∧ nmA u n p ≤ 99 := by
  have hp : p < n := by
    apply Classical.byContradiction
    intro c
    have : tkU u n p = 0 := if_pos (by omega)
    omega
  rw [tkU_in hp] at h
  by_cases h1 : bS (u p) = 1
  · rw [if_pos h1] at h
    have htb : p < tE u n p := (tE_b hp (by omega)).1
    rcases wI_ne2 (u := u) htb 18 0 (by omega) with c | c <;> omega
  · rw [if_neg h1] at h
    by_cases h2 : bS (u p) = 2
    · rw [if_pos h2] at h
      have htb : p < tE u n p := (tE_b hp (by omega)).1
      have hd := tE_dg (n := n) h2
      have h3 : ¬ 2 < tE u n p - p := fun c => by rw [if_pos c] at h; omega
      refine ⟨hp, ?_⟩
      unfold nmA
      rcases (show tE u n p - p = 1 ∨ tE u n p - p = 2 by omega) with e | e
      · rw [e]
        have d0 := hd p (by omega) (by omega)
        have : dgs u p 1 = 10 * 0 + u (p + 0) - 48 := rfl
        rw [this, Nat.add_zero]
        omega
      · rw [e]
        have d0 := hd p (by omega) (by omega)
        have d1 := hd (p + 1) (by omega) (by omega)
        have : dgs u p 2 = 10 * (10 * 0 + u (p + 0) - 48) + u (p + 1) - 48 := rfl
        rw [this, Nat.add_zero]
        omega
    · rw [if_neg h2] at h
      by_cases h3 : u p = 59
      · rw [if_pos h3] at h; omega
      · rw [if_neg h3] at h; omega
theorem tkU_0 {u : Nat → Int} {n p : Nat} (h : tkU u n p ≠ 0) : p < n := by
  apply Classical.byContradiction
  intro c
  exact h (if_pos (by omega))
/-- the class reads at token i, and stands where s says -/
def PSt (I : ZI) (u : Nat → Int) (n c i : Nat) (s : PE) : Prop := TkC I u n c i ∧ I 575 2 = pc s ∧ (pc s ≠ 0 → I 575 3 = po s) ∧ posA u n i = pp s ∧ pc s ≤ 4 ∧ n ≤ 700
theorem PSt.lt {I : ZI} {u : Nat → Int} {n c i : Nat} {s : PE} (h : PSt I u n c i s) (h2 : tkU u n (pp s) ≠ 0) : i < c := by
  obtain ⟨a1, a2, a3, a4, a5⟩ := h
  have h3 := tkU_0 h2
  have h4 := a1.2.1
  have h5 := a1.2.2.2.2.2
  apply Classical.byContradiction
  intro e
  have e2 : i = c := by omega
  rw [e2, h4] at a4
  omega
theorem PSt.nx {u : Nat → Int} {n i : Nat} {s : PE} (h : posA u n i = pp s) : posA u n (i + 1) = nxT u n (pp s) := by
  rw [← h]
  rfl
/-- a reading's cells -/
def PRd : Nat → Int → Prop := fun a b => (a = 575 ∧ (b = 2 ∨ b = 3)) ∨ (a = 576 ∧ b = 5)
theorem s_X4_fail (T : ZTh (XX Ln xs) CZ RZ) {d b : Nat} {k o : Int} {I : ZI} {L : ZL} {Q : ZQ} (hz : zR (I 575 2)) (h : I 575 2 = 0 → Q (.inl none) (v2 (v2 I 575 2 k) 575 3 o) L) (h2 : ¬ I 575 2 = 0 → Q (.inl none) I L) : CZ (d + 1) k_X4_fail [.inr (.ref 575, 5), .inl k, .inl o] b I L Q := by
  refine T.call rfl ?_
  refine T.go [] 90 ?_
  conv => whnf
  refine ⟨by decide, ?_⟩
  conv => whnf
  refine ⟨by exact hz, fun c4 => ?_, fun c4 => ?_⟩
  · conv => whnf
    exact h2 c4
  · conv => whnf
    refine ⟨by decide, ?_⟩
    conv => whnf
    refine ⟨by decide, ?_⟩
    conv => whnf
    exact h c4
theorem PSt.fail {I : ZI} {u : Nat → Int} {n c i : Nat} {s : PE} (h : PSt I u n c i s) (h0 : pc s = 0) {k o : Nat} (hk : k ≤ 4) : PSt (v2 (v2 I 575 2 (k : Int)) 575 3 (o : Int)) u n c i (pFl k o s) := by
  obtain ⟨a1, a2, a3, a4, a5, a6⟩ := h
  rw [pFl_0 h0]
  exact ⟨a1.fr (fun a b _ _ => by rw [v2_ne (by omega), v2_ne (by omega)]) (by rw [v2_ne (by omega), v2_ne (by omega)]), by rw [v2_ne (by omega), v2_eq]; rfl, fun _ => v2_eq _ _ _ _, a4, hk, a6⟩
theorem PSt.adv {I : ZI} {u : Nat → Int} {n c i : Nat} {s : PE} (h : PSt I u n c i s) (h0 : pc s = 0) (hi : i < c) (o : Nat) : PSt (v2 I 576 5 ((i + 1 : Nat) : Int)) u n c (i + 1) (0, o, nxT u n (pp s)) := by
  obtain ⟨a1, a2, a3, a4, a5, a6⟩ := h
  refine ⟨a1.adv hi, ?_, fun e => absurd rfl e, PSt.nx a4, by show (0 : Nat) ≤ 4; omega, a6⟩
  rw [v2_ne (by omega), a2, h0]
  rfl
theorem s_X4_skip (T : ZTh (XX Ln xs) CZ RZ) {d b : Nat} {w : Nat} {u : Nat → Int} {n c i : Nat} {s : PE} {I : ZI} {L : ZL} {Q : ZQ} (hS : PSt I u n c i s) (hw : w ≠ 0) (h : ∀ I' i', Fr PRd I I' → PSt I' u n c i' (pKw u n w s) → i ≤ i' → (pc (pKw u n w s) = 0 → i' = i + 1) → Q (.inl none) I' L) : CZ (d + 2) k_X4_skip [.inr (.ref 575, 5), .inr (.ref (10020 + w), 10)] b I L Q := by
  refine T.call rfl ?_
  obtain ⟨k1, k2, k3, k4, k5, k6⟩ := id hS
  have hcz : zR (I 575 2) := by rw [k2]; exact ⟨by omega, by omega⟩
  refine T.go [] 90 ?_
  conv => whnf
  refine ⟨by decide, _, rfl, ?_⟩
  conv => whnf
  refine zinv0 (s_X10_kind T  (by exact k1) (by exact k6) ?_)
  conv => whnf
  refine ⟨fun c8 => ?_, fun c8 => ?_⟩
  · conv => whnf
    have c8n : tkU u n (posA u n i) = w := Nat.add_left_cancel c8
    rw [k4] at c8n
    refine ⟨by decide, ?_⟩
    conv => whnf
    refine ⟨by first | exact hcz | (rw [v2_ne (by omega), v2_eq]; decide), fun c27 => ?_, fun c27 => ?_⟩
    · conv => whnf
      have e0 : ¬ pc s = 0 := by omega
      refine h _ i (Fr.refl I) ?_ (Nat.le_refl i) (fun e => ?_)
      · rw [pKw_2 e0]; exact hS
      · rw [pKw_2 e0] at e; exact absurd e e0
    · conv => whnf
      refine ⟨by decide, _, rfl, ?_⟩
      conv => whnf
      refine zinv0 (s_X10_advance T (u := u) (n := n) (c := c) (i := i) (by exact k1) (by exact k6) (by exact hS.lt (by omega)) ?_)
      conv => whnf
      have e0 : pc s = 0 := by omega
      have e1 : tkU u n (pp s) = w := c8n
      refine h _ (i + 1) ((Fr.refl I).v2 (Or.inr ⟨rfl, rfl⟩)) ?_ (by omega) (fun _ => rfl)
      rw [pKw_0 e0 e1]
      exact hS.adv e0 (hS.lt (by omega)) _
  · conv => whnf
    refine ⟨by decide, _, rfl, ?_⟩
    conv => whnf
    refine zinv0 (s_X10_start T  (by exact k1) (by exact k6) ?_)
    conv => whnf
    refine zinv0 (s_X4_fail T  (by exact hcz) ?_ ?_)
    · intro cha_20
      have e0 : pc s = 0 := by omega
      have hFl := hS.fail e0 (k := 1) (o := posA u n i) (by omega)
      conv => whnf
      refine ⟨by decide, ?_⟩
      conv => whnf
      refine ⟨by first | exact hcz | (rw [v2_ne (by omega), v2_eq]; decide), fun c27 => ?_, fun c27 => by exfalso; rw [v2_ne (by omega), v2_eq] at c27; exact absurd c27 (by decide)⟩
      conv => whnf
      refine h _ i (((Fr.refl I).v2 (Or.inl ⟨rfl, Or.inl rfl⟩)).v2 (Or.inl ⟨rfl, Or.inr rfl⟩)) ?_ (Nat.le_refl i) (fun e => ?_)
      · rw [pKw_1 e0 (fun e => c8 (by rw [k4, e]))]
        rw [pFl_0 e0, k4] at hFl
        rw [← k4]
        rw [← k4] at hFl
        exact hFl
      · rw [pKw_1 e0 (fun e => c8 (by rw [k4, e]))] at e
        exact absurd e (by show ¬ (1 : Nat) = 0; decide)
    · intro ch2a_20
      have e0 : ¬ pc s = 0 := by omega
      conv => whnf
      refine ⟨by decide, ?_⟩
      conv => whnf
      refine ⟨by first | exact hcz | (rw [v2_ne (by omega), v2_eq]; decide), fun c27 => ?_, fun c27 => by exfalso; omega⟩
      conv => whnf
      refine h _ i (Fr.refl I) ?_ (Nat.le_refl i) (fun e => ?_)
      · rw [pKw_2 e0]; exact hS
      · rw [pKw_2 e0] at e; exact absurd e e0
end
