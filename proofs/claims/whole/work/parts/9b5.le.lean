/-! TEXTS, 3: a token -/
section
variable {Ln : Nat} {xs : Nat → Int32} {CZ : Nat → ZC} {RZ : Nat → Nat → ZQ → ZP}
/-- the class's token i stands in its rows -/
def TkE (I : ZI) (u : Nat → Int) (n i : Nat) : Prop := I 578 i = 10020 + ((tkU u n (posA u n i) : Nat) : Int) ∧ I 579 i = posA u n i ∧ (tkU u n (posA u n i) = 2 → I 580 i = nmA u n (posA u n i))
/-- the class's tokens are laid, and it stands at token i -/
def TkC (I : ZI) (u : Nat → Int) (n c i : Nat) : Prop := c ≤ 700 ∧ posA u n c = n ∧ (∀ j, j < c → posA u n j < n) ∧ (∀ j, j ≤ c → TkE I u n j) ∧ I 576 5 = i ∧ i ≤ c
theorem TkE.fr {I I' : ZI} {u : Nat → Int} {n i : Nat} (h : TkE I u n i) (h1 : ∀ a : Nat, 578 ≤ a → a ≤ 580 → I' a i = I a i) : TkE I' u n i := by
  unfold TkE
  rw [h1 _ (by omega) (by omega), h1 _ (by omega) (by omega), h1 _ (by omega) (by omega)]
  exact h
theorem TkC.fr {I I' : ZI} {u : Nat → Int} {n c i : Nat} (h : TkC I u n c i) (h1 : ∀ (a : Nat) (b : Int), 578 ≤ a → a ≤ 580 → I' a b = I a b) (h2 : I' 576 5 = I 576 5) : TkC I' u n c i :=
  ⟨h.1, h.2.1, h.2.2.1, fun j hj => (h.2.2.2.1 j hj).fr (fun a a1 a2 => h1 a j a1 a2), by rw [h2]; exact h.2.2.2.2.1, h.2.2.2.2.2⟩
theorem tkU_in {u : Nat → Int} {n p : Nat} (h : p < n) : tkU u n p = if bS (u p) = 1 then wI u p (tE u n p) 18 0 else if bS (u p) = 2 then (if 2 < tE u n p - p then 1 else 2) else if u p = 59 then 3 else 1 := if_neg (by omega)
theorem tE_dg {u : Nat → Int} {n p : Nat} (h : bS (u p) = 2) : ∀ j, p ≤ j → j < tE u n p → 48 ≤ u j ∧ u j ≤ 57 := fun j h1 h2 => by
  have e : tE u n p = eRn u n 2 p := by
    unfold tE
    rw [h]
    rfl
  rw [e] at h2
  have h3 := eRn_in h1 h2
  unfold bS at h3
  revert h3
  repeat' split
  all_goals omega
/-- words are not empty -/
theorem wmB_4 {u : Nat → Int} {p e i : Nat} (hi : i < 18) (he : p < e) (h : wmB u p e (wtx i) = true) : 4 ≤ i := by
  have h1 := (wmB_iff.mp h).1
  apply Classical.byContradiction
  intro c
  have h2 : wtx i = [] := if_pos (by omega)
  rw [h2] at h1
  have h3 : e - p = 0 := h1
  omega
theorem wI_ne2 {u : Nat → Int} {p e : Nat} (he : p < e) : ∀ m i, i + m = 18 → wI u p e m i = 1 ∨ (4 ≤ wI u p e m i ∧ wI u p e m i < 18 ∧ wmB u p e (wtx (wI u p e m i)) = true)
  | 0, i, _ => Or.inl rfl
  | m + 1, i, h => by
    show (if wmB u p e (wtx i) = true then i else wI u p e m (i + 1)) = 1 ∨ (4 ≤ (if wmB u p e (wtx i) = true then i else wI u p e m (i + 1)) ∧ (if wmB u p e (wtx i) = true then i else wI u p e m (i + 1)) < 18 ∧ wmB u p e (wtx (if wmB u p e (wtx i) = true then i else wI u p e m (i + 1))) = true)
    by_cases c : wmB u p e (wtx i) = true
    · rw [if_pos c]
      exact Or.inr ⟨wmB_4 (by omega) he c, by omega, c⟩
    · rw [if_neg c]
      exact wI_ne2 he m (i + 1) (by omega)
theorem s_X10_scanToken (T : ZTh (XX Ln xs) CZ RZ) {d b : Nat} {u : Nat → Int} {bl n c p : Nat} {I : ZI} {L : ZL} {Q : ZQ} (hB : BY I u bl) (hn : n ≤ bl) (hp : posA u n c = p) (hpn : p < n) (hc : c ≤ p) (h : ∀ I', Fr (fun a b => (a = 578 ∨ a = 579 ∨ a = 580) ∧ b = c) I I' → TkE I' u n c → Q (.inl (some (.inl (((tE u n p : Nat) : Int))))) I' L) : CZ (d + 4) k_X10_scanToken [.inr (.ref 576, 11), .inl ((c : Int)), .inl ((p : Int)), .inl ((n : Int))] b I L Q := by
  refine T.call rfl ?_
  have hl := hB.1
  have hb0 := (posA_b u n c).2 (by omega)
  rw [hp] at hb0
  have htb := tE_b hpn hb0
  have ht := tkU_in (u := u) hpn
  obtain ⟨g0, g1, g2⟩ := hB.2 p (by omega)
  obtain ⟨s0, s1, s2, s3⟩ := sB_z g0 g1
  have hb3 := bS_3 (u p)
  refine T.go [] 150 ?_
  conv => whnf
  refine zinv0 (s_X10_sortAt T (u := u) (bl := bl) (i := p) (by first | assumption | omega | rfl | decide) (by omega) ?_)
  conv => whnf
  refine ⟨by omega, fun c10 => ?_, fun c10 => ?_⟩
  · conv => whnf
    refine zinv0 (s_X10_endOfRun T (u := u) (bl := bl) (n := n) (s := bS (u p)) (x := p) (by first | assumption | omega | rfl | decide) (by first | assumption | omega | rfl | decide) (by omega) (by omega) ?_)
    conv => whnf
    have e5 : ((eRn u n (bS (u p)) p : Nat) : Int) = ((tE u n p : Nat) : Int) := by
      unfold tE
      rw [if_neg (by omega)]
    
    rw [e5]
    refine ⟨by decide, _, rfl, ?_⟩
    conv => whnf
    refine ⟨by omega, by decide, ?_⟩
    conv => whnf
    refine ⟨by omega, fun c39 => ?_, fun c39 => ?_⟩
    · conv => whnf
      refine ⟨by omega, fun c61 => ?_, fun c61 => ?_⟩
      · conv => whnf
        refine ⟨by decide, _, rfl, ?_⟩
        conv => whnf
        refine zinv0 (s_X10_byteAt T (u := u) (bl := bl) (i := p) (by exact hB.fr (fun b => v2_ne (by omega))) (by omega) ?_)
        conv => whnf
        refine ⟨by omega, fun c127 => ?_, fun c127 => ?_⟩
        · conv => whnf
          refine ⟨⟨rfl, by omega⟩, ?_⟩
          conv => whnf
          refine h _ (((Fr.refl I).v2 ⟨by omega, rfl⟩).v2 ⟨by omega, rfl⟩) ⟨?_, ?_, fun c2 => ?_⟩
          · have e1 : ¬ bS (u p) = 1 := by omega
            have e2 : ¬ bS (u p) = 2 := by omega
            rw [v2_eq, hp, ht, if_neg e1, if_neg e2, if_neg (by omega)]
            rfl
          · rw [v2_ne (by omega), v2_eq, hp]
          · have e1 : ¬ bS (u p) = 1 := by omega
            have e2 : ¬ bS (u p) = 2 := by omega
            rw [hp, ht, if_neg e1, if_neg e2, if_neg (by omega)] at c2
            exact absurd c2 (by decide)
        · conv => whnf
          refine ⟨⟨rfl, by omega⟩, ?_⟩
          conv => whnf
          refine h _ (((Fr.refl I).v2 ⟨by omega, rfl⟩).v2 ⟨by omega, rfl⟩) ⟨?_, ?_, fun c2 => ?_⟩
          · have e1 : ¬ bS (u p) = 1 := by omega
            have e2 : ¬ bS (u p) = 2 := by omega
            rw [v2_eq, hp, ht, if_neg e1, if_neg e2, if_pos (by omega)]
            rfl
          · rw [v2_ne (by omega), v2_eq, hp]
          · have e1 : ¬ bS (u p) = 1 := by omega
            have e2 : ¬ bS (u p) = 2 := by omega
            rw [hp, ht, if_neg e1, if_neg e2, if_pos (by omega)] at c2
            exact absurd c2 (by decide)
      · conv => whnf
        refine ⟨by decide, _, rfl, ?_⟩
        conv => whnf
        refine ⟨by omega, fun c74 => ?_, fun c74 => ?_⟩
        · conv => whnf
          refine ⟨⟨rfl, by omega⟩, ?_⟩
          conv => whnf
          refine ⟨by decide, _, rfl, ?_⟩
          conv => whnf
          refine ⟨by omega, fun c97 => ?_, fun c97 => by exfalso; omega⟩
          conv => whnf
          refine zinv0 (s_X10_readDigits T (u := u) (bl := bl) (p := p) (e := tE u n p) (by exact hB.fr (fun b => by rw [v2_ne (by omega), v2_ne (by omega)])) (by omega) (by omega) (by exact tE_dg (by omega)) ?_)
          conv => whnf
          refine ⟨by omega, by decide, ?_⟩
          conv => whnf
          refine h _ ((((Fr.refl I).v2 ⟨by omega, rfl⟩).v2 ⟨by omega, rfl⟩).v2 ⟨by omega, rfl⟩) ⟨?_, ?_, fun c2 => ?_⟩
          · have e1 : ¬ bS (u p) = 1 := by omega
            have e2 : bS (u p) = 2 := by omega
            rw [v2_ne (by omega), v2_eq, hp, ht, if_neg e1, if_pos e2, if_neg (by omega)]
            rfl
          · rw [v2_ne (by omega), v2_ne (by omega), v2_eq, hp]
          · rw [v2_eq, hp]
            rfl
        · conv => whnf
          refine ⟨⟨rfl, by omega⟩, ?_⟩
          conv => whnf
          refine ⟨by decide, _, rfl, ?_⟩
          conv => whnf
          refine ⟨by omega, fun c97 => by exfalso; omega, fun c97 => ?_⟩
          conv => whnf
          refine ⟨by omega, by decide, ?_⟩
          conv => whnf
          refine h _ ((((Fr.refl I).v2 ⟨by omega, rfl⟩).v2 ⟨by omega, rfl⟩).v2 ⟨by omega, rfl⟩) ⟨?_, ?_, fun c2 => ?_⟩
          · have e1 : ¬ bS (u p) = 1 := by omega
            have e2 : bS (u p) = 2 := by omega
            rw [v2_ne (by omega), v2_eq, hp, ht, if_neg e1, if_pos e2, if_pos (by omega)]
            rfl
          · rw [v2_ne (by omega), v2_ne (by omega), v2_eq, hp]
          · have e1 : ¬ bS (u p) = 1 := by omega
            have e2 : bS (u p) = 2 := by omega
            rw [hp, ht, if_neg e1, if_pos e2, if_pos (by omega)] at c2
            exact absurd c2 (by decide)
    · conv => whnf
      refine ⟨by decide, _, rfl, ?_⟩
      conv => whnf
      refine zinv0 (s_X10_findWord T (u := u) (bl := bl) (p := p) (e := tE u n p) (by exact hB.fr (fun b => v2_ne (by omega))) (by omega) ?_)
      conv => whnf
      refine ⟨⟨rfl, by omega⟩, ?_⟩
      conv => whnf
      refine h _ (((Fr.refl I).v2 ⟨by omega, rfl⟩).v2 ⟨by omega, rfl⟩) ⟨?_, ?_, fun c2 => ?_⟩
      · have e1 : bS (u p) = 1 := by omega
        rw [v2_eq, hp, ht, if_pos e1]
        omega
      · rw [v2_ne (by omega), v2_eq, hp]
      · have e1 : bS (u p) = 1 := by omega
        rw [hp, ht, if_pos e1] at c2
        rcases wI_ne2 (u := u) (e := tE u n p) htb.1 18 0 (by omega) with c3 | c3 <;> omega
  · conv => whnf
    have e5 : ((p : Nat) : Int) + 1 = ((tE u n p : Nat) : Int) := by
      unfold tE
      rw [if_pos (by omega)]
      omega
    rw [e5]
    refine ⟨by decide, _, rfl, ?_⟩
    conv => whnf
    refine ⟨by omega, by decide, ?_⟩
    conv => whnf
    refine ⟨by omega, fun c39 => ?_, fun c39 => ?_⟩
    · conv => whnf
      refine ⟨by omega, fun c61 => ?_, fun c61 => ?_⟩
      · conv => whnf
        refine ⟨by decide, _, rfl, ?_⟩
        conv => whnf
        refine zinv0 (s_X10_byteAt T (u := u) (bl := bl) (i := p) (by exact hB.fr (fun b => v2_ne (by omega))) (by omega) ?_)
        conv => whnf
        refine ⟨by omega, fun c127 => ?_, fun c127 => ?_⟩
        · conv => whnf
          refine ⟨⟨rfl, by omega⟩, ?_⟩
          conv => whnf
          refine h _ (((Fr.refl I).v2 ⟨by omega, rfl⟩).v2 ⟨by omega, rfl⟩) ⟨?_, ?_, fun c2 => ?_⟩
          · have e1 : ¬ bS (u p) = 1 := by omega
            have e2 : ¬ bS (u p) = 2 := by omega
            rw [v2_eq, hp, ht, if_neg e1, if_neg e2, if_neg (by omega)]
            rfl
          · rw [v2_ne (by omega), v2_eq, hp]
          · have e1 : ¬ bS (u p) = 1 := by omega
            have e2 : ¬ bS (u p) = 2 := by omega
            rw [hp, ht, if_neg e1, if_neg e2, if_neg (by omega)] at c2
            exact absurd c2 (by decide)
        · conv => whnf
          refine ⟨⟨rfl, by omega⟩, ?_⟩
          conv => whnf
          refine h _ (((Fr.refl I).v2 ⟨by omega, rfl⟩).v2 ⟨by omega, rfl⟩) ⟨?_, ?_, fun c2 => ?_⟩
          · have e1 : ¬ bS (u p) = 1 := by omega
            have e2 : ¬ bS (u p) = 2 := by omega
            rw [v2_eq, hp, ht, if_neg e1, if_neg e2, if_pos (by omega)]
            rfl
          · rw [v2_ne (by omega), v2_eq, hp]
          · have e1 : ¬ bS (u p) = 1 := by omega
            have e2 : ¬ bS (u p) = 2 := by omega
            rw [hp, ht, if_neg e1, if_neg e2, if_pos (by omega)] at c2
            exact absurd c2 (by decide)
      · conv => whnf
        refine ⟨by decide, _, rfl, ?_⟩
        conv => whnf
        refine ⟨by omega, fun c74 => ?_, fun c74 => ?_⟩
        · conv => whnf
          refine ⟨⟨rfl, by omega⟩, ?_⟩
          conv => whnf
          refine ⟨by decide, _, rfl, ?_⟩
          conv => whnf
          refine ⟨by omega, fun c97 => ?_, fun c97 => by exfalso; omega⟩
          conv => whnf
          refine zinv0 (s_X10_readDigits T (u := u) (bl := bl) (p := p) (e := tE u n p) (by exact hB.fr (fun b => by rw [v2_ne (by omega), v2_ne (by omega)])) (by omega) (by omega) (by exact tE_dg (by omega)) ?_)
          conv => whnf
          refine ⟨by omega, by decide, ?_⟩
          conv => whnf
          refine h _ ((((Fr.refl I).v2 ⟨by omega, rfl⟩).v2 ⟨by omega, rfl⟩).v2 ⟨by omega, rfl⟩) ⟨?_, ?_, fun c2 => ?_⟩
          · have e1 : ¬ bS (u p) = 1 := by omega
            have e2 : bS (u p) = 2 := by omega
            rw [v2_ne (by omega), v2_eq, hp, ht, if_neg e1, if_pos e2, if_neg (by omega)]
            rfl
          · rw [v2_ne (by omega), v2_ne (by omega), v2_eq, hp]
          · rw [v2_eq, hp]
            rfl
        · conv => whnf
          refine ⟨⟨rfl, by omega⟩, ?_⟩
          conv => whnf
          refine ⟨by decide, _, rfl, ?_⟩
          conv => whnf
          refine ⟨by omega, fun c97 => by exfalso; omega, fun c97 => ?_⟩
          conv => whnf
          refine ⟨by omega, by decide, ?_⟩
          conv => whnf
          refine h _ ((((Fr.refl I).v2 ⟨by omega, rfl⟩).v2 ⟨by omega, rfl⟩).v2 ⟨by omega, rfl⟩) ⟨?_, ?_, fun c2 => ?_⟩
          · have e1 : ¬ bS (u p) = 1 := by omega
            have e2 : bS (u p) = 2 := by omega
            rw [v2_ne (by omega), v2_eq, hp, ht, if_neg e1, if_pos e2, if_pos (by omega)]
            rfl
          · rw [v2_ne (by omega), v2_ne (by omega), v2_eq, hp]
          · have e1 : ¬ bS (u p) = 1 := by omega
            have e2 : bS (u p) = 2 := by omega
            rw [hp, ht, if_neg e1, if_pos e2, if_pos (by omega)] at c2
            exact absurd c2 (by decide)
    · conv => whnf
      refine ⟨by decide, _, rfl, ?_⟩
      conv => whnf
      refine zinv0 (s_X10_findWord T (u := u) (bl := bl) (p := p) (e := tE u n p) (by exact hB.fr (fun b => v2_ne (by omega))) (by omega) ?_)
      conv => whnf
      refine ⟨⟨rfl, by omega⟩, ?_⟩
      conv => whnf
      refine h _ (((Fr.refl I).v2 ⟨by omega, rfl⟩).v2 ⟨by omega, rfl⟩) ⟨?_, ?_, fun c2 => ?_⟩
      · have e1 : bS (u p) = 1 := by omega
        rw [v2_eq, hp, ht, if_pos e1]
        omega
      · rw [v2_ne (by omega), v2_eq, hp]
      · have e1 : bS (u p) = 1 := by omega
        rw [hp, ht, if_pos e1] at c2
        rcases wI_ne2 (u := u) (e := tE u n p) htb.1 18 0 (by omega) with c3 | c3 <;> omega
end
