/-! THE REFERENCE ANSWERS, 7: walks -/
section
variable {Ln : Nat} {xs : Nat → Int32} {CZ : Nat → ZC} {RZ : Nat → Nat → ZQ → ZP}
/-- of the directions in which borders begin, the one with the sharpest turn to the right, and its turn -/
def nxF (f : Nat → Bool) (d : Nat) : Nat → Int × Int
  | 0 => (-1, -1)
  | j + 1 => if f j = true ∧ (nxF f d j).2 < (((j + 11 - d) % 8 : Nat) : Int) then ((j : Int), (((j + 11 - d) % 8 : Nat) : Int)) else nxF f d j
theorem nxF_congr {f g : Nat → Bool} {d : Nat} : ∀ {j : Nat}, (∀ i, i < j → f i = g i) → nxF f d j = nxF g d j
  | 0, _ => rfl
  | j + 1, h => by
    show (if f j = true ∧ (nxF f d j).2 < _ then _ else nxF f d j) = (if g j = true ∧ (nxF g d j).2 < _ then _ else nxF g d j)
    rw [nxF_congr (j := j) (fun i hi => h i (by omega)), h j (by omega)]
theorem nxF_am : (List.range 256).all (fun m => (List.range 8).all fun d => decide (m = 0) || decide ((nxF m.testBit d 8).1 = ((nxd m.testBit d : Nat) : Int))) = true := by decide +kernel
theorem nxF_ok {f : Nat → Bool} {d i : Nat} (hd : d < 8) (hi : i < 8) (hf : f i = true) : (nxF f d 8).1 = ((nxd f d : Nat) : Int) := by
  obtain ⟨m, m1, m2⟩ := mask_ex f
  have h := List.all_eq_true.mp (List.all_eq_true.mp nxF_am m (List.mem_range.mpr m1)) d (List.mem_range.mpr hd)
  have h0 : ¬ m = 0 := fun e => by
    have := m2 i hi
    rw [e, Nat.zero_testBit, hf] at this
    cases this
  rw [decide_eq_false h0, Bool.false_or, decide_eq_true_iff] at h
  rw [nxF_congr (f := f) (g := m.testBit) (fun i hi => (m2 i hi).symm), h]
  unfold nxd
  rw [srch_congr (f := m.testBit) (g := f) m2 d 8]
theorem nxF_b (f : Nat → Bool) (d : Nat) : ∀ j, -1 ≤ (nxF f d j).1 ∧ (nxF f d j).1 < j ∧ -1 ≤ (nxF f d j).2 ∧ (nxF f d j).2 < 8
  | 0 => by
    show (-1 : Int) ≤ -1 ∧ (-1 : Int) < 0 ∧ (-1 : Int) ≤ -1 ∧ (-1 : Int) < 8
    omega
  | j + 1 => by
    have h := nxF_b f d j
    unfold nxF
    split
    · exact ⟨by omega, by omega, by omega, by omega⟩
    · omega
theorem l_nextAt (T : ZTh (XX Ln xs) CZ RZ) {d b : Nat} {Q : ZQ} {p w : Nat} {B : Nat → Bool} {I : ZI} {L : ZL} (hB : ∀ e : Nat, e < 5000 → I 621 (e : Int) = bi (B e)) (hp : p < 625) (hd : w < 8) (h : Q (.inl (some (.inl (if (nxF (fun i => B (8 * p + i)) w 8).1 = -1 then -1 else 8 * (p : Int) + (nxF (fun i => B (8 * p + i)) w 8).1)))) I L) (m : Nat) : ∀ (j : Nat) (x y : Int), (j ≤ 8) → (x = if (nxF (fun i => B (8 * p + i)) w j).1 = -1 then -1 else 8 * (p : Int) + (nxF (fun i => B (8 * p + i)) w j).1) → (y = (nxF (fun i => B (8 * p + i)) w j).2) → 8 - (j : Int) < (m : Int) → RZ d k_X12_nextAt Q 8 [.inr (.ref 603, 13), .inl ((p : Int)), .inl ((w : Int)), .inl x, .inl y, .inl ((j : Int)), zj] [] b I L := by
  induction m with
  | zero =>
    intro j x y hj hx hy hm
    exfalso
    omega
  | succ m ih =>
    intro j x y hj hx hy hm
    have hB1 : j < 8 → I 621 (8 * (p : Int) + (j : Int)) = bi (B (8 * p + j)) := fun hj => by
      have := hB (8 * p + j) (by omega)
      rw [show ((8 * p + j : Nat) : Int) = 8 * (p : Int) + (j : Int) by omega] at this
      exact this
    have hbb := bi_b (B (8 * p + j))
    have hnb := nxF_b (fun i => B (8 * p + i)) w j
    refine T.go [8] 90 ?_
    conv => whnf
    refine ⟨by omega, fun c12 => ?_, fun c12 => ?_⟩
    · conv => whnf
      obtain rfl : j = 8 := by omega
      rw [hx]
      exact h
    · conv => whnf
      refine ⟨by omega, ?_⟩
      conv => whnf
      refine ⟨by decide, _, rfl, ?_⟩
      conv => whnf
      refine ⟨by omega, by decide, ?_⟩
      conv => whnf
      rw [hB1 (by omega)]
      refine ⟨by omega, fun c39 => ?_, fun c39 => ?_⟩
      · conv => whnf
        refine T.fg [6] ?_
        have e : nxF (fun i => B (8 * p + i)) w (j + 1) = nxF (fun i => B (8 * p + i)) w j := if_neg (fun g => by
          have g1 : B (8 * p + j) = true := g.1
          rw [g1] at c39
          exact absurd c39 (by decide))
        refine ih (j + 1) _ _ (by omega) ?_ ?_ (by omega)
        · rw [e]
          exact hx
        · rw [e]
          exact hy
      · conv => whnf
        refine ⟨by omega, fun c46 => ?_, fun c46 => ?_⟩
        · conv => whnf
          refine T.fg [6] ?_
          have e : nxF (fun i => B (8 * p + i)) w (j + 1) = nxF (fun i => B (8 * p + i)) w j := if_neg (fun g => by have := g.2; omega)
          refine ih (j + 1) _ _ (by omega) ?_ ?_ (by omega)
          · rw [e]
            exact hx
          · rw [e]
            exact hy
        · conv => whnf
          refine T.fg [6] ?_
          have e : nxF (fun i => B (8 * p + i)) w (j + 1) = ((j : Int), (((j + 11 - w) % 8 : Nat) : Int)) := if_pos ⟨by
            show B (8 * p + j) = true
            cases g : B (8 * p + j) with
            | true => rfl
            | false => rw [g] at c39; exact absurd rfl c39, by omega⟩
          refine ih (j + 1) _ _ (by omega) ?_ ?_ (by omega)
          · rw [e]
            show _ = if ((j : Int)) = -1 then -1 else 8 * (p : Int) + (j : Int)
            rw [if_neg (by omega)]
          · rw [e]
            show _ = (((j + 11 - w) % 8 : Nat) : Int)
            omega
theorem s_X12_nextAt (T : ZTh (XX Ln xs) CZ RZ) {d b : Nat} {p w z : Nat} (B : Nat → Bool) {I : ZI} {L : ZL} {Q : ZQ} (hB : ∀ e : Nat, e < 5000 → I 621 (e : Int) = bi (B e)) (hp : p < 625) (hd : w < 8) (hz : z < 8 ∧ B (8 * p + z) = true) (h : Q (.inl (some (.inl (((8 * p + nxd (fun i => B (8 * p + i)) w : Nat) : Int))))) I L) : CZ (d + 1) k_X12_nextAt [.inr (.ref 603, 13), .inl ((p : Int)), .inl ((w : Int))] b I L Q := by
  refine T.call rfl ?_
  have hk := nxF_ok (f := fun i => B (8 * p + i)) hd hz.1 hz.2
  have h9 : Q (.inl (some (.inl (if (nxF (fun i => B (8 * p + i)) w 8).1 = -1 then -1 else 8 * (p : Int) + (nxF (fun i => B (8 * p + i)) w 8).1)))) I L := by
    rw [hk, if_neg (by omega)]
    exact h
  refine T.go [8] 90 ?_
  conv => whnf
  exact l_nextAt T hB hp hd h9 9 0 _ _ (by omega) rfl rfl (by omega)
theorem s_X12_endOf (T : ZTh (XX Ln xs) CZ RZ) {d b : Nat} {e : Nat} {I : ZI} {L : ZL} {Q : ZQ} (he : e < 5000) (hE : ((enp e : Nat) : Int) = ((e / 8 : Nat) : Int) + (if e % 2 = 0 then 2 else 1) * (25 * dY ((e % 8 : Nat) : Int) + dX ((e % 8 : Nat) : Int))) (h : Q (.inl (some (.inl ((enp e : Int))))) I L) : CZ (d + 2) k_X12_endOf [.inl ((e : Int))] b I L Q := by
  refine T.call rfl ?_
  have hz := zs_d (Ln := Ln) (xs := xs) (i := (e : Int) % 8) (by omega) (by omega)
  rw [show ((e % 8 : Nat) : Int) = (e : Int) % 8 by omega] at hE
  have key : ∀ z : Int, z = enp e → Q (.inl (some (.inl z))) I L := fun z g => by rw [g]; exact h
  refine T.go [] 90 ?_
  conv => whnf
  refine ⟨by omega, ?_⟩
  conv => whnf
  refine ⟨by omega, ?_⟩
  conv => whnf
  refine ⟨by omega, fun c8 => ?_, fun c8 => ?_⟩
  · conv => whnf
    refine ⟨by omega, Or.inl ⟨by omega, ?_⟩⟩
    conv => whnf
    refine ⟨by omega, ?_⟩
    conv => whnf
    refine ⟨by omega, ?_⟩
    conv => whnf
    refine ⟨by omega, Or.inl ⟨by omega, ?_⟩⟩
    conv => whnf
    refine ⟨by omega, ?_⟩
    conv => whnf
    refine zinv0 (s_X12_pointAt T   ?_)
    conv => whnf
    refine key _ ?_
    rw [hz.2.2.1, hz.2.2.2, hE]
    generalize dX ((e : Int) % 8) = a
    generalize dY ((e : Int) % 8) = c
    first | (rw [if_pos (by omega)]; omega) | (rw [if_neg (by omega)]; omega)
  · conv => whnf
    refine ⟨by omega, Or.inl ⟨by omega, ?_⟩⟩
    conv => whnf
    refine ⟨by omega, ?_⟩
    conv => whnf
    refine ⟨by omega, ?_⟩
    conv => whnf
    refine ⟨by omega, Or.inl ⟨by omega, ?_⟩⟩
    conv => whnf
    refine ⟨by omega, ?_⟩
    conv => whnf
    refine zinv0 (s_X12_pointAt T   ?_)
    conv => whnf
    refine key _ ?_
    rw [hz.2.2.1, hz.2.2.2, hE]
    generalize dX ((e : Int) % 8) = a
    generalize dY ((e : Int) % 8) = c
    first | (rw [if_pos (by omega)]; omega) | (rw [if_neg (by omega)]; omega)
/-- the reference's outlines hold s; n loops of it -/
def OSm (I : ZI) (s : OS) (n : Nat) : Prop := (∀ e : Nat, e < 5000 → I 622 (e : Int) = bi (oW s e)) ∧ I 603 34 = oL s ∧ I 603 35 = oE s ∧
  (∀ i : Nat, i < oE s → I 625 i = oD s i ∧ I 626 i = oC s i ∧ I 627 i = oK s i % 25 ∧ I 628 i = oK s i / 25) ∧
  (∀ i : Nat, i < n → I 624 i = oFE s i ∧ I 629 i = oLG s i ∧ I 630 i = oSH s i ∧ I 631 i = oAR s i) ∧ (n = oL s → 0 < n → I 624 (n : Int) = oE s)
/-- what walks may change -/
def PWk : Nat → Int → Prop := fun a b => a = 622 ∨ (624 ≤ a ∧ a ≤ 631) ∨ (a = 603 ∧ (b = 34 ∨ b = 35))
/-- before the border c is counted -/
def WkM (I : ZI) (s : OS) (c : Nat) : Prop := (∀ e : Nat, e < 5000 → I 622 (e : Int) = bi (oW (addB s c) e)) ∧ I 603 34 = oL s ∧ I 603 35 = oE (addB s c) ∧
  (∀ i : Nat, i < oE (addB s c) → I 625 i = oD (addB s c) i ∧ I 626 i + (if i + 1 = oE (addB s c) then 1 else 0) = oC (addB s c) i ∧ I 627 i = oK (addB s c) i % 25 ∧ I 628 i = oK (addB s c) i / 25) ∧
  (∀ i : Nat, i < oL s + 1 → I 624 i = oFE s i ∧ I 629 i = oLG s i ∧ I 630 i = oSH s i ∧ I 631 i = oAR s i)
theorem WkM.w {I I' : ZI} {s : OS} {c n : Nat} (h : OSm I s n) (h1 : ∀ j, I' 622 j = if j = (c : Int) then 1 else I 622 j) (e : Nat) (he : e < 5000) : I' 622 (e : Int) = bi (oW (addB s c) e) := by
  rw [h1]
  show _ = bi (if e = c then true else oW s e)
  by_cases g : e = c
  · rw [if_pos (by omega), if_pos g]; rfl
  · rw [if_neg (by omega), if_neg g]; exact h.1 e he
theorem WkM.old {I I' : ZI} {s : OS} {c : Nat} (h : OSm I s (oL s + 1)) (ho : onE s c = true) (h1 : ∀ j, I' 622 j = if j = (c : Int) then 1 else I 622 j) (h2 : ∀ (a : Nat) (b : Int), a ≠ 622 → I' a b = I a b) : WkM I' s c := by
  obtain ⟨a1, a2, a3, a4, a5, -⟩ := id h
  have d0 : oE (addB s c) = oE s := ((addB_E s c).1 ho).1
  have d1 : oD (addB s c) = oD s := by show (bif onE s c then _ else _) = _; rw [ho]; rfl
  have d2 : oC (addB s c) = up (oC s) (oE s - 1) (oC s (oE s - 1) + 1) := by show (bif onE s c then _ else _) = _; rw [ho]; rfl
  have d3 : oK (addB s c) = oK s := by show (bif onE s c then _ else _) = _; rw [ho]; rfl
  refine ⟨WkM.w h h1, by rw [h2 _ _ (by omega)]; exact a2, by rw [h2 _ _ (by omega), d0]; exact a3, fun i hi => ?_, fun i hi => ?_⟩
  · rw [d0] at hi
    obtain ⟨b1, b2, b3, b4⟩ := a4 i hi
    rw [h2 _ _ (by omega), h2 _ _ (by omega), h2 _ _ (by omega), h2 _ _ (by omega), d0, d1, d2, d3, b1, b2, b3, b4]
    refine ⟨rfl, ?_, rfl, rfl⟩
    by_cases g : i = oE s - 1
    · rw [if_pos (by omega), g, up_eq]
    · rw [if_neg (by omega), up_ne g, Int.add_zero]
  · rw [h2 _ _ (by omega), h2 _ _ (by omega), h2 _ _ (by omega), h2 _ _ (by omega)]
    exact a5 i hi
theorem WkM.new {I I' : ZI} {s : OS} {c : Nat} (h : OSm I s (oL s + 1)) (ho : onE s c = false) (h1 : ∀ j, I' 622 j = if j = (c : Int) then 1 else I 622 j)
    (h3 : ∀ j, I' 625 j = if j = (oE s : Int) then (c : Int) % 8 else I 625 j) (h4 : ∀ j, I' 626 j = if j = (oE s : Int) then 0 else I 626 j) (h5 : ∀ j, I' 627 j = if j = (oE s : Int) then (c : Int) / 8 % 25 else I 627 j) (h6 : ∀ j, I' 628 j = if j = (oE s : Int) then (c : Int) / 8 / 25 else I 628 j)
    (h7 : I' 603 35 = (oE s : Int) + 1) (h2 : ∀ (a : Nat) (b : Int), a ≠ 622 → a < 625 ∨ 628 < a → ¬ (a = 603 ∧ b = 35) → I' a b = I a b) : WkM I' s c := by
  obtain ⟨a1, a2, a3, a4, a5, -⟩ := id h
  have d0 : oE (addB s c) = oE s + 1 := ((addB_E s c).2 ho).1
  have d1 : oD (addB s c) = up (oD s) (oE s) ((c % 8 : Nat) : Int) := by show (bif onE s c then _ else _) = _; rw [ho]; rfl
  have d2 : oC (addB s c) = up (oC s) (oE s) 1 := by show (bif onE s c then _ else _) = _; rw [ho]; rfl
  have d3 : oK (addB s c) = up (oK s) (oE s) ((c / 8 : Nat) : Int) := by show (bif onE s c then _ else _) = _; rw [ho]; rfl
  refine ⟨WkM.w h h1, by rw [h2 _ _ (by omega) (by omega) (by omega)]; exact a2, by rw [h7, d0]; omega, fun i hi => ?_, fun i hi => ?_⟩
  · rw [d0] at hi
    rw [h3, h4, h5, h6, d0, d1, d2, d3]
    by_cases g : i = oE s
    · rw [if_pos (by omega), if_pos (by omega), if_pos (by omega), if_pos (by omega), if_pos (by omega), g, up_eq, up_eq, up_eq]
      exact ⟨by omega, rfl, by omega, by omega⟩
    · obtain ⟨b1, b2, b3, b4⟩ := a4 i (by omega)
      rw [if_neg (by omega), if_neg (by omega), if_neg (by omega), if_neg (by omega), if_neg (by omega), up_ne g, up_ne g, up_ne g, b1, b2, b3, b4]
      exact ⟨rfl, Int.add_zero _, rfl, rfl⟩
  · rw [h2 _ _ (by omega) (by omega) (by omega), h2 _ _ (by omega) (by omega) (by omega), h2 _ _ (by omega) (by omega) (by omega), h2 _ _ (by omega) (by omega) (by omega)]
    exact a5 i hi
theorem WkM.fin {I I' : ZI} {s : OS} {c : Nat} (h : WkM I s c) (hE : 1 ≤ oE (addB s c))
    (h1 : ∀ j, I' 626 j = if j = (oE (addB s c) : Int) - 1 then I 626 j + 1 else I 626 j) (h2 : ∀ j, I' 629 j = if j = (oL s : Int) then I 629 j + (1 - (c : Int) % 8 % 2) else I 629 j)
    (h3 : ∀ j, I' 630 j = if j = (oL s : Int) then I 630 j + (c : Int) % 8 % 2 else I 630 j) (h4 : ∀ j, I' 631 j = if j = (oL s : Int) then I 631 j + ((c : Int) / 8 % 25 * ((enp c : Int) / 25) - (enp c : Int) % 25 * ((c : Int) / 8 / 25)) else I 631 j)
    (h5 : ∀ (a : Nat) (b : Int), a ≠ 626 → a < 629 ∨ 631 < a → I' a b = I a b) : OSm I' (addB s c) (oL s + 1) := by
  obtain ⟨a1, a2, a3, a4, a5⟩ := h
  refine ⟨fun e he => by rw [h5 _ _ (by omega) (by omega)]; exact a1 e he, by rw [h5 _ _ (by omega) (by omega)]; exact a2, by rw [h5 _ _ (by omega) (by omega)]; exact a3, fun i hi => ?_, fun i hi => ?_, fun g _ => ?_⟩
  · obtain ⟨b1, b2, b3, b4⟩ := a4 i hi
    rw [h1, h5 _ _ (by omega) (by omega), h5 _ _ (by omega) (by omega), h5 _ _ (by omega) (by omega)]
    refine ⟨b1, ?_, b3, b4⟩
    rw [← b2]
    by_cases g : i + 1 = oE (addB s c)
    · rw [if_pos (by omega), if_pos g]
    · rw [if_neg (by omega), if_neg g, Int.add_zero]
  · obtain ⟨b1, b2, b3, b4⟩ := a5 i hi
    have har : arB c = (c : Int) / 8 % 25 * ((enp c : Int) / 25) - (enp c : Int) % 25 * ((c : Int) / 8 / 25) := by
      unfold arB
      rw [show ((c / 8 : Nat) : Int) = (c : Int) / 8 by omega]
    rw [h5 624 _ (by omega) (by omega), h2, h3, h4, b2, b3, b4, ← har]
    refine ⟨b1, ?_, ?_, ?_⟩
    · show _ = (bif c % 2 == 0 then up (oLG s) (oL s) (oLG s (oL s) + 1) else oLG s) i
      by_cases p : c % 2 = 0
      · rw [show (c % 2 == 0) = true from beq_iff_eq.mpr p]
        show _ = up (oLG s) (oL s) (oLG s (oL s) + 1) i
        by_cases g : i = oL s
        · rw [if_pos (by omega), g, up_eq]; omega
        · rw [if_neg (by omega), up_ne g]
      · rw [show (c % 2 == 0) = false from beq_eq_false_iff_ne.mpr p]
        show _ = oLG s i
        by_cases g : i = oL s
        · rw [if_pos (by omega)]; omega
        · rw [if_neg (by omega)]
    · show _ = (bif c % 2 == 0 then oSH s else up (oSH s) (oL s) (oSH s (oL s) + 1)) i
      by_cases p : c % 2 = 0
      · rw [show (c % 2 == 0) = true from beq_iff_eq.mpr p]
        show _ = oSH s i
        by_cases g : i = oL s
        · rw [if_pos (by omega)]; omega
        · rw [if_neg (by omega)]
      · rw [show (c % 2 == 0) = false from beq_eq_false_iff_ne.mpr p]
        show _ = up (oSH s) (oL s) (oSH s (oL s) + 1) i
        by_cases g : i = oL s
        · rw [if_pos (by omega), g, up_eq]; omega
        · rw [if_neg (by omega), up_ne g]
    · show _ = up (oAR s) (oL s) (oAR s (oL s) + arB c) i
      by_cases g : i = oL s
      · rw [if_pos (by omega), g, up_eq]
      · rw [if_neg (by omega), up_ne g]
  · exact absurd g (by show ¬ oL s + 1 = oL s; omega)
theorem l_mwkB (T : ZTh (XX Ln xs) CZ RZ) {d b : Nat} {Q : ZQ} {O : Nat → Bool} {f c : Nat} {s : OS} {I0 I : ZI} {L : ZL} (hB : ∀ e : Nat, e < 5000 → I0 621 (e : Int) = bi (bs O e)) (hb : bs O c = true) (hfr : Fr PWk I0 I) (hK : WkM I s c) (hr : oE s < 192 ∧ oL s < 192) (hE : 1 ≤ oE (addB s c) ∧ oE (addB s c) ≤ 192) (hf : f < 5000) (hne : ∀ I', Fr PWk I0 I' → OSm I' (addB s c) (oL s + 1) → nxb O c ≠ f → RZ (d + 2) k_X12_walks Q 47 [.inr (.ref 603, 13), .inl (f : Int), .inl (nxb O c : Int), .inl ((c : Int) % 8), zj, zj, zj] [] b I' L) (heq : ∀ I', Fr PWk I0 I' → OSm I' (addB s c) (oL s + 1) → nxb O c = f → RZ (d + 2) k_X12_walks Q 238 [.inr (.ref 603, 13), zj, zj, zj, zj, zj, zj] [] b I' L) : RZ (d + 2) k_X12_walks Q 137 [.inr (.ref 603, 13), .inl ((f : Int)), zj, zj, .inl ((c : Int) % 8), .inl ((c : Int) / 8), .inl ((enp c : Int))] [] b I L := by
  obtain ⟨-, k10, k11, -, -⟩ := id hK
  obtain ⟨e1, e2, e3, e4⟩ := bs_end hb
  obtain ⟨n1, n2, n3⟩ := nxb_in hb
  have hnx : nxb O c = 8 * enp c + nxd (fun d => bs O (8 * enp c + d)) (c % 8) := rfl
  have hnl := bs_lt n1
  have hcl := bs_lt hb
  refine T.go [47, 238] 200 ?_
  conv => whnf
  refine ⟨by decide, _, rfl, ?_⟩
  conv => whnf
  refine ⟨by decide, ?_⟩
  conv => whnf
  refine ⟨by (try simp [v2_ap]) <;> omega, by decide, ?_⟩
  conv => whnf
  refine ⟨by (try simp [v2_ap]) <;> omega, by decide, ?_⟩
  conv => whnf
  refine ⟨by decide, _, rfl, ?_⟩
  conv => whnf
  refine ⟨by decide, ?_⟩
  conv => whnf
  refine ⟨by (try simp [v2_ap]) <;> omega, by decide, ?_⟩
  conv => whnf
  refine ⟨by omega, ?_⟩
  conv => whnf
  refine ⟨by (try simp [v2_ap]) <;> omega, by decide, ?_⟩
  conv => whnf
  refine ⟨by decide, _, rfl, ?_⟩
  conv => whnf
  refine ⟨by decide, ?_⟩
  conv => whnf
  refine ⟨by (try simp [v2_ap]) <;> omega, by decide, ?_⟩
  conv => whnf
  refine ⟨by omega, ?_⟩
  conv => whnf
  refine ⟨by (try simp [v2_ap]) <;> omega, by decide, ?_⟩
  conv => whnf
  refine ⟨by decide, _, rfl, ?_⟩
  conv => whnf
  refine ⟨by decide, ?_⟩
  conv => whnf
  refine ⟨by (try simp [v2_ap]) <;> omega, by decide, ?_⟩
  conv => whnf
  refine ⟨by omega, ?_⟩
  conv => whnf
  refine ⟨by omega, Or.inl ⟨by omega, ?_⟩⟩
  conv => whnf
  refine ⟨by omega, ?_⟩
  conv => whnf
  refine ⟨by omega, Or.inl ⟨by omega, ?_⟩⟩
  conv => whnf
  refine ⟨by (try simp [v2_ap]) <;> omega, by decide, ?_⟩
  conv => whnf
  refine zinv0 (s_X12_nextAt T (p := enp c) (w := c % 8) (z := nxb O c % 8) (bs O) (by exact fun e he => by rw [v2_ne (by omega), v2_ne (by omega), v2_ne (by omega), v2_ne (by omega), hfr _ _ (by unfold PWk; omega)]; exact hB e he) (by exact e1) (by omega) (by exact ⟨by omega, by rw [show 8 * enp c + nxb O c % 8 = nxb O c by omega]; exact n1⟩) ?_)
  rw [← hnx]
  conv => whnf
  refine ⟨by omega, fun c235 => ?_, fun c235 => ?_⟩
  · conv => whnf
    refine T.fg [4, 5, 6] ?_
    refine hne _ ((((hfr.v2 (by unfold PWk; omega)).v2 (by unfold PWk; omega)).v2 (by unfold PWk; omega)).v2 (by unfold PWk; omega)) (hK.fin hE.1 (fun j => by by_cases e : j = (oE (addB s c) : Int) - 1 <;> simp [v2_ap, k10, k11, e]) (fun j => by by_cases e : j = (oL s : Int) <;> simp [v2_ap, k10, k11, e]) (fun j => by by_cases e : j = (oL s : Int) <;> simp [v2_ap, k10, k11, e]) (fun j => by by_cases e : j = (oL s : Int) <;> simp [v2_ap, k10, k11, e]) (fun a b g1 g2 => ?_)) (by omega)
    rw [v2_ne (by omega), v2_ne (by omega), v2_ne (by omega), v2_ne (by omega)]
  · conv => whnf
    refine T.fg [1, 2, 3, 4, 5, 6] ?_
    refine heq _ ((((hfr.v2 (by unfold PWk; omega)).v2 (by unfold PWk; omega)).v2 (by unfold PWk; omega)).v2 (by unfold PWk; omega)) (hK.fin hE.1 (fun j => by by_cases e : j = (oE (addB s c) : Int) - 1 <;> simp [v2_ap, k10, k11, e]) (fun j => by by_cases e : j = (oL s : Int) <;> simp [v2_ap, k10, k11, e]) (fun j => by by_cases e : j = (oL s : Int) <;> simp [v2_ap, k10, k11, e]) (fun j => by by_cases e : j = (oL s : Int) <;> simp [v2_ap, k10, k11, e]) (fun a b g1 g2 => ?_)) (by omega)
    rw [v2_ne (by omega), v2_ne (by omega), v2_ne (by omega), v2_ne (by omega)]
theorem OSm.endl {I I' : ZI} {s : OS} (h : OSm I s (oL s + 1)) (h1 : I' 603 34 = (oL s : Int) + 1) (h3 : ∀ j, I' 624 j = if j = (oL s : Int) + 1 then (oE s : Int) else I 624 j) (h2 : ∀ (a : Nat) (b : Int), ¬ (a = 603 ∧ b = 34) → a ≠ 624 → I' a b = I a b) : OSm I' (endL s) (oL s + 1) := by
  obtain ⟨a1, a2, a3, a4, a5, -⟩ := h
  refine ⟨fun e he => by rw [h2 _ _ (by omega) (by omega)]; exact a1 e he, ?_, by rw [h2 _ _ (by omega) (by omega)]; exact a3, fun i hi => ?_, fun i hi => ?_, fun g _ => ?_⟩
  · rw [h1]
    show _ = ((oL s + 1 : Nat) : Int)
    omega
  · rw [h2 _ _ (by omega) (by omega), h2 _ _ (by omega) (by omega), h2 _ _ (by omega) (by omega), h2 _ _ (by omega) (by omega)]
    exact a4 i hi
  · rw [h3, if_neg (by omega), h2 _ _ (by omega) (by omega), h2 _ _ (by omega) (by omega), h2 _ _ (by omega) (by omega)]
    exact a5 i hi
  · rw [h3, if_pos (by omega)]
    rfl
theorem l_mwkE (T : ZTh (XX Ln xs) CZ RZ) {d b : Nat} {Q : ZQ} {s : OS} {I0 I : ZI} {L : ZL} (hfr : Fr PWk I0 I) (hS : OSm I s (oL s + 1)) (hr : oE s ≤ 192 ∧ oL s < 192) (h : ∀ I', Fr PWk I0 I' → OSm I' (endL s) (oL s + 1) → Q (.inl none) I' L) : RZ (d + 2) k_X12_walks Q 238 [.inr (.ref 603, 13), zj, zj, zj, zj, zj, zj] [] b I L := by
  obtain ⟨-, k10, k11, -, -⟩ := id hS
  refine T.go [] 90 ?_
  conv => whnf
  refine ⟨by decide, ?_⟩
  conv => whnf
  refine ⟨by decide, ?_⟩
  conv => whnf
  refine ⟨by decide, _, rfl, ?_⟩
  conv => whnf
  refine ⟨by decide, ?_⟩
  conv => whnf
  refine ⟨by decide, ?_⟩
  conv => whnf
  refine ⟨by (try simp [v2_ap]) <;> omega, by decide, ?_⟩
  conv => whnf
  refine h _ ((hfr.v2 (by unfold PWk; omega)).v2 (by unfold PWk; omega)) (hS.endl ?_ (fun j => ?_) (fun a b g1 g2 => ?_))
  · rw [v2_ne (by omega), v2_eq, k10]
  · by_cases e : j = (oL s : Int) + 1 <;> simp [v2_ap, k10, k11, e]
  · rw [v2_ne (by omega), v2_ne (by omega)]
theorem l_mwk (T : ZTh (XX Ln xs) CZ RZ) {d b : Nat} {Q : ZQ} {O W0 : Nat → Bool} {f L0 : Nat} {I0 : ZI} {L : ZL} (hO : cn O 576 ≤ 64) (hB : ∀ e : Nat, e < 5000 → I0 621 (e : Int) = bi (bs O e)) (m : Nat) : ∀ (n c : Nat) (s : OS) (x : Int) (I : ZI), (GW O W0 f s n c) → (Fr PWk I0 I) → (OSm I s (oL s + 1)) → (BI s (oL s + 1)) → (oL s = L0) → ((oEC s (oL s) = 0 ∧ x = -1) ∨ (0 < oEC s (oL s) ∧ 1 ≤ oE s ∧ x = oD s (oE s - 1))) → (∀ I', Fr PWk I0 I' → OSm I' (endL (wk O (192 - n) s f c)) (L0 + 1) → BI (endL (wk O (192 - n) s f c)) (L0 + 1) → Q (.inl none) I' L) → 192 - (n : Int) < (m : Int) → RZ (d + 2) k_X12_walks Q 47 [.inr (.ref 603, 13), .inl ((f : Int)), .inl ((c : Int)), .inl x, zj, zj, zj] [] b I L := by
  induction m with
  | zero =>
    intro n c s x I hG hfr hS hBI hL hx h hm
    have := hG.2.2.2.1
    exfalso
    omega
  | succ m ih =>
    intro n c s x I hG hfr hS hBI hL hx h hm
    obtain ⟨g1, g2, g3⟩ := hG.fresh
    obtain ⟨e1, e2, e3, e4⟩ := bs_end g1
    obtain ⟨r1, r2⟩ := hG.room hO
    have hn9 := hG.2.2.2.1
    obtain ⟨-, k10, k11, -, -⟩ := id hS
    have hec : 0 ≤ oEC s (oL s) := hG.2.2.2.2.2.2.2.2.2.2.2.2.2.1
    have hxb : -1 ≤ x ∧ x < 8 := by
      rcases hx with ⟨-, e⟩ | ⟨-, e0, e⟩
      · omega
      · have := hBI.1 (oE s - 1) (by omega)
        omega
    have hf9 : f < 5000 := bs_lt hG.1
    have BB : ∀ (I1 : ZI), Fr PWk I0 I1 → WkM I1 s c → 1 ≤ oE (addB s c) ∧ oE (addB s c) ≤ 192 → ((0 < oEC (addB s c) (oL s) ∧ 1 ≤ oE (addB s c) ∧ ((c : Int) % 8) = oD (addB s c) (oE (addB s c) - 1))) → RZ (d + 2) k_X12_walks Q 137 [.inr (.ref 603, 13), .inl (f : Int), zj, zj, .inl ((c : Int) % 8), .inl ((c : Int) / 8), .inl (enp c : Int)] [] b I1 L := fun I1 f1 w1 w2 w3 => by
      refine l_mwkB T (O := O) (I0 := I0) hB g1 f1 w1 ⟨r1, r2⟩ w2 hf9 (fun I2 f2 o2 hne => ?_) (fun I2 f2 o2 heq => ?_)
      · refine ih (n + 1) (nxb O c) (addB s c) _ I2 (hG.add hO hne) f2 o2 (hBI.add (by omega) g3 e1 g2) hL (Or.inr w3) ?_ (by omega)
        intro I3 f3 o3 b3
        refine h I3 f3 ?_ ?_
        · rw [show 192 - n = (192 - (n + 1)) + 1 by omega]
          unfold wk
          rw [if_neg hne]
          exact o3
        · rw [show 192 - n = (192 - (n + 1)) + 1 by omega]
          unfold wk
          rw [if_neg hne]
          exact b3
      · have hwk : wk O (192 - n) s f c = addB s c := by
          rw [show 192 - n = (191 - n) + 1 by omega]
          unfold wk
          rw [if_pos heq]
        rw [hwk, ← hL] at h
        exact l_mwkE T (s := addB s c) (I0 := I0) f2 o2 ⟨w2.2, r2⟩ (fun I3 f3 o3 => h I3 f3 o3 (hBI.add (by omega) g3 e1 g2))
    refine T.go [137] 200 ?_
    conv => whnf
    refine ⟨by omega, ?_⟩
    conv => whnf
    refine ⟨by omega, Or.inl ⟨by omega, ?_⟩⟩
    conv => whnf
    refine zinv0 (s_X12_endOf T (e := c) (by exact g3) (by exact e4) ?_)
    conv => whnf
    refine ⟨by decide, _, rfl, ?_⟩
    conv => whnf
    refine ⟨by omega, ⟨by decide, by decide, by omega⟩, ?_⟩
    conv => whnf
    refine ⟨by omega, fun c75 => ?_, fun c75 => ?_⟩
    · conv => whnf
      refine T.fg [2, 3] ?_
      have ho : onE s c = true := by
        unfold onE
        rcases hx with ⟨-, e⟩ | ⟨q1, q2, q3⟩
        · omega
        · rw [decide_eq_true q1, decide_eq_true (show oD s (oE s - 1) = ((c % 8 : Nat) : Int) by omega)]
          rfl
      have hpos : 0 < oEC s (oL s) ∧ 1 ≤ oE s ∧ x = oD s (oE s - 1) := by
        rcases hx with ⟨-, e⟩ | q
        · omega
        · exact q
      have d0 := (addB_E s c).1 ho
      have d1 : oD (addB s c) = oD s := by show (bif onE s c then _ else _) = _; rw [ho]; rfl
      refine BB _ (hfr.v2 (by unfold PWk; omega)) (WkM.old hS ho (fun j => ?_) (fun a b g => v2_ne (by omega))) (by rw [d0.1]; omega) (by rw [d0.1, d0.2, d1]; omega)
      rw [v2_ap]
      exact if_cg ⟨fun g => g.2, fun g => ⟨rfl, g⟩⟩ rfl rfl
    · conv => whnf
      refine ⟨by decide, _, rfl, ?_⟩
      conv => whnf
      refine ⟨by decide, ?_⟩
      conv => whnf
      refine ⟨by (try simp [v2_ap]) <;> omega, by decide, ?_⟩
      conv => whnf
      refine ⟨by decide, _, rfl, ?_⟩
      conv => whnf
      refine ⟨by decide, ?_⟩
      conv => whnf
      refine ⟨by (try simp [v2_ap]) <;> omega, by decide, ?_⟩
      conv => whnf
      refine ⟨by decide, _, rfl, ?_⟩
      conv => whnf
      refine ⟨by decide, ?_⟩
      conv => whnf
      refine ⟨by omega, ?_⟩
      conv => whnf
      refine ⟨by (try simp [v2_ap]) <;> omega, by decide, ?_⟩
      conv => whnf
      refine ⟨by decide, _, rfl, ?_⟩
      conv => whnf
      refine ⟨by decide, ?_⟩
      conv => whnf
      refine ⟨by omega, Or.inl ⟨by omega, ?_⟩⟩
      conv => whnf
      refine ⟨by (try simp [v2_ap]) <;> omega, by decide, ?_⟩
      conv => whnf
      refine ⟨by decide, ?_⟩
      conv => whnf
      refine ⟨by decide, ?_⟩
      conv => whnf
      refine T.fg [2, 3] ?_
      have ho : onE s c = false := by
        unfold onE
        rcases hx with ⟨q1, -⟩ | ⟨q1, q2, q3⟩
        · rw [decide_eq_false (by omega)]
          rfl
        · rw [decide_eq_false (show ¬ oD s (oE s - 1) = ((c % 8 : Nat) : Int) by omega), Bool.and_false]
      have d0 := (addB_E s c).2 ho
      have d1 : oD (addB s c) = up (oD s) (oE s) ((c % 8 : Nat) : Int) := by show (bif onE s c then _ else _) = _; rw [ho]; rfl
      refine BB _ ((((((hfr.v2 (by unfold PWk; omega)).v2 (by unfold PWk; omega)).v2 (by unfold PWk; omega)).v2 (by unfold PWk; omega)).v2 (by unfold PWk; omega)).v2 (by unfold PWk; omega)) (WkM.new hS ho (fun j => ?_) (fun j => ?_) (fun j => ?_) (fun j => ?_) (fun j => ?_) ?_ (fun a b g1 g3 g4 => ?_)) (by rw [d0.1]; omega) (by rw [d0.1, d0.2, d1, up_eq, Nat.add_sub_cancel, up_eq]; omega)
      · by_cases e : j = (c : Int) <;> simp [v2_ap, e]
      · by_cases e : j = (oE s : Int) <;> simp [v2_ap, k11, e]
      · by_cases e : j = (oE s : Int) <;> simp [v2_ap, k11, e]
      · by_cases e : j = (oE s : Int) <;> simp [v2_ap, k11, e]
      · by_cases e : j = (oE s : Int) <;> simp [v2_ap, k11, e]
      · simp [v2_ap, k11]
      · rw [v2_ne (by omega), v2_ne (by omega), v2_ne (by omega), v2_ne (by omega), v2_ne (by omega), v2_ne (by omega)]
theorem s_X12_walks (T : ZTh (XX Ln xs) CZ RZ) {d b : Nat} {f : Nat} (O : Nat → Bool) (s : OS) {I : ZI} {L : ZL} {Q : ZQ} (hO : cn O 576 ≤ 64) (hB : ∀ e : Nat, e < 5000 → I 621 (e : Int) = bi (bs O e)) (hW : WI O s) (hS : OSm I s (oL s)) (hBI : BI s (oL s)) (hb : bs O f = true ∧ oW s f = false) (hr : oL s < 192) (h : ∀ I', Fr PWk I I' → OSm I' (walk1 O s f) (oL s + 1) → BI (walk1 O s f) (oL s + 1) → Q (.inl none) I' L) : CZ (d + 3) k_X12_walks [.inr (.ref 603, 13), .inl ((f : Int))] b I L Q := by
  refine T.call rfl ?_
  obtain ⟨k9, k10, k11, ke, kl, -⟩ := id hS
  have hG := GW.beg hW hb.1 hb.2
  have hfl := bs_lt hb.1
  refine T.go [47] 200 ?_
  conv => whnf
  refine ⟨by decide, _, rfl, ?_⟩
  conv => whnf
  refine ⟨by decide, ?_⟩
  conv => whnf
  refine ⟨by (try simp [v2_ap]) <;> omega, by decide, ?_⟩
  conv => whnf
  refine ⟨by decide, _, rfl, ?_⟩
  conv => whnf
  refine ⟨by decide, ?_⟩
  conv => whnf
  refine ⟨by (try simp [v2_ap]) <;> omega, by decide, ?_⟩
  conv => whnf
  refine ⟨by decide, _, rfl, ?_⟩
  conv => whnf
  refine ⟨by decide, ?_⟩
  conv => whnf
  refine ⟨by (try simp [v2_ap]) <;> omega, by decide, ?_⟩
  conv => whnf
  refine ⟨by decide, _, rfl, ?_⟩
  conv => whnf
  refine ⟨by decide, ?_⟩
  conv => whnf
  refine ⟨by decide, ?_⟩
  conv => whnf
  refine ⟨by (try simp [v2_ap]) <;> omega, by decide, ?_⟩
  conv => whnf
  refine l_mwk T (O := O) (W0 := oW s) (f := f) (L0 := oL s) (I0 := I) hO hB 193 0 f (begL s) _ _ hG (((((Fr.refl I).v2 (by unfold PWk; omega)).v2 (by unfold PWk; omega)).v2 (by unfold PWk; omega)).v2 (by unfold PWk; omega)) ⟨fun e he => ?_, ?_, ?_, fun i hi => ?_, fun i hi => ?_, fun g _ => ?_⟩ (BI.beg hBI) rfl (Or.inl ⟨up_eq _ _ _, rfl⟩) (fun I2 f2 o2 b2 => h I2 f2 o2 b2) (by omega)
  · rw [v2_ne (by omega), v2_ne (by omega), v2_ne (by omega), v2_ne (by omega)]; exact k9 e he
  · rw [v2_ne (by omega), v2_ne (by omega), v2_ne (by omega), v2_ne (by omega)]; exact k10
  · rw [v2_ne (by omega), v2_ne (by omega), v2_ne (by omega), v2_ne (by omega)]; exact k11
  · have hi2 : i < oE s := hi
    obtain ⟨g1, g2, g3⟩ := ke i hi2
    simp [v2_ap]
    exact ⟨g1, g2, g3⟩
  · have w1 : oFE (begL s) = up (oFE s) (oL s) (oE s) := rfl
    have w3 : oLG (begL s) = up (oLG s) (oL s) 0 := rfl
    have w4 : oSH (begL s) = up (oSH s) (oL s) 0 := rfl
    have w5 : oAR (begL s) = up (oAR s) (oL s) 0 := rfl
    have w6 : oL (begL s) = oL s := rfl
    rw [w6] at hi
    rw [w1, w3, w4, w5]
    simp [v2_ap, k10, k11]
    by_cases e : i = oL s
    · subst e
      simp [up_eq]
    · have e2 : ¬ ((i : Int) = (oL s : Int)) := by omega
      obtain ⟨g1, g2, g3, g4⟩ := kl i (by omega)
      simp [up_ne e, e, e2, g1, g2, g3, g4]
  · exact absurd g (by show ¬ oL s + 1 = oL s; omega)
end
