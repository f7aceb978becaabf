/-! THE REFERENCE, 3: the past, bits -/
section
variable {Ln : Nat} {xs : Nat → Int32} {CZ : Nat → ZC} {RZ : Nat → Nat → ZQ → ZP}
/-- the past's row -/
def PKe : Nat → Int → Prop := fun a b => a = 606 ∨ (a = 603 ∧ b = 7)
theorem l_keeps (T : ZTh (XX Ln xs) CZ RZ) {d b : Nat} {Q : ZQ} {I0 : ZI} {L : ZL} (hk2 : ∀ I', Fr PKe I0 I' → I' 603 7 = 7 → (∀ j : Int, 0 ≤ j → j < 1211 → I' 606 j = I0 606 (j + 173)) → RZ (d + 1) k_X12_keeps Q 55 [.inr (.ref 603, 13), zj] [] b I' L) (m : Nat) : ∀ (k : Int) (I : ZI), (0 ≤ k ∧ k ≤ 1211) → (Fr PKe I0 I) → (I 603 7 = 7) → (∀ j : Int, 0 ≤ j → j < 1384 → I 606 j = if j < k then I0 606 (j + 173) else I0 606 j) → 1211 - k < (m : Int) → RZ (d + 1) k_X12_keeps Q 21 [.inr (.ref 603, 13), .inl k] [] b I L := by
  induction m with
  | zero =>
    intro k I hk hfr h7 hv hm
    exfalso
    omega
  | succ m ih =>
    intro k I hk hfr h7 hv hm
    refine T.go [21, 55] 90 ?_
    conv => whnf
    refine ⟨by decide, ?_⟩
    conv => whnf
    refine ⟨by rw [h7]; omega, fun c30 => ?_, fun c30 => ?_⟩
    · conv => whnf
      refine T.fg [1] ?_
      rw [h7] at c30
      exact hk2 I hfr h7 (fun j j0 j1 => by rw [hv j j0 (by omega), if_pos (by omega)])
    · conv => whnf
      refine ⟨by decide, _, rfl, ?_⟩
      conv => whnf
      refine ⟨by decide, _, rfl, ?_⟩
      conv => whnf
      refine ⟨by omega, by decide, ?_⟩
      conv => whnf
      refine ⟨by omega, by decide, ?_⟩
      conv => whnf
      rw [h7] at c30
      refine ih (k + 1) _ (by omega) (hfr.v2 (Or.inl rfl)) (by rw [v2_ne (by omega)]; exact h7) (fun j j0 j1 => ?_) (by omega)
      by_cases e : j = k
      · rw [e, v2_eq, if_pos (by omega), hv (k + 173) (by omega) (by omega), if_neg (by omega)]
      · rw [v2_ne (by omega), hv j j0 j1]
        by_cases e2 : j < k
        · rw [if_pos e2, if_pos (by omega)]
        · rw [if_neg e2, if_neg (by omega)]
theorem l_keepB (T : ZTh (XX Ln xs) CZ RZ) {d b : Nat} {Q : ZQ} {n : Nat} {P : Nat → Mo} {M : Mo} {I0 I : ZI} {L : ZL} (hn : n < 8) (h7 : I 603 7 = n) (hR : RowM I 604 0 M) (hm : mN M ≤ 8) (hP : ∀ i : Nat, i < n → mN (P i) ≤ 8 ∧ RowM I 606 ((173 * i : Nat) : Int) (P i)) (hfr : Fr PKe I0 I) (h : ∀ I', Fr PKe I0 I' → I' 603 7 = ((n + 1 : Nat) : Int) → (∀ i : Nat, i < n + 1 → RowM I' 606 ((173 * i : Nat) : Int) (if i = n then M else P i)) → Q (.inl none) I' L) : RZ (d + 1) k_X12_keeps Q 55 [.inr (.ref 603, 13), zj] [] b I L := by
  refine T.go [] 90 ?_
  conv => whnf
  refine ⟨by decide, _, rfl, ?_⟩
  conv => whnf
  refine ⟨by decide, _, rfl, ?_⟩
  conv => whnf
  refine ⟨by decide, ?_⟩
  conv => whnf
  rw [h7]
  refine zinv0 (s_cp10173_11384 T  (by decide) (by decide) (by decide) (by omega) (by omega) ?_)
  intro I_72 hf_72 hv_72
  have e7 : I_72 603 7 = n := (hf_72 _ _ (by omega)).trans h7
  conv => whnf
  refine ⟨by decide, ?_⟩
  conv => whnf
  refine ⟨by decide, ?_⟩
  conv => whnf
  rw [e7]
  refine h _ ((hfr.trans (hf_72.mono (fun a b c => Or.inl c.1))).v2 (Or.inr ⟨rfl, rfl⟩)) (by rw [v2_eq]; omega) (fun i hi => ?_)
  by_cases e : i = n
  · subst e
    rw [if_pos rfl]
    refine hR.cp hm (fun j j0 j1 => ?_)
    rw [v2_ne (by omega), show ((173 * i : Nat) : Int) = (i : Int) * 173 by omega]
    exact hv_72 j j0 j1
  · rw [if_neg e]
    obtain ⟨p1, p2⟩ := hP i (by omega)
    refine p2.fr p1 (fun j j0 j1 => ?_)
    rw [v2_ne (by omega)]
    exact hf_72 _ _ (by omega)
theorem s_X12_keeps (T : ZTh (XX Ln xs) CZ RZ) {d b : Nat} {W H n bl : Nat} {M : Mo} {P SL : Nat → Mo} {v u : Nat → Int}  {I : ZI} {L : ZL} {Q : ZQ} (hC : MB I W H M P n SL v bl u) (hA : WfA W H M P n SL v) (h : ∀ I', Fr PKe I I' → MB I' W H M (psh P n M) (psn n) SL v bl u → WfA W H M (psh P n M) (psn n) SL v → Q (.inl none) I' L) : CZ (d + 2) k_X12_keeps [.inr (.ref 603, 13)] b I L Q := by
  refine T.call rfl ?_
  obtain ⟨mT, mR, ⟨mW, mH⟩, ⟨mn, mn8⟩, mP, mS9, ⟨mb1, mb2, mb3⟩, mz⟩ := id hC
  obtain ⟨⟨⟨⟨w1, w2, w3, w4⟩, -⟩, w5, w6⟩, wP, wS⟩ := id hA
  have fin : ∀ I', Fr PKe I I' → I' 603 7 = ((psn n : Nat) : Int) → (∀ i : Nat, i < psn n → RowM I' 606 ((173 * i : Nat) : Int) (psh P n M i)) → Q (.inl none) I' L := fun I' f1 f2 f3 => by
    have e : ∀ (a : Nat) (b : Int), a ≠ 606 → ¬ (a = 603 ∧ b = 7) → I' a b = I a b := fun a b g1 g2 => f1 a b (by unfold PKe; omega)
    refine h I' f1 ⟨mT.fr (fun a b _ _ => e _ _ (by omega) (by omega)), mR.fr w5 (fun j _ _ => e _ _ (by omega) (by omega)), ⟨(e _ _ (by omega) (by omega)).trans mW, (e _ _ (by omega) (by omega)).trans mH⟩, ⟨f2, by unfold psn; split <;> omega⟩, f3, fun t ht => ?_, ⟨(e _ _ (by omega) (by omega)).trans mb1, mb2, fun i hi => ?_⟩, ?_⟩ ⟨hA.1, psh_wf mn8 hA.1 wP, wS⟩
    · rw [e _ _ (by omega) (by omega)]
      obtain ⟨b1, b2, b3⟩ := mS9 t ht
      exact ⟨b1, b2, fun g => (b3 g).fr (wS t ht g).2.1 (fun j _ _ => e _ _ (by omega) (by omega))⟩
    · rw [e _ _ (by omega) (by omega)]; exact mb3 i hi
    · rw [e _ _ (by omega) (by omega)]; exact mz
  refine T.go [21, 55] 90 ?_
  conv => whnf
  refine ⟨by decide, ?_⟩
  conv => whnf
  refine ⟨by rw [mn]; omega, fun c6 => ?_, fun c6 => ?_⟩
  · conv => whnf
    have nl : n < 8 := by omega
    refine l_keepB T (n := n) (P := P) (M := M) (I0 := I) nl mn mR w5 (fun i hi => ⟨(wP i hi).2.1, mP i hi⟩) (Fr.refl I) (fun I2 f1 f2 f3 => fin I2 f1 ?_ ?_)
    · unfold psn; rw [if_neg (by omega)]; exact f2
    · unfold psn psh; rw [if_neg (by omega), if_neg (by omega)]; exact f3
  · conv => whnf
    have n8 : n = 8 := by omega
    refine ⟨by decide, ?_⟩
    conv => whnf
    refine ⟨by decide, ?_⟩
    conv => whnf
    subst n8
    rw [mn]
    refine l_keeps T (I0 := I) (fun I1 g1 g2 g3 => ?_) 1212 0 _ (by omega) ((Fr.refl I).v2 (Or.inr ⟨rfl, rfl⟩)) (by rw [v2_eq]; omega) (fun j j0 j1 => by rw [if_neg (by omega), v2_ne (by omega)]) (by omega)
    refine l_keepB T (n := 7) (P := fun i => P (i + 1)) (M := M) (I0 := I) (by omega) g2 (mR.fr w5 (fun j _ _ => g1 _ _ (by unfold PKe; omega))) w5 (fun i hi => ⟨(wP (i + 1) (by omega)).2.1, ?_⟩) g1 (fun I2 f1 f2 f3 => fin I2 f1 f2 f3)
    refine (mP (i + 1) (by omega)).cp (wP (i + 1) (by omega)).2.1 (fun j j0 j1 => ?_)
    rw [g3 _ (by omega) (by omega), show ((173 * i : Nat) : Int) + j + 173 = ((173 * (i + 1) : Nat) : Int) + j by omega]
theorem s_X12_hasBit (T : ZTh (XX Ln xs) CZ RZ) {d b : Nat} {k q : Nat} {M : Mo} {I : ZI} {L : ZL} {Q : ZQ} (hR : RowM I 604 0 M) (hk : k < mN M ∧ mN M ≤ 8) (hq : q < 576) (h : Q (.inl (some (.inl (bi (mS M k q))))) I L) : CZ (d + 1) k_X12_hasBit [.inr (.ref 604, 10173), .inl ((k : Int)), .inl ((q : Int))] b I L Q := by
  refine T.call rfl ?_
  obtain ⟨g1, g2⟩ := hR.2.2 k hk.1 q hq
  rw [show (0 : Int) + ((29 + 18 * k + q / 32 : Nat) : Int) = 29 + 18 * (k : Int) + (q : Int) / 32 by omega] at g1 g2
  have e9 : ((q : Int) % 32).toNat = q % 32 := by omega
  unfold bW1 at g2
  have hz1 := zand_1 (I 604 (29 + 18 * (k : Int) + (q : Int) / 32) / 2 ^ (q % 32))
  refine T.go [] 90 ?_
  conv => whnf
  refine ⟨by omega, Or.inl ⟨by omega, ?_⟩⟩
  conv => whnf
  refine ⟨by omega, by decide, ?_⟩
  conv => whnf
  refine ⟨by omega, ?_⟩
  conv => whnf
  refine ⟨by exact ⟨g1, by omega, by omega⟩, ?_⟩
  conv => whnf
  refine ⟨by rw [e9]; exact ⟨⟨by omega, by omega⟩, ⟨by omega, by omega⟩⟩, fun c22 => ?_, fun c22 => ?_⟩
  · conv => whnf
    refine ⟨by omega, ?_⟩
    rw [e9] at c22
    rw [← g2, decide_eq_false c22] at h
    exact h
  · conv => whnf
    refine ⟨by omega, ?_⟩
    rw [e9] at c22
    rw [← g2, decide_eq_true c22] at h
    exact h
theorem s_X12_setsBit (T : ZTh (XX Ln xs) CZ RZ) {d b : Nat} {r k q : Nat} {I : ZI} {L : ZL} {Q : ZQ} (hn : r ≠ 304 ∧ r ≠ 578) (hk : k < 8) (hq : q < 576) (h : Q (.inl none) (v2 I r (29 + 18 * (k : Int) + (q : Int) / 32) (zor (I r (29 + 18 * (k : Int) + (q : Int) / 32)) (1 * 2 ^ ((q : Int) % 32).toNat))) L) : CZ (d + 1) k_X12_setsBit [.inr (.ref r, 10173), .inl ((k : Int)), .inl ((q : Int))] b I L Q := by
  refine T.call rfl ?_
  refine T.go [] 90 ?_
  conv => whnf
  refine ⟨by omega, Or.inl ⟨by omega, ?_⟩⟩
  conv => whnf
  refine ⟨by omega, (show (¬ (_ : Nat) = _) ∧ (¬ (_ : Nat) = _) from by omega), ?_⟩
  conv => whnf
  refine ⟨by omega, ?_⟩
  conv => whnf
  refine ⟨by omega, ?_⟩
  conv => whnf
  refine ⟨by omega, (show (¬ (_ : Nat) = _) ∧ (¬ (_ : Nat) = _) from by omega), ?_⟩
  conv => whnf
  exact h
end
