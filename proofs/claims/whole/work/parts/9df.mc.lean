/-! THE REFERENCE CHANGES, 4: undo, snapshots -/
section
variable {Ln : Nat} {xs : Nat → Int32} {CZ : Nat → ZC} {RZ : Nat → Nat → ZQ → ZP}
theorem MB.un {I I' : ZI} {W H : Nat} {M : Mo} {P : Nat → Mo} {n : Nat} {SL : Nat → Mo} {v : Nat → Int} {bl : Nat} {u : Nat → Int} (h : MB I W H M P n SL v bl u) (hW : WfA W H M P n SL v) {M' : Mo} {m : Nat} (hm : m ≤ n) (hR : RowM I' 604 0 M') (h7 : I' 603 7 = m) (h1 : ∀ (a : Nat) (b : Int), 603 ≤ a → ¬ PSc a b → a ≠ 604 → ¬ (a = 603 ∧ b = 7) → I' a b = I a b) : MB I' W H M' P m SL v bl u := by
  obtain ⟨a1, a2, ⟨a3, a4⟩, ⟨a5, a6⟩, a7, a8, ⟨a9, a10, a11⟩, a12⟩ := h
  have e : ∀ (a : Nat) (b : Int), 605 < a → ¬ (620 ≤ a ∧ a ≤ 640) → a ≠ 642 → I' a b = I a b := fun a b g1 g2 g3 => h1 a b (by omega) (by unfold PSc; omega) (by omega) (by omega)
  refine ⟨a1.fr (fun a b _ _ => e a b (by omega) (by omega) (by omega)), hR, ⟨?_, ?_⟩, ⟨h7, by omega⟩, fun i hi => (a7 i (by omega)).fr (hW.2.1 i (by omega)).2.1 (fun j _ _ => e _ _ (by omega) (by omega) (by omega)), fun t ht => ?_, ⟨?_, a10, fun i hi => ?_⟩, ?_⟩
  · rw [h1 _ _ (by omega) (by unfold PSc; omega) (by omega) (by omega)]; exact a3
  · rw [h1 _ _ (by omega) (by unfold PSc; omega) (by omega) (by omega)]; exact a4
  · rw [e _ _ (by omega) (by omega) (by omega)]
    obtain ⟨b1, b2, b3⟩ := a8 t ht
    exact ⟨b1, b2, fun g => (b3 g).fr (hW.2.2 t ht g).2.1 (fun j _ _ => e _ _ (by omega) (by omega) (by omega))⟩
  · rw [h1 _ _ (by omega) (by unfold PSc; omega) (by omega) (by omega)]; exact a9
  · rw [e _ _ (by omega) (by omega) (by omega)]; exact a11 i hi
  · rw [h1 _ _ (by omega) (by unfold PSc; omega) (by omega) (by omega)]; exact a12
theorem s_X12_undo (T : ZTh (XX Ln xs) CZ RZ) {d b : Nat} {W H n bl : Nat} {M : Mo} {P SL : Nat → Mo} {v u : Nat → Int}  {I : ZI} {L : ZL} {Q : ZQ} (hC : MB I W H M P n SL v bl u) (hA : WfA W H M P n SL v) (h : 0 < n → ∀ I', Fr PMd I I' → I' 603 8 = 0 → MB I' W H (P (n - 1)) P (n - 1) SL v bl u → Q (.inl (some (.inl (((n - 1 : Nat) : Int))))) I' L) (h2 : n = 0 → ∀ I', Fr PSc I I' → I' 603 8 = 0 → MB I' W H M P n SL v bl u → Q (.inl (some (.inl ((-1))))) I' L) : CZ (d + 2) k_X12_undo [.inr (.ref 603, 13)] b I L Q := by
  refine T.call rfl ?_
  obtain ⟨mT, mR, ⟨mW, mH⟩, ⟨mn, mn8⟩, mP, mS9, ⟨mb1, mb2, mb3⟩, mz⟩ := id hC
  obtain ⟨⟨⟨⟨w1, w2, w3, w4⟩, -⟩, w5, w6⟩, wP, wS⟩ := id hA
  have hC0 := hC.th hA 0
  have m0 : v2 I 603 8 0 603 7 = n := (v2_ne (by omega)).trans mn
  refine T.go [] 90 ?_
  conv => whnf
  refine ⟨by decide, ?_⟩
  conv => whnf
  refine ⟨by decide, ?_⟩
  conv => whnf
  rw [m0]
  refine ⟨by omega, fun c9 => ?_, fun c9 => ?_⟩
  · conv => whnf
    refine ⟨by decide, ?_⟩
    conv => whnf
    refine ⟨by decide, ?_⟩
    conv => whnf
    refine ⟨by decide, _, rfl, ?_⟩
    conv => whnf
    refine ⟨by decide, ?_⟩
    conv => whnf
    refine ⟨by decide, _, rfl, ?_⟩
    conv => whnf
    rw [v2_eq, m0]
    refine zinv0 (s_cp11384_10173 T  (by decide) (by decide) (by decide) (by omega) (by omega) ?_)
    intro I_41 hf_41 hv_41
    conv => whnf
    refine ⟨by decide, ?_⟩
    conv => whnf
    have hn0 : 0 < n := by omega
    have e7 : I_41 603 7 = ((n - 1 : Nat) : Int) := by rw [hf_41 _ _ (by omega), v2_eq]; omega
    rw [e7]
    refine h hn0 I_41 ((((Fr.refl I).v2 (by unfold PMd; omega)).v2 (by unfold PMd; omega)).trans (hf_41.mono (fun a b c => by unfold PMd; omega))) (by rw [hf_41 _ _ (by omega), v2_ne (by omega), v2_eq]) (hC0.un hA (by omega) ((mP (n - 1) (by omega)).cp (wP (n - 1) (by omega)).2.1 (fun j j0 j1 => ?_)) e7 (fun a b g1 g2 g3 g4 => ?_))
    · rw [hv_41 j j0 j1, v2_ne (by omega), v2_ne (by omega), show ((n : Int) - 1) * 173 + j = ((173 * (n - 1) : Nat) : Int) + j by omega]
    · rw [hf_41 _ _ (by omega), v2_ne (by omega)]
  · conv => whnf
    exact h2 (by omega) _ (frTh I 0) (v2_eq _ _ _ _) hC0
theorem s_X12_saveSnapshot (T : ZTh (XX Ln xs) CZ RZ) {d b : Nat} {W H n bl : Nat} {M : Mo} {P SL : Nat → Mo} {v u : Nat → Int} {k : Int} {I : ZI} {L : ZL} {Q : ZQ} (hC : MB I W H M P n SL v bl u) (hA : WfA W H M P n SL v) (hk : zR k) (h : 0 ≤ k ∧ k < 2 → ∀ I', Fr PMd I I' → I' 603 8 = 0 → MB I' W H M P n (fun t => if t = k.toNat then M else SL t) (fun t => if t = k.toNat then 1 else v t) bl u → Q (.inl (some (.inl (v k.toNat)))) I' L) (h2 : ¬ (0 ≤ k ∧ k < 2) → ∀ I', Fr PSc I I' → I' 603 8 = 1 → MB I' W H M P n SL v bl u → Q (.inl (some (.inl (0)))) I' L) : CZ (d + 2) k_X12_saveSnapshot [.inr (.ref 603, 13), .inl k] b I L Q := by
  refine T.call rfl ?_
  obtain ⟨mT, mR, ⟨mW, mH⟩, ⟨mn, mn8⟩, mP, mS9, ⟨mb1, mb2, mb3⟩, mz⟩ := id hC
  obtain ⟨⟨⟨⟨w1, w2, w3, w4⟩, -⟩, w5, w6⟩, wP, wS⟩ := id hA
  refine T.go [] 120 ?_
  conv => whnf
  refine ⟨by omega, ?_⟩
  conv => whnf
  refine zinv0 (s_X12_isIn T (v := k) (a := 0) (z := 1) (by omega) (by omega) (by omega) ?_ ?_)
  · intro cha_5
    conv => whnf
    refine ⟨by decide, fun _ => ?_, fun c => absurd c (by decide)⟩
    conv => whnf
    refine zinv0 (s_fails0 T   ?_)
    have hC0 := hC.th hA 0
    obtain ⟨k, rfl⟩ := Int.eq_ofNat_of_zero_le cha_5.1
    have hk2 : k < 2 := by omega
    have hkm : ((k : Nat) : Int).toNat = k := Int.toNat_natCast k
    obtain ⟨b1, b2, b3⟩ := hC0.2.2.2.2.2.1 k hk2
    obtain ⟨d1, d2, d3⟩ := mS9 k hk2
    conv => whnf
    refine ⟨by decide, fun _ => ?_, fun c => absurd c (by decide)⟩
    conv => whnf
    refine ⟨by decide, _, rfl, ?_⟩
    conv => whnf
    refine ⟨by omega, by decide, ?_⟩
    conv => whnf
    refine ⟨by decide, _, rfl, ?_⟩
    conv => whnf
    refine ⟨by decide, _, rfl, ?_⟩
    conv => whnf
    refine zinv0 (s_cp10173_10346 T  (by decide) (by decide) (by decide) (by omega) (by omega) ?_)
    intro I_45 hf_45 hv_45
    conv => whnf
    refine ⟨by decide, _, rfl, ?_⟩
    conv => whnf
    refine ⟨by omega, ⟨by decide, by decide, by omega⟩, ?_⟩
    conv => whnf
    refine ⟨by omega, ?_⟩
    rw [v2_ne (by omega), d1]
    rw [hkm] at h
    have e9 : ∀ (a : Nat) (b : Int), 603 ≤ a → ¬ PSc a b → a ≠ 607 → a ≠ 608 → v2 I_45 608 (k : Int) 1 a b = v2 I 603 8 0 a b := fun a b g1 g2 g3 g4 => by rw [v2_ne (by omega), hf_45 _ _ (by omega)]
    obtain ⟨a1, a2, ⟨a3, a4⟩, ⟨a5, a6⟩, a7, a8, ⟨a9, a10, a11⟩, a12⟩ := id hC0
    refine h (by omega) _ ((((frTh I 0).mono PSc_d).trans (hf_45.mono (fun a b c => by unfold PMd; omega))).v2 (by unfold PMd; omega)) (by rw [v2_ne (by omega), hf_45 _ _ (by omega), v2_eq]) ⟨a1.fr (fun a b _ _ => e9 a b (by omega) (by unfold PSc; omega) (by omega) (by omega)), a2.fr w5 (fun j _ _ => e9 _ _ (by omega) (by unfold PSc; omega) (by omega) (by omega)), ⟨(e9 _ _ (by omega) (by unfold PSc; omega) (by omega) (by omega)).trans a3, (e9 _ _ (by omega) (by unfold PSc; omega) (by omega) (by omega)).trans a4⟩, ⟨(e9 _ _ (by omega) (by unfold PSc; omega) (by omega) (by omega)).trans a5, a6⟩, fun i hi => (a7 i hi).fr (wP i hi).2.1 (fun j _ _ => e9 _ _ (by omega) (by unfold PSc; omega) (by omega) (by omega)), fun t ht => ?_, ⟨(e9 _ _ (by omega) (by unfold PSc; omega) (by omega) (by omega)).trans a9, a10, fun i hi => by rw [e9 _ _ (by omega) (by unfold PSc; omega) (by omega) (by omega)]; exact a11 i hi⟩, by rw [e9 _ _ (by omega) (by unfold PSc; omega) (by omega) (by omega)]; exact a12⟩
    dsimp only
    by_cases e : t = k
    · subst e
      rw [v2_eq, if_pos rfl, if_pos rfl]
      refine ⟨rfl, Or.inr rfl, fun _ => ?_⟩
      refine a2.cp w5 (fun j j0 j1 => ?_)
      rw [v2_ne (by omega), show ((173 * t : Nat) : Int) + j = (t : Int) * 173 + j by omega]
      exact hv_45 j j0 j1
    · obtain ⟨c1, c2, c3⟩ := a8 t ht
      rw [if_neg e, if_neg e, v2_ne (by omega), hf_45 _ _ (by omega)]
      refine ⟨c1, c2, fun g => ?_⟩
      refine (c3 g).fr (wS t ht g).2.1 (fun j j0 j1 => ?_)
      rw [v2_ne (by omega), hf_45 _ _ (by omega)]
  · intro ch2a_5
    conv => whnf
    refine ⟨by decide, fun c => absurd c (by decide), fun _ => ?_⟩
    conv => whnf
    refine zinv0 (s_fails1 T   ?_)
    conv => whnf
    refine ⟨by decide, fun c => absurd c (by decide), fun _ => ?_⟩
    conv => whnf
    refine ⟨by omega, ?_⟩
    exact h2 (fun g => ch2a_5 (by omega)) _ (frTh I 1) (v2_eq _ _ _ _) (hC.th hA 1)
theorem s_X12_restoreSnapshot (T : ZTh (XX Ln xs) CZ RZ) {d b : Nat} {W H n bl : Nat} {M : Mo} {P SL : Nat → Mo} {v u : Nat → Int} {k : Int} {I : ZI} {L : ZL} {Q : ZQ} (hC : MB I W H M P n SL v bl u) (hA : WfA W H M P n SL v) (hk : zR k) (h : 0 ≤ k ∧ k < 2 → v k.toNat = 1 → ∀ I', Fr PMd I I' → I' 603 8 = 0 → MB I' W H (SL k.toNat) P 0 SL v bl u → Q (.inl (some (.inl (plN (SL k.toNat))))) I' L) (h2 : ¬ (0 ≤ k ∧ k < 2) → ∀ I', Fr PSc I I' → I' 603 8 = 1 → MB I' W H M P n SL v bl u → Q (.inl (some (.inl (0)))) I' L) (h3 : 0 ≤ k ∧ k < 2 → ¬ v k.toNat = 1 → ∀ I', Fr PSc I I' → I' 603 8 = 2 → MB I' W H M P n SL v bl u → Q (.inl (some (.inl (0)))) I' L) : CZ (d + 4) k_X12_restoreSnapshot [.inr (.ref 603, 13), .inl k] b I L Q := by
  refine T.call rfl ?_
  obtain ⟨mT, mR, ⟨mW, mH⟩, ⟨mn, mn8⟩, mP, mS9, ⟨mb1, mb2, mb3⟩, mz⟩ := id hC
  obtain ⟨⟨⟨⟨w1, w2, w3, w4⟩, -⟩, w5, w6⟩, wP, wS⟩ := id hA
  refine T.go [] 120 ?_
  conv => whnf
  refine ⟨by omega, ?_⟩
  conv => whnf
  refine zinv0 (s_X12_isIn T (v := k) (a := 0) (z := 1) (by omega) (by omega) (by omega) ?_ ?_)
  · intro cha_5
    conv => whnf
    refine ⟨by decide, fun _ => ?_, fun c => absurd c (by decide)⟩
    conv => whnf
    refine zinv0 (s_fails0 T   ?_)
    have hC0 := hC.th hA 0
    obtain ⟨k, rfl⟩ := Int.eq_ofNat_of_zero_le cha_5.1
    have hk2 : k < 2 := by omega
    have hkm : ((k : Nat) : Int).toNat = k := Int.toNat_natCast k
    obtain ⟨b1, b2, b3⟩ := hC0.2.2.2.2.2.1 k hk2
    obtain ⟨d1, d2, d3⟩ := mS9 k hk2
    conv => whnf
    refine ⟨by decide, fun c => absurd c (by decide), fun _ => ?_⟩
    conv => whnf
    refine ⟨by decide, _, rfl, ?_⟩
    conv => whnf
    refine ⟨by omega, by decide, ?_⟩
    conv => whnf
    rw [v2_ne (by omega), d1]
    refine ⟨by omega, fun c29 => ?_, fun c29 => ?_⟩
    · conv => whnf
      refine zinv0 (s_refuses0 T  (by exact v2_eq _ _ _ _) ?_)
      conv => whnf
      refine ⟨by decide, fun _ => ?_, fun c => absurd c (by decide)⟩
      conv => whnf
      refine ⟨by decide, _, rfl, ?_⟩
      conv => whnf
      refine ⟨by decide, _, rfl, ?_⟩
      conv => whnf
      refine zinv0 (s_cp10346_10173 T  (by decide) (by decide) (by decide) (by omega) (by omega) ?_)
      intro I_60 hf_60 hv_60
      have hv1 : v k = 1 := by omega
      have hRs := (b3 hv1).cp (wS k hk2 hv1).2.1 (fun j j0 j1 => by rw [hv_60 j j0 j1, show ((173 * k : Nat) : Int) + j = (k : Int) * 173 + j by omega] : ∀ j : Int, 0 ≤ j → j < 173 → I_60 604 (0 + j) = v2 I 603 8 0 607 (((173 * k : Nat) : Int) + j))
      conv => whnf
      refine ⟨by decide, ?_⟩
      conv => whnf
      refine zinv0 (s_X12_onBoard T (W := W) (H := H) (SL k) (by exact hRs.fr (wS k hk2 hv1).2.1 (fun j _ _ => v2_ne (by omega))) (by exact (wS k hk2 hv1).1) ?_)
      conv => whnf
      rw [hkm] at h
      refine h (by omega) hv1 _ ((((frTh I 0).mono PSc_d).trans (hf_60.mono (fun a b c => by unfold PMd; omega))).v2 (by unfold PMd; omega)) (by rw [v2_ne (by omega), hf_60 _ _ (by omega), v2_eq]) (hC0.un hA (Nat.zero_le _) (hRs.fr (wS k hk2 hv1).2.1 (fun j _ _ => v2_ne (by omega))) (v2_eq _ _ _ _) (fun a b g1 g2 g3 g4 => ?_))
      rw [v2_ne (by omega), hf_60 _ _ (by omega)]
    · conv => whnf
      refine zinv0 (s_refuses1 T  (by exact v2_eq _ _ _ _) (by omega) ?_)
      conv => whnf
      refine ⟨by decide, fun c => absurd c (by decide), fun _ => ?_⟩
      conv => whnf
      exact h3 (by omega) (by rw [hkm]; omega) _ ((frTh I 0).trans (frTh _ 2)) (v2_eq _ _ _ _) (hC0.th hA 2)
  · intro ch2a_5
    conv => whnf
    refine ⟨by decide, fun c => absurd c (by decide), fun _ => ?_⟩
    conv => whnf
    refine zinv0 (s_fails1 T   ?_)
    conv => whnf
    refine ⟨by decide, fun _ => ?_, fun c => absurd c (by decide)⟩
    conv => whnf
    exact h2 (fun g => ch2a_5 (by omega)) _ (frTh I 1) (v2_eq _ _ _ _) (hC.th hA 1)
end
