/-! THE REFERENCE, TEXTS 4: append -/
section
variable {Ln : Nat} {xs : Nat → Int32} {CZ : Nat → ZC} {RZ : Nat → Nat → ZQ → ZP}
theorem apB_b {u : Nat → Int} {bl : Nat} {a : Int} (h : ∀ i : Nat, i < bl → 0 ≤ u i ∧ u i < 256) : ∀ i : Nat, i < bl + 4 → 0 ≤ apB u bl a i ∧ apB u bl a i < 256 := fun i hi => by
  unfold apB
  by_cases e : bl ≤ i ∧ i < bl + 4
  · rw [if_pos e]
    exact (byB_s (a := a) (k := i - bl) (by omega)).2
  · rw [if_neg e]
    exact h i (by omega)
theorem MB.bu {I I' : ZI} {W H : Nat} {M : Mo} {P : Nat → Mo} {n : Nat} {SL : Nat → Mo} {v : Nat → Int} {bl bl' : Nat} {u u' : Nat → Int} (h : MB I W H M P n SL v bl u) (hW : WfA W H M P n SL v) (h1 : ∀ (a : Nat) (b : Int), a ≠ 641 → ¬ (a = 603 ∧ b = 51) → I' a b = I a b) (h2 : I' 603 51 = bl') (h3 : bl' ≤ 700) (h4 : ∀ i : Nat, i < bl' → 0 ≤ u' i ∧ u' i < 256 ∧ I' 641 i = u' i) : MB I' W H M P n SL v bl' u' := by
  obtain ⟨a1, a2, ⟨a3, a4⟩, ⟨a5, a6⟩, a7, a8, -, a12⟩ := h
  refine ⟨a1.fr (fun a b _ _ => h1 a b (by omega) (by omega)), a2.fr hW.1.2.1 (fun j _ _ => h1 _ _ (by omega) (by omega)), ⟨(h1 _ _ (by omega) (by omega)).trans a3, (h1 _ _ (by omega) (by omega)).trans a4⟩, ⟨(h1 _ _ (by omega) (by omega)).trans a5, a6⟩, fun i hi => (a7 i hi).fr (hW.2.1 i hi).2.1 (fun j _ _ => h1 _ _ (by omega) (by omega)), fun t ht => ?_, ⟨h2, h3, h4⟩, by rw [h1 _ _ (by omega) (by omega)]; exact a12⟩
  rw [h1 _ _ (by omega) (by omega)]
  obtain ⟨b1, b2, b3⟩ := a8 t ht
  exact ⟨b1, b2, fun g => (b3 g).fr (hW.2.2 t ht g).2.1 (fun j _ _ => h1 _ _ (by omega) (by omega))⟩
theorem s_X12_append (T : ZTh (XX Ln xs) CZ RZ) {d b : Nat} {W H n bl : Nat} {M : Mo} {P SL : Nat → Mo} {v u : Nat → Int} {x1 x2 x3 x4 x5 : Int} {I : ZI} {L : ZL} {Q : ZQ} (hC : MB I W H M P n SL v bl u) (hA : WfA W H M P n SL v) (z1 : zR x1) (z2 : zR x2) (z3 : zR x3) (z4 : zR x4) (z5 : zR x5) (h : bl + 20 ≤ 700 → ∀ I', Fr PMd I I' → I' 603 8 = 0 → MB I' W H M P n SL v (bl + 20) (ap5 u bl x1 x2 x3 x4 x5) → Q (.inl (some (.inl (((bl + 20 : Nat) : Int))))) I' L) (h2 : ¬ bl + 20 ≤ 700 → ∀ I', Fr PSc I I' → I' 603 8 = 0 → MB I' W H M P n SL v bl u → Q (.inl (some (.inl ((-1))))) I' L) : CZ (d + 2) k_X12_append [.inr (.ref 603, 13), .inl x1, .inl x2, .inl x3, .inl x4, .inl x5] b I L Q := by
  refine T.call rfl ?_
  obtain ⟨mT, mR, ⟨mW, mH⟩, ⟨mn, mn8⟩, mP, mS9, ⟨mb1, mb2, mb3⟩, mz⟩ := id hC
  obtain ⟨⟨⟨⟨w1, w2, w3, w4⟩, -⟩, w5, w6⟩, wP, wS⟩ := id hA
  have hC0 := hC.th hA 0
  have mb1b : v2 I 603 8 0 603 51 = bl := hC0.2.2.2.2.2.2.1.1
  have mu0 : ∀ i : Nat, i < bl → v2 I 603 8 0 641 (i : Int) = u i := fun i hi => (hC0.2.2.2.2.2.2.1.2.2 i hi).2.2
  refine T.go [] 90 ?_
  conv => whnf
  refine ⟨by decide, ?_⟩
  conv => whnf
  refine ⟨by decide, ?_⟩
  conv => whnf
  rw [mb1b]
  refine ⟨by omega, fun c15 => ?_, fun c15 => ?_⟩
  · conv => whnf
    refine zinv0 (s_X12_putsFour T (a := x1) (bl := bl) u (by omega) (by exact z1) (by omega) (by exact mu0) ?_)
    intro I_22 hf_22 hn_22 hv_22
    conv => whnf
    refine zinv0 (s_X12_putsFour T (a := x2) (bl := bl + 4) (apB u bl x1) (by omega) (by exact z2) (by omega) (by exact hv_22) ?_)
    intro I_27 hf_27 hn_27 hv_27
    conv => whnf
    refine zinv0 (s_X12_putsFour T (a := x3) (bl := bl + 8) (apB (apB u bl x1) (bl + 4) x2) (by omega) (by exact z3) (by omega) (by exact hv_27) ?_)
    intro I_32 hf_32 hn_32 hv_32
    conv => whnf
    refine zinv0 (s_X12_putsFour T (a := x4) (bl := bl + 12) (apB (apB (apB u bl x1) (bl + 4) x2) (bl + 8) x3) (by omega) (by exact z4) (by omega) (by exact hv_32) ?_)
    intro I_38 hf_38 hn_38 hv_38
    conv => whnf
    refine zinv0 (s_X12_putsFour T (a := x5) (bl := bl + 16) (apB (apB (apB (apB u bl x1) (bl + 4) x2) (bl + 8) x3) (bl + 12) x4) (by omega) (by exact z5) (by omega) (by exact hv_38) ?_)
    intro I_44 hf_44 hn_44 hv_44
    conv => whnf
    refine ⟨by decide, ?_⟩
    conv => whnf
    have hfr : Fr P51 (v2 I 603 8 0) I_44 := (((hf_22.trans hf_27).trans hf_32).trans hf_38).trans hf_44
    have e51 : I_44 603 51 = ((bl + 20 : Nat) : Int) := by omega
    rw [e51]
    refine h (by omega) I_44 (((frTh I 0).mono PSc_d).trans (hfr.mono (fun a b c => by unfold P51 at c; unfold PMd; omega))) (by rw [hfr _ _ (by unfold P51; omega), v2_eq]) (hC0.bu hA (fun a b g1 g2 => hfr a b (by unfold P51; omega)) e51 (by omega) (fun i hi => ?_))
    have hb := apB_b (a := x5) (apB_b (a := x4) (apB_b (a := x3) (apB_b (a := x2) (apB_b (u := u) (bl := bl) (a := x1) (fun i hi => ⟨(mb3 i hi).1, (mb3 i hi).2.1⟩))))) i (by omega)
    exact ⟨hb.1, hb.2, hv_44 i (by omega)⟩
  · conv => whnf
    exact h2 (by omega) _ (frTh I 0) (v2_eq _ _ _ _) hC0
end
