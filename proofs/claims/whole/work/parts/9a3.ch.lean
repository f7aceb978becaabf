/-! CHANGES, 2 -/
section
variable {Ln : Nat} {xs : Nat → Int32} {CZ : Nat → ZC} {RZ : Nat → Nat → ZQ → ZP}
theorem psh_wf {W H : Nat} {M : Mo} {P : Nat → Mo} {n : Nat} (hn : n ≤ 8) (hM : Wf W H M) (hP : ∀ i, i < n → Wf W H (P i)) : ∀ i, i < psn n → Wf W H (psh P n M i) := fun i hi => by
  unfold psn at hi
  unfold psh
  by_cases e : n = 8
  · rw [if_pos e] at hi ⊢
    show Wf W H (if i = 7 then M else P (i + 1))
    by_cases e2 : i = 7
    · rw [if_pos e2]; exact hM
    · rw [if_neg e2]; exact hP _ (by omega)
  · rw [if_neg e] at hi ⊢
    show Wf W H (if i = n then M else P i)
    by_cases e2 : i = n
    · rw [if_pos e2]; exact hM
    · rw [if_neg e2]; exact hP _ (by omega)
/-- the state's cells -/
def PNo : Nat → Int → Prop := fun a _ => 282 ≤ a ∧ a < 304
theorem CB.chg {I I1 I2 I3 : ZI} {L L1 L2 L3 : ZL} {W H : Nat} {M M' : Mo} {P : Nat → Mo} {n : Nat} {SL : Nat → Mo} {bl : Nat} {u : Nat → Int} (h : CB I L W H M P n SL bl u) (f1 : Fr PPa I I1) (g1 : Fr (fun a _ => 304 ≤ a ∧ a ≤ 480) L L1) (hP : PaOK I1 L1 W H (psh P n M) (psn n)) (f2 : Fr PNo I1 I2) (g2 : Fr PNo L1 L2) (hS : StC I2 L2 282 W H M') (hW : Wf W H M') (f3 : Fr PSil I2 I3) (g3 : Fr (fun a _ => a = 529) L2 L3) (hSil : SilOK I3 L3 M') : CB I3 L3 W H M' (psh P n M) (psn n) SL bl u := by
  obtain ⟨a1, a2, a3, a4, a5, a6, a7, a8, a9, a10, a11⟩ := h
  have e1 : ∀ a b, ¬ PPa a b → ¬ PNo a b → ¬ PSil a b → I3 a b = I a b := fun a b x y z => by rw [f3 a b z, f2 a b y, f1 a b x]
  have e2 : ∀ (a : Nat) (b : Int), ¬ (304 ≤ a ∧ a ≤ 480) → ¬ PNo a b → a ≠ 529 → L3 a b = L a b := fun a b x y z => by rw [g3 a b z, g2 a b y, g1 a b x]
  refine ⟨a1.fr (fun a b _ _ => e1 _ _ (by unfold PPa; omega) (by unfold PNo; omega) (by unfold PSil; omega)) (fun a b _ _ => e2 _ _ (by omega) (by unfold PNo; omega) (by omega)), hS.fr hW.2.1 (fun a b _ _ => f3 _ _ (by unfold PSil; omega)) (fun a b _ _ => g3 _ _ (by omega)), hW, hSil, hP.fr ?_ (fun a b _ _ => ?_) (fun a b _ _ => ?_), psh_wf a5.1 a3 a6, fun t ht => ?_, a8.fr (fun a b _ _ => e1 _ _ (by unfold PPa; omega) (by unfold PNo; omega) (by unfold PSil; omega)) (fun b => e2 _ _ (by omega) (by unfold PNo; omega) (by omega)), ?_, a10, fun i hi => ?_⟩
  · rw [f3 _ _ (by unfold PSil; omega), f2 _ _ (by unfold PNo; omega)]
  · rw [f3 _ _ (by unfold PSil; omega), f2 _ _ (by unfold PNo; omega)]
  · rw [g3 _ _ (by omega), g2 _ _ (by unfold PNo; omega)]
  · rw [e1 _ _ (by unfold PPa; omega) (by unfold PNo; omega) (by unfold PSil; omega)]
    obtain ⟨b1, b2⟩ := a7 t ht
    exact ⟨b1, fun e => ⟨(b2 e).1.fr (b2 e).2.2.1 (fun a b _ _ => e1 _ _ (by unfold PPa; omega) (by unfold PNo; omega) (by unfold PSil; omega)) (fun a b _ _ => e2 _ _ (by omega) (by unfold PNo; omega) (by omega)), (b2 e).2⟩⟩
  · rw [e1 _ _ (by unfold PPa; omega) (by unfold PNo; omega) (by unfold PSil; omega)]; exact a9
  · rw [e1 _ _ (by unfold PPa; omega) (by unfold PNo; omega) (by unfold PSil; omega)]; exact a11 i hi
end
