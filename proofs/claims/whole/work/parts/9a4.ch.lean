/-! CHANGES, 3 -/
section
variable {Ln : Nat} {xs : Nat → Int32} {CZ : Nat → ZC} {RZ : Nat → Nat → ZQ → ZP}
/-- what a change of the class may change -/
def PCh : Nat → Int → Prop := fun a _ => a ≤ 574 ∧ a ≠ 526
theorem PPa_Ch : ∀ a b, PPa a b → PCh a b := fun a b h => by unfold PPa at h; unfold PCh; omega
theorem PNo_Ch : ∀ a b, PNo a b → PCh a b := fun a b h => by unfold PNo at h; unfold PCh; omega
theorem PSil_Ch : ∀ a b, PSil a b → PCh a b := fun a b h => by unfold PSil at h; unfold PCh; omega
theorem StC.put {I : ZI} {L : ZL} {W H : Nat} {M : Mo} (h : StC I L 282 W H M) (hn : mN M ≤ 8) {p : Nat} (hp : p < 7) (x y f : Int) : StC (v2 (v2 (v2 I 284 p x) 285 p y) 286 p f) L 282 W H (putM M p x y f) := by
  obtain ⟨t1, t2, t3, t4, t5⟩ := h
  have e : ∀ a b, ¬ (284 ≤ a ∧ a ≤ 286) → v2 (v2 (v2 I 284 p x) 285 p y) 286 p f a b = I a b := fun a b h => by rw [v2_ne (by omega), v2_ne (by omega), v2_ne (by omega)]
  refine ⟨by rw [e _ _ (by omega)]; exact t1, by rw [e _ _ (by omega)]; exact t2, ?_, by rw [e _ _ (by omega)]; exact t4, fun k hk => ⟨(t5 k hk).1, (t5 k hk).2.row (fun b => e _ _ (by omega))⟩⟩
  refine PlC.put t3 ?_ ?_ ?_ ?_
  · show v2 (v2 (v2 I 284 p x) 285 p y) 286 p f 284 p = x
    rw [v2_ne (by omega), v2_ne (by omega), v2_eq]
  · show v2 (v2 (v2 I 284 p x) 285 p y) 286 p f 285 p = y
    rw [v2_ne (by omega), v2_eq]
  · show v2 (v2 (v2 I 284 p x) 285 p y) 286 p f 286 p = f
    rw [v2_eq]
  · intro j hj
    refine ⟨?_, ?_, ?_⟩
    · show v2 (v2 (v2 I 284 p x) 285 p y) 286 p f 284 j = I 284 j
      rw [v2_ne (by omega), v2_ne (by omega), v2_ne (by omega)]
    · show v2 (v2 (v2 I 284 p x) 285 p y) 286 p f 285 j = I 285 j
      rw [v2_ne (by omega), v2_ne (by omega), v2_ne (by omega)]
    · show v2 (v2 (v2 I 284 p x) 285 p y) 286 p f 286 j = I 286 j
      rw [v2_ne (by omega), v2_ne (by omega), v2_ne (by omega)]
theorem s_X11_tryPlace (T : ZTh (XX Ln xs) CZ RZ) {d b : Nat} {p k : Nat} {x y : Int} {W H n bl : Nat} {M : Mo} {P SL : Nat → Mo} {u : Nat → Int} {I : ZI} {L : ZL} {Q : ZQ} (hC : CB I L W H M P n SL bl u) (hp : p < 7) (hk : k < 8) (hx : zR x) (hy : zR y) (h : why W H M p (8 * p + k) x y = 0 → ∀ I' L', Fr PCh I I' → Fr PCh L L' → CB I' L' W H (putM M p x y k) (psh P n M) (psn n) SL bl u → Q (.inl (some (.inl (0)))) I' L') (h2 : ¬ why W H M p (8 * p + k) x y = 0 → Q (.inl (some (.inl (why W H M p (8 * p + k) x y)))) I L) : CZ (d + 6) k_X11_tryPlace [.inr (.ref 0, 12), .inl ((p : Int)), .inl x, .inl y, .inl ((k : Int))] b I L Q := by
  refine T.call rfl ?_
  obtain ⟨cF, cS, cW, cSil, cPa, cPw, cSl, cFi, cb1, cb2, cb3⟩ := id hC
  obtain ⟨t1, t2, t3, t4, t5⟩ := id cS
  obtain ⟨⟨⟨w1, w2, w3, w4⟩, -⟩, w5, w6⟩ := id cW
  have hwb := @why_b W H M p (8 * p + k) x y
  have hM1 := hC.2.1
  refine T.go [] 90 ?_
  conv => whnf
  refine ⟨by decide, _, rfl, ?_⟩
  conv => whnf
  refine ⟨by decide, _, rfl, ?_⟩
  conv => whnf
  refine zinv0 (s_X8_hindrance T M (by decide) (by exact cF) (by exact cW.1) (by exact t1) (by exact t2) (by exact t3) (by exact hp) (by omega) (by exact hx) (by exact hy) ?_)
  conv => whnf
  refine ⟨by omega, fun c20 => ?_, fun c20 => ?_⟩
  · conv => whnf
    exact h2 c20
  · conv => whnf
    refine zinv0 (s_X11_remember T P M (by exact cPa) (by exact ⟨w5, cS⟩) ?_)
    intro I_24 L_24 hf_24 hg_24 hP_24
    have hS1 : StC I_24 L_24 282 W H M := cS.fr w5 (fun a b _ _ => hf_24 _ _ (by unfold PPa; omega)) (fun a b _ _ => hg_24 _ _ (by omega))
    have hSp := hS1.put w5 hp x y (k : Int)
    have hWp := cW.1.put hp hk c20
    conv => whnf
    refine ⟨by decide, _, rfl, ?_⟩
    conv => whnf
    refine ⟨by decide, _, rfl, ?_⟩
    conv => whnf
    refine zinv0 (s_X5_put T  (by rfl) (by rfl) (by rfl) (by first | assumption | omega | rfl | decide) (by omega) ?_)
    conv => whnf
    refine zinv0 (s_X11_refresh T (W := W) (H := H) (putM M p x y k) (by exact (cF.fr (fun a b _ _ => by rw [v2_ne (by omega), v2_ne (by omega), v2_ne (by omega)]; exact hf_24 _ _ (by unfold PPa; omega)) (fun a b _ _ => hg_24 _ _ (by omega)))) (by exact hWp) (by exact hSp.2.2.1) ?_)
    intro I_43 L_43 hf_43 hg_43 hS_43
    conv => whnf
    rw [c20]
    exact h c20 _ _ (((hf_24.mono PPa_Ch).trans ((((Fr.refl _).v2 (by unfold PCh; omega)).v2 (by unfold PCh; omega)).v2 (by unfold PCh; omega))).trans (hf_43.mono PSil_Ch)) ((hg_24.mono (fun a b c => by unfold PCh; omega)).trans (hg_43.mono (fun a b c => by unfold PCh; omega))) (hC.chg hf_24 hg_24 hP_24 ((((Fr.refl _).v2 (by unfold PNo; omega)).v2 (by unfold PNo; omega)).v2 (by unfold PNo; omega)) (Fr.refl _) hSp ⟨hWp, cW.2⟩ hf_43 hg_43 hS_43)
end
