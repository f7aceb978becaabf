/-! CHANGES, 12 -/
section
variable {Ln : Nat} {xs : Nat → Int32} {CZ : Nat → ZC} {RZ : Nat → Nat → ZQ → ZP}
theorem PaOK.pre {I I' : ZI} {L L' : ZL} {W H : Nat} {P : Nat → Mo} {n m : Nat} (h : PaOK I L W H P n) (hm : m ≤ n) (h0 : I' 0 3 = m) (h1 : ∀ a b, 304 ≤ a → a ≤ 480 → I' a b = I a b) (h2 : ∀ a b, 304 ≤ a → a ≤ 480 → L' a b = L a b) : PaOK I' L' W H P m := by
  obtain ⟨a1, a2, a3, a4, a5⟩ := h
  refine ⟨by omega, h0, fun i hi => ?_, fun i j hi hj hij => ?_, fun i hi => ⟨(a5 i (by omega)).1, ?_⟩⟩
  · rw [h1 _ _ (by omega) (by omega)]; exact a3 i hi
  · rw [h1 _ _ (by omega) (by omega), h1 _ _ (by omega) (by omega)]; exact a4 i j hi hj hij
  · obtain ⟨s, s1, s2⟩ := a3 i (by omega)
    have := pa_st s1
    rw [h1 _ _ (by omega) (by omega)]
    have h9 := (a5 i (by omega)).2
    rw [s2] at h9 ⊢
    exact h9.fr (a5 i (by omega)).1 (fun a b _ _ => h1 _ _ (by omega) (by omega)) (fun a b _ _ => h2 _ _ (by omega) (by omega))
theorem PaOK.nil {I I' : ZI} {L L' : ZL} {W H W' H' : Nat} {P P' : Nat → Mo} {n : Nat} (h : PaOK I L W H P n) (h0 : I' 0 3 = 0) (h1 : ∀ b, I' 304 b = I 304 b) : PaOK I' L' W' H' P' 0 := by
  obtain ⟨a1, a2, a3, a4, a5⟩ := h
  refine ⟨by omega, h0, fun i hi => ?_, fun i j hi hj hij => ?_, fun i hi => absurd hi (by omega)⟩
  · rw [h1]; exact a3 i hi
  · rw [h1, h1]; exact a4 i j hi hj hij
theorem sl_m {t : Nat} (h : t < 2) : 482 + 22 * t ∈ stR ∧ za 481 t = 482 + 22 * t + 1 ∧ 482 + 22 * t ≠ 282 := by
  rcases (show t = 0 ∨ t = 1 by omega) with e | e <;> subst e <;> exact ⟨by decide, rfl, by decide⟩
theorem s_X11_undo (T : ZTh (XX Ln xs) CZ RZ) {d b : Nat} {W H n bl : Nat} {M : Mo} {P SL : Nat → Mo} {u : Nat → Int}  {I : ZI} {L : ZL} {Q : ZQ} (hC : CB I L W H M P n SL bl u) (h : 0 < n → ∀ I' L', Fr PCh I I' → Fr PCh L L' → CB I' L' W H (P (n - 1)) P (n - 1) SL bl u → Q (.inl (some (.inl (((n - 1 : Nat) : Int))))) I' L') (h2 : n = 0 → Q (.inl (some (.inl ((-1))))) I L) : CZ (d + 6) k_X11_undo [.inr (.ref 0, 12)] b I L Q := by
  refine T.call rfl ?_
  obtain ⟨cF, cS, cW, cSil, cPa, cPw, cSl, cFi, cb1, cb2, cb3⟩ := id hC
  obtain ⟨t1, t2, t3, t4, t5⟩ := id cS
  obtain ⟨⟨⟨w1, w2, w3, w4⟩, -⟩, w5, w6⟩ := id cW
  have cpn : I 0 3 = n := cPa.2.1
  have cp8 := cPa.1
  refine T.go [] 90 ?_
  conv => whnf
  refine ⟨by decide, ?_⟩
  conv => whnf
  refine ⟨by omega, fun c4 => ?_, fun c4 => ?_⟩
  · conv => whnf
    have hn0 : 0 < n := by omega
    obtain ⟨s, s1, s2⟩ := cPa.2.2.1 (n - 1) (by omega)
    have hst := pa_st s1
    refine ⟨by decide, ?_⟩
    conv => whnf
    refine ⟨by decide, ?_⟩
    conv => whnf
    refine ⟨by decide, _, rfl, ?_⟩
    conv => whnf
    refine ⟨by decide, _, rfl, ?_⟩
    conv => whnf
    refine ⟨by decide, ?_⟩
    conv => whnf
    rw [v2_eq, cpn, show (n : Int) - 1 = ((n - 1 : Nat) : Int) by omega]
    refine ⟨⟨rfl, by omega⟩, ?_⟩
    conv => whnf
    rw [v2_ne (by omega), s2]
    rw [show ((s : Nat) : Int).toNat = s from Int.toNat_natCast s]
    refine zinv0 (s_X8_copy T (W := W) (H := H) (P (n - 1)) (by decide) (by exact hst.1) (by omega) (by exact (cPa.2.2.2.2 (n - 1) (by omega)).1) (by have h9 := (cPa.2.2.2.2 (n - 1) (by omega)).2; rw [s2, Int.toNat_natCast] at h9; exact h9.fr (cPa.2.2.2.2 (n - 1) (by omega)).1 (fun a b _ _ => v2_ne (by omega)) (fun a b _ _ => rfl)) ?_)
    intro I_32 L_32 hf_32 hg_32 hM_32
    conv => whnf
    refine zinv0 (s_X11_refresh T (W := W) (H := H) (P (n - 1)) (by exact (cF.fr (fun a b _ _ => by rw [hf_32 _ _ (by unfold stP; omega), v2_ne (by omega)]) (fun a b _ _ => hg_32 _ _ (by unfold stP; omega)))) (by exact (cPw (n - 1) (by omega)).1) (by exact hM_32.2.2.1) ?_)
    intro I_36 L_36 hf_36 hg_36 hS_36
    conv => whnf
    refine ⟨by decide, ?_⟩
    conv => whnf
    have e0 : I_36 0 3 = ((n - 1 : Nat) : Int) := by rw [hf_36 _ _ (by unfold PSil; omega), hf_32 _ _ (by unfold stP; omega), v2_eq]
    have w8 : mN (P (n - 1)) ≤ 8 := (cPa.2.2.2.2 (n - 1) (by omega)).1
    have gI : ∀ a b, ¬ ((a = 0 ∧ b = 3) ∨ (282 ≤ a ∧ a < 304) ∨ (527 ≤ a ∧ a ≤ 543)) → I_36 a b = I a b := fun a b g => by rw [hf_36 _ _ (by unfold PSil; omega), hf_32 _ _ (by unfold stP; omega), v2_ne (by omega)]
    have gL : ∀ (a : Nat) (b : Int), ¬ ((282 ≤ a ∧ a < 304) ∨ a = 529) → L_36 a b = L a b := fun a b g => by rw [hg_36 _ _ (by omega), hg_32 _ _ (by unfold stP; omega)]
    rw [e0]
    exact h hn0 _ _ (fun a b g => gI a b (by unfold PCh at g; omega)) (fun a b g => gL a b (by unfold PCh at g; omega)) (hC.gen (fun a b g => gI a b (by omega)) (fun a b g => gL a b (by omega)) (hM_32.fr w8 (fun a b _ _ => hf_36 _ _ (by unfold PSil; omega)) (fun a b _ _ => hg_36 _ _ (by omega))) (cPw (n - 1) (by omega)) hS_36 (cPa.pre (by omega) e0 (fun a b _ _ => gI a b (by omega)) (fun a b _ _ => gL a b (by omega))) (fun i hi => cPw i (by omega)))
  · conv => whnf
    exact h2 (by omega)
theorem CB.sav {I I3 : ZI} {L L3 : ZL} {W H : Nat} {M : Mo} {P : Nat → Mo} {n : Nat} {SL : Nat → Mo} {bl : Nat} {u : Nat → Int} (h : CB I L W H M P n SL bl u) {k : Nat} (hk : k < 2) (e1 : ∀ (a : Nat) (b : Int), ¬ ((482 + 22 * k ≤ a ∧ a < 482 + 22 * k + 22) ∨ (a = 526 ∧ b = (k : Int))) → I3 a b = I a b) (e2 : ∀ (a : Nat) (b : Int), ¬ (482 + 22 * k ≤ a ∧ a < 482 + 22 * k + 22) → L3 a b = L a b) (hv : I3 526 k = 1) (hS : StC I3 L3 (482 + 22 * k) W H M) : CB I3 L3 W H M P n (fun t => if t = k then M else SL t) bl u := by
  obtain ⟨a1, a2, a3, a4, a5, a6, a7, a8, a9, a10, a11⟩ := h
  refine ⟨a1.fr (fun a b _ _ => e1 a b (by omega)) (fun a b _ _ => e2 a b (by omega)), a2.fr a3.2.1 (fun a b _ _ => e1 a b (by omega)) (fun a b _ _ => e2 a b (by omega)), a3, a4.fr (fun a b _ _ => e1 a b (by omega)) (fun b => e2 529 b (by omega)), a5.fr (e1 _ _ (by omega)) (fun a b _ _ => e1 a b (by omega)) (fun a b _ _ => e2 a b (by omega)), a6, fun t ht => ?_, a8.fr (fun a b _ _ => e1 a b (by omega)) (fun b => e2 564 b (by omega)), ?_, a10, fun i hi => ?_⟩
  · by_cases e : t = k
    · subst e
      dsimp only
      rw [if_pos rfl]
      exact ⟨Or.inr hv, fun _ => ⟨hS, a3⟩⟩
    · dsimp only
      rw [if_neg e, e1 _ _ (by omega)]
      obtain ⟨b1, b2⟩ := a7 t ht
      exact ⟨b1, fun c => ⟨(b2 c).1.fr (b2 c).2.2.1 (fun a b _ _ => e1 a b (by omega)) (fun a b _ _ => e2 a b (by omega)), (b2 c).2⟩⟩
  · rw [e1 _ _ (by omega)]; exact a9
  · rw [e1 _ _ (by omega)]; exact a11 i hi
theorem s_X11_saveSnapshot (T : ZTh (XX Ln xs) CZ RZ) {d b : Nat} {W H n bl : Nat} {M : Mo} {P SL : Nat → Mo} {u : Nat → Int} {k : Int} {I : ZI} {L : ZL} {Q : ZQ} (hb : 1 ≤ b) (hC : CB I L W H M P n SL bl u) (hk : zR k) (h : 0 ≤ k ∧ k < 2 → ∀ I' L', Fr (fun a _ => a ≤ 574) I I' → Fr (fun a _ => a ≤ 574) L L' → (∀ t : Nat, t < 2 → I' 526 t = if t = k.toNat then 1 else I 526 t) → CB I' L' W H M P n (fun t => if t = k.toNat then M else SL t) bl u → Q (.inl (some (.inl (I 526 k)))) I' L') (h2 : ¬ (0 ≤ k ∧ k < 2) → Q (.inr 1) I L) : CZ (d + 3) k_X11_saveSnapshot [.inr (.ref 0, 12), .inl k] b I L Q := by
  refine T.call rfl ?_
  obtain ⟨cF, cS, cW, cSil, cPa, cPw, cSl, cFi, cb1, cb2, cb3⟩ := id hC
  obtain ⟨t1, t2, t3, t4, t5⟩ := id cS
  obtain ⟨⟨⟨w1, w2, w3, w4⟩, -⟩, w5, w6⟩ := id cW
  refine T.go [] 90 ?_
  conv => whnf
  refine ⟨1, by omega, s_X11_checkSlot T  (by first | assumption | omega | rfl | decide) (by first | assumption | omega | rfl | decide) ?_ ?_⟩
  · intro cha_1
    obtain ⟨kn, rfl⟩ := Int.eq_ofNat_of_zero_le cha_1.1
    have hk2 : kn < 2 := by omega
    obtain ⟨z1, z2, z3⟩ := sl_m hk2
    have b01 := (cSl kn hk2).1
    have hmk : ((kn : Nat) : Int).toNat = kn := Int.toNat_natCast kn
    rw [hmk] at h
    conv => whnf
    refine ⟨by decide, _, rfl, ?_⟩
    conv => whnf
    refine ⟨by omega, by decide, ?_⟩
    conv => whnf
    refine ⟨by decide, _, rfl, ?_⟩
    conv => whnf
    refine ⟨by omega, by decide, _, z2, ?_⟩
    conv => whnf
    refine ⟨by decide, _, rfl, ?_⟩
    conv => whnf
    refine zinv0 (s_X8_copy T M (by exact z1) (by decide) (by exact z3) (by exact w5) (by exact cS) ?_)
    intro I_21 L_21 hf_21 hg_21 hM_21
    conv => whnf
    refine ⟨by decide, _, rfl, ?_⟩
    conv => whnf
    refine ⟨by omega, ⟨by decide, by decide, by omega⟩, ?_⟩
    conv => whnf
    refine ⟨by omega, ?_⟩
    refine h cha_1 _ _ ((hf_21.mono (fun a b c => by unfold stP at c; omega)).v2 (by omega)) (hg_21.mono (fun a b c => by unfold stP at c; omega)) (fun t ht => ?_) (hC.sav hk2 (fun a b g => ?_) (fun a b g => hg_21 _ _ (by unfold stP; omega)) (v2_eq _ _ _ _) (hM_21.fr w5 (fun a b _ _ => v2_ne (by omega)) (fun a b _ _ => rfl)))
    · by_cases e : t = kn
      · rw [if_pos e, e, v2_eq]
      · rw [if_neg e, v2_ne (by omega), hf_21 _ _ (by unfold stP; omega)]
    · rw [v2_ne (by omega), hf_21 _ _ (by unfold stP; omega)]
  · intro ch2a_1
    exact h2 ch2a_1
theorem s_X11_restoreSnapshot (T : ZTh (XX Ln xs) CZ RZ) {d b : Nat} {W H n bl : Nat} {M : Mo} {P SL : Nat → Mo} {u : Nat → Int} {k : Int} {I : ZI} {L : ZL} {Q : ZQ} (hb : 2 ≤ b) (hC : CB I L W H M P n SL bl u) (hk : zR k) (h : 0 ≤ k ∧ k < 2 → I 526 k = 1 → ∀ I' L', Fr PCh I I' → Fr PCh L L' → CB I' L' W H (SL k.toNat) P 0 SL bl u → Q (.inl (some (.inl (plN (SL k.toNat))))) I' L') (h2 : ¬ (0 ≤ k ∧ k < 2) → Q (.inr 1) I L) (h3 : 0 ≤ k ∧ k < 2 → ¬ I 526 k = 1 → Q (.inr 4) I L) : CZ (d + 6) k_X11_restoreSnapshot [.inr (.ref 0, 12), .inl k] b I L Q := by
  refine T.call rfl ?_
  obtain ⟨cF, cS, cW, cSil, cPa, cPw, cSl, cFi, cb1, cb2, cb3⟩ := id hC
  obtain ⟨t1, t2, t3, t4, t5⟩ := id cS
  obtain ⟨⟨⟨w1, w2, w3, w4⟩, -⟩, w5, w6⟩ := id cW
  refine T.go [] 90 ?_
  conv => whnf
  refine ⟨1, by omega, s_X11_checkSlot T  (by first | assumption | omega | rfl | decide) (by first | assumption | omega | rfl | decide) ?_ ?_⟩
  · intro cha_1
    obtain ⟨kn, rfl⟩ := Int.eq_ofNat_of_zero_le cha_1.1
    have hk2 : kn < 2 := by omega
    obtain ⟨z1, z2, z3⟩ := sl_m hk2
    have b01 := (cSl kn hk2).1
    have hmk : ((kn : Nat) : Int).toNat = kn := Int.toNat_natCast kn
    rw [hmk] at h
    conv => whnf
    refine ⟨by decide, _, rfl, ?_⟩
    conv => whnf
    refine ⟨by omega, by decide, ?_⟩
    conv => whnf
    refine ⟨by omega, fun c10 => ?_, fun c10 => ?_⟩
    · conv => whnf
      refine ⟨by decide, _, rfl, ?_⟩
      conv => whnf
      refine ⟨by decide, _, rfl, ?_⟩
      conv => whnf
      refine ⟨by omega, by decide, _, z2, ?_⟩
      conv => whnf
      have b1 : I 526 (kn : Int) = 1 := by omega
      obtain ⟨b2, b3⟩ := (cSl kn hk2).2 b1
      refine zinv0 (s_X8_copy T (W := W) (H := H) (SL kn) (by decide) (by exact z1) (by exact fun e => z3 e.symm) (by exact b3.2.1) (by exact b2) ?_)
      intro I_34 L_34 hf_34 hg_34 hM_34
      conv => whnf
      refine ⟨by decide, ?_⟩
      conv => whnf
      refine zinv0 (s_X11_refresh T (W := W) (H := H) (SL kn) (by exact (cF.fr (fun a b _ _ => by rw [v2_ne (by omega), hf_34 _ _ (by unfold stP; omega)]) (fun a b _ _ => hg_34 _ _ (by unfold stP; omega)))) (by exact b3.1) (by exact hM_34.2.2.1.fr (fun a b _ _ => v2_ne (by omega))) ?_)
      intro I_43 L_43 hf_43 hg_43 hS_43
      have hM9 : StC I_43 L_43 282 W H (SL kn) := hM_34.fr b3.2.1 (fun a b _ _ => by rw [hf_43 _ _ (by unfold PSil; omega), v2_ne (by omega)]) (fun a b _ _ => hg_43 _ _ (by omega))
      conv => whnf
      refine ⟨by decide, _, rfl, ?_⟩
      conv => whnf
      refine ⟨by decide, _, rfl, ?_⟩
      conv => whnf
      refine zinv0 (s_X5_countPlaced T  (by rfl) (by omega) (by exact fun j j0 j7 => hM9.2.2.1.zR b3.1 j0 j7) ?_)
      conv => whnf
      have e0 : I_43 0 3 = 0 := by rw [hf_43 _ _ (by unfold PSil; omega), v2_eq]
      have gI : ∀ a b, ¬ ((a = 0 ∧ b = 3) ∨ (282 ≤ a ∧ a < 304) ∨ (527 ≤ a ∧ a ≤ 543)) → I_43 a b = I a b := fun a b g => by rw [hf_43 _ _ (by unfold PSil; omega), v2_ne (by omega), hf_34 _ _ (by unfold stP; omega)]
      have gL : ∀ (a : Nat) (b : Int), ¬ ((282 ≤ a ∧ a < 304) ∨ a = 529) → L_43 a b = L a b := fun a b g => by rw [hg_43 _ _ (by omega), hg_34 _ _ (by unfold stP; omega)]
      have e : cn (fun j => !decide (I_43 (283 + 3) (j : Int) = -1)) 7 = plN (SL kn) := cn_congr 7 (fun j hj => by rw [show I_43 (283 + 3) (j : Int) = mF (SL kn) j from (hM9.2.2.1 j (by omega) (by omega)).1])
      rw [e]
      exact h cha_1 b1 _ _ (fun a b g => gI a b (by unfold PCh at g; omega)) (fun a b g => gL a b (by unfold PCh at g; omega)) (hC.gen (fun a b g => gI a b (by omega)) (fun a b g => gL a b (by omega)) hM9 b3 hS_43 (cPa.nil e0 (fun b => gI _ _ (by omega))) (fun i hi => absurd hi (by omega)))
    · conv => whnf
      refine ⟨by omega, ?_⟩
      exact h3 cha_1 (by omega)
  · intro ch2a_1
    exact h2 ch2a_1
end
