/-! TEXTS, 14: append, parse -/
section
variable {Ln : Nat} {xs : Nat → Int32} {CZ : Nat → ZC} {RZ : Nat → Nat → ZQ → ZP}
def ap5 (u : Nat → Int) (bl : Nat) (a b c d e : Int) : Nat → Int := apB (apB (apB (apB (apB u bl a) (bl + 4) b) (bl + 8) c) (bl + 12) d) (bl + 16) e
theorem CB.by {I : ZI} {L : ZL} {W H : Nat} {M : Mo} {P : Nat → Mo} {n : Nat} {SL : Nat → Mo} {bl : Nat} {u : Nat → Int} (h : CB I L W H M P n SL bl u) : I 576 1 = bl ∧ BY I u bl := ⟨h.2.2.2.2.2.2.2.2.1, h.2.2.2.2.2.2.2.2.2⟩
theorem CB.bu {I I' : ZI} {L L' : ZL} {W H : Nat} {M : Mo} {P : Nat → Mo} {n : Nat} {SL : Nat → Mo} {bl bl' : Nat} {u u' : Nat → Int} (h : CB I L W H M P n SL bl u) (h1 : ∀ a b, a ≤ 574 → I' a b = I a b) (h2 : ∀ a b, a ≤ 574 → L' a b = L a b) (hl : I' 576 1 = bl') (hB : BY I' u' bl') : CB I' L' W H M P n SL bl' u' := by
  obtain ⟨a1, a2, a3, a4, a5, a6, a7, a8, a9, a10, a11⟩ := h
  refine ⟨a1.fr (fun a b _ _ => h1 _ _ (by omega)) (fun a b _ _ => h2 _ _ (by omega)), a2.fr a3.2.1 (fun a b _ _ => h1 _ _ (by omega)) (fun a b _ _ => h2 _ _ (by omega)), a3, a4.fr (fun a b _ _ => h1 _ _ (by omega)) (fun b => h2 _ _ (by omega)), a5.fr (h1 _ _ (by omega)) (fun a b _ _ => h1 _ _ (by omega)) (fun a b _ _ => h2 _ _ (by omega)), a6, fun t ht => ?_, a8.fr (fun a b _ _ => h1 _ _ (by omega)) (fun b => h2 _ _ (by omega)), hl, hB⟩
  rw [h1 _ _ (by omega)]
  obtain ⟨b1, b2⟩ := a7 t ht
  exact ⟨b1, fun e => ⟨(b2 e).1.fr (b2 e).2.2.1 (fun a b _ _ => h1 _ _ (by omega)) (fun a b _ _ => h2 _ _ (by omega)), (b2 e).2⟩⟩
/-- what the parser may change -/
def PPar : Nat → Int → Prop := fun a _ => 575 ≤ a ∧ a ≤ 602
theorem PBu_p : ∀ a b, PBu a b → PPar a b := fun a b h => by unfold PBu at h; unfold PPar; omega
theorem PTx_p : ∀ a b, PTx a b → PPar a b := fun a b h => by unfold PTx at h; unfold PPar; omega
theorem PLs_p : ∀ a b, PLs a b → PPar a b := fun a b h => by unfold PLs at h; unfold PPar; omega
theorem s_X11_append (T : ZTh (XX Ln xs) CZ RZ) {d b : Nat} {W H n bl : Nat} {M : Mo} {P SL : Nat → Mo} {u : Nat → Int} {x1 x2 x3 x4 x5 : Int} {I : ZI} {L : ZL} {Q : ZQ} (hC : CB I L W H M P n SL bl u) (h : bl + 20 ≤ 700 → ∀ I', Fr PPar I I' → CB I' L W H M P n SL (bl + 20) (ap5 u bl x1 x2 x3 x4 x5) → Q (.inl (some (.inl (((bl + 20 : Nat) : Int))))) I' L) (h2 : ¬ bl + 20 ≤ 700 → Q (.inl (some (.inl ((-1))))) I L) : CZ (d + 2) k_X11_append [.inr (.ref 0, 12), .inl x1, .inl x2, .inl x3, .inl x4, .inl x5] b I L Q := by
  refine T.call rfl ?_
  have cb := hC.by
  have cb1 := cb.1
  have cb7 := cb.2.1
  refine T.go [] 90 ?_
  conv => whnf
  refine ⟨by decide, _, rfl, ?_⟩
  conv => whnf
  refine ⟨by decide, _, rfl, ?_⟩
  conv => whnf
  refine ⟨by decide, ?_⟩
  conv => whnf
  refine ⟨by omega, fun c20 => ?_, fun c20 => ?_⟩
  · conv => whnf
    refine zinv0 (s_X10_addBytes T (u := u) (bl := bl) (a := x1) (by exact cb.2) (by exact cb.1) (by omega) ?_)
    intro I_28 hf_28 hB_28 hl_28
    conv => whnf
    refine zinv0 (s_X10_addBytes T (u := (apB u bl x1)) (bl := bl + 4) (a := x2) (by exact hB_28) (by exact hl_28) (by omega) ?_)
    intro I_34 hf_34 hB_34 hl_34
    conv => whnf
    refine zinv0 (s_X10_addBytes T (u := (apB (apB u bl x1) (bl + 4) x2)) (bl := bl + 8) (a := x3) (by exact hB_34) (by exact hl_34) (by omega) ?_)
    intro I_40 hf_40 hB_40 hl_40
    conv => whnf
    refine zinv0 (s_X10_addBytes T (u := (apB (apB (apB u bl x1) (bl + 4) x2) (bl + 8) x3)) (bl := bl + 12) (a := x4) (by exact hB_40) (by exact hl_40) (by omega) ?_)
    intro I_47 hf_47 hB_47 hl_47
    conv => whnf
    refine zinv0 (s_X10_addBytes T (u := (apB (apB (apB (apB u bl x1) (bl + 4) x2) (bl + 8) x3) (bl + 12) x4)) (bl := bl + 16) (a := x5) (by exact hB_47) (by exact hl_47) (by omega) ?_)
    intro I_54 hf_54 hB_54 hl_54
    conv => whnf
    refine ⟨by decide, ?_⟩
    conv => whnf
    have e20 : I_54 576 1 = ((bl + 20 : Nat) : Int) := hl_54
    rw [e20]
    have fr : Fr PBu I I_54 := (((hf_28.trans hf_34).trans hf_40).trans hf_47).trans hf_54
    exact h (by omega) I_54 (fr.mono PBu_p) (hC.bu (fun a b g => fr _ _ (by unfold PBu; omega)) (fun a b _ => rfl) e20 hB_54)
  · conv => whnf
    exact h2 (by omega)
theorem s_X11_parse (T : ZTh (XX Ln xs) CZ RZ) {d b : Nat} {W H n bl : Nat} {M : Mo} {P SL : Nat → Mo} {u : Nat → Int} {v : Int} {I : ZI} {L : ZL} {Q : ZQ} (hb : 1 ≤ b) (hC : CB I L W H M P n SL bl u) (hv : zR v) (h : 0 ≤ v ∧ v ≤ bl → pc (pTx u v.toNat).1 = 0 → ∀ I' L', Fr (fun a _ => a ≤ 602) I I' → Fr (fun a _ => a ≤ 602) L L' → (∀ t : Nat, t < 2 → I' 526 t = 0) → CB I' L' (txW u v.toNat) (txH u v.toNat) (pTx u v.toNat).2 P 0 SL 0 u → Q (.inl (some (.inl ((mN (pTx u v.toNat).2 : Int))))) I' L') (h1 : 0 ≤ v ∧ v ≤ bl → ¬ pc (pTx u v.toNat).1 = 0 → ∀ I' L', Fr PPar I I' → Fr PPar L L' → CB I' L' W H M P n SL 0 u → Q (.inl (some (.inl ((-2 - (8 * ((po (pTx u v.toNat).1 : Nat) : Int) + ((pc (pTx u v.toNat).1 : Nat) : Int))))))) I' L') (h2 : ¬ (0 ≤ v ∧ v ≤ bl) → Q (.inr 1) I L) : CZ (d + 7) k_X11_parse [.inr (.ref 0, 12), .inl v] b I L Q := by
  refine T.call rfl ?_
  obtain ⟨cF, cS, cW, cSil, cPa, cPw, cSl, cFi, cb1, cb2, cb3⟩ := id hC
  obtain ⟨t1, t2, t3, t4, t5⟩ := id cS
  obtain ⟨⟨⟨w1, w2, w3, w4⟩, -⟩, w5, w6⟩ := id cW
  have cb := hC.by
  have cb7 := cb.2.1
  have cb1 := cb.1
  refine T.go [] 200 ?_
  conv => whnf
  refine ⟨by omega, fun c1 => ?_, fun c1 => ?_⟩
  · conv => whnf
    refine ⟨by omega, ?_⟩
    exact h2 (by omega)
  · conv => whnf
    refine ⟨by decide, _, rfl, ?_⟩
    conv => whnf
    refine ⟨by decide, _, rfl, ?_⟩
    conv => whnf
    refine ⟨by decide, ?_⟩
    conv => whnf
    refine ⟨by rw [cb1]; omega, fun c15 => ?_, fun c15 => ?_⟩
    · conv => whnf
      refine ⟨by decide, _, rfl, ?_⟩
      conv => whnf
      refine ⟨by decide, _, rfl, ?_⟩
      conv => whnf
      obtain ⟨vn, rfl⟩ := Int.eq_ofNat_of_zero_le c1
      have hvm : ((vn : Nat) : Int).toNat = vn := Int.toNat_natCast vn
      rw [hvm] at h h1
      refine zinv0 (s_X4_readText T (u := u) (bl := bl) (n := vn) (by exact cF) (by exact cb.2) (by omega) ?_)
      intro I_37 L_37 hf_37 hg_37 h2_37 h3_37 h4_37 hM_37
      have fr1 : Fr PPar I (v2 I_37 576 1 0) := (hf_37.mono PTx_p).v2 (by unfold PPar; omega)
      have gr1 : Fr PPar L L_37 := hg_37.mono PLs_p
      conv => whnf
      refine ⟨by decide, _, rfl, ?_⟩
      conv => whnf
      refine ⟨by decide, _, rfl, ?_⟩
      conv => whnf
      refine ⟨by decide, ?_⟩
      conv => whnf
      refine ⟨by decide, _, rfl, ?_⟩
      conv => whnf
      refine ⟨by decide, ?_⟩
      conv => whnf
      refine ⟨by rw [v2_ne (by omega), h2_37]; exact ⟨by omega, by omega⟩, fun c58 => ?_, fun c58 => ?_⟩
      · conv => whnf
        have c58n : pc (pTx u vn).1 = 0 := by rw [v2_ne (by omega), h2_37] at c58; omega
        refine ⟨by decide, _, rfl, ?_⟩
        conv => whnf
        refine ⟨by decide, _, rfl, ?_⟩
        conv => whnf
        refine ⟨by decide, _, rfl, ?_⟩
        conv => whnf
        have hz := hM_37 c58n
        have hg9 := hw4_g hz.1
        have hwf : Wf (txW u vn) (txH u vn) (pTx u vn).2 := pSts_wf 700 _ (offM_wf hg9.2.2.1)
        have hM1 : StC (v2 I_37 576 1 0) L_37 581 (txW u vn) (txH u vn) (pTx u vn).2 := hz.2.fr hwf.2.1 (fun a b _ _ => v2_ne (by omega)) (fun a b _ _ => rfl)
        refine zinv0 (s_X8_copy T (W := txW u vn) (H := txH u vn) (pTx u vn).2 (by decide) (by decide) (by decide) (by exact hwf.2.1) (by exact hM1) ?_)
        intro I_94 L_94 hf_94 hg_94 hM_94
        have eA : ∀ (a : Nat) (b : Int), ¬ (a = 0 ∧ b = 3) → ¬ (282 ≤ a ∧ a < 304) → ¬ a = 526 → ¬ (575 ≤ a ∧ a ≤ 602) → v2 (v2 (v2 I_94 0 3 0) 526 0 0) 526 1 0 a b = I a b := fun a b a1 a2 a3 a4 => by rw [v2_ne (by omega), v2_ne (by omega), v2_ne (by omega), hf_94 _ _ (by unfold stP; omega), fr1 _ _ (by unfold PPar; omega)]
        have eL : ∀ (a : Nat) (b : Int), ¬ (282 ≤ a ∧ a < 304) → ¬ (575 ≤ a ∧ a ≤ 602) → L_94 a b = L a b := fun a b a1 a2 => by rw [hg_94 _ _ (by unfold stP; omega), gr1 _ _ (by unfold PPar; omega)]
        have hM2 : StC (v2 (v2 (v2 I_94 0 3 0) 526 0 0) 526 1 0) L_94 282 (txW u vn) (txH u vn) (pTx u vn).2 := hM_94.fr hwf.2.1 (fun a b _ _ => by rw [v2_ne (by omega), v2_ne (by omega), v2_ne (by omega)]) (fun a b _ _ => rfl)
        conv => whnf
        refine ⟨by decide, ?_⟩
        conv => whnf
        refine ⟨by decide, fun c => absurd c (by decide), fun _ => ?_⟩
        conv => whnf
        refine ⟨by decide, _, rfl, ?_⟩
        conv => whnf
        refine ⟨by omega, ⟨by decide, by decide, by omega⟩, ?_⟩
        conv => whnf
        refine ⟨by decide, fun c => absurd c (by decide), fun _ => ?_⟩
        conv => whnf
        refine ⟨by decide, _, rfl, ?_⟩
        conv => whnf
        refine ⟨by omega, ⟨by decide, by decide, by omega⟩, ?_⟩
        conv => whnf
        refine ⟨by decide, fun _ => ?_, fun c => absurd c (by decide)⟩
        conv => whnf
        refine zinv0 (s_X11_refresh T (W := txW u vn) (H := txH u vn) (pTx u vn).2 (by exact cF.fr (fun a b _ _ => eA _ _ (by omega) (by omega) (by omega) (by omega)) (fun a b _ _ => eL _ _ (by omega) (by omega))) (by exact hwf.1) (by exact hM2.2.2.1) ?_)
        intro I_123 L_123 hf_123 hg_123 hS_123
        conv => whnf
        refine ⟨by decide, _, rfl, ?_⟩
        conv => whnf
        refine ⟨by decide, ?_⟩
        conv => whnf
        have eB : ∀ (a : Nat) (b : Int), ¬ (a = 0 ∧ b = 3) → ¬ (282 ≤ a ∧ a < 304) → ¬ a = 526 → ¬ (527 ≤ a ∧ a ≤ 543) → ¬ (575 ≤ a ∧ a ≤ 602) → I_123 a b = I a b := fun a b a1 a2 a3 a4 a5 => by exact (hf_123 _ _ (by unfold PSil; omega)).trans (eA a b a1 a2 a3 a5)
        have eM : ∀ (a : Nat) (b : Int), ¬ (282 ≤ a ∧ a < 304) → ¬ a = 529 → ¬ (575 ≤ a ∧ a ≤ 602) → L_123 a b = L a b := fun a b a1 a2 a3 => by rw [hg_123 _ _ (by omega), eL a b a1 a3]
        have hM9 : StC I_123 L_123 282 (txW u vn) (txH u vn) (pTx u vn).2 := hM2.fr hwf.2.1 (fun a b _ _ => hf_123 _ _ (by unfold PSil; omega)) (fun a b _ _ => hg_123 _ _ (by omega))
        have e3 : I_123 0 3 = 0 := by rw [hf_123 _ _ (by unfold PSil; omega), v2_ne (by omega), v2_ne (by omega), v2_eq]
        have e576 : I_123 576 1 = 0 := by rw [hf_123 _ _ (by unfold PSil; omega), v2_ne (by omega), v2_ne (by omega), v2_ne (by omega), hf_94 _ _ (by unfold stP; omega), v2_eq]
        have e526 : ∀ t : Nat, t < 2 → I_123 526 t = 0 := fun t ht => by
          rw [hf_123 _ _ (by unfold PSil; omega)]
          rcases (show t = 0 ∨ t = 1 by omega) with e | e <;> subst e
          · rw [v2_ne (by omega)]; exact v2_eq _ _ _ _
          · exact v2_eq _ _ _ _
        rw [show I_123 282 4 = ((mN (pTx u vn).2 : Nat) : Int) from hM9.2.2.2.1]
        refine h (by omega) c58n _ _ (fun a b g => eB a b (by omega) (by omega) (by omega) (by omega) (by omega)) (fun a b g => eM a b (by omega) (by omega) (by omega)) e526 ⟨cF.fr (fun a b _ _ => eB _ _ (by omega) (by omega) (by omega) (by omega) (by omega)) (fun a b _ _ => eM _ _ (by omega) (by omega) (by omega)), hM9, hwf, hS_123, cPa.nil e3 (fun b => eB _ _ (by omega) (by omega) (by omega) (by omega) (by omega)), fun i hi => absurd hi (Nat.not_lt_zero i), fun t ht => ⟨Or.inl (e526 t ht), fun e => by rw [e526 t ht] at e; exact absurd e (by decide)⟩, cFi.fr (fun a b _ _ => eB _ _ (by omega) (by omega) (by omega) (by omega) (by omega)) (fun b => eM _ _ (by omega) (by omega) (by omega)), e576, Nat.zero_le _, fun i hi => absurd hi (Nat.not_lt_zero i)⟩
      · conv => whnf
        have c58n : ¬ pc (pTx u vn).1 = 0 := fun e => c58 (by rw [v2_ne (by omega), h2_37, e]; rfl)
        refine ⟨by decide, _, rfl, ?_⟩
        conv => whnf
        refine ⟨by decide, ?_⟩
        conv => whnf
        refine ⟨by decide, _, rfl, ?_⟩
        conv => whnf
        refine ⟨by decide, ?_⟩
        conv => whnf
        rw [show v2 I_37 576 1 0 575 3 = ((po (pTx u vn).1 : Nat) : Int) from (v2_ne (by omega)).trans (h3_37 c58n), show v2 I_37 576 1 0 575 2 = ((pc (pTx u vn).1 : Nat) : Int) from (v2_ne (by omega)).trans h2_37]
        exact h1 (by omega) c58n _ _ fr1 gr1 (hC.bu (fun a b g => fr1 _ _ (by unfold PPar; omega)) (fun a b g => gr1 _ _ (by unfold PPar; omega)) (v2_eq _ _ _ _) ⟨Nat.zero_le _, fun i hi => absurd hi (Nat.not_lt_zero i)⟩)
    · conv => whnf
      refine ⟨by omega, ?_⟩
      exact h2 (by omega)
end
