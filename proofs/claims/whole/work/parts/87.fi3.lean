/-! WAYS, 3 -/
section
variable {Ln : Nat} {xs : Nat → Int32} {CZ : Nat → ZC} {RZ : Nat → Nat → ZQ → ZP}
/-- how many ways there are, at most so many, and the first one -/
noncomputable def waysR (most : Int) (S : Nat → Bool) : Int × Mo := if cn S 576 = 64 then SW most 7 S offM (0, offM) else (0, offM)
theorem offM_FB : FB offM := fun _ _ => Or.inl rfl
theorem waysR_b {most : Int} (hm : 1 ≤ most) (S : Nat → Bool) : 0 ≤ (waysR most S).1 ∧ (waysR most S).1 ≤ most ∧ FB (waysR most S).2 := by
  unfold waysR
  split
  · exact SW_b offM_FB (Int.le_refl 0) (by omega) offM_FB
  · exact ⟨Int.le_refl 0, by omega, offM_FB⟩
theorem SW_keep {most : Int} : ∀ {n : Nat} {R : Nat → Bool} {M : Mo} {a : Int × Mo}, 1 ≤ a.1 → (SW most n R M a).2 = a.2 ∧ 1 ≤ (SW most n R M a).1
  | 0, R, M, a, h => by
    show (if a.1 = 0 then M else a.2) = a.2 ∧ 1 ≤ a.1 + 1
    rw [if_neg (by omega)]
    exact ⟨rfl, by omega⟩
  | n + 1, R, M, a, h => by
    rw [SW_s]
    split
    · exact ⟨rfl, h⟩
    · refine fk_inv (g := gSW most n R M (fq R).toNat) (P := fun x => x.2 = a.2 ∧ 1 ≤ x.1) (fun x k hx => ?_) 56 0 a ⟨rfl, h⟩
      unfold gSW
      cases decide (x.1 < most) && okC R M (fq R).toNat k with
      | false => exact hx
      | true =>
        have := SW_keep (most := most) (n := n) (R := rmv R k ((fq R).toNat - fQ k)) (M := putK M (fq R).toNat k) (a := x) hx.2
        exact ⟨this.1.trans hx.1, this.2⟩
theorem fk_rel {α β : Type} {g : α → Nat → α} {g' : β → Nat → β} {P : α → β → Prop} (h : ∀ a b k, P a b → P (g a k) (g' b k)) : ∀ (n k : Nat) (a : α) (b : β), P a b → P (fk g n k a) (fk g' n k b)
  | 0, _, _, _, hab => hab
  | n + 1, k, a, b, hab => fk_rel h n (k + 1) (g a k) (g' b k) (h a b k hab)
/-- two searches with other limits find the same first way -/
def sameF (a b : Int × Mo) : Prop := a.2 = b.2 ∧ ((a.1 = 0 ∧ b.1 = 0) ∨ (1 ≤ a.1 ∧ 1 ≤ b.1))
theorem SW_same {m m' : Int} (hm : 1 ≤ m) (hm' : 1 ≤ m') : ∀ {n : Nat} {R : Nat → Bool} {M : Mo} {a b : Int × Mo}, sameF a b → sameF (SW m n R M a) (SW m' n R M b)
  | 0, R, M, a, b, h => by
    show (if a.1 = 0 then M else a.2) = (if b.1 = 0 then M else b.2) ∧ ((a.1 + 1 = 0 ∧ b.1 + 1 = 0) ∨ (1 ≤ a.1 + 1 ∧ 1 ≤ b.1 + 1))
    rcases h with ⟨h1, h2 | h2⟩
    · rw [if_pos h2.1, if_pos h2.2]
      exact ⟨rfl, by omega⟩
    · rw [if_neg (by omega), if_neg (by omega)]
      exact ⟨h1, by omega⟩
  | n + 1, R, M, a, b, h => by
    rw [SW_s, SW_s]
    split
    · exact h
    · refine fk_rel (g := gSW m n R M (fq R).toNat) (g' := gSW m' n R M (fq R).toNat) (P := sameF) (fun x y k hxy => ?_) 56 0 a b h
      unfold gSW
      rcases hxy with ⟨h1, h2 | h2⟩
      · rw [decide_eq_true (show x.1 < m by omega), decide_eq_true (show y.1 < m' by omega)]
        cases okC R M (fq R).toNat k with
        | false => exact ⟨h1, Or.inl h2⟩
        | true => exact SW_same hm hm' ⟨h1, Or.inl h2⟩
      · have kx := SW_keep (most := m) (n := n) (R := rmv R k ((fq R).toNat - fQ k)) (M := putK M (fq R).toNat k) (a := x) h2.1
        have ky := SW_keep (most := m') (n := n) (R := rmv R k ((fq R).toNat - fQ k)) (M := putK M (fq R).toNat k) (a := y) h2.2
        cases decide (x.1 < m) && okC R M (fq R).toNat k with
        | false =>
          cases decide (y.1 < m') && okC R M (fq R).toNat k with
          | false => exact ⟨h1, Or.inr h2⟩
          | true => exact ⟨h1.trans ky.1.symm, Or.inr ⟨h2.1, ky.2⟩⟩
        | true =>
          cases decide (y.1 < m') && okC R M (fq R).toNat k with
          | false => exact ⟨kx.1.trans h1, Or.inr ⟨kx.2, h2.2⟩⟩
          | true => exact ⟨(kx.1.trans h1).trans ky.1.symm, Or.inr ⟨kx.2, ky.2⟩⟩
theorem waysR_same {m m' : Int} (hm : 1 ≤ m) (hm' : 1 ≤ m') (S : Nat → Bool) : sameF (waysR m S) (waysR m' S) := by
  unfold waysR
  split
  · exact SW_same hm hm' ⟨rfl, Or.inl ⟨rfl, rfl⟩⟩
  · exact ⟨rfl, Or.inl ⟨rfl, rfl⟩⟩
/-- what the filler remembers is right -/
def FiOK (I : ZI) (L : ZL) : Prop := ∃ K : Nat → Bool, RgS L 563 K ∧ (∀ q, 576 ≤ q → K q = false) ∧ (I 562 3 = 0 ∨ ((I 562 3 = 1 ∨ I 562 3 = 1000) ∧ I 562 5 = (waysR (I 562 3) K).1 ∧ PlC I 571 (waysR (I 562 3) K).2))
theorem FiOK.fr {I I' : ZI} {L L' : ZL} (h : FiOK I L) (h1 : ∀ a b, 562 ≤ a → a ≤ 574 → I' a b = I a b) (h2 : ∀ b, L' 564 b = L 564 b) : FiOK I' L' := by
  obtain ⟨K, k1, k2, k3⟩ := h
  refine ⟨K, k1.row h2, k2, ?_⟩
  rw [h1 562 3 (by omega) (by omega), h1 562 5 (by omega) (by omega)]
  rcases k3 with e | ⟨e1, e2, e3⟩
  · exact Or.inl e
  · exact Or.inr ⟨e1, e2, e3.fr (fun a b _ _ => h1 _ _ (by omega) (by omega))⟩
def PFi : Nat → Int → Prop := fun a _ => 562 ≤ a ∧ a ≤ 574
theorem s_X0_fill (T : ZTh (XX Ln xs) CZ RZ) {d b : Nat} {r : Nat} {lim : Int} (S : Nat → Bool) {I : ZI} {L : ZL} {Q : ZQ} (hF : FormOK I L) (hz : za r 0 = r + 2) (hr : 288 ≤ r ∧ r ≤ 302) (hS : RgS L r S) (hM : RgM I r S) (h5 : ∀ q, 576 ≤ q → S q = false) (hl : lim = 1 ∨ lim = 1000) (hK : FiOK I L) (h : ∀ I' L' mo, Fr PFi I I' → Fr (fun a _ => a = 564 ∨ a = 566) L L' → (mo = 1 ∨ mo = 1000) → lim ≤ mo → I' 562 5 = (waysR mo S).1 → PlC I' 571 (waysR mo S).2 → FiOK I' L' → Q (.inl none) I' L') : CZ (d + 31) k_X0_fill [.inr (.ref 562, 1), .inr (.ref 1, 110056), .inr (.ref r, 7), .inl lim] b I L Q := by
  refine T.call rfl ?_
  obtain ⟨K, k1, k2, k3⟩ := id hK
  have hmz : zR (I 562 3) := by rcases k3 with e | ⟨e, _⟩ <;> omega
  have hcS := cn_nonneg S 576
  have hcS2 := cn_le S 576
  refine T.go [] 300 ?_
  conv => whnf
  refine ⟨by decide, ?_⟩
  conv => whnf
  refine ⟨by omega, fun c5 => ?_, fun c5 => ?_⟩
  · conv => whnf
    refine ⟨by decide, _, rfl, ?_⟩
    conv => whnf
    refine zinv0 (s_X6_copy T S (by rfl) (by show (¬ (_ : Nat) = _) ∧ (¬ (_ : Nat) = _); omega) (by exact hz) (by show (¬ (_ : Nat) = _) ∧ (¬ (_ : Nat) = _); omega) (by omega) (by exact hS) (by exact hM) ?_)
    intro I_25 L_25 hf_25 hg_25 hS_25 hM_25
    conv => whnf
    refine ⟨by decide, _, rfl, ?_⟩
    conv => whnf
    refine zinv0 (s_X6_copy T S (by rfl) (by show (¬ (_ : Nat) = _) ∧ (¬ (_ : Nat) = _); omega) (by exact hz) (by show (¬ (_ : Nat) = _) ∧ (¬ (_ : Nat) = _); omega) (by omega) (by exact hS.row (fun b => hg_25 _ _ (by omega))) (by exact hM.row (fun b => hf_25 _ _ (by omega))) ?_)
    intro I_33 L_33 hf_33 hg_33 hS_33 hM_33
    conv => whnf
    refine ⟨by decide, _, rfl, ?_⟩
    conv => whnf
    refine zinv0 (s_X5_clear T  (by rfl) (by rfl) (by rfl) (by first | assumption | omega | rfl | decide) ?_)
    intro I_40 hf_40 hv_40
    conv => whnf
    refine ⟨by decide, _, rfl, ?_⟩
    conv => whnf
    refine zinv0 (s_X5_clear T  (by rfl) (by rfl) (by rfl) (by first | assumption | omega | rfl | decide) ?_)
    intro I_47 hf_47 hv_47
    have hpl : PlC I_47 567 offM := fun j j0 j7 => ⟨by rw [hf_47 _ _ (by omega)]; exact hv_40 j j0 j7, fun c => (c rfl).elim⟩
    have hpw : PlC I_47 571 offM := fun j j0 j7 => ⟨hv_47 j j0 j7, fun c => (c rfl).elim⟩
    have hall : ∀ a b, a < 562 → I_47 a b = I a b := fun a b h1 => by rw [hf_47 _ _ (by omega), hf_40 _ _ (by omega), hf_33 _ _ (by omega), hf_25 _ _ (by omega)]
    have hallL : ∀ a b, a < 562 → L_33 a b = L a b := fun a b h1 => by rw [hg_33 _ _ (by omega), hg_25 _ _ (by omega)]
    have hq1 : I_47 r 1 = cn S 576 := by rw [hall _ _ (by omega)]; exact hM.1
    have hfr9 : Fr PFi I (v2 (v2 I_47 562 3 lim) 562 5 0) := (((((hf_25.mono (fun a b c => by unfold PFi; omega)).trans (hf_33.mono (fun a b c => by unfold PFi; omega))).trans (hf_40.mono (fun a b c => by unfold PFi; omega))).trans (hf_47.mono (fun a b c => by unfold PFi; omega))).v2 (by unfold PFi; omega)).v2 (by unfold PFi; omega)
    have hgr9 : Fr (fun a _ => a = 564 ∨ a = 566) L L_33 := (hg_25.mono (fun a b c => by omega)).trans (hg_33.mono (fun a b c => by omega))
    have hr1 : v2 (v2 I_47 562 3 lim) 562 5 0 r 1 = cn S 576 := by rw [v2_ne (by omega), v2_ne (by omega)]; exact hq1
    conv => whnf
    refine ⟨by decide, ?_⟩
    conv => whnf
    refine ⟨by decide, ?_⟩
    conv => whnf
    refine ⟨(show (¬ (_ : Nat) = _) ∧ (¬ (_ : Nat) = _) from by omega), ?_⟩
    conv => whnf
    refine ⟨by rw [hr1]; omega, fun c66 => ?_, fun c66 => ?_⟩
    · conv => whnf
      rw [hr1] at c66
      have hw : waysR lim S = (0, offM) := by
        unfold waysR
        rw [if_neg c66]
      refine h _ _ lim hfr9 hgr9 (by omega) (by omega) (by rw [v2_eq, hw]) (by rw [hw]; exact hpw.fr (fun a b _ _ => by rw [v2_ne (by omega), v2_ne (by omega)])) ⟨S, hS_25.row (fun b => hg_33 _ _ (by omega)), h5, Or.inr ?_⟩
      rw [v2_ne (by omega), v2_eq, v2_eq, hw]
      exact ⟨hl, rfl, hpw.fr (fun a b _ _ => by rw [v2_ne (by omega), v2_ne (by omega)])⟩
    · conv => whnf
      refine zinv0 (sp_search T (most := lim) (by omega) 7 (d + 13) _ S offM (0, offM) (v2 (v2 I_47 562 3 lim) 562 5 0) L_33 _ 0 (by omega) offM_FB offM_FB (Int.le_refl 0) (show (0 : Int) < lim by omega) ⟨hF.fr (fun a b _ _ => by rw [v2_ne (by omega), v2_ne (by omega)]; exact hall a b (by omega)) (fun a b _ _ => hallL a b (by omega)), hS_33, hpl.fr (fun a b _ _ => by rw [v2_ne (by omega), v2_ne (by omega)]), hpw.fr (fun a b _ _ => by rw [v2_ne (by omega), v2_ne (by omega)]), v2_eq _ _ _ _, by rw [v2_ne (by omega), v2_eq]⟩ ?_)
      intro I_72 L_72 hf_72 hg_72 hS_72
      conv => whnf
      rw [hr1] at c66
      have hw : waysR lim S = SW lim 7 S offM (0, offM) := by
        unfold waysR
        rw [if_pos c66]
      obtain ⟨w1, w2, w3, w4, w5, w6⟩ := hS_72
      rw [← hw] at w4 w5
      refine h _ _ lim (hfr9.trans (hf_72.mono (fun a b c => by unfold PF at c; unfold PFi; omega))) (hgr9.trans (hg_72.mono (fun a b c => Or.inr c))) (by omega) (by omega) w5 w4 ⟨S, (hS_25.row (fun b => hg_33 _ _ (by omega))).row (fun b => hg_72 _ _ (by omega)), h5, Or.inr ?_⟩
      rw [w6]
      exact ⟨hl, w5, w4⟩
  · conv => whnf
    refine ⟨by decide, _, rfl, ?_⟩
    conv => whnf
    refine zinv0 (s_X6_hasSameQuarters T K S (by rfl) (by show (¬ (_ : Nat) = _) ∧ (¬ (_ : Nat) = _); omega) (by exact hz) (by show (¬ (_ : Nat) = _) ∧ (¬ (_ : Nat) = _); omega) (by exact k1) (by exact hS) ?_ ?_)
    · intro cha_13
      conv => whnf
      refine ⟨by decide, fun c => absurd c (by decide), fun _ => ?_⟩
      conv => whnf
      have hKS : K = S := by
        funext q
        by_cases hq : q < 576
        · exact cha_13 q hq
        · rw [k2 q (by omega), h5 q (by omega)]
      subst hKS
      rcases k3 with e | ⟨e1, e2, e3⟩
      · exfalso; omega
      · exact h I L (I 562 3) (Fr.refl I) (Fr.refl L) (by omega) (by omega) e2 e3 hK
    · intro ch2a_13
      conv => whnf
      refine ⟨by decide, fun _ => ?_, fun c => absurd c (by decide)⟩
      conv => whnf
      refine ⟨by decide, _, rfl, ?_⟩
      conv => whnf
      refine zinv0 (s_X6_copy T S (by rfl) (by show (¬ (_ : Nat) = _) ∧ (¬ (_ : Nat) = _); omega) (by exact hz) (by show (¬ (_ : Nat) = _) ∧ (¬ (_ : Nat) = _); omega) (by omega) (by exact hS) (by exact hM) ?_)
      intro I_25 L_25 hf_25 hg_25 hS_25 hM_25
      conv => whnf
      refine ⟨by decide, _, rfl, ?_⟩
      conv => whnf
      refine zinv0 (s_X6_copy T S (by rfl) (by show (¬ (_ : Nat) = _) ∧ (¬ (_ : Nat) = _); omega) (by exact hz) (by show (¬ (_ : Nat) = _) ∧ (¬ (_ : Nat) = _); omega) (by omega) (by exact hS.row (fun b => hg_25 _ _ (by omega))) (by exact hM.row (fun b => hf_25 _ _ (by omega))) ?_)
      intro I_33 L_33 hf_33 hg_33 hS_33 hM_33
      conv => whnf
      refine ⟨by decide, _, rfl, ?_⟩
      conv => whnf
      refine zinv0 (s_X5_clear T  (by rfl) (by rfl) (by rfl) (by first | assumption | omega | rfl | decide) ?_)
      intro I_40 hf_40 hv_40
      conv => whnf
      refine ⟨by decide, _, rfl, ?_⟩
      conv => whnf
      refine zinv0 (s_X5_clear T  (by rfl) (by rfl) (by rfl) (by first | assumption | omega | rfl | decide) ?_)
      intro I_47 hf_47 hv_47
      have hpl : PlC I_47 567 offM := fun j j0 j7 => ⟨by rw [hf_47 _ _ (by omega)]; exact hv_40 j j0 j7, fun c => (c rfl).elim⟩
      have hpw : PlC I_47 571 offM := fun j j0 j7 => ⟨hv_47 j j0 j7, fun c => (c rfl).elim⟩
      have hall : ∀ a b, a < 562 → I_47 a b = I a b := fun a b h1 => by rw [hf_47 _ _ (by omega), hf_40 _ _ (by omega), hf_33 _ _ (by omega), hf_25 _ _ (by omega)]
      have hallL : ∀ a b, a < 562 → L_33 a b = L a b := fun a b h1 => by rw [hg_33 _ _ (by omega), hg_25 _ _ (by omega)]
      have hq1 : I_47 r 1 = cn S 576 := by rw [hall _ _ (by omega)]; exact hM.1
      have hfr9 : Fr PFi I (v2 (v2 I_47 562 3 lim) 562 5 0) := (((((hf_25.mono (fun a b c => by unfold PFi; omega)).trans (hf_33.mono (fun a b c => by unfold PFi; omega))).trans (hf_40.mono (fun a b c => by unfold PFi; omega))).trans (hf_47.mono (fun a b c => by unfold PFi; omega))).v2 (by unfold PFi; omega)).v2 (by unfold PFi; omega)
      have hgr9 : Fr (fun a _ => a = 564 ∨ a = 566) L L_33 := (hg_25.mono (fun a b c => by omega)).trans (hg_33.mono (fun a b c => by omega))
      have hr1 : v2 (v2 I_47 562 3 lim) 562 5 0 r 1 = cn S 576 := by rw [v2_ne (by omega), v2_ne (by omega)]; exact hq1
      conv => whnf
      refine ⟨by decide, ?_⟩
      conv => whnf
      refine ⟨by decide, ?_⟩
      conv => whnf
      refine ⟨(show (¬ (_ : Nat) = _) ∧ (¬ (_ : Nat) = _) from by omega), ?_⟩
      conv => whnf
      refine ⟨by rw [hr1]; omega, fun c66 => ?_, fun c66 => ?_⟩
      · conv => whnf
        rw [hr1] at c66
        have hw : waysR lim S = (0, offM) := by
          unfold waysR
          rw [if_neg c66]
        refine h _ _ lim hfr9 hgr9 (by omega) (by omega) (by rw [v2_eq, hw]) (by rw [hw]; exact hpw.fr (fun a b _ _ => by rw [v2_ne (by omega), v2_ne (by omega)])) ⟨S, hS_25.row (fun b => hg_33 _ _ (by omega)), h5, Or.inr ?_⟩
        rw [v2_ne (by omega), v2_eq, v2_eq, hw]
        exact ⟨hl, rfl, hpw.fr (fun a b _ _ => by rw [v2_ne (by omega), v2_ne (by omega)])⟩
      · conv => whnf
        refine zinv0 (sp_search T (most := lim) (by omega) 7 (d + 13) _ S offM (0, offM) (v2 (v2 I_47 562 3 lim) 562 5 0) L_33 _ 0 (by omega) offM_FB offM_FB (Int.le_refl 0) (show (0 : Int) < lim by omega) ⟨hF.fr (fun a b _ _ => by rw [v2_ne (by omega), v2_ne (by omega)]; exact hall a b (by omega)) (fun a b _ _ => hallL a b (by omega)), hS_33, hpl.fr (fun a b _ _ => by rw [v2_ne (by omega), v2_ne (by omega)]), hpw.fr (fun a b _ _ => by rw [v2_ne (by omega), v2_ne (by omega)]), v2_eq _ _ _ _, by rw [v2_ne (by omega), v2_eq]⟩ ?_)
        intro I_72 L_72 hf_72 hg_72 hS_72
        conv => whnf
        rw [hr1] at c66
        have hw : waysR lim S = SW lim 7 S offM (0, offM) := by
          unfold waysR
          rw [if_pos c66]
        obtain ⟨w1, w2, w3, w4, w5, w6⟩ := hS_72
        rw [← hw] at w4 w5
        refine h _ _ lim (hfr9.trans (hf_72.mono (fun a b c => by unfold PF at c; unfold PFi; omega))) (hgr9.trans (hg_72.mono (fun a b c => Or.inr c))) (by omega) (by omega) w5 w4 ⟨S, (hS_25.row (fun b => hg_33 _ _ (by omega))).row (fun b => hg_72 _ _ (by omega)), h5, Or.inr ?_⟩
        rw [w6]
        exact ⟨hl, w5, w4⟩
end
