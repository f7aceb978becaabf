/-! QUESTIONS, 3 -/
section
variable {Ln : Nat} {xs : Nat → Int32} {CZ : Nat → ZC} {RZ : Nat → Nat → ZQ → ZP}
theorem s_X11_pieceAt (T : ZTh (XX Ln xs) CZ RZ) {d b : Nat} {W H n bl : Nat} {M : Mo} {P SL : Nat → Mo} {u : Nat → Int} {q : Int} {I : ZI} {L : ZL} {Q : ZQ} (hb : 1 ≤ b) (hC : CB I L W H M P n SL bl u) (hq : zR q) (h : Q (.inl (some (.inl (owAt M q)))) I L) : CZ (d + 2) k_X11_pieceAt [.inr (.ref 0, 12), .inl q] b I L Q := by
  refine T.call rfl ?_
  obtain ⟨cF, cS, cW, cSil, cPa, cPw, cSl, cFi, cb1, cb2, cb3⟩ := id hC
  obtain ⟨t1, t2, t3, t4, t5⟩ := id cS
  obtain ⟨⟨⟨w1, w2, w3, w4⟩, -⟩, w5, -⟩ := id cW
  refine T.go [] 90 ?_
  conv => whnf
  refine ⟨by decide, _, rfl, ?_⟩
  conv => whnf
  refine zinv0 (s_X7_ownerAt T  (by first | assumption | omega | rfl | decide) ?_ ?_)
  · intro cha_5 chb_5
    have ew : owAt M q = I 530 q := owAt_in cSil.1 ⟨cha_5, chb_5⟩
    conv => whnf
    rw [← ew]
    exact h
  · intro ch2a_5
    have ew : owAt M q = -1 := if_neg ch2a_5
    conv => whnf
    rw [← ew]
    exact h
def aSeams (M : Mo) (p o l : Int) : Int := if p = o then 0 else seamA M p o l
theorem s_X11_seams (T : ZTh (XX Ln xs) CZ RZ) {d b : Nat} {W H n bl : Nat} {M : Mo} {P SL : Nat → Mo} {u : Nat → Int} {p o l : Int} {I : ZI} {L : ZL} {Q : ZQ} (hb : 2 ≤ b) (hC : CB I L W H M P n SL bl u) (hp : zR p) (ho : zR o) (hl : l = 0 ∨ l = 1) (h : 0 ≤ p ∧ p < 7 → 0 ≤ o ∧ o < 7 → Q (.inl (some (.inl (aSeams M p o l)))) I L) (h2 : ¬ ((0 ≤ p ∧ p < 7) ∧ 0 ≤ o ∧ o < 7) → Q (.inr 2) I L) : CZ (d + 3) k_X11_seams [.inr (.ref 0, 12), .inl p, .inl o, .inl l] b I L Q := by
  refine T.call rfl ?_
  obtain ⟨cF, cS, cW, cSil, cPa, cPw, cSl, cFi, cb1, cb2, cb3⟩ := id hC
  obtain ⟨t1, t2, t3, t4, t5⟩ := id cS
  obtain ⟨⟨⟨w1, w2, w3, w4⟩, -⟩, w5, -⟩ := id cW
  refine T.go [] 90 ?_
  conv => whnf
  refine ⟨1, by omega, s_X11_checkPiece T  (by first | assumption | omega | rfl | decide) (by first | assumption | omega | rfl | decide) ?_ ?_⟩
  · intro cha_1
    conv => whnf
    refine ⟨1, by omega, s_X11_checkPiece T  (by first | assumption | omega | rfl | decide) (by first | assumption | omega | rfl | decide) ?_ ?_⟩
    · intro cha_5
      conv => whnf
      refine ⟨by omega, fun c10 => ?_, fun c10 => ?_⟩
      · conv => whnf
        refine ⟨by decide, _, rfl, ?_⟩
        conv => whnf
        refine zinv0 (s_X7_countSeams T M (by exact cSil.1) (by first | assumption | omega | rfl | decide) (by first | assumption | omega | rfl | decide) (by first | assumption | omega | rfl | decide) ?_)
        conv => whnf
        have h9 := h (by omega) (by omega)
        rw [show aSeams M p o l = seamA M p o l from if_neg (by omega)] at h9
        exact h9
      · conv => whnf
        have h9 := h (by omega) (by omega)
        rw [show aSeams M p o l = 0 from if_pos (by omega)] at h9
        exact h9
    · intro ch2a_5
      exact h2 (by omega)
  · intro ch2a_1
    exact h2 (by omega)
noncomputable def aWhy (W H : Nat) (M : Mo) (p x y t f : Int) : Int := why W H M p.toNat (8 * p.toNat + (2 * t + f).toNat) x y
theorem s_X11_whyNot (T : ZTh (XX Ln xs) CZ RZ) {d b : Nat} {W H n bl : Nat} {M : Mo} {P SL : Nat → Mo} {u : Nat → Int} {p x y t f : Int} {I : ZI} {L : ZL} {Q : ZQ} (hb : 2 ≤ b) (hC : CB I L W H M P n SL bl u) (hp : zR p) (hx : zR x) (hy : zR y) (ht : zR t) (hf : f = 0 ∨ f = 1) (h : 0 ≤ p ∧ p < 7 → 0 ≤ t ∧ t < 4 → Q (.inl (some (.inl (aWhy W H M p x y t f)))) I L) (h2 : ¬ (0 ≤ p ∧ p < 7) → Q (.inr 2) I L) (h3 : 0 ≤ p ∧ p < 7 → ¬ (0 ≤ t ∧ t < 4) → Q (.inr 1) I L) : CZ (d + 4) k_X11_whyNot [.inr (.ref 0, 12), .inl p, .inl x, .inl y, .inl t, .inl f] b I L Q := by
  refine T.call rfl ?_
  obtain ⟨cF, cS, cW, cSil, cPa, cPw, cSl, cFi, cb1, cb2, cb3⟩ := id hC
  obtain ⟨t1, t2, t3, t4, t5⟩ := id cS
  obtain ⟨⟨⟨w1, w2, w3, w4⟩, -⟩, w5, -⟩ := id cW
  refine T.go [] 90 ?_
  conv => whnf
  refine ⟨1, by omega, s_X11_checkPiece T  (by first | assumption | omega | rfl | decide) (by first | assumption | omega | rfl | decide) ?_ ?_⟩
  · intro cha_1
    conv => whnf
    refine ⟨1, by omega, s_X11_checkTurn T  (by first | assumption | omega | rfl | decide) (by first | assumption | omega | rfl | decide) ?_ ?_⟩
    · intro cha_6
      conv => whnf
      refine ⟨by decide, _, rfl, ?_⟩
      conv => whnf
      refine ⟨by decide, _, rfl, ?_⟩
      conv => whnf
      refine zinv0 (s_X11_formOf T  (by first | assumption | omega | rfl | decide) ?_)
      obtain ⟨pn, rfl⟩ := Int.eq_ofNat_of_zero_le cha_1.1
      obtain ⟨k, hk⟩ := Int.eq_ofNat_of_zero_le (a := 2 * t + f) (by omega)
      rw [hk]
      have hk8 : k < 8 := by omega
      have hp7 : pn < 7 := by omega
      conv => whnf
      refine zinv0 (s_X8_hindrance T M (by decide) (by exact cF) (by exact cW.1) (by exact t1) (by exact t2) (by exact t3) (by exact hp7) (by omega) (by exact hx) (by exact hy) ?_)
      conv => whnf
      have h9 := h cha_1 cha_6
      unfold aWhy at h9
      rw [hk] at h9
      exact h9
    · intro ch2a_6
      exact h3 cha_1 ch2a_6
  · intro ch2a_1
    exact h2 ch2a_1
noncomputable def spotsR (W H : Nat) (M : Mo) (p k : Nat) (y : Nat) : Int := cn (fun x => decide (why W H M p (8 * p + k) (x : Int) (y : Int) = 0)) W
theorem spotsR_b {W H : Nat} {M : Mo} {p k : Nat} (hW : W ≤ 12) (y : Nat) : 0 ≤ spotsR W H M p k y ∧ spotsR W H M p k y ≤ 12 := by
  have h1 := cn_nonneg (fun x => decide (why W H M p (8 * p + k) (x : Int) (y : Int) = 0)) W
  have h2 := cn_le (fun x => decide (why W H M p (8 * p + k) (x : Int) (y : Int) = 0)) W
  unfold spotsR
  omega
noncomputable def spotsA (W H : Nat) (M : Mo) (p k : Nat) : Int := smI (spotsR W H M p k) H
noncomputable def placesA (W H : Nat) (M : Mo) (p : Nat) : Int := smI (fun k => if fV (8 * p + k) = 1 then spotsA W H M p k else 0) 8
theorem l_spotsI (T : ZTh (XX Ln xs) CZ RZ) {d b : Nat} {Q : ZQ} {p k y : Nat} {c0 : Int} {W H n bl : Nat} {M : Mo} {P SL : Nat → Mo} {u : Nat → Int} {I : ZI} {L : ZL} (hC : CB I L W H M P n SL bl u) (hp : p < 7) (hk8 : k < 8) (hy : y < H) (hc0 : 0 ≤ c0 ∧ c0 ≤ 144) (hk : RZ (d + 3) k_X11_countSpots Q 5 [.inr (.ref 0, 12), .inl (p : Int), .inl (k : Int), .inl (c0 + spotsR W H M p k y), .inl ((y : Int) + 1), zj] [] b I L) (m : Nat) : ∀ (x : Nat) (c : Int), (x ≤ W) → (c = c0 + cn (fun x => decide (why W H M p (8 * p + k) (x : Int) (y : Int) = 0)) x) → (W : Int) - (x : Int) < (m : Int) → RZ (d + 3) k_X11_countSpots Q 20 [.inr (.ref 0, 12), .inl ((p : Int)), .inl ((k : Int)), .inl c, .inl ((y : Int)), .inl ((x : Int))] [] b I L := by
  induction m with
  | zero =>
    intro x c hx hc hm
    exfalso
    omega
  | succ m ih =>
    intro x c hx hc hm
    obtain ⟨cF, cS, cW, cSil, cPa, cPw, cSl, cFi, cb1, cb2, cb3⟩ := id hC
    obtain ⟨t1, t2, t3, t4, t5⟩ := id cS
    obtain ⟨⟨⟨w1, w2, w3, w4⟩, -⟩, w5, -⟩ := id cW
    have hcn := cn_le (fun x => decide (why W H M p (8 * p + k) (x : Int) (y : Int) = 0)) x
    have hc9 := cn_nonneg (fun x => decide (why W H M p (8 * p + k) (x : Int) (y : Int) = 0)) x
    refine T.go [5, 20] 90 ?_
    conv => whnf
    refine ⟨by decide, _, rfl, ?_⟩
    conv => whnf
    refine ⟨by decide, ?_⟩
    conv => whnf
    refine ⟨by omega, fun c29 => ?_, fun c29 => ?_⟩
    · conv => whnf
      refine T.fg [5] ?_
      obtain rfl : x = W := by omega
      rw [hc]
      exact hk
    · conv => whnf
      refine ⟨by decide, _, rfl, ?_⟩
      conv => whnf
      refine ⟨by decide, _, rfl, ?_⟩
      conv => whnf
      have hwb := @why_b W H M p (8 * p + k) (x : Int) (y : Int)
      refine zinv0 (s_X8_hindrance T M (by decide) (by exact cF) (by exact cW.1) (by exact t1) (by exact t2) (by exact t3) (by exact hp) (by omega) (by first | assumption | omega | rfl | decide) (by first | assumption | omega | rfl | decide) ?_)
      conv => whnf
      refine ⟨by omega, fun c49 => ?_, fun c49 => ?_⟩
      · conv => whnf
        refine ih (x + 1) _ (by omega) ?_ (by omega)
        rw [cn_s, hc]
        simp [show ¬ why W H M p (8 * p + k) (x : Int) (y : Int) = 0 from by omega]
      · conv => whnf
        refine ih (x + 1) _ (by omega) ?_ (by omega)
        rw [cn_s, hc]
        simp [show why W H M p (8 * p + k) (x : Int) (y : Int) = 0 from by omega]
        omega
theorem l_spotsO (T : ZTh (XX Ln xs) CZ RZ) {d b : Nat} {Q : ZQ} {p k : Nat} {W H n bl : Nat} {M : Mo} {P SL : Nat → Mo} {u : Nat → Int} {I : ZI} {L : ZL} (hC : CB I L W H M P n SL bl u) (hp : p < 7) (hk8 : k < 8) (h : Q (.inl (some (.inl (spotsA W H M p k)))) I L) (m : Nat) : ∀ (y : Nat) (c : Int), (y ≤ H) → (c = smI (spotsR W H M p k) y) → (H : Int) - (y : Int) < (m : Int) → RZ (d + 3) k_X11_countSpots Q 5 [.inr (.ref 0, 12), .inl ((p : Int)), .inl ((k : Int)), .inl c, .inl ((y : Int)), zj] [] b I L := by
  induction m with
  | zero =>
    intro y c hy hc hm
    exfalso
    omega
  | succ m ih =>
    intro y c hy hc hm
    obtain ⟨cF, cS, cW, cSil, cPa, cPw, cSl, cFi, cb1, cb2, cb3⟩ := id hC
    obtain ⟨t1, t2, t3, t4, t5⟩ := id cS
    obtain ⟨⟨⟨w1, w2, w3, w4⟩, -⟩, w5, -⟩ := id cW
    have hsb := smI_b (spotsR_b (H := H) (M := M) (p := p) (k := k) w2) y
    refine T.go [20] 90 ?_
    conv => whnf
    refine ⟨by decide, _, rfl, ?_⟩
    conv => whnf
    refine ⟨by decide, ?_⟩
    conv => whnf
    refine ⟨by omega, fun c14 => ?_, fun c14 => ?_⟩
    · conv => whnf
      obtain rfl : y = H := by omega
      rw [hc]
      exact h
    · conv => whnf
      exact l_spotsI T (c0 := c) hC hp hk8 (by omega) (by omega) (ih (y + 1) _ (by omega) (by rw [hc]; rfl) (by omega)) (W + 1) 0 c (by omega) (by show c = c + 0; omega) (by omega)
theorem s_X11_countSpots (T : ZTh (XX Ln xs) CZ RZ) {d b : Nat} {p k : Nat} {W H n bl : Nat} {M : Mo} {P SL : Nat → Mo} {u : Nat → Int} {I : ZI} {L : ZL} {Q : ZQ} (hC : CB I L W H M P n SL bl u) (hp : p < 7) (hk8 : k < 8) (h : Q (.inl (some (.inl (spotsA W H M p k)))) I L) : CZ (d + 4) k_X11_countSpots [.inr (.ref 0, 12), .inl ((p : Int)), .inl ((k : Int))] b I L Q := by
  refine T.call rfl ?_
  refine T.go [5] 90 ?_
  conv => whnf
  exact l_spotsO T hC hp hk8 h (H + 1) 0 0 (by omega) rfl (by omega)
theorem l_places (T : ZTh (XX Ln xs) CZ RZ) {d b : Nat} {Q : ZQ} {p : Nat} {W H n bl : Nat} {M : Mo} {P SL : Nat → Mo} {u : Nat → Int} {I : ZI} {L : ZL} (hC : CB I L W H M P n SL bl u) (hp : p < 7) (h : Q (.inl (some (.inl (placesA W H M p)))) I L) (m : Nat) : ∀ (k : Nat) (c : Int), (k ≤ 8) → (c = smI (fun k => if fV (8 * p + k) = 1 then spotsA W H M p k else 0) k) → 8 - (k : Int) < (m : Int) → RZ (d + 4) k_X11_places Q 8 [.inr (.ref 0, 12), .inl ((p : Int)), .inl c, .inl ((k : Int))] [] b I L := by
  induction m with
  | zero =>
    intro k c hk hc hm
    exfalso
    omega
  | succ m ih =>
    intro k c hk hc hm
    obtain ⟨cF, cS, cW, cSil, cPa, cPw, cSl, cFi, cb1, cb2, cb3⟩ := id hC
    obtain ⟨t1, t2, t3, t4, t5⟩ := id cS
    obtain ⟨⟨⟨w1, w2, w3, w4⟩, -⟩, w5, -⟩ := id cW
    have hs9 : ∀ k, 0 ≤ spotsA W H M p k ∧ spotsA W H M p k ≤ 144 := fun k => by
      have := smI_b (spotsR_b (H := H) (M := M) (p := p) (k := k) w2) H
      unfold spotsA
      omega
    have hsb := smI_b (f := fun k => if fV (8 * p + k) = 1 then spotsA W H M p k else 0) (c := 144) (fun k => by have := hs9 k; show 0 ≤ (if fV (8 * p + k) = 1 then spotsA W H M p k else 0) ∧ (if fV (8 * p + k) = 1 then spotsA W H M p k else 0) ≤ (144 : Int); split <;> omega) k
    have hsk := hs9 k
    have g := fun h : k < 8 => (cF (8 * p + k) (by omega)).2.2.2.2.1
    have fw := fun h : k < 8 => (fW_b (i := 8 * p + k) (by omega)).2.2.2.2.2
    refine T.go [8] 90 ?_
    conv => whnf
    refine ⟨by omega, fun c11 => ?_, fun c11 => ?_⟩
    · conv => whnf
      obtain rfl : k = 8 := by omega
      rw [hc]
      exact h
    · conv => whnf
      refine ⟨by decide, _, rfl, ?_⟩
      conv => whnf
      refine zinv0 (s_X11_formAt T (8 * p + k) (by omega) (by omega) ?_)
      conv => whnf
      refine ⟨(show (¬ (_ : Nat) = _) ∧ (¬ (_ : Nat) = _) from by omega), ?_⟩
      conv => whnf
      refine ⟨by have := g (by omega); have := fw (by omega); omega, fun c26 => ?_, fun c26 => ?_⟩
      · conv => whnf
        have hg := g (by omega)
        have hf9 := fw (by omega)
        exact ih (k + 1) _ (by omega) (by rw [hc]; show _ = smI _ k + (if fV (8 * p + k) = 1 then spotsA W H M p k else 0); rw [if_neg (by omega)]; omega) (by omega)
      · conv => whnf
        refine zinv0 (s_X11_countSpots T  (by exact hC) (by exact hp) (by omega) ?_)
        conv => whnf
        have hg := g (by omega)
        have hf9 := fw (by omega)
        exact ih (k + 1) _ (by omega) (by rw [hc]; show _ = smI _ k + (if fV (8 * p + k) = 1 then spotsA W H M p k else 0); rw [if_pos (by omega)]) (by omega)
theorem s_X11_places (T : ZTh (XX Ln xs) CZ RZ) {d b : Nat} {W H n bl : Nat} {M : Mo} {P SL : Nat → Mo} {u : Nat → Int} {p : Int} {I : ZI} {L : ZL} {Q : ZQ} (hb : 1 ≤ b) (hC : CB I L W H M P n SL bl u) (hp : zR p) (h : 0 ≤ p ∧ p < 7 → Q (.inl (some (.inl (placesA W H M p.toNat)))) I L) (h2 : ¬ (0 ≤ p ∧ p < 7) → Q (.inr 2) I L) : CZ (d + 5) k_X11_places [.inr (.ref 0, 12), .inl p] b I L Q := by
  refine T.call rfl ?_
  refine T.go [8] 90 ?_
  conv => whnf
  refine ⟨1, by omega, s_X11_checkPiece T  (by first | assumption | omega | rfl | decide) (by first | assumption | omega | rfl | decide) ?_ ?_⟩
  · intro cha_1
    obtain ⟨pn, rfl⟩ := Int.eq_ofNat_of_zero_le cha_1.1
    conv => whnf
    exact l_places T (p := pn) hC (by omega) (h cha_1) 9 0 0 (by omega) rfl (by omega)
  · intro ch2a_1
    exact h2 ch2a_1
end
