/-! THE REFERENCE ANSWERS, 6: borders -/
section
variable {Ln : Nat} {xs : Nat → Int32} {CZ : Nat → ZC} {RZ : Nat → Nat → ZQ → ZP}
theorem if_cg {c d : Prop} [Decidable c] [Decidable d] {a b a' b' : Int} (h : c ↔ d) (h1 : a = a') (h2 : b = b') : (if c then a else b) = if d then a' else b' := by
  rw [h1, h2]
  by_cases g : c
  · rw [if_pos g, if_pos (h.mp g)]
  · rw [if_neg g, if_neg (fun e => g (h.mpr e))]
theorem cn_non {f : Nat → Bool} (h : ∀ i, f i = false) : ∀ n, cn f n = 0
  | 0 => rfl
  | n + 1 => by
    show cn f n + (bif f n then 1 else 0) = 0
    rw [cn_non h n, h]
    rfl
/-- a piece has an open side among the quarters below q, and q's sides below s -/
noncomputable def brdP (M : Mo) (q s p : Nat) : Bool := dc (∃ q' s' : Nat, q' < 576 ∧ s' < 3 ∧ own M q' = (p : Int) ∧ fil (sil M) (nb q' s') = false ∧ (q' < q ∨ (q' = q ∧ s' < s)))
theorem brdP_0 (M : Mo) (p : Nat) : brdP M 0 0 p = false := by
  rw [brdP, dc_not]
  rintro ⟨q, s, _, _, _, _, h⟩
  omega
theorem brdP_q {M : Mo} {q : Nat} (p : Nat) : brdP M q 3 p = brdP M (q + 1) 0 p := by
  apply dc_congr
  constructor
  · rintro ⟨q', s, h1, h2, h3, h4, h6⟩
    exact ⟨q', s, h1, h2, h3, h4, by omega⟩
  · rintro ⟨q', s, h1, h2, h3, h4, h6⟩
    exact ⟨q', s, h1, h2, h3, h4, by omega⟩
theorem brdP_off {M : Mo} {q : Nat} (hO : sil M q = false) (p : Nat) : brdP M (q + 1) 0 p = brdP M q 0 p := by
  apply dc_congr
  constructor
  · rintro ⟨q', s, h1, h2, h3, h4, h6⟩
    refine ⟨q', s, h1, h2, h3, h4, ?_⟩
    by_cases e : q' = q
    · subst e
      unfold sil at hO
      rw [decide_eq_false (by omega)] at hO
      cases hO
    · omega
  · rintro ⟨q', s, h1, h2, h3, h4, h6⟩
    exact ⟨q', s, h1, h2, h3, h4, by omega⟩
theorem brdP_in {M : Mo} {q s : Nat} (hn : fil (sil M) (nb q s) = true) (p : Nat) : brdP M q (s + 1) p = brdP M q s p := by
  apply dc_congr
  constructor
  · rintro ⟨q', s', h1, h2, h3, h4, h6⟩
    refine ⟨q', s', h1, h2, h3, h4, ?_⟩
    by_cases e : q' = q ∧ s' = s
    · obtain ⟨e1, e2⟩ := e
      subst e1 e2
      rw [hn] at h4
      cases h4
    · omega
  · rintro ⟨q', s', h1, h2, h3, h4, h6⟩
    exact ⟨q', s', h1, h2, h3, h4, by omega⟩
theorem brdP_new {M : Mo} {q s : Nat} (hq : q < 576) (hs : s < 3) (hn : fil (sil M) (nb q s) = false) (p : Nat) : brdP M q (s + 1) p = (if own M q = (p : Int) then true else brdP M q s p) := by
  apply Bool.eq_iff_iff.mpr
  constructor
  · intro h
    rw [brdP, dc_iff] at h
    obtain ⟨q', s', h1, h2, h3, h4, h6⟩ := h
    by_cases e0 : own M q = (p : Int)
    · rw [if_pos e0]
    · rw [if_neg e0, brdP, dc_iff]
      refine ⟨q', s', h1, h2, h3, h4, ?_⟩
      by_cases e1 : q' = q ∧ s' = s
      · rw [e1.1] at h3; exact (e0 h3).elim
      · omega
  · intro h
    rw [brdP, dc_iff]
    by_cases e0 : own M q = (p : Int)
    · exact ⟨q, s, hq, hs, e0, hn, by omega⟩
    · rw [if_neg e0, brdP, dc_iff] at h
      obtain ⟨q', s', h1, h2, h3, h4, h6⟩ := h
      exact ⟨q', s', h1, h2, h3, h4, by omega⟩
/-- the borders of the quarters below q, and of q's sides below s, are laid -/
def LB (I : ZI) (M : Mo) (q s : Nat) : Prop := (∀ e : Nat, e < 5000 → I 621 e = bi (bsP (sil M) q s e) ∧ I 622 e = 0) ∧ (∀ p : Nat, p < 7 → I 623 p = bi (brdP M q s p)) ∧
  I 603 24 = cn (fun e => bsP (sil M) q s e && decide (e % 2 = 0)) 5000 ∧ I 603 25 = cn (fun e => bsP (sil M) q s e && decide (e % 2 = 1)) 5000
theorem LB.q {I : ZI} {M : Mo} {q : Nat} (h : LB I M q 3) : LB I M (q + 1) 0 := by
  unfold LB at h ⊢
  rw [show bsP (sil M) q 3 = bsP (sil M) (q + 1) 0 from funext fun e => bsP_q e, show brdP M q 3 = brdP M (q + 1) 0 from funext fun e => brdP_q e] at h
  exact h
theorem LB.off {I : ZI} {M : Mo} {q : Nat} (hO : sil M q = false) (h : LB I M q 0) : LB I M (q + 1) 0 := by
  unfold LB at h ⊢
  rw [show bsP (sil M) (q + 1) 0 = bsP (sil M) q 0 from funext fun e => bsP_off hO e, show brdP M (q + 1) 0 = brdP M q 0 from funext fun e => brdP_off hO e]
  exact h
theorem LB.inn {I : ZI} {M : Mo} {q s : Nat} (hn : fil (sil M) (nb q s) = true) (h : LB I M q s) : LB I M q (s + 1) := by
  unfold LB at h ⊢
  rw [show bsP (sil M) q (s + 1) = bsP (sil M) q s from funext fun e => bsP_in hn e, show brdP M q (s + 1) = brdP M q s from funext fun e => brdP_in hn e]
  exact h
theorem bd_par {q s : Nat} (hs : s < 3) : bd q s % 2 = 0 ↔ s = 0 := by
  unfold bd
  dsimp only
  by_cases e : s = 2
  · rw [if_pos e]; omega
  · rw [if_neg e]; omega
theorem LB.new {I I' : ZI} {M : Mo} {q s : Nat} (hq : q < 576) (hs : s < 3) (hO : sil M q = true) (hn : fil (sil M) (nb q s) = false) (h : LB I M q s)
    (h1 : ∀ j, I' 621 j = if j = ((bd q s : Nat) : Int) then 1 else I 621 j) (h2 : ∀ j, I' 622 j = I 622 j) (h3 : ∀ j, I' 623 j = if j = own M q then 1 else I 623 j)
    (h4 : I' 603 24 = I 603 24 + (if s = 0 then 1 else 0)) (h5 : I' 603 25 = I 603 25 + (if s = 0 then 0 else 1)) : LB I' M q (s + 1) := by
  obtain ⟨a1, a2, a3, a4⟩ := h
  have hnew := bsP_new hq hs hO hn
  have hfr := bsP_fresh (O := sil M) hq hs
  have hlt := (bd_ok hq hs).1
  have hpar := bd_par (q := q) hs
  refine ⟨fun e he => ⟨?_, by rw [h2]; exact (a1 e he).2⟩, fun p hp => ?_, ?_, ?_⟩
  · rw [h1, hnew]
    by_cases c : e = bd q s
    · rw [if_pos (by omega), if_pos c]; rfl
    · rw [if_neg (by omega), if_neg c]; exact (a1 e he).1
  · rw [h3, brdP_new hq hs hn]
    by_cases c : own M q = (p : Int)
    · rw [if_pos c.symm, if_pos c]; rfl
    · rw [if_neg (fun g => c g.symm), if_neg c]; exact a2 p hp
  · rw [h4, a3]
    by_cases c : s = 0
    · rw [if_pos c]
      refine (cn_put (k := bd q s) ?_ ?_ (fun i hi => ?_) hlt).symm
      · rw [hfr]; rfl
      · rw [hnew, if_pos rfl, decide_eq_true (hpar.mpr c)]; rfl
      · rw [hnew, if_neg hi]
    · rw [if_neg c, Int.add_zero]
      refine cn_congr 5000 (fun i _ => ?_)
      rw [hnew]
      by_cases e : i = bd q s
      · rw [if_pos e, decide_eq_false (fun g => c (hpar.mp (by rw [← e]; exact g))), Bool.and_false, Bool.and_false]
      · rw [if_neg e]
  · rw [h5, a4]
    by_cases c : s = 0
    · rw [if_pos c, Int.add_zero]
      refine cn_congr 5000 (fun i _ => ?_)
      rw [hnew]
      by_cases e : i = bd q s
      · rw [if_pos e, decide_eq_false (fun g => by have := hpar.mpr c; rw [← e] at this; omega), Bool.and_false, Bool.and_false]
      · rw [if_neg e]
    · rw [if_neg c]
      refine (cn_put (k := bd q s) ?_ ?_ (fun i hi => ?_) hlt).symm
      · rw [hfr]; rfl
      · rw [hnew, if_pos rfl, decide_eq_true (show bd q s % 2 = 1 from by
          rcases Nat.mod_two_eq_zero_or_one (bd q s) with g | g
          · exact absurd (hpar.mp g) c
          · exact g)]; rfl
      · rw [hnew, if_neg hi]
theorem LB.zero {I : ZI} {M : Mo} (h1 : ∀ e : Nat, e < 5000 → I 621 e = 0 ∧ I 622 e = 0) (h2 : ∀ p : Nat, p < 7 → I 623 p = 0) (h3 : I 603 24 = 0) (h4 : I 603 25 = 0) : LB I M 0 0 := by
  unfold LB
  rw [show bsP (sil M) 0 0 = fun _ => false from funext fun e => bsP_0 _ e, show brdP M 0 0 = fun _ => false from funext fun e => brdP_0 _ e]
  refine ⟨fun e he => h1 e he, fun p hp => h2 p hp, ?_, ?_⟩
  · rw [h3]; exact (cn_non (fun i => rfl) 5000).symm
  · rw [h4]; exact (cn_non (fun i => rfl) 5000).symm
/-- what laysBorder may change -/
def PBo : Nat → Int → Prop := fun a b => a = 621 ∨ a = 623 ∨ (a = 603 ∧ (b = 24 ∨ b = 25))
/-- what laysBorders may change -/
def PBs : Nat → Int → Prop := fun a b => (620 ≤ a ∧ a ≤ 623) ∨ (a = 603 ∧ (b = 24 ∨ b = 25))
theorem PBo_s : ∀ a b, PBo a b → PBs a b := fun a b h => by unfold PBo at h; unfold PBs; omega
theorem PBs_c : ∀ a b, PBs a b → PSc a b := fun a b h => by unfold PBs at h; unfold PSc; omega
theorem s_X12_pointAt (T : ZTh (XX Ln xs) CZ RZ) {d b : Nat} {x y : Int} {I : ZI} {L : ZL} {Q : ZQ}  (h : Q (.inl (some (.inl (25 * y + x)))) I L) : CZ (d + 1) k_X12_pointAt [.inl x, .inl y] b I L Q := by
  refine T.call rfl ?_
  refine T.go [] 90 ?_
  conv => whnf
  exact h
theorem s_X12_laysBorder (T : ZTh (XX Ln xs) CZ RZ) {d b : Nat} {q s p : Nat} {I : ZI} {L : ZL} {Q : ZQ} (hq : q < 576 ∧ s < 3) (hp : I 620 (q : Int) = (p : Int) ∧ p < 7) (h : ∀ I', Fr PBo I I' → (∀ j, I' 621 j = if j = ((bd q s : Nat) : Int) then 1 else I 621 j) → (∀ j, I' 623 j = if j = (p : Int) then 1 else I 623 j) → I' 603 24 = I 603 24 + (if s = 0 then 1 else 0) → I' 603 25 = I 603 25 + (if s = 0 then 0 else 1) → Q (.inl none) I' L) : CZ (d + 2) k_X12_laysBorder [.inr (.ref 603, 13), .inl ((q : Int)), .inl ((s : Int))] b I L Q := by
  refine T.call rfl ?_
  refine T.go [] 300 ?_
  conv => whnf
  refine ⟨by omega, ?_⟩
  conv => whnf
  refine ⟨by omega, Or.inl ⟨by omega, ?_⟩⟩
  conv => whnf
  refine ⟨by omega, ?_⟩
  conv => whnf
  refine ⟨by omega, Or.inl ⟨by omega, ?_⟩⟩
  conv => whnf
  refine ⟨by omega, Or.inl ⟨by omega, ?_⟩⟩
  conv => whnf
  refine ⟨by omega, fun c26 => ?_, fun c26 => ?_⟩
  · conv => whnf
    refine ⟨by omega, fun c45 => ?_, fun c45 => ?_⟩
    · conv => whnf
      refine ⟨by omega, fun c67 => ?_, fun c67 => by exfalso; omega⟩
      conv => whnf
      refine ⟨by omega, fun c80 => ?_, fun c80 => ?_⟩
      · conv => whnf
        refine zinv0 (s_X12_pointAt T   ?_)
        conv => whnf
        refine ⟨by omega, fun c110 => by exfalso; omega, fun c110 => ?_⟩
        conv => whnf
        refine ⟨by omega, ?_⟩
        conv => whnf
        refine ⟨by decide, _, rfl, ?_⟩
        conv => whnf
        refine ⟨by omega, ⟨by decide, by decide, by omega⟩, ?_⟩
        conv => whnf
        refine ⟨by decide, _, rfl, ?_⟩
        conv => whnf
        refine ⟨by decide, _, rfl, ?_⟩
        conv => whnf
        refine ⟨by omega, by decide, ?_⟩
        conv => whnf
        refine ⟨by rw [v2_ne (by omega), hp.1]; omega, ⟨by decide, by decide, by omega⟩, ?_⟩
        conv => whnf
        refine ⟨by decide, ?_⟩
        conv => whnf
        refine ⟨by omega, fun c165 => by exfalso; omega, fun c165 => ?_⟩
        conv => whnf
        refine ⟨by decide, ?_⟩
        conv => whnf
        refine ⟨by decide, ?_⟩
        conv => whnf
        refine ⟨by omega, fun c183 => by exfalso; omega, fun c183 => ?_⟩
        conv => whnf
        refine ⟨by decide, ?_⟩
        conv => whnf
        refine h _ (((((Fr.refl I).v2 (Or.inl rfl)).v2 (Or.inr (Or.inl rfl))).v2 (Or.inr (Or.inr ⟨rfl, Or.inl rfl⟩))).v2 (Or.inr (Or.inr ⟨rfl, Or.inr rfl⟩))) (fun j => ?_) (fun j => ?_) ?_ ?_
        · rw [v2_ne (by omega), v2_ne (by omega), v2_ne (by omega), v2_ap]
          refine if_cg ⟨fun g => ?_, fun g => ⟨rfl, ?_⟩⟩ rfl rfl
          · rw [g.2]
            unfold bd
            dsimp only
            (repeat' split) <;> omega
          · rw [g]
            unfold bd
            dsimp only
            (repeat' split) <;> omega
        · rw [v2_ne (by omega), v2_ne (by omega), v2_ap, v2_ne (a := 620) (by omega), v2_ne (a := 623) (by omega), hp.1]
          exact if_cg ⟨fun g => g.2, fun g => ⟨rfl, g⟩⟩ rfl rfl
        · rw [v2_ne (by omega), v2_eq, v2_ne (by omega), v2_ne (by omega)]
          first | rw [if_pos (by omega)] | rw [if_neg (by omega)]
        · rw [v2_eq, v2_ne (by omega), v2_ne (by omega), v2_ne (by omega)]
          first | rw [if_pos (by omega)] | rw [if_neg (by omega)]
      · conv => whnf
        refine zinv0 (s_X12_pointAt T   ?_)
        conv => whnf
        refine ⟨by omega, fun c110 => ?_, fun c110 => by exfalso; omega⟩
        conv => whnf
        refine ⟨by omega, fun c119 => ?_, fun c119 => by exfalso; omega⟩
        conv => whnf
        refine ⟨by omega, ?_⟩
        conv => whnf
        refine ⟨by decide, _, rfl, ?_⟩
        conv => whnf
        refine ⟨by omega, ⟨by decide, by decide, by omega⟩, ?_⟩
        conv => whnf
        refine ⟨by decide, _, rfl, ?_⟩
        conv => whnf
        refine ⟨by decide, _, rfl, ?_⟩
        conv => whnf
        refine ⟨by omega, by decide, ?_⟩
        conv => whnf
        refine ⟨by rw [v2_ne (by omega), hp.1]; omega, ⟨by decide, by decide, by omega⟩, ?_⟩
        conv => whnf
        refine ⟨by decide, ?_⟩
        conv => whnf
        refine ⟨by omega, fun c165 => ?_, fun c165 => by exfalso; omega⟩
        conv => whnf
        refine ⟨by decide, ?_⟩
        conv => whnf
        refine ⟨by decide, ?_⟩
        conv => whnf
        refine ⟨by omega, fun c183 => ?_, fun c183 => by exfalso; omega⟩
        conv => whnf
        refine ⟨by decide, ?_⟩
        conv => whnf
        refine h _ (((((Fr.refl I).v2 (Or.inl rfl)).v2 (Or.inr (Or.inl rfl))).v2 (Or.inr (Or.inr ⟨rfl, Or.inl rfl⟩))).v2 (Or.inr (Or.inr ⟨rfl, Or.inr rfl⟩))) (fun j => ?_) (fun j => ?_) ?_ ?_
        · rw [v2_ne (by omega), v2_ne (by omega), v2_ne (by omega), v2_ap]
          refine if_cg ⟨fun g => ?_, fun g => ⟨rfl, ?_⟩⟩ rfl rfl
          · rw [g.2]
            unfold bd
            dsimp only
            (repeat' split) <;> omega
          · rw [g]
            unfold bd
            dsimp only
            (repeat' split) <;> omega
        · rw [v2_ne (by omega), v2_ne (by omega), v2_ap, v2_ne (a := 620) (by omega), v2_ne (a := 623) (by omega), hp.1]
          exact if_cg ⟨fun g => g.2, fun g => ⟨rfl, g⟩⟩ rfl rfl
        · rw [v2_ne (by omega), v2_eq, v2_ne (by omega), v2_ne (by omega)]
          first | rw [if_pos (by omega)] | rw [if_neg (by omega)]
        · rw [v2_eq, v2_ne (by omega), v2_ne (by omega), v2_ne (by omega)]
          first | rw [if_pos (by omega)] | rw [if_neg (by omega)]
    · conv => whnf
      refine ⟨by omega, fun c51 => ?_, fun c51 => ?_⟩
      · conv => whnf
        refine ⟨by omega, fun c67 => ?_, fun c67 => ?_⟩
        · conv => whnf
          refine ⟨by omega, fun c80 => ?_, fun c80 => ?_⟩
          · conv => whnf
            refine zinv0 (s_X12_pointAt T   ?_)
            conv => whnf
            refine ⟨by omega, fun c110 => by exfalso; omega, fun c110 => ?_⟩
            conv => whnf
            refine ⟨by omega, ?_⟩
            conv => whnf
            refine ⟨by decide, _, rfl, ?_⟩
            conv => whnf
            refine ⟨by omega, ⟨by decide, by decide, by omega⟩, ?_⟩
            conv => whnf
            refine ⟨by decide, _, rfl, ?_⟩
            conv => whnf
            refine ⟨by decide, _, rfl, ?_⟩
            conv => whnf
            refine ⟨by omega, by decide, ?_⟩
            conv => whnf
            refine ⟨by rw [v2_ne (by omega), hp.1]; omega, ⟨by decide, by decide, by omega⟩, ?_⟩
            conv => whnf
            refine ⟨by decide, ?_⟩
            conv => whnf
            refine ⟨by omega, fun c165 => by exfalso; omega, fun c165 => ?_⟩
            conv => whnf
            refine ⟨by decide, ?_⟩
            conv => whnf
            refine ⟨by decide, ?_⟩
            conv => whnf
            refine ⟨by omega, fun c183 => by exfalso; omega, fun c183 => ?_⟩
            conv => whnf
            refine ⟨by decide, ?_⟩
            conv => whnf
            refine h _ (((((Fr.refl I).v2 (Or.inl rfl)).v2 (Or.inr (Or.inl rfl))).v2 (Or.inr (Or.inr ⟨rfl, Or.inl rfl⟩))).v2 (Or.inr (Or.inr ⟨rfl, Or.inr rfl⟩))) (fun j => ?_) (fun j => ?_) ?_ ?_
            · rw [v2_ne (by omega), v2_ne (by omega), v2_ne (by omega), v2_ap]
              refine if_cg ⟨fun g => ?_, fun g => ⟨rfl, ?_⟩⟩ rfl rfl
              · rw [g.2]
                unfold bd
                dsimp only
                (repeat' split) <;> omega
              · rw [g]
                unfold bd
                dsimp only
                (repeat' split) <;> omega
            · rw [v2_ne (by omega), v2_ne (by omega), v2_ap, v2_ne (a := 620) (by omega), v2_ne (a := 623) (by omega), hp.1]
              exact if_cg ⟨fun g => g.2, fun g => ⟨rfl, g⟩⟩ rfl rfl
            · rw [v2_ne (by omega), v2_eq, v2_ne (by omega), v2_ne (by omega)]
              first | rw [if_pos (by omega)] | rw [if_neg (by omega)]
            · rw [v2_eq, v2_ne (by omega), v2_ne (by omega), v2_ne (by omega)]
              first | rw [if_pos (by omega)] | rw [if_neg (by omega)]
          · conv => whnf
            refine zinv0 (s_X12_pointAt T   ?_)
            conv => whnf
            refine ⟨by omega, fun c110 => ?_, fun c110 => by exfalso; omega⟩
            conv => whnf
            refine ⟨by omega, fun c119 => ?_, fun c119 => by exfalso; omega⟩
            conv => whnf
            refine ⟨by omega, ?_⟩
            conv => whnf
            refine ⟨by decide, _, rfl, ?_⟩
            conv => whnf
            refine ⟨by omega, ⟨by decide, by decide, by omega⟩, ?_⟩
            conv => whnf
            refine ⟨by decide, _, rfl, ?_⟩
            conv => whnf
            refine ⟨by decide, _, rfl, ?_⟩
            conv => whnf
            refine ⟨by omega, by decide, ?_⟩
            conv => whnf
            refine ⟨by rw [v2_ne (by omega), hp.1]; omega, ⟨by decide, by decide, by omega⟩, ?_⟩
            conv => whnf
            refine ⟨by decide, ?_⟩
            conv => whnf
            refine ⟨by omega, fun c165 => ?_, fun c165 => by exfalso; omega⟩
            conv => whnf
            refine ⟨by decide, ?_⟩
            conv => whnf
            refine ⟨by decide, ?_⟩
            conv => whnf
            refine ⟨by omega, fun c183 => ?_, fun c183 => by exfalso; omega⟩
            conv => whnf
            refine ⟨by decide, ?_⟩
            conv => whnf
            refine h _ (((((Fr.refl I).v2 (Or.inl rfl)).v2 (Or.inr (Or.inl rfl))).v2 (Or.inr (Or.inr ⟨rfl, Or.inl rfl⟩))).v2 (Or.inr (Or.inr ⟨rfl, Or.inr rfl⟩))) (fun j => ?_) (fun j => ?_) ?_ ?_
            · rw [v2_ne (by omega), v2_ne (by omega), v2_ne (by omega), v2_ap]
              refine if_cg ⟨fun g => ?_, fun g => ⟨rfl, ?_⟩⟩ rfl rfl
              · rw [g.2]
                unfold bd
                dsimp only
                (repeat' split) <;> omega
              · rw [g]
                unfold bd
                dsimp only
                (repeat' split) <;> omega
            · rw [v2_ne (by omega), v2_ne (by omega), v2_ap, v2_ne (a := 620) (by omega), v2_ne (a := 623) (by omega), hp.1]
              exact if_cg ⟨fun g => g.2, fun g => ⟨rfl, g⟩⟩ rfl rfl
            · rw [v2_ne (by omega), v2_eq, v2_ne (by omega), v2_ne (by omega)]
              first | rw [if_pos (by omega)] | rw [if_neg (by omega)]
            · rw [v2_eq, v2_ne (by omega), v2_ne (by omega), v2_ne (by omega)]
              first | rw [if_pos (by omega)] | rw [if_neg (by omega)]
        · conv => whnf
          refine ⟨by omega, fun c80 => ?_, fun c80 => ?_⟩
          · conv => whnf
            refine zinv0 (s_X12_pointAt T   ?_)
            conv => whnf
            refine ⟨by omega, fun c110 => by exfalso; omega, fun c110 => ?_⟩
            conv => whnf
            refine ⟨by omega, ?_⟩
            conv => whnf
            refine ⟨by decide, _, rfl, ?_⟩
            conv => whnf
            refine ⟨by omega, ⟨by decide, by decide, by omega⟩, ?_⟩
            conv => whnf
            refine ⟨by decide, _, rfl, ?_⟩
            conv => whnf
            refine ⟨by decide, _, rfl, ?_⟩
            conv => whnf
            refine ⟨by omega, by decide, ?_⟩
            conv => whnf
            refine ⟨by rw [v2_ne (by omega), hp.1]; omega, ⟨by decide, by decide, by omega⟩, ?_⟩
            conv => whnf
            refine ⟨by decide, ?_⟩
            conv => whnf
            refine ⟨by omega, fun c165 => by exfalso; omega, fun c165 => ?_⟩
            conv => whnf
            refine ⟨by decide, ?_⟩
            conv => whnf
            refine ⟨by decide, ?_⟩
            conv => whnf
            refine ⟨by omega, fun c183 => by exfalso; omega, fun c183 => ?_⟩
            conv => whnf
            refine ⟨by decide, ?_⟩
            conv => whnf
            refine h _ (((((Fr.refl I).v2 (Or.inl rfl)).v2 (Or.inr (Or.inl rfl))).v2 (Or.inr (Or.inr ⟨rfl, Or.inl rfl⟩))).v2 (Or.inr (Or.inr ⟨rfl, Or.inr rfl⟩))) (fun j => ?_) (fun j => ?_) ?_ ?_
            · rw [v2_ne (by omega), v2_ne (by omega), v2_ne (by omega), v2_ap]
              refine if_cg ⟨fun g => ?_, fun g => ⟨rfl, ?_⟩⟩ rfl rfl
              · rw [g.2]
                unfold bd
                dsimp only
                (repeat' split) <;> omega
              · rw [g]
                unfold bd
                dsimp only
                (repeat' split) <;> omega
            · rw [v2_ne (by omega), v2_ne (by omega), v2_ap, v2_ne (a := 620) (by omega), v2_ne (a := 623) (by omega), hp.1]
              exact if_cg ⟨fun g => g.2, fun g => ⟨rfl, g⟩⟩ rfl rfl
            · rw [v2_ne (by omega), v2_eq, v2_ne (by omega), v2_ne (by omega)]
              first | rw [if_pos (by omega)] | rw [if_neg (by omega)]
            · rw [v2_eq, v2_ne (by omega), v2_ne (by omega), v2_ne (by omega)]
              first | rw [if_pos (by omega)] | rw [if_neg (by omega)]
          · conv => whnf
            refine zinv0 (s_X12_pointAt T   ?_)
            conv => whnf
            refine ⟨by omega, fun c110 => ?_, fun c110 => by exfalso; omega⟩
            conv => whnf
            refine ⟨by omega, fun c119 => ?_, fun c119 => by exfalso; omega⟩
            conv => whnf
            refine ⟨by omega, ?_⟩
            conv => whnf
            refine ⟨by decide, _, rfl, ?_⟩
            conv => whnf
            refine ⟨by omega, ⟨by decide, by decide, by omega⟩, ?_⟩
            conv => whnf
            refine ⟨by decide, _, rfl, ?_⟩
            conv => whnf
            refine ⟨by decide, _, rfl, ?_⟩
            conv => whnf
            refine ⟨by omega, by decide, ?_⟩
            conv => whnf
            refine ⟨by rw [v2_ne (by omega), hp.1]; omega, ⟨by decide, by decide, by omega⟩, ?_⟩
            conv => whnf
            refine ⟨by decide, ?_⟩
            conv => whnf
            refine ⟨by omega, fun c165 => ?_, fun c165 => by exfalso; omega⟩
            conv => whnf
            refine ⟨by decide, ?_⟩
            conv => whnf
            refine ⟨by decide, ?_⟩
            conv => whnf
            refine ⟨by omega, fun c183 => ?_, fun c183 => by exfalso; omega⟩
            conv => whnf
            refine ⟨by decide, ?_⟩
            conv => whnf
            refine h _ (((((Fr.refl I).v2 (Or.inl rfl)).v2 (Or.inr (Or.inl rfl))).v2 (Or.inr (Or.inr ⟨rfl, Or.inl rfl⟩))).v2 (Or.inr (Or.inr ⟨rfl, Or.inr rfl⟩))) (fun j => ?_) (fun j => ?_) ?_ ?_
            · rw [v2_ne (by omega), v2_ne (by omega), v2_ne (by omega), v2_ap]
              refine if_cg ⟨fun g => ?_, fun g => ⟨rfl, ?_⟩⟩ rfl rfl
              · rw [g.2]
                unfold bd
                dsimp only
                (repeat' split) <;> omega
              · rw [g]
                unfold bd
                dsimp only
                (repeat' split) <;> omega
            · rw [v2_ne (by omega), v2_ne (by omega), v2_ap, v2_ne (a := 620) (by omega), v2_ne (a := 623) (by omega), hp.1]
              exact if_cg ⟨fun g => g.2, fun g => ⟨rfl, g⟩⟩ rfl rfl
            · rw [v2_ne (by omega), v2_eq, v2_ne (by omega), v2_ne (by omega)]
              first | rw [if_pos (by omega)] | rw [if_neg (by omega)]
            · rw [v2_eq, v2_ne (by omega), v2_ne (by omega), v2_ne (by omega)]
              first | rw [if_pos (by omega)] | rw [if_neg (by omega)]
      · conv => whnf
        refine ⟨by omega, fun c67 => by exfalso; omega, fun c67 => ?_⟩
        conv => whnf
        refine ⟨by omega, fun c80 => ?_, fun c80 => ?_⟩
        · conv => whnf
          refine zinv0 (s_X12_pointAt T   ?_)
          conv => whnf
          refine ⟨by omega, fun c110 => by exfalso; omega, fun c110 => ?_⟩
          conv => whnf
          refine ⟨by omega, ?_⟩
          conv => whnf
          refine ⟨by decide, _, rfl, ?_⟩
          conv => whnf
          refine ⟨by omega, ⟨by decide, by decide, by omega⟩, ?_⟩
          conv => whnf
          refine ⟨by decide, _, rfl, ?_⟩
          conv => whnf
          refine ⟨by decide, _, rfl, ?_⟩
          conv => whnf
          refine ⟨by omega, by decide, ?_⟩
          conv => whnf
          refine ⟨by rw [v2_ne (by omega), hp.1]; omega, ⟨by decide, by decide, by omega⟩, ?_⟩
          conv => whnf
          refine ⟨by decide, ?_⟩
          conv => whnf
          refine ⟨by omega, fun c165 => by exfalso; omega, fun c165 => ?_⟩
          conv => whnf
          refine ⟨by decide, ?_⟩
          conv => whnf
          refine ⟨by decide, ?_⟩
          conv => whnf
          refine ⟨by omega, fun c183 => by exfalso; omega, fun c183 => ?_⟩
          conv => whnf
          refine ⟨by decide, ?_⟩
          conv => whnf
          refine h _ (((((Fr.refl I).v2 (Or.inl rfl)).v2 (Or.inr (Or.inl rfl))).v2 (Or.inr (Or.inr ⟨rfl, Or.inl rfl⟩))).v2 (Or.inr (Or.inr ⟨rfl, Or.inr rfl⟩))) (fun j => ?_) (fun j => ?_) ?_ ?_
          · rw [v2_ne (by omega), v2_ne (by omega), v2_ne (by omega), v2_ap]
            refine if_cg ⟨fun g => ?_, fun g => ⟨rfl, ?_⟩⟩ rfl rfl
            · rw [g.2]
              unfold bd
              dsimp only
              (repeat' split) <;> omega
            · rw [g]
              unfold bd
              dsimp only
              (repeat' split) <;> omega
          · rw [v2_ne (by omega), v2_ne (by omega), v2_ap, v2_ne (a := 620) (by omega), v2_ne (a := 623) (by omega), hp.1]
            exact if_cg ⟨fun g => g.2, fun g => ⟨rfl, g⟩⟩ rfl rfl
          · rw [v2_ne (by omega), v2_eq, v2_ne (by omega), v2_ne (by omega)]
            first | rw [if_pos (by omega)] | rw [if_neg (by omega)]
          · rw [v2_eq, v2_ne (by omega), v2_ne (by omega), v2_ne (by omega)]
            first | rw [if_pos (by omega)] | rw [if_neg (by omega)]
        · conv => whnf
          refine zinv0 (s_X12_pointAt T   ?_)
          conv => whnf
          refine ⟨by omega, fun c110 => ?_, fun c110 => by exfalso; omega⟩
          conv => whnf
          refine ⟨by omega, fun c119 => ?_, fun c119 => by exfalso; omega⟩
          conv => whnf
          refine ⟨by omega, ?_⟩
          conv => whnf
          refine ⟨by decide, _, rfl, ?_⟩
          conv => whnf
          refine ⟨by omega, ⟨by decide, by decide, by omega⟩, ?_⟩
          conv => whnf
          refine ⟨by decide, _, rfl, ?_⟩
          conv => whnf
          refine ⟨by decide, _, rfl, ?_⟩
          conv => whnf
          refine ⟨by omega, by decide, ?_⟩
          conv => whnf
          refine ⟨by rw [v2_ne (by omega), hp.1]; omega, ⟨by decide, by decide, by omega⟩, ?_⟩
          conv => whnf
          refine ⟨by decide, ?_⟩
          conv => whnf
          refine ⟨by omega, fun c165 => ?_, fun c165 => by exfalso; omega⟩
          conv => whnf
          refine ⟨by decide, ?_⟩
          conv => whnf
          refine ⟨by decide, ?_⟩
          conv => whnf
          refine ⟨by omega, fun c183 => ?_, fun c183 => by exfalso; omega⟩
          conv => whnf
          refine ⟨by decide, ?_⟩
          conv => whnf
          refine h _ (((((Fr.refl I).v2 (Or.inl rfl)).v2 (Or.inr (Or.inl rfl))).v2 (Or.inr (Or.inr ⟨rfl, Or.inl rfl⟩))).v2 (Or.inr (Or.inr ⟨rfl, Or.inr rfl⟩))) (fun j => ?_) (fun j => ?_) ?_ ?_
          · rw [v2_ne (by omega), v2_ne (by omega), v2_ne (by omega), v2_ap]
            refine if_cg ⟨fun g => ?_, fun g => ⟨rfl, ?_⟩⟩ rfl rfl
            · rw [g.2]
              unfold bd
              dsimp only
              (repeat' split) <;> omega
            · rw [g]
              unfold bd
              dsimp only
              (repeat' split) <;> omega
          · rw [v2_ne (by omega), v2_ne (by omega), v2_ap, v2_ne (a := 620) (by omega), v2_ne (a := 623) (by omega), hp.1]
            exact if_cg ⟨fun g => g.2, fun g => ⟨rfl, g⟩⟩ rfl rfl
          · rw [v2_ne (by omega), v2_eq, v2_ne (by omega), v2_ne (by omega)]
            first | rw [if_pos (by omega)] | rw [if_neg (by omega)]
          · rw [v2_eq, v2_ne (by omega), v2_ne (by omega), v2_ne (by omega)]
            first | rw [if_pos (by omega)] | rw [if_neg (by omega)]
  · conv => whnf
    refine ⟨by omega, ?_⟩
    conv => whnf
    refine ⟨by omega, fun c45 => ?_, fun c45 => ?_⟩
    · conv => whnf
      refine ⟨by omega, fun c67 => ?_, fun c67 => by exfalso; omega⟩
      conv => whnf
      refine ⟨by omega, fun c80 => ?_, fun c80 => by exfalso; omega⟩
      conv => whnf
      refine zinv0 (s_X12_pointAt T   ?_)
      conv => whnf
      refine ⟨by omega, fun c110 => ?_, fun c110 => by exfalso; omega⟩
      conv => whnf
      refine ⟨by omega, fun c119 => by exfalso; omega, fun c119 => ?_⟩
      conv => whnf
      refine ⟨by omega, ?_⟩
      conv => whnf
      refine ⟨by decide, _, rfl, ?_⟩
      conv => whnf
      refine ⟨by omega, ⟨by decide, by decide, by omega⟩, ?_⟩
      conv => whnf
      refine ⟨by decide, _, rfl, ?_⟩
      conv => whnf
      refine ⟨by decide, _, rfl, ?_⟩
      conv => whnf
      refine ⟨by omega, by decide, ?_⟩
      conv => whnf
      refine ⟨by rw [v2_ne (by omega), hp.1]; omega, ⟨by decide, by decide, by omega⟩, ?_⟩
      conv => whnf
      refine ⟨by decide, ?_⟩
      conv => whnf
      refine ⟨by omega, fun c165 => ?_, fun c165 => by exfalso; omega⟩
      conv => whnf
      refine ⟨by decide, ?_⟩
      conv => whnf
      refine ⟨by decide, ?_⟩
      conv => whnf
      refine ⟨by omega, fun c183 => ?_, fun c183 => by exfalso; omega⟩
      conv => whnf
      refine ⟨by decide, ?_⟩
      conv => whnf
      refine h _ (((((Fr.refl I).v2 (Or.inl rfl)).v2 (Or.inr (Or.inl rfl))).v2 (Or.inr (Or.inr ⟨rfl, Or.inl rfl⟩))).v2 (Or.inr (Or.inr ⟨rfl, Or.inr rfl⟩))) (fun j => ?_) (fun j => ?_) ?_ ?_
      · rw [v2_ne (by omega), v2_ne (by omega), v2_ne (by omega), v2_ap]
        refine if_cg ⟨fun g => ?_, fun g => ⟨rfl, ?_⟩⟩ rfl rfl
        · rw [g.2]
          unfold bd
          dsimp only
          (repeat' split) <;> omega
        · rw [g]
          unfold bd
          dsimp only
          (repeat' split) <;> omega
      · rw [v2_ne (by omega), v2_ne (by omega), v2_ap, v2_ne (a := 620) (by omega), v2_ne (a := 623) (by omega), hp.1]
        exact if_cg ⟨fun g => g.2, fun g => ⟨rfl, g⟩⟩ rfl rfl
      · rw [v2_ne (by omega), v2_eq, v2_ne (by omega), v2_ne (by omega)]
        first | rw [if_pos (by omega)] | rw [if_neg (by omega)]
      · rw [v2_eq, v2_ne (by omega), v2_ne (by omega), v2_ne (by omega)]
        first | rw [if_pos (by omega)] | rw [if_neg (by omega)]
    · conv => whnf
      refine ⟨by omega, fun c51 => ?_, fun c51 => ?_⟩
      · conv => whnf
        refine ⟨by omega, fun c67 => ?_, fun c67 => ?_⟩
        · conv => whnf
          refine ⟨by omega, fun c80 => ?_, fun c80 => by exfalso; omega⟩
          conv => whnf
          refine zinv0 (s_X12_pointAt T   ?_)
          conv => whnf
          refine ⟨by omega, fun c110 => ?_, fun c110 => by exfalso; omega⟩
          conv => whnf
          refine ⟨by omega, fun c119 => by exfalso; omega, fun c119 => ?_⟩
          conv => whnf
          refine ⟨by omega, ?_⟩
          conv => whnf
          refine ⟨by decide, _, rfl, ?_⟩
          conv => whnf
          refine ⟨by omega, ⟨by decide, by decide, by omega⟩, ?_⟩
          conv => whnf
          refine ⟨by decide, _, rfl, ?_⟩
          conv => whnf
          refine ⟨by decide, _, rfl, ?_⟩
          conv => whnf
          refine ⟨by omega, by decide, ?_⟩
          conv => whnf
          refine ⟨by rw [v2_ne (by omega), hp.1]; omega, ⟨by decide, by decide, by omega⟩, ?_⟩
          conv => whnf
          refine ⟨by decide, ?_⟩
          conv => whnf
          refine ⟨by omega, fun c165 => ?_, fun c165 => by exfalso; omega⟩
          conv => whnf
          refine ⟨by decide, ?_⟩
          conv => whnf
          refine ⟨by decide, ?_⟩
          conv => whnf
          refine ⟨by omega, fun c183 => ?_, fun c183 => by exfalso; omega⟩
          conv => whnf
          refine ⟨by decide, ?_⟩
          conv => whnf
          refine h _ (((((Fr.refl I).v2 (Or.inl rfl)).v2 (Or.inr (Or.inl rfl))).v2 (Or.inr (Or.inr ⟨rfl, Or.inl rfl⟩))).v2 (Or.inr (Or.inr ⟨rfl, Or.inr rfl⟩))) (fun j => ?_) (fun j => ?_) ?_ ?_
          · rw [v2_ne (by omega), v2_ne (by omega), v2_ne (by omega), v2_ap]
            refine if_cg ⟨fun g => ?_, fun g => ⟨rfl, ?_⟩⟩ rfl rfl
            · rw [g.2]
              unfold bd
              dsimp only
              (repeat' split) <;> omega
            · rw [g]
              unfold bd
              dsimp only
              (repeat' split) <;> omega
          · rw [v2_ne (by omega), v2_ne (by omega), v2_ap, v2_ne (a := 620) (by omega), v2_ne (a := 623) (by omega), hp.1]
            exact if_cg ⟨fun g => g.2, fun g => ⟨rfl, g⟩⟩ rfl rfl
          · rw [v2_ne (by omega), v2_eq, v2_ne (by omega), v2_ne (by omega)]
            first | rw [if_pos (by omega)] | rw [if_neg (by omega)]
          · rw [v2_eq, v2_ne (by omega), v2_ne (by omega), v2_ne (by omega)]
            first | rw [if_pos (by omega)] | rw [if_neg (by omega)]
        · conv => whnf
          refine ⟨by omega, fun c80 => ?_, fun c80 => by exfalso; omega⟩
          conv => whnf
          refine zinv0 (s_X12_pointAt T   ?_)
          conv => whnf
          refine ⟨by omega, fun c110 => ?_, fun c110 => by exfalso; omega⟩
          conv => whnf
          refine ⟨by omega, fun c119 => by exfalso; omega, fun c119 => ?_⟩
          conv => whnf
          refine ⟨by omega, ?_⟩
          conv => whnf
          refine ⟨by decide, _, rfl, ?_⟩
          conv => whnf
          refine ⟨by omega, ⟨by decide, by decide, by omega⟩, ?_⟩
          conv => whnf
          refine ⟨by decide, _, rfl, ?_⟩
          conv => whnf
          refine ⟨by decide, _, rfl, ?_⟩
          conv => whnf
          refine ⟨by omega, by decide, ?_⟩
          conv => whnf
          refine ⟨by rw [v2_ne (by omega), hp.1]; omega, ⟨by decide, by decide, by omega⟩, ?_⟩
          conv => whnf
          refine ⟨by decide, ?_⟩
          conv => whnf
          refine ⟨by omega, fun c165 => ?_, fun c165 => by exfalso; omega⟩
          conv => whnf
          refine ⟨by decide, ?_⟩
          conv => whnf
          refine ⟨by decide, ?_⟩
          conv => whnf
          refine ⟨by omega, fun c183 => ?_, fun c183 => by exfalso; omega⟩
          conv => whnf
          refine ⟨by decide, ?_⟩
          conv => whnf
          refine h _ (((((Fr.refl I).v2 (Or.inl rfl)).v2 (Or.inr (Or.inl rfl))).v2 (Or.inr (Or.inr ⟨rfl, Or.inl rfl⟩))).v2 (Or.inr (Or.inr ⟨rfl, Or.inr rfl⟩))) (fun j => ?_) (fun j => ?_) ?_ ?_
          · rw [v2_ne (by omega), v2_ne (by omega), v2_ne (by omega), v2_ap]
            refine if_cg ⟨fun g => ?_, fun g => ⟨rfl, ?_⟩⟩ rfl rfl
            · rw [g.2]
              unfold bd
              dsimp only
              (repeat' split) <;> omega
            · rw [g]
              unfold bd
              dsimp only
              (repeat' split) <;> omega
          · rw [v2_ne (by omega), v2_ne (by omega), v2_ap, v2_ne (a := 620) (by omega), v2_ne (a := 623) (by omega), hp.1]
            exact if_cg ⟨fun g => g.2, fun g => ⟨rfl, g⟩⟩ rfl rfl
          · rw [v2_ne (by omega), v2_eq, v2_ne (by omega), v2_ne (by omega)]
            first | rw [if_pos (by omega)] | rw [if_neg (by omega)]
          · rw [v2_eq, v2_ne (by omega), v2_ne (by omega), v2_ne (by omega)]
            first | rw [if_pos (by omega)] | rw [if_neg (by omega)]
      · conv => whnf
        refine ⟨by omega, fun c67 => by exfalso; omega, fun c67 => ?_⟩
        conv => whnf
        refine ⟨by omega, fun c80 => ?_, fun c80 => by exfalso; omega⟩
        conv => whnf
        refine zinv0 (s_X12_pointAt T   ?_)
        conv => whnf
        refine ⟨by omega, fun c110 => ?_, fun c110 => by exfalso; omega⟩
        conv => whnf
        refine ⟨by omega, fun c119 => by exfalso; omega, fun c119 => ?_⟩
        conv => whnf
        refine ⟨by omega, ?_⟩
        conv => whnf
        refine ⟨by decide, _, rfl, ?_⟩
        conv => whnf
        refine ⟨by omega, ⟨by decide, by decide, by omega⟩, ?_⟩
        conv => whnf
        refine ⟨by decide, _, rfl, ?_⟩
        conv => whnf
        refine ⟨by decide, _, rfl, ?_⟩
        conv => whnf
        refine ⟨by omega, by decide, ?_⟩
        conv => whnf
        refine ⟨by rw [v2_ne (by omega), hp.1]; omega, ⟨by decide, by decide, by omega⟩, ?_⟩
        conv => whnf
        refine ⟨by decide, ?_⟩
        conv => whnf
        refine ⟨by omega, fun c165 => ?_, fun c165 => by exfalso; omega⟩
        conv => whnf
        refine ⟨by decide, ?_⟩
        conv => whnf
        refine ⟨by decide, ?_⟩
        conv => whnf
        refine ⟨by omega, fun c183 => ?_, fun c183 => by exfalso; omega⟩
        conv => whnf
        refine ⟨by decide, ?_⟩
        conv => whnf
        refine h _ (((((Fr.refl I).v2 (Or.inl rfl)).v2 (Or.inr (Or.inl rfl))).v2 (Or.inr (Or.inr ⟨rfl, Or.inl rfl⟩))).v2 (Or.inr (Or.inr ⟨rfl, Or.inr rfl⟩))) (fun j => ?_) (fun j => ?_) ?_ ?_
        · rw [v2_ne (by omega), v2_ne (by omega), v2_ne (by omega), v2_ap]
          refine if_cg ⟨fun g => ?_, fun g => ⟨rfl, ?_⟩⟩ rfl rfl
          · rw [g.2]
            unfold bd
            dsimp only
            (repeat' split) <;> omega
          · rw [g]
            unfold bd
            dsimp only
            (repeat' split) <;> omega
        · rw [v2_ne (by omega), v2_ne (by omega), v2_ap, v2_ne (a := 620) (by omega), v2_ne (a := 623) (by omega), hp.1]
          exact if_cg ⟨fun g => g.2, fun g => ⟨rfl, g⟩⟩ rfl rfl
        · rw [v2_ne (by omega), v2_eq, v2_ne (by omega), v2_ne (by omega)]
          first | rw [if_pos (by omega)] | rw [if_neg (by omega)]
        · rw [v2_eq, v2_ne (by omega), v2_ne (by omega), v2_ne (by omega)]
          first | rw [if_pos (by omega)] | rw [if_neg (by omega)]
theorem l_mlbI (T : ZTh (XX Ln xs) CZ RZ) {d b : Nat} {Q : ZQ} {q W H : Nat} {M : Mo} {I0 : ZI} {L : ZL} (hw : Wq W H M) (hW : I0 603 5 = W) (hH : I0 603 6 = H) (hO : OwM I0 M) (hq : q < 576) (hk : ∀ I', Fr PBo I0 I' → LB I' M (q + 1) 0 → RZ (d + 3) k_X12_laysBorders Q 70 [.inr (.ref 603, 13), .inl ((q : Int) + 1), zj] [] b I' L) (m : Nat) : ∀ (s : Nat) (I : ZI), (s ≤ 3) → (Fr PBo I0 I) → (LB I M q s) → (s = 0 ∨ sil M q = true) → 3 - (s : Int) < (m : Int) → RZ (d + 3) k_X12_laysBorders Q 79 [.inr (.ref 603, 13), .inl ((q : Int)), .inl ((s : Int))] [] b I L := by
  induction m with
  | zero =>
    intro s I hs hfr hL hz hm
    exfalso
    omega
  | succ m ih =>
    intro s I hs hfr hL hz hm
    have hO2 : OwM I M := fun z hz9 => by rw [hfr _ _ (by unfold PBo; omega)]; exact hO z hz9
    have hob := own_b M q
    have hqo := hO2 q hq
    have hbq := bi_b (fil (sil M) (q : Int))
    have hnb := nb_b (q := (q : Int)) (s := (s : Int)) (by omega) (by omega)
    obtain ⟨⟨w1, w2, w3, w4⟩, -, -⟩ := id hw
    have hW2 : I 603 5 = W := (hfr _ _ (by unfold PBo; omega)).trans hW
    have hH2 : I 603 6 = H := (hfr _ _ (by unfold PBo; omega)).trans hH
    refine T.go [70, 79] 90 ?_
    conv => whnf
    refine ⟨by omega, fun c81 => ?_, fun c81 => ?_⟩
    · conv => whnf
      refine T.fg [2] ?_
      obtain rfl : s = 3 := by omega
      exact hk I hfr hL.q
    · conv => whnf
      refine zinv0 (s_X12_isFilled T (q := (q : Int)) (M := M) (by omega) (by exact hO2) ?_)
      conv => whnf
      refine ⟨by omega, fun c89 => ?_, fun c89 => ?_⟩
      · conv => whnf
        refine T.fg [2] ?_
        have hsq : sil M q = false := by
          cases e : sil M q with
          | false => rfl
          | true => rw [fil_n, e] at c89; exact absurd c89 (by decide)
        have h0 : s = 0 := hz.resolve_right (by rw [hsq]; decide)
        subst h0
        exact hk I hfr (hL.off hsq)
      · conv => whnf
        refine zinv0 (s_X12_across T (q := (q : Int)) (s := (s : Int)) (W := W) (H := H) (by omega) (by omega) (by exact ⟨hW2, w2⟩) (by exact ⟨hH2, w4⟩) ?_)
        have hab := acr_b (W := W) (H := H) (q := (q : Int)) (s := (s : Int)) (by omega) (by omega)
        have hfa := fil_acr hw (q := (q : Int)) (s := (s : Int)) (by omega) (by omega)
        have hbn := bi_b (fil (sil M) (acr W H (q : Int) (s : Int)))
        conv => whnf
        refine zinv0 (s_X12_isFilled T (q := acr W H (q : Int) (s : Int)) (M := M) (by exact hab) (by exact hO2) ?_)
        conv => whnf
        refine ⟨by omega, fun c102 => ?_, fun c102 => ?_⟩
        · conv => whnf
          have hsq : sil M q = true := by
            cases e : sil M q with
            | true => rfl
            | false => rw [fil_n, e] at c89; exact absurd rfl c89
          have hn : fil (sil M) (nb q s) = true := by
            cases e : fil (sil M) (nb q s) with
            | true => rfl
            | false => rw [hfa, e] at c102; exact absurd rfl c102
          exact ih (s + 1) I (by omega) hfr (hL.inn hn) (Or.inr hsq) (by omega)
        · conv => whnf
          have hsq : sil M q = true := by
            cases e : sil M q with
            | true => rfl
            | false => rw [fil_n, e] at c89; exact absurd rfl c89
          have hoq : own M q ≠ -1 := fun e => by
            unfold sil at hsq
            rw [e] at hsq
            exact absurd hsq (by decide)
          have hp9 : I 620 (q : Int) = (((own M q).toNat : Nat) : Int) ∧ (own M q).toNat < 7 := by omega
          refine zinv0 (s_X12_laysBorder T (q := q) (s := s) (p := (own M q).toNat) (by exact ⟨hq, by omega⟩) (by exact hp9) ?_)
          intro I_108 hf_108 h1_108 h2_108 h3_108 h4_108
          conv => whnf
          have hn : fil (sil M) (nb q s) = false := by
            cases e : fil (sil M) (nb q s) with
            | false => rfl
            | true => rw [hfa, e] at c102; exact absurd c102 (by decide)
          refine ih (s + 1) I_108 (by omega) (hfr.trans hf_108) (hL.new hq (by omega) hsq hn h1_108 (fun j => hf_108 _ _ (by unfold PBo; omega)) (fun j => ?_) h3_108 h4_108) (Or.inr hsq) (by omega)
          rw [h2_108 j]
          exact if_cg (by omega) rfl rfl
theorem l_mlbO (T : ZTh (XX Ln xs) CZ RZ) {d b : Nat} {Q : ZQ} {W H : Nat} {M : Mo} {I0 : ZI} {L : ZL} (hw : Wq W H M) (hW : I0 603 5 = W) (hH : I0 603 6 = H) (hO : OwM I0 M) (h : ∀ I', Fr PBo I0 I' → LB I' M 576 0 → Q (.inl none) I' L) (m : Nat) : ∀ (q : Nat) (I : ZI), (q ≤ 576) → (Fr PBo I0 I) → (LB I M q 0) → 576 - (q : Int) < (m : Int) → RZ (d + 3) k_X12_laysBorders Q 70 [.inr (.ref 603, 13), .inl ((q : Int)), zj] [] b I L := by
  induction m with
  | zero =>
    intro q I hq hfr hL hm
    exfalso
    omega
  | succ m ih =>
    intro q I hq hfr hL hm
    refine T.go [79] 90 ?_
    conv => whnf
    refine ⟨by omega, fun c74 => ?_, fun c74 => ?_⟩
    · conv => whnf
      obtain rfl : q = 576 := by omega
      exact h I hfr hL
    · conv => whnf
      exact l_mlbI T (I0 := I0) hw hW hH hO (by omega) (fun I2 f2 s2 => ih (q + 1) I2 (by omega) f2 s2 (by omega)) 4 0 I (by omega) hfr hL (Or.inl rfl) (by omega)
theorem l_mlb1 (T : ZTh (XX Ln xs) CZ RZ) {d b : Nat} {Q : ZQ} {I0 : ZI} {L : ZL} (hk2 : ∀ I', Fr (fun a b => a = 621 ∨ a = 622) I0 I' → (∀ e : Nat, e < 5000 → I' 621 e = 0 ∧ I' 622 e = 0) → RZ (d + 3) k_X12_laysBorders Q 39 [.inr (.ref 603, 13), .inl 0, zj] [] b I' L) (m : Nat) : ∀ (k : Nat) (I : ZI), (k ≤ 5000) → (Fr (fun a b => a = 621 ∨ a = 622) I0 I) → (∀ e : Nat, e < k → I 621 e = 0 ∧ I 622 e = 0) → 5000 - (k : Int) < (m : Int) → RZ (d + 3) k_X12_laysBorders Q 10 [.inr (.ref 603, 13), .inl ((k : Int)), zj] [] b I L := by
  induction m with
  | zero =>
    intro k I hk hfr hv hm
    exfalso
    omega
  | succ m ih =>
    intro k I hk hfr hv hm
    refine T.go [10, 39] 90 ?_
    conv => whnf
    refine ⟨by omega, fun c14 => ?_, fun c14 => ?_⟩
    · conv => whnf
      obtain rfl : k = 5000 := by omega
      exact hk2 I hfr hv
    · conv => whnf
      refine ⟨by decide, _, rfl, ?_⟩
      conv => whnf
      refine ⟨by omega, ⟨by decide, by decide, by omega⟩, ?_⟩
      conv => whnf
      refine ⟨by decide, _, rfl, ?_⟩
      conv => whnf
      refine ⟨by omega, ⟨by decide, by decide, by omega⟩, ?_⟩
      conv => whnf
      refine ih (k + 1) _ (by omega) ((hfr.v2 (Or.inl rfl)).v2 (Or.inr rfl)) (fun e he => ?_) (by omega)
      by_cases c : e = k
      · rw [c, v2_eq, v2_ne (by omega), v2_eq]; exact ⟨rfl, rfl⟩
      · rw [v2_ne (by omega), v2_ne (by omega), v2_ne (by omega), v2_ne (by omega)]
        exact hv e (by omega)
theorem l_mlb2 (T : ZTh (XX Ln xs) CZ RZ) {d b : Nat} {Q : ZQ} {I0 : ZI} {L : ZL} (hk2 : ∀ I', Fr PBo I0 I' → (∀ e : Nat, e < 7 → I' 623 e = 0) → (∀ j, I' 621 j = I0 621 j) → I' 603 24 = 0 → I' 603 25 = 0 → RZ (d + 3) k_X12_laysBorders Q 70 [.inr (.ref 603, 13), .inl 0, zj] [] b I' L) (m : Nat) : ∀ (k : Nat) (I : ZI), (k ≤ 7) → (Fr (fun a b => a = 623) I0 I) → (∀ e : Nat, e < k → I 623 e = 0) → 7 - (k : Int) < (m : Int) → RZ (d + 3) k_X12_laysBorders Q 39 [.inr (.ref 603, 13), .inl ((k : Int)), zj] [] b I L := by
  induction m with
  | zero =>
    intro k I hk hfr hv hm
    exfalso
    omega
  | succ m ih =>
    intro k I hk hfr hv hm
    refine T.go [39, 70] 90 ?_
    conv => whnf
    refine ⟨by omega, fun c42 => ?_, fun c42 => ?_⟩
    · conv => whnf
      refine ⟨by decide, ?_⟩
      conv => whnf
      refine ⟨by decide, ?_⟩
      conv => whnf
      obtain rfl : k = 7 := by omega
      refine hk2 _ (((hfr.mono (fun a b c => Or.inr (Or.inl c))).v2 (Or.inr (Or.inr ⟨rfl, Or.inl rfl⟩))).v2 (Or.inr (Or.inr ⟨rfl, Or.inr rfl⟩))) (fun e he => ?_) (fun j => ?_) ?_ (v2_eq _ _ _ _)
      · rw [v2_ne (by omega), v2_ne (by omega)]; exact hv e he
      · rw [v2_ne (by omega), v2_ne (by omega)]; exact hfr _ _ (by omega)
      · rw [v2_ne (by omega), v2_eq]
    · conv => whnf
      refine ⟨by decide, _, rfl, ?_⟩
      conv => whnf
      refine ⟨by omega, ⟨by decide, by decide, by omega⟩, ?_⟩
      conv => whnf
      refine ih (k + 1) _ (by omega) (hfr.v2 rfl) (fun e he => ?_) (by omega)
      by_cases c : e = k
      · rw [c, v2_eq]
      · rw [v2_ne (by omega)]
        exact hv e (by omega)
theorem s_X12_laysBorders (T : ZTh (XX Ln xs) CZ RZ) {d b : Nat} {W H n bl : Nat} {M : Mo} {P SL : Nat → Mo} {v u : Nat → Int}  {I : ZI} {L : ZL} {Q : ZQ} (hC : MB I W H M P n SL v bl u) (hA : WfA W H M P n SL v) (h : ∀ I', Fr PBs I I' → OwM I' M → LB I' M 576 0 → Q (.inl none) I' L) : CZ (d + 4) k_X12_laysBorders [.inr (.ref 603, 13)] b I L Q := by
  refine T.call rfl ?_
  obtain ⟨mT, mR, ⟨mW, mH⟩, ⟨mn, mn8⟩, mP, mS9, ⟨mb1, mb2, mb3⟩, mz⟩ := id hC
  obtain ⟨⟨⟨⟨w1, w2, w3, w4⟩, -⟩, w5, w6⟩, wP, wS⟩ := id hA
  refine T.go [10] 90 ?_
  conv => whnf
  refine ⟨by decide, _, rfl, ?_⟩
  conv => whnf
  refine zinv0 (s_X12_laysOwners T (W := W) (H := H) (M := M) (by exact mT) (by decide) (by exact mR) (by exact hA.1.1) ?_)
  intro I_5 hf_5 hv_5
  conv => whnf
  have o5 : ∀ (a : Nat) (b : Int), a ≠ 620 → I_5 a b = I a b := fun a b g => hf_5 a b (by omega)
  refine l_mlb1 T (I0 := I_5) (fun I1 f1 z1 => ?_) 5001 0 I_5 (by omega) (Fr.refl _) (fun e he => absurd he (Nat.not_lt_zero e)) (by omega)
  refine l_mlb2 T (I0 := I1) (fun I2 f2 z2 z3 z4 z5 => ?_) 8 0 I1 (by omega) (Fr.refl _) (fun e he => absurd he (Nat.not_lt_zero e)) (by omega)
  have e2 : ∀ (a : Nat) (b : Int), ¬ PBs a b → I2 a b = I a b := fun a b g => by
    unfold PBs at g
    rw [f2 a b (by unfold PBo; omega), f1 a b (by omega)]
    exact o5 a b (by omega)
  have ow2 : OwM I2 M := fun z hz9 => by
    rw [f2 _ _ (by unfold PBo; omega), f1 _ _ (by omega)]
    exact hv_5 z hz9
  refine l_mlbO T (W := W) (H := H) (I0 := I2) (M := M) hA.1.1 ((e2 _ _ (by unfold PBs; omega)).trans mW) ((e2 _ _ (by unfold PBs; omega)).trans mH) ow2 (fun I3 f3 l3 => h I3 ?_ (fun z hz9 => by rw [f3 _ _ (by unfold PBo; omega)]; exact ow2 z hz9) l3) 577 0 I2 (by omega) (Fr.refl _) (LB.zero (fun e he => ⟨by rw [z3]; exact (z1 e he).1, by rw [f2 _ _ (by unfold PBo; omega)]; exact (z1 e he).2⟩) z2 z4 z5) (by omega)
  intro a b g
  rw [f3 a b (fun c => g (PBo_s _ _ c))]
  exact e2 a b g
end
