/-! THE LAW, 2: what is thrown -/
section
variable {Ln : Nat} {xs : Nat → Int32} {CZ : Nat → ZC} {RZ : Nat → Nat → ZQ → ZP}
/-- class and reference stand for the same -/
def JB (I : ZI) (L : ZL) (W H : Nat) (M : Mo) (P : Nat → Mo) (n : Nat) (SL : Nat → Mo) (bl : Nat) (u : Nat → Int) : Prop := CB I L W H M P n SL bl u ∧ MB I W H M P n SL (fun t => I 526 (t : Int)) bl u
theorem CB.wfa {I : ZI} {L : ZL} {W H : Nat} {M : Mo} {P : Nat → Mo} {n : Nat} {SL : Nat → Mo} {bl : Nat} {u : Nat → Int} (h : CB I L W H M P n SL bl u) : WfA W H M P n SL (fun t => I 526 (t : Int)) := ⟨h.2.2.1, h.2.2.2.2.2.1, fun t ht g => ((h.2.2.2.2.2.2.1 t ht).2 g).2⟩
theorem CB.far {I I' : ZI} {L L' : ZL} {W H : Nat} {M : Mo} {P : Nat → Mo} {n : Nat} {SL : Nat → Mo} {bl : Nat} {u : Nat → Int} (h : CB I L W H M P n SL bl u) (h1 : ∀ (a : Nat) (b : Int), a ≤ 602 → I' a b = I a b) (h2 : ∀ (a : Nat) (b : Int), a ≤ 602 → L' a b = L a b) : CB I' L' W H M P n SL bl u :=
  h.bu (fun a b g => h1 a b (by omega)) (fun a b g => h2 a b (by omega)) ((h1 _ _ (by omega)).trans h.by.1) (h.by.2.fr (fun b => h1 _ _ (by omega)))
theorem MB.near {I I' : ZI} {W H : Nat} {M : Mo} {P : Nat → Mo} {n : Nat} {SL : Nat → Mo} {v : Nat → Int} {bl : Nat} {u : Nat → Int} (h : MB I W H M P n SL v bl u) (hW : WfA W H M P n SL v) (h1 : ∀ (a : Nat) (b : Int), 603 ≤ a → I' a b = I a b) : MB I' W H M P n SL v bl u := h.fr hW (fun a b g _ => h1 a b g)
theorem MB.vc {I : ZI} {W H : Nat} {M : Mo} {P : Nat → Mo} {n : Nat} {SL : Nat → Mo} {v v' : Nat → Int} {bl : Nat} {u : Nat → Int} (h : MB I W H M P n SL v bl u) (hv : ∀ t : Nat, t < 2 → v' t = v t) : MB I W H M P n SL v' bl u := by
  obtain ⟨a1, a2, a3, a4, a5, a6, a7⟩ := h
  exact ⟨a1, a2, a3, a4, a5, fun t ht => by rw [hv t ht]; exact a6 t ht, a7⟩
/-- behind a call of both -/
theorem JB.mk {I1 I2 : ZI} {L1 L2 : ZL} {W H : Nat} {M : Mo} {P : Nat → Mo} {n : Nat} {SL : Nat → Mo} {v : Nat → Int} {bl : Nat} {u : Nat → Int} (h : CB I1 L1 W H M P n SL bl u) (h2 : MB I2 W H M P n SL v bl u) (f : ∀ (a : Nat) (b : Int), a ≤ 602 → I2 a b = I1 a b) (g : ∀ (a : Nat) (b : Int), a ≤ 602 → L2 a b = L1 a b) (hv : ∀ t : Nat, t < 2 → I1 526 (t : Int) = v t) : JB I2 L2 W H M P n SL bl u :=
  ⟨h.far f g, h2.vc (fun t ht => (f _ _ (by omega)).trans (hv t ht))⟩
theorem PQ_lo {I I' : ZI} (h : Fr PQ I I') (a : Nat) (b : Int) (h1 : ¬ (546 ≤ a ∧ a ≤ 574)) : I' a b = I a b := h a b h1
theorem zs_z (X : Ext) (r : Nat) (i : Int) : zR (zs X r i) := zR_of _
theorem s_L_parse (T : ZTh (XX Ln xs) CZ RZ) {d b : Nat} {W H n bl : Nat} {M : Mo} {P SL : Nat → Mo} {u : Nat → Int} {v : Int} {I : ZI} {L : ZL} {Q : ZQ} (hb : 1 ≤ b) (hC : CB I L W H M P n SL bl u) (hv : zR v) (h : 0 ≤ v ∧ v ≤ bl → pc (pTx u v.toNat).1 = 0 → ∀ I' L', Fr (fun a _ => a ≤ 602) I I' → Fr (fun a _ => a ≤ 602) L L' → (∀ t : Nat, t < 2 → I' 526 t = 0) → CB I' L' (txW u v.toNat) (txH u v.toNat) (pTx u v.toNat).2 P 0 SL 0 u → Q (.inl (some (.inl (0)))) I' (w2 L' 643 0 (l6 ((mN (pTx u v.toNat).2 : Int))))) (h1 : 0 ≤ v ∧ v ≤ bl → ¬ pc (pTx u v.toNat).1 = 0 → ∀ I' L', Fr PPar I I' → Fr PPar L L' → CB I' L' W H M P n SL 0 u → Q (.inl (some (.inl (0)))) I' (w2 L' 643 0 (l6 ((-2 - (8 * ((po (pTx u v.toNat).1 : Nat) : Int) + ((pc (pTx u v.toNat).1 : Nat) : Int))))))) (h2 : ¬ (0 ≤ v ∧ v ≤ bl) → Q (.inl (some (.inl (1)))) I L) : CZ (d + 8) k_L_parse [.inr (.ref 0, 12), .inl v, .inr (.ref 643, 40001)] b I L Q := by
  refine T.call rfl ?_
  refine T.go [] 120 ?_
  conv => whnf
  refine ⟨1, by omega, s_X11_parse T  (by omega) (by first | assumption | omega) (by first | assumption | omega) ?_ ?_ ?_⟩
  · intro cha_4 chb_4 I_4 L_4 hf_4 hg_4 hv_4 hC_4
    have hzv : zR ((mN (pTx u v.toNat).2 : Int)) := by
      have := hC_4.2.2.1.2.1
      exact ⟨by omega, by omega⟩
    conv => whnf
    refine ⟨by first | exact hzv | assumption | decide | omega, ?_⟩
    conv => whnf
    refine ⟨by omega, ?_⟩
    conv => whnf
    exact h cha_4 chb_4 I_4 L_4 hf_4 hg_4 hv_4 hC_4
  · intro ch1a_4 ch1b_4 I_4 L_4 hf_4 hg_4 hC_4
    have hzv : zR ((-2 - (8 * ((po (pTx u v.toNat).1 : Nat) : Int) + ((pc (pTx u v.toNat).1 : Nat) : Int)))) := by
      have := ok_tx u v.toNat
      have := (show CB _ _ _ _ _ _ _ _ _ _ from hC).by.2.1
      unfold OK9 at *
      exact ⟨by omega, by omega⟩
    conv => whnf
    refine ⟨by first | exact hzv | assumption | decide | omega, ?_⟩
    conv => whnf
    refine ⟨by omega, ?_⟩
    conv => whnf
    exact h1 ch1a_4 ch1b_4 I_4 L_4 hf_4 hg_4 hC_4
  · intro ch2a_4
    conv => whnf
    exact h2 ch2a_4
theorem s_L_size (T : ZTh (XX Ln xs) CZ RZ) {d b : Nat} {W H n bl : Nat} {M : Mo} {P SL : Nat → Mo} {u : Nat → Int} {w : Int} {I : ZI} {L : ZL} {Q : ZQ} (hb : 1 ≤ b) (hC : CB I L W H M P n SL bl u) (hw : zR w) (h : 0 ≤ w → w ≤ 10 → Q (.inl (some (.inl (0)))) I (w2 L 643 0 (l6 (aSize W H M n bl w)))) (h2 : ¬ (0 ≤ w ∧ w ≤ 10) → Q (.inl (some (.inl (1)))) I L) : CZ (d + 4) k_L_size [.inr (.ref 0, 12), .inl w, .inr (.ref 643, 40001)] b I L Q := by
  refine T.call rfl ?_
  refine T.go [] 120 ?_
  conv => whnf
  refine ⟨1, by omega, s_X11_size T  (by omega) (by first | assumption | omega) (by first | assumption | omega) ?_ ?_⟩
  · intro cha_4 chb_4
    have hzv : zR (aSize W H M n bl w) := by
      exact z_size hC (by omega) (by omega)
    conv => whnf
    refine ⟨by first | exact hzv | assumption | decide | omega, ?_⟩
    conv => whnf
    refine ⟨by omega, ?_⟩
    conv => whnf
    exact h cha_4 chb_4
  · intro ch2a_4
    conv => whnf
    exact h2 ch2a_4
theorem s_L_piece (T : ZTh (XX Ln xs) CZ RZ) {d b : Nat} {W H n bl : Nat} {M : Mo} {P SL : Nat → Mo} {u : Nat → Int} {p w : Int} {I : ZI} {L : ZL} {Q : ZQ} (hb : 2 ≤ b) (hC : CB I L W H M P n SL bl u) (hp : zR p) (hw : zR w) (h : 0 ≤ p → p < 7 → 0 ≤ w → w ≤ 7 → Q (.inl (some (.inl (0)))) I (w2 L 643 0 (l6 (aPiece M p.toNat w)))) (h2 : ¬ (0 ≤ p ∧ p < 7) → Q (.inl (some (.inl (1)))) I L) (h3 : 0 ≤ p → p < 7 → ¬ (0 ≤ w ∧ w ≤ 7) → Q (.inl (some (.inl (2)))) I L) : CZ (d + 4) k_L_piece [.inr (.ref 0, 12), .inl p, .inl w, .inr (.ref 643, 40001)] b I L Q := by
  refine T.call rfl ?_
  refine T.go [] 120 ?_
  conv => whnf
  refine ⟨2, by omega, s_X11_piece T  (by omega) (by first | assumption | omega) (by first | assumption | omega) (by first | assumption | omega) ?_ ?_ ?_⟩
  · intro cha_5 chb_5 chc_5 chd_5
    have hzv : zR (aPiece M p.toNat w) := by
      exact z_piece hC.2.2.1.1 (by omega) (by omega) (by omega)
    conv => whnf
    refine ⟨by first | exact hzv | assumption | decide | omega, ?_⟩
    conv => whnf
    refine ⟨by omega, ?_⟩
    conv => whnf
    exact h cha_5 chb_5 chc_5 chd_5
  · intro ch2a_5
    conv => whnf
    exact h2 ch2a_5
  · intro ch3a_5 ch3b_5 ch3c_5
    conv => whnf
    exact h3 ch3a_5 ch3b_5 ch3c_5
theorem s_L_whyNot (T : ZTh (XX Ln xs) CZ RZ) {d b : Nat} {W H n bl : Nat} {M : Mo} {P SL : Nat → Mo} {u : Nat → Int} {p x y t f : Int} {I : ZI} {L : ZL} {Q : ZQ} (hb : 2 ≤ b) (hC : CB I L W H M P n SL bl u) (hp : zR p) (hx : zR x) (hy : zR y) (ht : zR t) (hf : f = 0 ∨ f = 1) (h : 0 ≤ p ∧ p < 7 → 0 ≤ t ∧ t < 4 → Q (.inl (some (.inl (0)))) I (w2 L 643 0 (l6 (aWhy W H M p x y t f)))) (h2 : ¬ (0 ≤ p ∧ p < 7) → Q (.inl (some (.inl (1)))) I L) (h3 : 0 ≤ p ∧ p < 7 → ¬ (0 ≤ t ∧ t < 4) → Q (.inl (some (.inl (2)))) I L) : CZ (d + 5) k_L_whyNot [.inr (.ref 0, 12), .inl p, .inl x, .inl y, .inl t, .inl f, .inr (.ref 643, 40001)] b I L Q := by
  refine T.call rfl ?_
  refine T.go [] 120 ?_
  conv => whnf
  refine ⟨2, by omega, s_X11_whyNot T  (by omega) (by first | assumption | omega) (by first | assumption | omega) (by first | assumption | omega) (by first | assumption | omega) (by first | assumption | omega) (by first | assumption | omega) ?_ ?_ ?_⟩
  · intro cha_11 chb_11
    have hzv : zR (aWhy W H M p x y t f) := by
      exact (z_why _ _ _ _ _ _ _ _).1
    conv => whnf
    refine ⟨by first | exact hzv | assumption | decide | omega, ?_⟩
    conv => whnf
    refine ⟨by omega, ?_⟩
    conv => whnf
    exact h cha_11 chb_11
  · intro ch2a_11
    conv => whnf
    exact h2 ch2a_11
  · intro ch3a_11 ch3b_11
    conv => whnf
    exact h3 ch3a_11 ch3b_11
theorem s_L_places (T : ZTh (XX Ln xs) CZ RZ) {d b : Nat} {W H n bl : Nat} {M : Mo} {P SL : Nat → Mo} {u : Nat → Int} {p : Int} {I : ZI} {L : ZL} {Q : ZQ} (hb : 1 ≤ b) (hC : CB I L W H M P n SL bl u) (hp : zR p) (h : 0 ≤ p ∧ p < 7 → Q (.inl (some (.inl (0)))) I (w2 L 643 0 (l6 (placesA W H M p.toNat)))) (h2 : ¬ (0 ≤ p ∧ p < 7) → Q (.inl (some (.inl (1)))) I L) : CZ (d + 6) k_L_places [.inr (.ref 0, 12), .inl p, .inr (.ref 643, 40001)] b I L Q := by
  refine T.call rfl ?_
  refine T.go [] 120 ?_
  conv => whnf
  refine ⟨1, by omega, s_X11_places T  (by omega) (by first | assumption | omega) (by first | assumption | omega) ?_ ?_⟩
  · intro cha_4
    have hzv : zR (placesA W H M p.toNat) := by
      exact z_places hC.2.2.1.1.1.2.1 hC.2.2.1.1.1.2.2.2 _
    conv => whnf
    refine ⟨by first | exact hzv | assumption | decide | omega, ?_⟩
    conv => whnf
    refine ⟨by omega, ?_⟩
    conv => whnf
    exact h cha_4
  · intro ch2a_4
    conv => whnf
    exact h2 ch2a_4
theorem s_L_seams (T : ZTh (XX Ln xs) CZ RZ) {d b : Nat} {W H n bl : Nat} {M : Mo} {P SL : Nat → Mo} {u : Nat → Int} {p o l : Int} {I : ZI} {L : ZL} {Q : ZQ} (hb : 2 ≤ b) (hC : CB I L W H M P n SL bl u) (hp : zR p) (ho : zR o) (hl : l = 0 ∨ l = 1) (h : 0 ≤ p ∧ p < 7 → 0 ≤ o ∧ o < 7 → Q (.inl (some (.inl (0)))) I (w2 L 643 0 (l6 (aSeams M p o l)))) (h2 : ¬ ((0 ≤ p ∧ p < 7) ∧ 0 ≤ o ∧ o < 7) → Q (.inl (some (.inl (1)))) I L) : CZ (d + 4) k_L_seams [.inr (.ref 0, 12), .inl p, .inl o, .inl l, .inr (.ref 643, 40001)] b I L Q := by
  refine T.call rfl ?_
  refine T.go [] 120 ?_
  conv => whnf
  refine ⟨2, by omega, s_X11_seams T  (by omega) (by first | assumption | omega) (by first | assumption | omega) (by first | assumption | omega) (by first | assumption | omega) ?_ ?_⟩
  · intro cha_7 chb_7
    have hzv : zR (aSeams M p o l) := by
      exact z_seams _ _ _ _
    conv => whnf
    refine ⟨by first | exact hzv | assumption | decide | omega, ?_⟩
    conv => whnf
    refine ⟨by omega, ?_⟩
    conv => whnf
    exact h cha_7 chb_7
  · intro ch2a_7
    conv => whnf
    exact h2 ch2a_7
theorem s_L_loop (T : ZTh (XX Ln xs) CZ RZ) {d b : Nat} {W H n bl : Nat} {M : Mo} {P SL : Nat → Mo} {u : Nat → Int} {l w : Int} {I : ZI} {L : ZL} {Q : ZQ} (hb : 2 ≤ b) (hC : CB I L W H M P n SL bl u) (hl : zR l) (hw : zR w) (h : 0 ≤ l → l < oL (olM M) → 0 ≤ w ∧ w ≤ 5 → Q (.inl (some (.inl (0)))) I (w2 L 643 0 (l6 (aLoop (olM M) l.toNat w)))) (h2 : ¬ (0 ≤ l ∧ l < oL (olM M)) → Q (.inl (some (.inl (1)))) I L) (h3 : 0 ≤ l ∧ l < oL (olM M) → ¬ (0 ≤ w ∧ w ≤ 5) → Q (.inl (some (.inl (2)))) I L) : CZ (d + 3) k_L_loop [.inr (.ref 0, 12), .inl l, .inl w, .inr (.ref 643, 40001)] b I L Q := by
  refine T.call rfl ?_
  refine T.go [] 120 ?_
  conv => whnf
  refine ⟨2, by omega, s_X11_loop T  (by omega) (by first | assumption | omega) (by first | assumption | omega) (by first | assumption | omega) ?_ ?_ ?_⟩
  · intro cha_5 chb_5 chc_5
    have hzv : zR (aLoop (olM M) l.toNat w) := by
      exact z_loop hC (by omega) (by omega) (by omega)
    conv => whnf
    refine ⟨by first | exact hzv | assumption | decide | omega, ?_⟩
    conv => whnf
    refine ⟨by omega, ?_⟩
    conv => whnf
    exact h cha_5 chb_5 chc_5
  · intro ch2a_5
    conv => whnf
    exact h2 ch2a_5
  · intro ch3a_5 ch3b_5
    conv => whnf
    exact h3 ch3a_5 ch3b_5
theorem s_L_edge (T : ZTh (XX Ln xs) CZ RZ) {d b : Nat} {W H n bl : Nat} {M : Mo} {P SL : Nat → Mo} {u : Nat → Int} {l e w : Int} {I : ZI} {L : ZL} {Q : ZQ} (hb : 2 ≤ b) (hC : CB I L W H M P n SL bl u) (hl : zR l) (he : zR e) (hw : zR w) (h : 0 ≤ l → l < oL (olM M) → 0 ≤ e → e < oEC (olM M) l.toNat → 0 ≤ w ∧ w ≤ 4 → Q (.inl (some (.inl (0)))) I (w2 L 643 0 (l6 (aEdge (olM M) l.toNat e.toNat w)))) (h2 : ¬ ((0 ≤ l ∧ l < oL (olM M)) ∧ 0 ≤ e ∧ e < oEC (olM M) l.toNat) → Q (.inl (some (.inl (1)))) I L) (h3 : (0 ≤ l ∧ l < oL (olM M)) ∧ 0 ≤ e ∧ e < oEC (olM M) l.toNat → ¬ (0 ≤ w ∧ w ≤ 4) → Q (.inl (some (.inl (2)))) I L) : CZ (d + 3) k_L_edge [.inr (.ref 0, 12), .inl l, .inl e, .inl w, .inr (.ref 643, 40001)] b I L Q := by
  refine T.call rfl ?_
  refine T.go [] 120 ?_
  conv => whnf
  refine ⟨2, by omega, s_X11_edge T  (by omega) (by first | assumption | omega) (by first | assumption | omega) (by first | assumption | omega) (by first | assumption | omega) ?_ ?_ ?_⟩
  · intro cha_7 chb_7 chc_7 chd_7 che_7
    have hzv : zR (aEdge (olM M) l.toNat e.toNat w) := by
      exact z_edge hC (by omega) (by omega) (by omega) (by omega) (by omega)
    conv => whnf
    refine ⟨by first | exact hzv | assumption | decide | omega, ?_⟩
    conv => whnf
    refine ⟨by omega, ?_⟩
    conv => whnf
    exact h cha_7 chb_7 chc_7 chd_7 che_7
  · intro ch2a_7
    conv => whnf
    exact h2 ch2a_7
  · intro ch3a_7 ch3b_7
    conv => whnf
    exact h3 ch3a_7 ch3b_7
theorem s_L_shape (T : ZTh (XX Ln xs) CZ RZ) {d b : Nat} {W H n bl : Nat} {M : Mo} {P SL : Nat → Mo} {u : Nat → Int} {k w : Int} {I : ZI} {L : ZL} {Q : ZQ} (hb : 2 ≤ b) (hC : CB I L W H M P n SL bl u) (hk : zR k) (hw : zR w) (h : 0 ≤ k → k < mN M → 0 ≤ w → w ≤ 4 → Q (.inl (some (.inl (0)))) I (w2 L 643 0 (l6 (aShape (mS M k.toNat) w)))) (h2 : ¬ (0 ≤ k ∧ k < mN M) → Q (.inl (some (.inl (1)))) I L) (h3 : 0 ≤ k → k < mN M → ¬ (0 ≤ w ∧ w ≤ 4) → Q (.inl (some (.inl (2)))) I L) : CZ (d + 3) k_L_shape [.inr (.ref 0, 12), .inl k, .inl w, .inr (.ref 643, 40001)] b I L Q := by
  refine T.call rfl ?_
  refine T.go [] 120 ?_
  conv => whnf
  refine ⟨2, by omega, s_X11_shape T  (by omega) (by first | assumption | omega) (by first | assumption | omega) (by first | assumption | omega) ?_ ?_ ?_⟩
  · intro cha_5 chb_5 chc_5 chd_5
    have hzv : zR (aShape (mS M k.toNat) w) := by
      exact z_shape _ (by omega) (by omega)
    conv => whnf
    refine ⟨by first | exact hzv | assumption | decide | omega, ?_⟩
    conv => whnf
    refine ⟨by omega, ?_⟩
    conv => whnf
    exact h cha_5 chb_5 chc_5 chd_5
  · intro ch2a_5
    conv => whnf
    exact h2 ch2a_5
  · intro ch3a_5 ch3b_5 ch3c_5
    conv => whnf
    exact h3 ch3a_5 ch3b_5 ch3c_5
theorem s_L_hasQuarter (T : ZTh (XX Ln xs) CZ RZ) {d b : Nat} {W H n bl : Nat} {M : Mo} {P SL : Nat → Mo} {u : Nat → Int} {k q : Int} {I : ZI} {L : ZL} {Q : ZQ} (hb : 1 ≤ b) (hC : CB I L W H M P n SL bl u) (hk : zR k) (hq : zR q) (h : 0 ≤ k → k < mN M → Q (.inl (some (.inl (0)))) I (w2 L 643 0 (l6 (bi (decide (0 ≤ q ∧ q < 576) && mS M k.toNat q.toNat))))) (h2 : ¬ (0 ≤ k ∧ k < mN M) → Q (.inl (some (.inl (1)))) I L) : CZ (d + 3) k_L_hasQuarter [.inr (.ref 0, 12), .inl k, .inl q, .inr (.ref 643, 40001)] b I L Q := by
  refine T.call rfl ?_
  refine T.go [] 120 ?_
  conv => whnf
  refine ⟨1, by omega, s_X11_hasQuarter T  (by omega) (by first | assumption | omega) (by first | assumption | omega) (by first | assumption | omega) ?_ ?_⟩
  · intro cha_5 chb_5
    have hzv : zR (bi (decide (0 ≤ q ∧ q < 576) && mS M k.toNat q.toNat)) := by
      have := bi_b (decide (0 ≤ q ∧ q < 576) && mS M k.toNat q.toNat)
      exact ⟨by omega, by omega⟩
    conv => whnf
    refine ⟨by first | exact hzv | assumption | decide | omega, fun c8 => ?_, fun c8 => ?_⟩
    · conv => whnf
      refine ⟨by omega, ?_⟩
      conv => whnf
      have h9 := h cha_5 chb_5
      rw [show (((bi (decide (0 ≤ q ∧ q < 576) && mS M k.toNat q.toNat))) : Int) = 0 from c8] at h9
      exact h9
    · conv => whnf
      refine ⟨by omega, ?_⟩
      conv => whnf
      have h9 := h cha_5 chb_5
      rw [show (((bi (decide (0 ≤ q ∧ q < 576) && mS M k.toNat q.toNat))) : Int) = 1 from by
        have := bi_b (decide (0 ≤ q ∧ q < 576) && mS M k.toNat q.toNat)
        omega] at h9
      exact h9
  · intro ch2a_5
    conv => whnf
    exact h2 ch2a_5
theorem s_L_alike (T : ZTh (XX Ln xs) CZ RZ) {d b : Nat} {W H n bl : Nat} {M : Mo} {P SL : Nat → Mo} {u : Nat → Int} {k : Int} {I : ZI} {L : ZL} {Q : ZQ} (hb : 1 ≤ b) (hC : CB I L W H M P n SL bl u) (hk : zR k) (h : 0 ≤ k → k < mN M → ∀ I' L', Fr PQ I I' → Fr PQ L L' → CB I' L' W H M P n SL bl u → Q (.inl (some (.inl (0)))) I' (w2 L' 643 0 (l6 (alikeA M k.toNat)))) (h2 : ¬ (0 ≤ k ∧ k < mN M) → Q (.inl (some (.inl (1)))) I L) : CZ (d + 6) k_L_alike [.inr (.ref 0, 12), .inl k, .inr (.ref 643, 40001)] b I L Q := by
  refine T.call rfl ?_
  refine T.go [] 120 ?_
  conv => whnf
  refine ⟨1, by omega, s_X11_alike T  (by omega) (by first | assumption | omega) (by first | assumption | omega) ?_ ?_⟩
  · intro cha_4 chb_4 I_4 L_4 hf_4 hg_4 hC_4
    have hzv : zR (alikeA M k.toNat) := by
      exact z_alike _ _
    conv => whnf
    refine ⟨by first | exact hzv | assumption | decide | omega, ?_⟩
    conv => whnf
    refine ⟨by omega, ?_⟩
    conv => whnf
    exact h cha_4 chb_4 I_4 L_4 hf_4 hg_4 hC_4
  · intro ch2a_4
    conv => whnf
    exact h2 ch2a_4
theorem s_L_missing (T : ZTh (XX Ln xs) CZ RZ) {d b : Nat} {W H n bl : Nat} {M : Mo} {P SL : Nat → Mo} {u : Nat → Int} {k : Int} {I : ZI} {L : ZL} {Q : ZQ} (hb : 1 ≤ b) (hC : CB I L W H M P n SL bl u) (hk : zR k) (h : 0 ≤ k → k < mN M → Q (.inl (some (.inl (0)))) I (w2 L 643 0 (l6 (cn (fun q => mS M k.toNat q ^^ sil M q) 576)))) (h2 : ¬ (0 ≤ k ∧ k < mN M) → Q (.inl (some (.inl (1)))) I L) : CZ (d + 4) k_L_missing [.inr (.ref 0, 12), .inl k, .inr (.ref 643, 40001)] b I L Q := by
  refine T.call rfl ?_
  refine T.go [] 120 ?_
  conv => whnf
  refine ⟨1, by omega, s_X11_missing T  (by omega) (by first | assumption | omega) (by first | assumption | omega) ?_ ?_⟩
  · intro cha_4 chb_4
    have hzv : zR (cn (fun q => mS M k.toNat q ^^ sil M q) 576) := by
      exact z_cn _ _ (by omega)
    conv => whnf
    refine ⟨by first | exact hzv | assumption | decide | omega, ?_⟩
    conv => whnf
    refine ⟨by omega, ?_⟩
    conv => whnf
    exact h cha_4 chb_4
  · intro ch2a_4
    conv => whnf
    exact h2 ch2a_4
theorem s_L_ways (T : ZTh (XX Ln xs) CZ RZ) {d b : Nat} {W H n bl : Nat} {M : Mo} {P SL : Nat → Mo} {u : Nat → Int} {k : Int} {I : ZI} {L : ZL} {Q : ZQ} (hb : 1 ≤ b) (hC : CB I L W H M P n SL bl u) (hk : zR k) (h : 0 ≤ k → k < mN M → ∀ I' L', Fr PQ I I' → Fr PQ L L' → CB I' L' W H M P n SL bl u → Q (.inl (some (.inl (0)))) I' (w2 L' 643 0 (l6 (waysA M k.toNat)))) (h2 : ¬ (0 ≤ k ∧ k < mN M) → Q (.inl (some (.inl (1)))) I L) : CZ (d + 33) k_L_ways [.inr (.ref 0, 12), .inl k, .inr (.ref 643, 40001)] b I L Q := by
  refine T.call rfl ?_
  refine T.go [] 120 ?_
  conv => whnf
  refine ⟨1, by omega, s_X11_ways T  (by omega) (by first | assumption | omega) (by first | assumption | omega) ?_ ?_⟩
  · intro cha_4 chb_4 I_4 L_4 hf_4 hg_4 hC_4
    have hzv : zR (waysA M k.toNat) := by
      exact z_ways _ _
    conv => whnf
    refine ⟨by first | exact hzv | assumption | decide | omega, ?_⟩
    conv => whnf
    refine ⟨by omega, ?_⟩
    conv => whnf
    exact h cha_4 chb_4 I_4 L_4 hf_4 hg_4 hC_4
  · intro ch2a_4
    conv => whnf
    exact h2 ch2a_4
theorem s_L_firstWay (T : ZTh (XX Ln xs) CZ RZ) {d b : Nat} {W H n bl : Nat} {M : Mo} {P SL : Nat → Mo} {u : Nat → Int} {k p w : Int} {I : ZI} {L : ZL} {Q : ZQ} (hb : 3 ≤ b) (hC : CB I L W H M P n SL bl u) (hk : zR k) (hp : zR p) (hw : zR w) (h : 0 ≤ k → k < mN M → 0 ≤ p ∧ p < 7 → 0 ≤ w ∧ w ≤ 3 → ∀ I' L', Fr PQ I I' → Fr PQ L L' → CB I' L' W H M P n SL bl u → Q (.inl (some (.inl (0)))) I' (w2 L' 643 0 (l6 (firstA M k.toNat p.toNat w)))) (h2 : ¬ ((0 ≤ k ∧ k < mN M) ∧ 0 ≤ p ∧ p < 7) → Q (.inl (some (.inl (1)))) I L) (h3 : (0 ≤ k ∧ k < mN M) ∧ (0 ≤ p ∧ p < 7) → ¬ (0 ≤ w ∧ w ≤ 3) → Q (.inl (some (.inl (2)))) I L) : CZ (d + 33) k_L_firstWay [.inr (.ref 0, 12), .inl k, .inl p, .inl w, .inr (.ref 643, 40001)] b I L Q := by
  refine T.call rfl ?_
  refine T.go [] 120 ?_
  conv => whnf
  refine ⟨3, by omega, s_X11_firstWay T  (by omega) (by first | assumption | omega) (by first | assumption | omega) (by first | assumption | omega) (by first | assumption | omega) ?_ ?_ ?_⟩
  · intro cha_7 chb_7 chc_7 chd_7 I_7 L_7 hf_7 hg_7 hC_7
    have hzv : zR (firstA M k.toNat p.toNat w) := by
      exact z_first _ _ (by omega) _
    conv => whnf
    refine ⟨by first | exact hzv | assumption | decide | omega, ?_⟩
    conv => whnf
    refine ⟨by omega, ?_⟩
    conv => whnf
    exact h cha_7 chb_7 chc_7 chd_7 I_7 L_7 hf_7 hg_7 hC_7
  · intro ch2a_7
    conv => whnf
    exact h2 ch2a_7
  · intro ch3a_7 ch3b_7
    conv => whnf
    exact h3 ch3a_7 ch3b_7
theorem s_L_place (T : ZTh (XX Ln xs) CZ RZ) {d b : Nat} {W H n bl : Nat} {M : Mo} {P SL : Nat → Mo} {u : Nat → Int} {p x y t f : Int} {I : ZI} {L : ZL} {Q : ZQ} (hb : 2 ≤ b) (hC : CB I L W H M P n SL bl u) (hp : zR p) (hx : zR x) (hy : zR y) (ht : zR t) (hf : f = 0 ∨ f = 1) (h : 0 ≤ p ∧ p < 7 → 0 ≤ t ∧ t < 4 → aWhy W H M p x y t f = 0 → ∀ I' L', Fr PCh I I' → Fr PCh L L' → CB I' L' W H (putM M p.toNat x y (2 * t + f)) (psh P n M) (psn n) SL bl u → Q (.inl (some (.inl (0)))) I' (w2 L' 643 0 (l6 (cn (sil (putM M p.toNat x y (2 * t + f))) 576)))) (h4 : 0 ≤ p ∧ p < 7 → 0 ≤ t ∧ t < 4 → ¬ aWhy W H M p x y t f = 0 → Q (.inl (some (.inl (0)))) I (w2 L 643 0 (l6 ((-aWhy W H M p x y t f))))) (h2 : ¬ (0 ≤ p ∧ p < 7) → Q (.inl (some (.inl (1)))) I L) (h3 : 0 ≤ p ∧ p < 7 → ¬ (0 ≤ t ∧ t < 4) → Q (.inl (some (.inl (2)))) I L) : CZ (d + 8) k_L_place [.inr (.ref 0, 12), .inl p, .inl x, .inl y, .inl t, .inl f, .inr (.ref 643, 40001)] b I L Q := by
  refine T.call rfl ?_
  refine T.go [] 120 ?_
  conv => whnf
  refine ⟨2, by omega, s_X11_place T  (by omega) (by first | assumption | omega) (by first | assumption | omega) (by first | assumption | omega) (by first | assumption | omega) (by first | assumption | omega) (by first | assumption | omega) ?_ ?_ ?_ ?_⟩
  · intro cha_11 chb_11 chc_11 I_11 L_11 hf_11 hg_11 hC_11
    have hzv : zR (cn (sil (putM M p.toNat x y (2 * t + f))) 576) := by
      exact z_cn _ _ (by omega)
    conv => whnf
    refine ⟨by first | exact hzv | assumption | decide | omega, ?_⟩
    conv => whnf
    refine ⟨by omega, ?_⟩
    conv => whnf
    exact h cha_11 chb_11 chc_11 I_11 L_11 hf_11 hg_11 hC_11
  · intro ch4a_11 ch4b_11 ch4c_11
    have hzv : zR ((-aWhy W H M p x y t f)) := by
      exact (z_why _ _ _ _ _ _ _ _).2
    conv => whnf
    refine ⟨by first | exact hzv | assumption | decide | omega, ?_⟩
    conv => whnf
    refine ⟨by omega, ?_⟩
    conv => whnf
    exact h4 ch4a_11 ch4b_11 ch4c_11
  · intro ch2a_11
    conv => whnf
    exact h2 ch2a_11
  · intro ch3a_11 ch3b_11
    conv => whnf
    exact h3 ch3a_11 ch3b_11
theorem s_L_takeOff (T : ZTh (XX Ln xs) CZ RZ) {d b : Nat} {W H n bl : Nat} {M : Mo} {P SL : Nat → Mo} {u : Nat → Int} {p : Int} {I : ZI} {L : ZL} {Q : ZQ} (hb : 1 ≤ b) (hC : CB I L W H M P n SL bl u) (hp : zR p) (h : 0 ≤ p ∧ p < 7 → ∀ I' L', Fr PCh I I' → Fr PCh L L' → CB I' L' W H (offP M p.toNat) (psh P n M) (psn n) SL bl u → Q (.inl (some (.inl (0)))) I' (w2 L' 643 0 (l6 ((if mF M p = -1 then 0 else 1))))) (h2 : ¬ (0 ≤ p ∧ p < 7) → Q (.inl (some (.inl (1)))) I L) : CZ (d + 7) k_L_takeOff [.inr (.ref 0, 12), .inl p, .inr (.ref 643, 40001)] b I L Q := by
  refine T.call rfl ?_
  refine T.go [] 120 ?_
  conv => whnf
  refine ⟨1, by omega, s_X11_takeOff T  (by omega) (by first | assumption | omega) (by first | assumption | omega) ?_ ?_⟩
  · intro cha_4 I_4 L_4 hf_4 hg_4 hC_4
    have hzv : zR ((if mF M p = -1 then 0 else 1)) := by
      split <;> decide
    conv => whnf
    refine ⟨by first | exact hzv | assumption | decide | omega, fun c7 => ?_, fun c7 => ?_⟩
    · conv => whnf
      refine ⟨by omega, ?_⟩
      conv => whnf
      have h9 := h cha_4 I_4 L_4 hf_4 hg_4 hC_4
      rw [show ((((if mF M p = -1 then 0 else 1))) : Int) = 0 from c7] at h9
      exact h9
    · conv => whnf
      refine ⟨by omega, ?_⟩
      conv => whnf
      have h9 := h cha_4 I_4 L_4 hf_4 hg_4 hC_4
      rw [show ((((if mF M p = -1 then 0 else 1))) : Int) = 1 from by
        revert c7; split <;> intro c <;> first | rfl | exact absurd rfl c] at h9
      exact h9
  · intro ch2a_4
    conv => whnf
    exact h2 ch2a_4
theorem s_L_turn (T : ZTh (XX Ln xs) CZ RZ) {d b : Nat} {W H n bl : Nat} {M : Mo} {P SL : Nat → Mo} {u : Nat → Int} {p : Int} {I : ZI} {L : ZL} {Q : ZQ} (hb : 1 ≤ b) (hC : CB I L W H M P n SL bl u) (hp : zR p) (h : 0 ≤ p ∧ p < 7 → ¬ mF M p = -1 → why W H M p.toNat (8 * p.toNat + ((mF M p + 2) % 8).toNat) (mX M p) (mY M p) = 0 → ∀ I' L', Fr PCh I I' → Fr PCh L L' → CB I' L' W H (putM M p.toNat (mX M p) (mY M p) ((mF M p + 2) % 8)) (psh P n M) (psn n) SL bl u → Q (.inl (some (.inl (0)))) I' (w2 L' 643 0 (l6 (((mF M p + 2) % 8 / 2))))) (h1 : 0 ≤ p ∧ p < 7 → mF M p = -1 → Q (.inl (some (.inl (0)))) I (w2 L 643 0 (l6 ((-1))))) (h4 : 0 ≤ p ∧ p < 7 → ¬ mF M p = -1 → ¬ why W H M p.toNat (8 * p.toNat + ((mF M p + 2) % 8).toNat) (mX M p) (mY M p) = 0 → Q (.inl (some (.inl (0)))) I (w2 L 643 0 (l6 ((-1))))) (h2 : ¬ (0 ≤ p ∧ p < 7) → Q (.inl (some (.inl (1)))) I L) : CZ (d + 8) k_L_turn [.inr (.ref 0, 12), .inl p, .inr (.ref 643, 40001)] b I L Q := by
  refine T.call rfl ?_
  refine T.go [] 120 ?_
  conv => whnf
  refine ⟨1, by omega, s_X11_turn T  (by omega) (by first | assumption | omega) (by first | assumption | omega) ?_ ?_ ?_ ?_⟩
  · intro cha_4 chb_4 chc_4 I_4 L_4 hf_4 hg_4 hC_4
    have hzv : zR (((mF M p + 2) % 8 / 2)) := by
      exact ⟨by omega, by omega⟩
    conv => whnf
    refine ⟨by first | exact hzv | assumption | decide | omega, ?_⟩
    conv => whnf
    refine ⟨by omega, ?_⟩
    conv => whnf
    exact h cha_4 chb_4 chc_4 I_4 L_4 hf_4 hg_4 hC_4
  · intro ch1a_4 ch1b_4
    conv => whnf
    refine ⟨by first | exact hzv | assumption | decide | omega, ?_⟩
    conv => whnf
    refine ⟨by omega, ?_⟩
    conv => whnf
    exact h1 ch1a_4 ch1b_4
  · intro ch4a_4 ch4b_4 ch4c_4
    conv => whnf
    refine ⟨by first | exact hzv | assumption | decide | omega, ?_⟩
    conv => whnf
    refine ⟨by omega, ?_⟩
    conv => whnf
    exact h4 ch4a_4 ch4b_4 ch4c_4
  · intro ch2a_4
    conv => whnf
    exact h2 ch2a_4
theorem s_L_flip (T : ZTh (XX Ln xs) CZ RZ) {d b : Nat} {W H n bl : Nat} {M : Mo} {P SL : Nat → Mo} {u : Nat → Int} {p : Int} {I : ZI} {L : ZL} {Q : ZQ} (hb : 1 ≤ b) (hC : CB I L W H M P n SL bl u) (hp : zR p) (h : 0 ≤ p ∧ p < 7 → ¬ mF M p = -1 → why W H M p.toNat (8 * p.toNat + ((mF M p + 1 - 2 * (mF M p % 2))).toNat) (mX M p) (mY M p) = 0 → ∀ I' L', Fr PCh I I' → Fr PCh L L' → CB I' L' W H (putM M p.toNat (mX M p) (mY M p) ((mF M p + 1 - 2 * (mF M p % 2)))) (psh P n M) (psn n) SL bl u → Q (.inl (some (.inl (0)))) I' (w2 L' 643 0 (l6 (((mF M p + 1 - 2 * (mF M p % 2)) % 2))))) (h1 : 0 ≤ p ∧ p < 7 → mF M p = -1 → Q (.inl (some (.inl (0)))) I (w2 L 643 0 (l6 ((-1))))) (h4 : 0 ≤ p ∧ p < 7 → ¬ mF M p = -1 → ¬ why W H M p.toNat (8 * p.toNat + ((mF M p + 1 - 2 * (mF M p % 2))).toNat) (mX M p) (mY M p) = 0 → Q (.inl (some (.inl (0)))) I (w2 L 643 0 (l6 ((-1))))) (h2 : ¬ (0 ≤ p ∧ p < 7) → Q (.inl (some (.inl (1)))) I L) : CZ (d + 8) k_L_flip [.inr (.ref 0, 12), .inl p, .inr (.ref 643, 40001)] b I L Q := by
  refine T.call rfl ?_
  refine T.go [] 120 ?_
  conv => whnf
  refine ⟨1, by omega, s_X11_flip T  (by omega) (by first | assumption | omega) (by first | assumption | omega) ?_ ?_ ?_ ?_⟩
  · intro cha_4 chb_4 chc_4 I_4 L_4 hf_4 hg_4 hC_4
    have hzv : zR (((mF M p + 1 - 2 * (mF M p % 2)) % 2)) := by
      exact ⟨by omega, by omega⟩
    conv => whnf
    refine ⟨by first | exact hzv | assumption | decide | omega, ?_⟩
    conv => whnf
    refine ⟨by omega, ?_⟩
    conv => whnf
    exact h cha_4 chb_4 chc_4 I_4 L_4 hf_4 hg_4 hC_4
  · intro ch1a_4 ch1b_4
    conv => whnf
    refine ⟨by first | exact hzv | assumption | decide | omega, ?_⟩
    conv => whnf
    refine ⟨by omega, ?_⟩
    conv => whnf
    exact h1 ch1a_4 ch1b_4
  · intro ch4a_4 ch4b_4 ch4c_4
    conv => whnf
    refine ⟨by first | exact hzv | assumption | decide | omega, ?_⟩
    conv => whnf
    refine ⟨by omega, ?_⟩
    conv => whnf
    exact h4 ch4a_4 ch4b_4 ch4c_4
  · intro ch2a_4
    conv => whnf
    exact h2 ch2a_4
theorem s_L_remove (T : ZTh (XX Ln xs) CZ RZ) {d b : Nat} {W H n bl : Nat} {M : Mo} {P SL : Nat → Mo} {u : Nat → Int} {k : Int} {I : ZI} {L : ZL} {Q : ZQ} (hb : 1 ≤ b) (hC : CB I L W H M P n SL bl u) (hk : zR k) (h : 0 ≤ k → k < mN M → ∀ I' L', Fr PCh I I' → Fr PCh L L' → CB I' L' W H (drS M k.toNat) (psh P n M) (psn n) SL bl u → Q (.inl (some (.inl (0)))) I' (w2 L' 643 0 (l6 (((mN M - 1 : Nat) : Int))))) (h2 : ¬ (0 ≤ k ∧ k < mN M) → Q (.inl (some (.inl (1)))) I L) : CZ (d + 5) k_L_remove [.inr (.ref 0, 12), .inl k, .inr (.ref 643, 40001)] b I L Q := by
  refine T.call rfl ?_
  refine T.go [] 120 ?_
  conv => whnf
  refine ⟨1, by omega, s_X11_remove T  (by omega) (by first | assumption | omega) (by first | assumption | omega) ?_ ?_⟩
  · intro cha_4 chb_4 I_4 L_4 hf_4 hg_4 hC_4
    have hzv : zR (((mN M - 1 : Nat) : Int)) := by
      have := hC.2.2.1.2.1
      exact ⟨by omega, by omega⟩
    conv => whnf
    refine ⟨by first | exact hzv | assumption | decide | omega, ?_⟩
    conv => whnf
    refine ⟨by omega, ?_⟩
    conv => whnf
    exact h cha_4 chb_4 I_4 L_4 hf_4 hg_4 hC_4
  · intro ch2a_4
    conv => whnf
    exact h2 ch2a_4
theorem s_L_solve (T : ZTh (XX Ln xs) CZ RZ) {d b : Nat} {W H n bl : Nat} {M : Mo} {P SL : Nat → Mo} {u : Nat → Int} {k : Int} {I : ZI} {L : ZL} {Q : ZQ} (hb : 1 ≤ b) (hC : CB I L W H M P n SL bl u) (hk : zR k) (h : 0 ≤ k → k < mN M → ¬ waysA M k.toNat = 0 → ∀ I' L', Fr PCh I I' → Fr PCh L L' → CB I' L' W H (slM M k.toNat) (psh P n M) (psn n) SL bl u → Q (.inl (some (.inl (0)))) I' (w2 L' 643 0 (l6 (1)))) (h0 : 0 ≤ k → k < mN M → waysA M k.toNat = 0 → ∀ I' L', Fr PQ I I' → Fr PQ L L' → CB I' L' W H M P n SL bl u → Q (.inl (some (.inl (0)))) I' (w2 L' 643 0 (l6 (0)))) (h2 : ¬ (0 ≤ k ∧ k < mN M) → Q (.inl (some (.inl (1)))) I L) : CZ (d + 33) k_L_solve [.inr (.ref 0, 12), .inl k, .inr (.ref 643, 40001)] b I L Q := by
  refine T.call rfl ?_
  refine T.go [] 120 ?_
  conv => whnf
  refine ⟨1, by omega, s_X11_solve T  (by omega) (by first | assumption | omega) (by first | assumption | omega) ?_ ?_ ?_⟩
  · intro cha_4 chb_4 chc_4 I_4 L_4 hf_4 hg_4 hC_4
    conv => whnf
    refine ⟨by decide, fun c => absurd c (by decide), fun _ => ?_⟩
    conv => whnf
    refine ⟨by omega, ?_⟩
    conv => whnf
    exact h cha_4 chb_4 chc_4 I_4 L_4 hf_4 hg_4 hC_4
  · intro ch0a_4 ch0b_4 ch0c_4 I_4 L_4 hf_4 hg_4 hC_4
    conv => whnf
    refine ⟨by decide, fun _ => ?_, fun c => absurd c (by decide)⟩
    conv => whnf
    refine ⟨by omega, ?_⟩
    conv => whnf
    exact h0 ch0a_4 ch0b_4 ch0c_4 I_4 L_4 hf_4 hg_4 hC_4
  · intro ch2a_4
    conv => whnf
    exact h2 ch2a_4
theorem s_L_saveSnapshot (T : ZTh (XX Ln xs) CZ RZ) {d b : Nat} {W H n bl : Nat} {M : Mo} {P SL : Nat → Mo} {u : Nat → Int} {k : Int} {I : ZI} {L : ZL} {Q : ZQ} (hb : 1 ≤ b) (hC : CB I L W H M P n SL bl u) (hk : zR k) (h : 0 ≤ k ∧ k < 2 → ∀ I' L', Fr (fun a _ => a ≤ 574) I I' → Fr (fun a _ => a ≤ 574) L L' → (∀ t : Nat, t < 2 → I' 526 t = if t = k.toNat then 1 else I 526 t) → CB I' L' W H M P n (fun t => if t = k.toNat then M else SL t) bl u → Q (.inl (some (.inl (0)))) I' (w2 L' 643 0 (l6 (I 526 k)))) (h2 : ¬ (0 ≤ k ∧ k < 2) → Q (.inl (some (.inl (1)))) I L) : CZ (d + 4) k_L_saveSnapshot [.inr (.ref 0, 12), .inl k, .inr (.ref 643, 40001)] b I L Q := by
  refine T.call rfl ?_
  refine T.go [] 120 ?_
  conv => whnf
  refine ⟨1, by omega, s_X11_saveSnapshot T  (by omega) (by first | assumption | omega) (by first | assumption | omega) ?_ ?_⟩
  · intro cha_4 I_4 L_4 hf_4 hg_4 hv_4 hC_4
    have hzv : zR (I 526 k) := by
      obtain ⟨kn, rfl⟩ := Int.eq_ofNat_of_zero_le cha_4.1
      have := (hC.2.2.2.2.2.2.1 kn (by omega)).1
      exact ⟨by omega, by omega⟩
    conv => whnf
    refine ⟨by first | exact hzv | assumption | decide | omega, fun c7 => ?_, fun c7 => ?_⟩
    · conv => whnf
      refine ⟨by omega, ?_⟩
      conv => whnf
      have h9 := h cha_4 I_4 L_4 hf_4 hg_4 hv_4 hC_4
      rw [show (((I 526 k)) : Int) = 0 from c7] at h9
      exact h9
    · conv => whnf
      refine ⟨by omega, ?_⟩
      conv => whnf
      have h9 := h cha_4 I_4 L_4 hf_4 hg_4 hv_4 hC_4
      rw [show (((I 526 k)) : Int) = 1 from by
        have := (hC.2.2.2.2.2.2.1 k.toNat (by omega)).1
        rw [show ((k.toNat : Nat) : Int) = k by omega] at this
        omega] at h9
      exact h9
  · intro ch2a_4
    conv => whnf
    exact h2 ch2a_4
theorem s_L_restoreSnapshot (T : ZTh (XX Ln xs) CZ RZ) {d b : Nat} {W H n bl : Nat} {M : Mo} {P SL : Nat → Mo} {u : Nat → Int} {k : Int} {I : ZI} {L : ZL} {Q : ZQ} (hb : 2 ≤ b) (hC : CB I L W H M P n SL bl u) (hk : zR k) (h : 0 ≤ k ∧ k < 2 → I 526 k = 1 → ∀ I' L', Fr PCh I I' → Fr PCh L L' → CB I' L' W H (SL k.toNat) P 0 SL bl u → Q (.inl (some (.inl (0)))) I' (w2 L' 643 0 (l6 (plN (SL k.toNat))))) (h2 : ¬ (0 ≤ k ∧ k < 2) → Q (.inl (some (.inl (1)))) I L) (h3 : 0 ≤ k ∧ k < 2 → ¬ I 526 k = 1 → Q (.inl (some (.inl (2)))) I L) : CZ (d + 7) k_L_restoreSnapshot [.inr (.ref 0, 12), .inl k, .inr (.ref 643, 40001)] b I L Q := by
  refine T.call rfl ?_
  refine T.go [] 120 ?_
  conv => whnf
  refine ⟨2, by omega, s_X11_restoreSnapshot T  (by omega) (by first | assumption | omega) (by first | assumption | omega) ?_ ?_ ?_⟩
  · intro cha_4 chb_4 I_4 L_4 hf_4 hg_4 hC_4
    have hzv : zR (plN (SL k.toNat)) := by
      exact z_cn _ _ (by omega)
    conv => whnf
    refine ⟨by first | exact hzv | assumption | decide | omega, ?_⟩
    conv => whnf
    refine ⟨by omega, ?_⟩
    conv => whnf
    exact h cha_4 chb_4 I_4 L_4 hf_4 hg_4 hC_4
  · intro ch2a_4
    conv => whnf
    exact h2 ch2a_4
  · intro ch3a_4 ch3b_4
    conv => whnf
    exact h3 ch3a_4 ch3b_4
end
