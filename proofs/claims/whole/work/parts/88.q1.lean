/-! QUESTIONS, 1 -/
section
variable {Ln : Nat} {xs : Nat → Int32} {CZ : Nat → ZC} {RZ : Nat → Nat → ZQ → ZP}
/-- the class stands for: a board of W by H, the state M, the past, the snapshots, the buffer -/
def CB (I : ZI) (L : ZL) (W H : Nat) (M : Mo) (P : Nat → Mo) (n : Nat) (SL : Nat → Mo) (bl : Nat) (u : Nat → Int) : Prop :=
  FormOK I L ∧ StC I L 282 W H M ∧ Wf W H M ∧ SilOK I L M ∧ PaOK I L W H P n ∧ (∀ i, i < n → Wf W H (P i)) ∧
  (∀ t : Nat, t < 2 → (I 526 t = 0 ∨ I 526 t = 1) ∧ (I 526 t = 1 → StC I L (482 + 22 * t) W H (SL t) ∧ Wf W H (SL t))) ∧ FiOK I L ∧
  (I 576 1 = bl ∧ bl ≤ 700 ∧ ∀ i : Nat, i < bl → 0 ≤ u i ∧ u i < 256 ∧ I 577 i = (u i + 128) % 256 - 128)
theorem CB.fr {I I' : ZI} {L L' : ZL} {W H : Nat} {M : Mo} {P : Nat → Mo} {n : Nat} {SL : Nat → Mo} {bl : Nat} {u : Nat → Int} (h : CB I L W H M P n SL bl u) (h1 : ∀ a b, ¬ (546 ≤ a ∧ a ≤ 574) → I' a b = I a b) (h2 : ∀ a b, ¬ (546 ≤ a ∧ a ≤ 574) → L' a b = L a b) (hK : FiOK I' L') : CB I' L' W H M P n SL bl u := by
  obtain ⟨a1, a2, a3, a4, a5, a6, a7, a8, a9, a10, a11⟩ := h
  refine ⟨a1.fr (fun a b _ _ => h1 _ _ (by omega)) (fun a b _ _ => h2 _ _ (by omega)), a2.fr a3.2.1 (fun a b _ _ => h1 _ _ (by omega)) (fun a b _ _ => h2 _ _ (by omega)), a3, a4.fr (fun a b _ _ => h1 _ _ (by omega)) (fun b => h2 _ _ (by omega)), a5.fr (h1 _ _ (by omega)) (fun a b _ _ => h1 _ _ (by omega)) (fun a b _ _ => h2 _ _ (by omega)), a6, fun t ht => ?_, hK, ?_, a10, fun i hi => ?_⟩
  · rw [h1 _ _ (by omega)]
    obtain ⟨b1, b2⟩ := a7 t ht
    exact ⟨b1, fun e => ⟨(b2 e).1.fr (b2 e).2.2.1 (fun a b _ _ => h1 _ _ (by omega)) (fun a b _ _ => h2 _ _ (by omega)), (b2 e).2⟩⟩
  · rw [h1 _ _ (by omega)]; exact a9
  · rw [h1 _ _ (by omega)]; exact a11 i hi
/-- the outlines of M's silhouette -/
noncomputable def olM (M : Mo) : OS := runO (sil M) 5000
def plN (M : Mo) : Int := cn (fun j => !decide (mF M (j : Int) = -1)) 7
noncomputable def hoN (M : Mo) : Int := cn (fun j => decide (oAR (olM M) j < 0)) (oL (olM M))
noncomputable def aSize (W H : Nat) (M : Mo) (n bl : Nat) (w : Int) : Int := match w.toNat with
  | 0 => W
  | 1 => H
  | 2 => plN M
  | 3 => cn (sil M) 576
  | 4 => partsO (sil M)
  | 5 => oL (olM M)
  | 6 => hoN M
  | 7 => oE (olM M)
  | 8 => mN M
  | 9 => n
  | _ => bl
theorem CB.outl {I : ZI} {L : ZL} {W H : Nat} {M : Mo} {P : Nat → Mo} {n : Nat} {SL : Nat → Mo} {bl : Nat} {u : Nat → Int} (h : CB I L W H M P n SL bl u) : WI (sil M) (olM M) ∧ (∀ e, bs (sil M) e = true → oW (olM M) e = true) ∧ OSr I (olM M) (oL (olM M)) ∧ BI (olM M) (oL (olM M)) ∧ cn (oW (olM M)) 5000 ≤ 192 ∧ oL (olM M) ≤ 192 ∧ oE (olM M) ≤ 192 := by
  have hw := runO_WI (sil_cn h.2.2.1.1) 5000
  have hc := bs_count (sil M)
  have hs := sil_cn h.2.2.1.1
  have hm := cn_mono (f := oW (olM M)) (g := bs (sil M)) (fun i hi => hw.1.1 i hi) 5000
  have hle : cn (oW (olM M)) 5000 ≤ 192 := by
    generalize cn (oW (olM M)) 5000 = x at *
    generalize cn (bs (sil M)) 5000 = y at *
    omega
  have h3 : ((oE (olM M) : Nat) : Int) ≤ cn (oW (olM M)) 5000 := hw.1.2.2.1
  have h4 : ((oL (olM M) : Nat) : Int) ≤ cn (oW (olM M)) 5000 := hw.1.2.2.2.1
  refine ⟨hw.1, fun e he => hw.2 e (bs_lt he) he, h.2.2.2.1.2.2.2.2.1, h.2.2.2.1.2.2.2.2.2.1, hle, ?_, ?_⟩
  · generalize cn (oW (olM M)) 5000 = x at *
    omega
  · generalize cn (oW (olM M)) 5000 = x at *
    omega
theorem CB.zAR {I : ZI} {L : ZL} {W H : Nat} {M : Mo} {P : Nat → Mo} {n : Nat} {SL : Nat → Mo} {bl : Nat} {u : Nat → Int} (h : CB I L W H M P n SL bl u) {j : Nat} (hj : j < oL (olM M)) : zR (I 543 j) ∧ I 543 j = oAR (olM M) j := by
  obtain ⟨_, _, o3, o4, o5, _, _⟩ := h.outl
  have e := (o3.2.2.2.2 j hj).2.2.2.2
  have hb := o4.2 j hj
  rw [e]
  refine ⟨?_, rfl⟩
  generalize cn (oW (olM M)) 5000 = x at *
  exact ⟨by omega, by omega⟩
theorem s_X11_size (T : ZTh (XX Ln xs) CZ RZ) {d b : Nat} {W H n bl : Nat} {M : Mo} {P SL : Nat → Mo} {u : Nat → Int} {w : Int} {I : ZI} {L : ZL} {Q : ZQ} (hb : 1 ≤ b) (hC : CB I L W H M P n SL bl u) (hw : zR w) (h : 0 ≤ w → w ≤ 10 → Q (.inl (some (.inl (aSize W H M n bl w)))) I L) (h2 : ¬ (0 ≤ w ∧ w ≤ 10) → Q (.inr 1) I L) : CZ (d + 3) k_X11_size [.inr (.ref 0, 12), .inl w] b I L Q := by
  refine T.call rfl ?_
  obtain ⟨cF, cS, cW, cSil, cPa, cPw, cSl, cFi, cb1, cb2, cb3⟩ := id hC
  obtain ⟨t1, t2, t3, t4, t5⟩ := id cS
  obtain ⟨⟨⟨w1, w2, w3, w4⟩, -⟩, w5, -⟩ := id cW
  have ho := hC.outl
  have hp9 := cPa.1
  refine T.go [] 90 ?_
  conv => whnf
  refine ⟨1, by omega, s_X11_checkWhat T  (by first | assumption | omega | rfl | decide) (by first | assumption | omega | rfl | decide) (by first | assumption | omega | rfl | decide) ?_ ?_⟩
  · intro cha_3
    conv => whnf
    refine ⟨by omega, fun c7 => ?_, ?_⟩
    · conv => whnf
      refine ⟨by decide, _, rfl, ?_⟩
      conv => whnf
      refine ⟨by decide, _, rfl, ?_⟩
      conv => whnf
      refine ⟨by decide, ?_⟩
      conv => whnf
      obtain rfl : w = 10 := by omega
      rw [cb1]
      exact h cha_3.1 cha_3.2
    refine ⟨fun c7 => ?_, ?_⟩
    · conv => whnf
      refine ⟨by decide, _, rfl, ?_⟩
      conv => whnf
      refine ⟨by decide, ?_⟩
      conv => whnf
      subst c7
      rw [t1]
      exact h cha_3.1 cha_3.2
    refine ⟨fun c7 => ?_, ?_⟩
    · conv => whnf
      refine ⟨by decide, _, rfl, ?_⟩
      conv => whnf
      refine ⟨by decide, ?_⟩
      conv => whnf
      subst c7
      rw [t2]
      exact h cha_3.1 cha_3.2
    refine ⟨fun c7 => ?_, ?_⟩
    · conv => whnf
      refine ⟨by decide, _, rfl, ?_⟩
      conv => whnf
      refine ⟨by decide, _, rfl, ?_⟩
      conv => whnf
      refine zinv0 (s_X5_countPlaced T  (by rfl) (by omega) (by exact fun j j0 j7 => t3.zR cW.1 j0 j7) ?_)
      conv => whnf
      subst c7
      have e : cn (fun j => !decide (I (283 + 3) (j : Int) = -1)) 7 = plN M := cn_congr 7 (fun j hj => by rw [show I (283 + 3) (j : Int) = mF M j from (t3 j (by omega) (by omega)).1])
      rw [e]
      exact h cha_3.1 cha_3.2
    refine ⟨fun c7 => ?_, ?_⟩
    · conv => whnf
      refine ⟨by decide, _, rfl, ?_⟩
      conv => whnf
      refine ⟨by decide, _, rfl, ?_⟩
      conv => whnf
      refine ⟨by decide, ?_⟩
      conv => whnf
      subst c7
      rw [show I 528 1 = cn (sil M) 576 from cSil.2.2.1.1]
      exact h cha_3.1 cha_3.2
    refine ⟨fun c7 => ?_, ?_⟩
    · conv => whnf
      refine ⟨by decide, _, rfl, ?_⟩
      conv => whnf
      refine ⟨by decide, ?_⟩
      conv => whnf
      subst c7
      rw [cSil.2.2.2.1]
      exact h cha_3.1 cha_3.2
    refine ⟨fun c7 => ?_, ?_⟩
    · conv => whnf
      refine ⟨by decide, _, rfl, ?_⟩
      conv => whnf
      refine ⟨by decide, ?_⟩
      conv => whnf
      subst c7
      rw [ho.2.2.1.2.1]
      exact h cha_3.1 cha_3.2
    refine ⟨fun c7 => ?_, ?_⟩
    · conv => whnf
      refine ⟨by decide, _, rfl, ?_⟩
      conv => whnf
      refine zinv0 (s_X3_countHoles T (oL (olM M)) (by exact ho.2.2.2.2.2.1) (by exact ho.2.2.1.2.1) (by exact fun j hj => (hC.zAR hj).1) ?_)
      conv => whnf
      subst c7
      have e : cn (fun j => decide (I 543 (j : Int) < 0)) (oL (olM M)) = hoN M := cn_congr _ (fun j hj => by rw [(hC.zAR hj).2])
      rw [e]
      exact h cha_3.1 cha_3.2
    refine ⟨fun c7 => ?_, ?_⟩
    · conv => whnf
      refine ⟨by decide, _, rfl, ?_⟩
      conv => whnf
      refine ⟨by decide, ?_⟩
      conv => whnf
      subst c7
      rw [ho.2.2.1.2.2.1]
      exact h cha_3.1 cha_3.2
    refine ⟨fun c7 => ?_, ?_⟩
    · conv => whnf
      refine ⟨by decide, _, rfl, ?_⟩
      conv => whnf
      refine ⟨by decide, ?_⟩
      conv => whnf
      subst c7
      rw [t4]
      exact h cha_3.1 cha_3.2
    refine ⟨fun c7 => ?_, ?_⟩
    · conv => whnf
      refine ⟨by decide, ?_⟩
      conv => whnf
      subst c7
      rw [cPa.2.1]
      exact h cha_3.1 cha_3.2
    exact trivial
  · intro ch2a_3
    exact h2 ch2a_3
theorem l_newForms (T : ZTh (XX Ln xs) CZ RZ) {d b : Nat} {Q : ZQ} {p : Nat} {I : ZI} {L : ZL} (hF : FormOK I L) (hp : p < 7) (h : Q (.inl (some (.inl (cn (fun k => decide (fV (8 * p + k) = 1)) 8)))) I L) (m : Nat) : ∀ (k : Nat) (c : Int), (k ≤ 8) → (c = cn (fun k => decide (fV (8 * p + k) = 1)) k) → 8 - (k : Int) < (m : Int) → RZ (d + 1) k_X11_countNewForms Q 4 [.inr (.ref 0, 12), .inl ((p : Int)), .inl c, .inl ((k : Int))] [] b I L := by
  induction m with
  | zero =>
    intro k c hk hc hm
    exfalso
    omega
  | succ m ih =>
    intro k c hk hc hm
    have g := fun h : k < 8 => (hF (8 * p + k) (by omega)).2.2.2.2.1
    have fw := fun h : k < 8 => (fW_b (i := 8 * p + k) (by omega)).2.2.2.2.2
    refine T.go [4] 90 ?_
    conv => whnf
    refine ⟨by omega, fun c7 => ?_, fun c7 => ?_⟩
    · conv => whnf
      obtain rfl : k = 8 := by omega
      rw [hc]
      exact h
    · conv => whnf
      refine ⟨by decide, _, rfl, ?_⟩
      conv => whnf
      refine zinv0 (s_X11_formAt T (8 * p + k) (by omega) (by omega) ?_)
      conv => whnf
      refine ⟨(show (¬ (_ : Nat) = _) ∧ (¬ (_ : Nat) = _) from by omega), ?_⟩
      conv => whnf
      refine ⟨by have := g (by omega); have := fw (by omega); omega, fun c22 => ?_, fun c22 => ?_⟩
      · conv => whnf
        have hg := g (by omega)
        have hf9 := fw (by omega)
        exact ih (k + 1) _ (by omega) (by rw [hc, cn_s]; simp [show ¬ fV (8 * p + k) = 1 by omega]) (by omega)
      · conv => whnf
        have hg := g (by omega)
        have hf9 := fw (by omega)
        exact ih (k + 1) _ (by omega) (by rw [hc, cn_s]; simp [show fV (8 * p + k) = 1 by omega]) (by omega)
theorem s_X11_countNewForms (T : ZTh (XX Ln xs) CZ RZ) {d b : Nat} {p : Nat} {I : ZI} {L : ZL} {Q : ZQ} (hF : FormOK I L) (hp : p < 7) (h : Q (.inl (some (.inl (cn (fun k => decide (fV (8 * p + k) = 1)) 8)))) I L) : CZ (d + 2) k_X11_countNewForms [.inr (.ref 0, 12), .inl ((p : Int))] b I L Q := by
  refine T.call rfl ?_
  refine T.go [4] 90 ?_
  conv => whnf
  exact l_newForms T hF hp h 9 0 0 (by omega) rfl (by omega)
noncomputable def aPiece (M : Mo) (p : Nat) (w : Int) : Int :=
  let k := if mF M p = -1 then 8 * p else fi M p
  match w.toNat with
  | 0 => if mF M p = -1 then -1 else mX M p
  | 1 => if mF M p = -1 then -1 else mY M p
  | 2 => if mF M p = -1 then -1 else mF M p / 2
  | 3 => if mF M p = -1 then -1 else mF M p % 2
  | 4 => fW k
  | 5 => fH k
  | 6 => fN k
  | _ => cn (fun k => decide (fV (8 * p + k) = 1)) 8
theorem aPiece_k {M : Mo} {p kk : Nat} (h : (if mF M p = -1 then 8 * p else fi M p) = kk) : aPiece M p 4 = fW kk ∧ aPiece M p (4 + 1) = fH kk ∧ aPiece M p (4 + 1 + 1) = fN kk := by
  subst h; exact ⟨rfl, rfl, rfl⟩
theorem s_X11_piece (T : ZTh (XX Ln xs) CZ RZ) {d b : Nat} {W H n bl : Nat} {M : Mo} {P SL : Nat → Mo} {u : Nat → Int} {p w : Int} {I : ZI} {L : ZL} {Q : ZQ} (hb : 2 ≤ b) (hC : CB I L W H M P n SL bl u) (hp : zR p) (hw : zR w) (h : 0 ≤ p → p < 7 → 0 ≤ w → w ≤ 7 → Q (.inl (some (.inl (aPiece M p.toNat w)))) I L) (h2 : ¬ (0 ≤ p ∧ p < 7) → Q (.inr 2) I L) (h3 : 0 ≤ p → p < 7 → ¬ (0 ≤ w ∧ w ≤ 7) → Q (.inr 1) I L) : CZ (d + 3) k_X11_piece [.inr (.ref 0, 12), .inl p, .inl w] b I L Q := by
  refine T.call rfl ?_
  obtain ⟨cF, cS, cW, cSil, cPa, cPw, cSl, cFi, cb1, cb2, cb3⟩ := id hC
  obtain ⟨t1, t2, t3, t4, t5⟩ := id cS
  obtain ⟨⟨⟨w1, w2, w3, w4⟩, -⟩, w5, -⟩ := id cW
  refine T.go [] 90 ?_
  conv => whnf
  refine ⟨1, by omega, s_X11_checkPiece T  (by first | assumption | omega | rfl | decide) (by first | assumption | omega | rfl | decide) ?_ ?_⟩
  · intro cha_1
    conv => whnf
    refine ⟨1, by omega, s_X11_checkWhat T  (by first | assumption | omega | rfl | decide) (by first | assumption | omega | rfl | decide) (by first | assumption | omega | rfl | decide) ?_ ?_⟩
    · intro cha_7
      conv => whnf
      obtain ⟨pn, rfl⟩ := Int.eq_ofNat_of_zero_le cha_1.1
      have hp7 : pn < 7 := by omega
      rw [show ((pn : Nat) : Int).toNat = pn from Int.toNat_natCast pn] at h
      have hff : I 286 (pn : Int) = mF M pn := (t3 pn (by omega) (by omega)).1
      have hxy := (t3 pn (by omega) (by omega)).2
      have hfc := cW.1.2.1 pn hp7
      have hform := cW.1.form hp7
      have hfi : fi M pn = 8 * pn + (mF M pn).toNat := rfl
      refine ⟨by omega, fun c12 => ?_, fun c12 => ?_⟩
      · conv => whnf
        refine ⟨by decide, _, rfl, ?_⟩
        conv => whnf
        refine ⟨by decide, _, rfl, ?_⟩
        conv => whnf
        refine zinv0 (s_X5_isOff T  (by rfl) (by first | assumption | omega | rfl | decide) (by first | assumption | omega | rfl | decide) (by exact t3.zR cW.1 (by omega) (by omega)) ?_ ?_)
        · intro cha_36
          conv => whnf
          refine ⟨by decide, fun c => absurd c (by decide), fun _ => ?_⟩
          conv => whnf
          refine ⟨by decide, _, rfl, ?_⟩
          conv => whnf
          refine zinv0 (s_X11_formAt T (8 * pn) (by omega) (by omega) ?_)
          have hoff : mF M pn = -1 := hff.symm.trans cha_36
          have hk : 8 * pn < 56 := by omega
          have hkk : (if mF M pn = -1 then 8 * pn else fi M pn) = 8 * pn := if_pos hoff
          obtain ⟨kk, hkd⟩ : ∃ kk, kk = 8 * pn := ⟨_, rfl⟩
          rw [← hkd] at hk ⊢
          replace hkk := hkk.trans hkd.symm
          have hz3 : za (2 + 5 * kk) 3 = 5 + 5 * kk + 1 := by rw [(za_fm hk).2.2.2.1]; omega
          obtain ⟨gS, gM, -, -, -, -⟩ := cF kk hk
          have hbx := fS_box hk
          have hat := gM.at
          conv => whnf
          refine ⟨(show (¬ (_ : Nat) = _) ∧ (¬ (_ : Nat) = _) from by omega), _, hz3, ?_⟩
          conv => whnf
          refine ⟨by omega, fun c74 => ?_, ?_⟩
          · conv => whnf
            refine zinv0 (s_X11_countNewForms T  (by exact cF) (by exact hp7) ?_)
            conv => whnf
            obtain rfl : w = 7 := by omega
            exact h cha_1.1 cha_1.2 cha_7.1 cha_7.2
          refine ⟨fun c74 => ?_, ?_⟩
          · conv => whnf
            refine ⟨(show (¬ (_ : Nat) = _) ∧ (¬ (_ : Nat) = _) from by omega), ?_⟩
            conv => whnf
            subst c74
            rw [hat.2.2.1, hbx.2.2.2.1]
            have h9 := h cha_1.1 cha_1.2 cha_7.1 cha_7.2
            rw [(aPiece_k hkk).1] at h9; exact h9
          refine ⟨fun c74 => ?_, ?_⟩
          · conv => whnf
            refine ⟨(show (¬ (_ : Nat) = _) ∧ (¬ (_ : Nat) = _) from by omega), ?_⟩
            conv => whnf
            subst c74
            rw [hat.2.2.2, hbx.2.1]
            have h9 := h cha_1.1 cha_1.2 cha_7.1 cha_7.2
            rw [(aPiece_k hkk).2.1] at h9; exact h9
          refine ⟨fun c74 => ?_, ?_⟩
          · conv => whnf
            refine ⟨(show (¬ (_ : Nat) = _) ∧ (¬ (_ : Nat) = _) from by omega), ?_⟩
            conv => whnf
            subst c74
            rw [gM.1, hbx.2.2.2.2]
            have h9 := h cha_1.1 cha_1.2 cha_7.1 cha_7.2
            rw [(aPiece_k hkk).2.2] at h9; exact h9
          exact trivial
        · intro ch2a_36
          conv => whnf
          refine ⟨by decide, fun _ => ?_, fun c => absurd c (by decide)⟩
          conv => whnf
          refine ⟨by decide, _, rfl, ?_⟩
          conv => whnf
          refine ⟨by decide, _, rfl, ?_⟩
          conv => whnf
          refine ⟨by decide, _, rfl, ?_⟩
          conv => whnf
          refine ⟨by omega, by decide, ?_⟩
          conv => whnf
          refine ⟨by decide, _, rfl, ?_⟩
          conv => whnf
          refine zinv0 (s_X11_formAt T (fi M pn) (by rcases hfc with e | ⟨e1, e2, _⟩; (exact absurd (hff.trans e) ch2a_36); (have h9 : I (283 + 3) (pn : Int) = mF M pn := hff; omega)) (by exact (hform (fun e => ch2a_36 (hff.trans e))).1) ?_)
          have hoff : ¬ mF M pn = -1 := fun e => ch2a_36 (hff.trans e)
          have hk : fi M pn < 56 := (hform hoff).1
          have hkk : (if mF M pn = -1 then 8 * pn else fi M pn) = fi M pn := if_neg hoff
          obtain ⟨kk, hkd⟩ : ∃ kk, kk = fi M pn := ⟨_, rfl⟩
          rw [← hkd] at hk ⊢
          replace hkk := hkk.trans hkd.symm
          have hz3 : za (2 + 5 * kk) 3 = 5 + 5 * kk + 1 := by rw [(za_fm hk).2.2.2.1]; omega
          obtain ⟨gS, gM, -, -, -, -⟩ := cF kk hk
          have hbx := fS_box hk
          have hat := gM.at
          conv => whnf
          refine ⟨(show (¬ (_ : Nat) = _) ∧ (¬ (_ : Nat) = _) from by omega), _, hz3, ?_⟩
          conv => whnf
          refine ⟨by omega, fun c74 => ?_, ?_⟩
          · conv => whnf
            refine zinv0 (s_X11_countNewForms T  (by exact cF) (by exact hp7) ?_)
            conv => whnf
            obtain rfl : w = 7 := by omega
            exact h cha_1.1 cha_1.2 cha_7.1 cha_7.2
          refine ⟨fun c74 => ?_, ?_⟩
          · conv => whnf
            refine ⟨(show (¬ (_ : Nat) = _) ∧ (¬ (_ : Nat) = _) from by omega), ?_⟩
            conv => whnf
            subst c74
            rw [hat.2.2.1, hbx.2.2.2.1]
            have h9 := h cha_1.1 cha_1.2 cha_7.1 cha_7.2
            rw [(aPiece_k hkk).1] at h9; exact h9
          refine ⟨fun c74 => ?_, ?_⟩
          · conv => whnf
            refine ⟨(show (¬ (_ : Nat) = _) ∧ (¬ (_ : Nat) = _) from by omega), ?_⟩
            conv => whnf
            subst c74
            rw [hat.2.2.2, hbx.2.1]
            have h9 := h cha_1.1 cha_1.2 cha_7.1 cha_7.2
            rw [(aPiece_k hkk).2.1] at h9; exact h9
          refine ⟨fun c74 => ?_, ?_⟩
          · conv => whnf
            refine ⟨(show (¬ (_ : Nat) = _) ∧ (¬ (_ : Nat) = _) from by omega), ?_⟩
            conv => whnf
            subst c74
            rw [gM.1, hbx.2.2.2.2]
            have h9 := h cha_1.1 cha_1.2 cha_7.1 cha_7.2
            rw [(aPiece_k hkk).2.2] at h9; exact h9
          exact trivial
      · conv => whnf
        refine ⟨by decide, _, rfl, ?_⟩
        conv => whnf
        refine ⟨by decide, _, rfl, ?_⟩
        conv => whnf
        refine zinv0 (s_X5_tell T  (by rfl) (by rfl) (by rfl) (by first | assumption | omega | rfl | decide) (by first | assumption | omega | rfl | decide) (by first | assumption | omega | rfl | decide) (by rw [show I (283 + 3) (pn : Int) = mF M pn from hff]; rcases hfc with e | ⟨e1, e2, _⟩; (exact Or.inl e); (exact Or.inr ⟨e1, e2⟩)) ?_)
        conv => whnf
        have hw3 : 0 ≤ w ∧ w ≤ 3 := by omega
        have hcs : w = 0 ∨ w = 1 ∨ w = 2 ∨ w = 3 := by omega
        have hff' : I (283 + 3) (pn : Int) = mF M pn := hff
        by_cases hoff : mF M pn = -1
        · rw [if_pos (hff'.trans hoff)]
          have h9 := h cha_1.1 cha_1.2 hw3.1 (by omega)
          rcases hcs with e | e | e | e <;> subst e <;> (unfold aPiece at h9; simp only [hoff, if_true] at h9; exact h9)
        · rw [if_neg (fun c => hoff (hff'.symm.trans c))]
          obtain ⟨hx, hy⟩ := hxy hoff
          have h9 := h cha_1.1 cha_1.2 hw3.1 (by omega)
          rcases hcs with e | e | e | e <;> subst e
          · rw [if_pos rfl, hx]
            unfold aPiece at h9; simp only [hoff, if_false] at h9; exact h9
          · rw [if_neg (by omega), if_pos rfl, hy]
            unfold aPiece at h9; simp only [hoff, if_false] at h9; exact h9
          · rw [if_neg (by omega), if_neg (by omega), if_pos rfl, hff']
            unfold aPiece at h9; simp only [hoff, if_false] at h9; exact h9
          · rw [if_neg (by omega), if_neg (by omega), if_neg (by omega), hff']
            unfold aPiece at h9; simp only [hoff, if_false] at h9; exact h9
    · intro ch2a_7
      exact h3 cha_1.1 cha_1.2 ch2a_7
  · intro ch2a_1
    exact h2 ch2a_1
end
