/-! WITHOUT A BUDGET -/
section
variable {Ln : Nat} {xs : Nat → Int32} {CZ : Nat → ZC} {RZ : Nat → Nat → ZQ → ZP}
theorem s0_checkWhat (T : ZTh (XX Ln xs) CZ RZ) {d b : Nat} {w m : Int} {I : ZI} {L : ZL} {Q : ZQ} (hw : zR w) (hm : zR m) (hr : 0 ≤ w ∧ w ≤ m) (h : 0 ≤ w ∧ w ≤ m → Q (.inl none) I L) : CZ (d + 1) k_X11_checkWhat [.inl w, .inl m] b I L Q := by
  refine T.call rfl ?_
  refine T.go [] 90 ?_
  conv => whnf
  refine ⟨by omega, fun c1 => by exfalso; omega, fun c1 => ?_⟩
  conv => whnf
  refine ⟨by omega, fun c6 => ?_, fun c6 => by exfalso; omega⟩
  conv => whnf
  exact h hr
theorem s0_checkPiece (T : ZTh (XX Ln xs) CZ RZ) {d b : Nat} {w : Int} {I : ZI} {L : ZL} {Q : ZQ} (hw : zR w) (hr : 0 ≤ w ∧ w < 7) (h : 0 ≤ w ∧ w < 7 → Q (.inl none) I L) : CZ (d + 1) k_X11_checkPiece [.inl w] b I L Q := by
  refine T.call rfl ?_
  refine T.go [] 90 ?_
  conv => whnf
  refine ⟨by omega, fun c1 => by exfalso; omega, fun c1 => ?_⟩
  conv => whnf
  refine ⟨by omega, fun c7 => ?_, fun c7 => by exfalso; omega⟩
  conv => whnf
  exact h hr
theorem s0_checkShape (T : ZTh (XX Ln xs) CZ RZ) {d b : Nat} {w : Int} {I : ZI} {L : ZL} {Q : ZQ} (hw : zR w) (hi : zR (I 282 4)) (hr : 0 ≤ w ∧ w < I 282 4) (h : 0 ≤ w → w < I 282 4 → Q (.inl none) I L) : CZ (d + 1) k_X11_checkShape [.inr (.ref 0, 12), .inl w] b I L Q := by
  refine T.call rfl ?_
  refine T.go [] 90 ?_
  conv => whnf
  refine ⟨by omega, fun c1 => by exfalso; omega, fun c1 => ?_⟩
  conv => whnf
  refine ⟨by decide, _, rfl, ?_⟩
  conv => whnf
  refine ⟨by decide, ?_⟩
  conv => whnf
  refine ⟨by omega, fun c12 => ?_, fun c12 => by exfalso; omega⟩
  conv => whnf
  exact h hr.1 hr.2
theorem s0_checkLoop (T : ZTh (XX Ln xs) CZ RZ) {d b : Nat} {w : Int} {I : ZI} {L : ZL} {Q : ZQ} (hw : zR w) (hi : zR (I 533 10)) (hr : 0 ≤ w ∧ w < I 533 10) (h : 0 ≤ w → w < I 533 10 → Q (.inl none) I L) : CZ (d + 1) k_X11_checkLoop [.inr (.ref 0, 12), .inl w] b I L Q := by
  refine T.call rfl ?_
  refine T.go [] 90 ?_
  conv => whnf
  refine ⟨by omega, fun c1 => by exfalso; omega, fun c1 => ?_⟩
  conv => whnf
  refine ⟨by decide, _, rfl, ?_⟩
  conv => whnf
  refine ⟨by decide, ?_⟩
  conv => whnf
  refine ⟨by omega, fun c12 => ?_, fun c12 => by exfalso; omega⟩
  conv => whnf
  exact h hr.1 hr.2
theorem s0_size (T : ZTh (XX Ln xs) CZ RZ) {d b : Nat} {W H n bl : Nat} {M : Mo} {P SL : Nat → Mo} {u : Nat → Int} {w : Int} {I : ZI} {L : ZL} {Q : ZQ} (hC : CB I L W H M P n SL bl u) (hw : zR w) (hr : 0 ≤ w ∧ w ≤ 10) (h : 0 ≤ w → w ≤ 10 → Q (.inl (some (.inl (aSize W H M n bl w)))) I L) : CZ (d + 3) k_X11_size [.inr (.ref 0, 12), .inl w] b I L Q := by
  refine T.call rfl ?_
  obtain ⟨cF, cS, cW, cSil, cPa, cPw, cSl, cFi, cb1, cb2, cb3⟩ := id hC
  obtain ⟨t1, t2, t3, t4, t5⟩ := id cS
  obtain ⟨⟨⟨w1, w2, w3, w4⟩, -⟩, w5, -⟩ := id cW
  have ho := hC.outl
  have hp9 := cPa.1
  refine T.go [] 90 ?_
  conv => whnf
  refine zinv0 (s0_checkWhat T  (by first | assumption | omega | rfl | decide) (by first | assumption | omega | rfl | decide) (by first | assumption | omega | rfl | decide) ?_)
  intro cha_3
  conv => whnf
  refine ⟨by omega, fun c7 => ?_, ?_⟩
  · conv => whnf
    refine ⟨by decide, _, rfl, ?_⟩
    conv => whnf
    refine ⟨by decide, _, rfl, ?_⟩
    conv => whnf
    refine ⟨by decide, ?_⟩
    conv => whnf
    obtain rfl : w = 10 := by omega
    rw [cb1]
    exact h cha_3.1 cha_3.2
  refine ⟨fun c7 => ?_, ?_⟩
  · conv => whnf
    refine ⟨by decide, _, rfl, ?_⟩
    conv => whnf
    refine ⟨by decide, ?_⟩
    conv => whnf
    subst c7
    rw [t1]
    exact h cha_3.1 cha_3.2
  refine ⟨fun c7 => ?_, ?_⟩
  · conv => whnf
    refine ⟨by decide, _, rfl, ?_⟩
    conv => whnf
    refine ⟨by decide, ?_⟩
    conv => whnf
    subst c7
    rw [t2]
    exact h cha_3.1 cha_3.2
  refine ⟨fun c7 => ?_, ?_⟩
  · conv => whnf
    refine ⟨by decide, _, rfl, ?_⟩
    conv => whnf
    refine ⟨by decide, _, rfl, ?_⟩
    conv => whnf
    refine zinv0 (s_X5_countPlaced T  (by rfl) (by omega) (by exact fun j j0 j7 => t3.zR cW.1 j0 j7) ?_)
    conv => whnf
    subst c7
    have e : cn (fun j => !decide (I (283 + 3) (j : Int) = -1)) 7 = plN M := cn_congr 7 (fun j hj => by rw [show I (283 + 3) (j : Int) = mF M j from (t3 j (by omega) (by omega)).1])
    rw [e]
    exact h cha_3.1 cha_3.2
  refine ⟨fun c7 => ?_, ?_⟩
  · conv => whnf
    refine ⟨by decide, _, rfl, ?_⟩
    conv => whnf
    refine ⟨by decide, _, rfl, ?_⟩
    conv => whnf
    refine ⟨by decide, ?_⟩
    conv => whnf
    subst c7
    rw [show I 528 1 = cn (sil M) 576 from cSil.2.2.1.1]
    exact h cha_3.1 cha_3.2
  refine ⟨fun c7 => ?_, ?_⟩
  · conv => whnf
    refine ⟨by decide, _, rfl, ?_⟩
    conv => whnf
    refine ⟨by decide, ?_⟩
    conv => whnf
    subst c7
    rw [cSil.2.2.2.1]
    exact h cha_3.1 cha_3.2
  refine ⟨fun c7 => ?_, ?_⟩
  · conv => whnf
    refine ⟨by decide, _, rfl, ?_⟩
    conv => whnf
    refine ⟨by decide, ?_⟩
    conv => whnf
    subst c7
    rw [ho.2.2.1.2.1]
    exact h cha_3.1 cha_3.2
  refine ⟨fun c7 => ?_, ?_⟩
  · conv => whnf
    refine ⟨by decide, _, rfl, ?_⟩
    conv => whnf
    refine zinv0 (s_X3_countHoles T (oL (olM M)) (by exact ho.2.2.2.2.2.1) (by exact ho.2.2.1.2.1) (by exact fun j hj => (hC.zAR hj).1) ?_)
    conv => whnf
    subst c7
    have e : cn (fun j => decide (I 543 (j : Int) < 0)) (oL (olM M)) = hoN M := cn_congr _ (fun j hj => by rw [(hC.zAR hj).2])
    rw [e]
    exact h cha_3.1 cha_3.2
  refine ⟨fun c7 => ?_, ?_⟩
  · conv => whnf
    refine ⟨by decide, _, rfl, ?_⟩
    conv => whnf
    refine ⟨by decide, ?_⟩
    conv => whnf
    subst c7
    rw [ho.2.2.1.2.2.1]
    exact h cha_3.1 cha_3.2
  refine ⟨fun c7 => ?_, ?_⟩
  · conv => whnf
    refine ⟨by decide, _, rfl, ?_⟩
    conv => whnf
    refine ⟨by decide, ?_⟩
    conv => whnf
    subst c7
    rw [t4]
    exact h cha_3.1 cha_3.2
  refine ⟨fun c7 => ?_, ?_⟩
  · conv => whnf
    refine ⟨by decide, ?_⟩
    conv => whnf
    subst c7
    rw [cPa.2.1]
    exact h cha_3.1 cha_3.2
  exact trivial
theorem s0_piece (T : ZTh (XX Ln xs) CZ RZ) {d b : Nat} {W H n bl : Nat} {M : Mo} {P SL : Nat → Mo} {u : Nat → Int} {p w : Int} {I : ZI} {L : ZL} {Q : ZQ} (hC : CB I L W H M P n SL bl u) (hp : zR p) (hw : zR w) (hr : 0 ≤ p ∧ p < 7) (hr2 : 0 ≤ w ∧ w ≤ 7) (h : 0 ≤ p → p < 7 → 0 ≤ w → w ≤ 7 → Q (.inl (some (.inl (aPiece M p.toNat w)))) I L) : CZ (d + 3) k_X11_piece [.inr (.ref 0, 12), .inl p, .inl w] b I L Q := by
  refine T.call rfl ?_
  obtain ⟨cF, cS, cW, cSil, cPa, cPw, cSl, cFi, cb1, cb2, cb3⟩ := id hC
  obtain ⟨t1, t2, t3, t4, t5⟩ := id cS
  obtain ⟨⟨⟨w1, w2, w3, w4⟩, -⟩, w5, -⟩ := id cW
  refine T.go [] 90 ?_
  conv => whnf
  refine zinv0 (s0_checkPiece T  (by first | assumption | omega | rfl | decide) (by first | assumption | omega | rfl | decide) ?_)
  intro cha_1
  conv => whnf
  refine zinv0 (s0_checkWhat T  (by first | assumption | omega | rfl | decide) (by first | assumption | omega | rfl | decide) (by first | assumption | omega | rfl | decide) ?_)
  intro cha_7
  conv => whnf
  obtain ⟨pn, rfl⟩ := Int.eq_ofNat_of_zero_le cha_1.1
  have hp7 : pn < 7 := by omega
  rw [show ((pn : Nat) : Int).toNat = pn from Int.toNat_natCast pn] at h
  have hff : I 286 (pn : Int) = mF M pn := (t3 pn (by omega) (by omega)).1
  have hxy := (t3 pn (by omega) (by omega)).2
  have hfc := cW.1.2.1 pn hp7
  have hform := cW.1.form hp7
  have hfi : fi M pn = 8 * pn + (mF M pn).toNat := rfl
  refine ⟨by omega, fun c12 => ?_, fun c12 => ?_⟩
  · conv => whnf
    refine ⟨by decide, _, rfl, ?_⟩
    conv => whnf
    refine ⟨by decide, _, rfl, ?_⟩
    conv => whnf
    refine zinv0 (s_X5_isOff T  (by rfl) (by first | assumption | omega | rfl | decide) (by first | assumption | omega | rfl | decide) (by exact t3.zR cW.1 (by omega) (by omega)) ?_ ?_)
    · intro cha_36
      conv => whnf
      refine ⟨by decide, fun c => absurd c (by decide), fun _ => ?_⟩
      conv => whnf
      refine ⟨by decide, _, rfl, ?_⟩
      conv => whnf
      refine zinv0 (s_X11_formAt T (8 * pn) (by omega) (by omega) ?_)
      have hoff : mF M pn = -1 := hff.symm.trans cha_36
      have hk : 8 * pn < 56 := by omega
      have hkk : (if mF M pn = -1 then 8 * pn else fi M pn) = 8 * pn := if_pos hoff
      obtain ⟨kk, hkd⟩ : ∃ kk, kk = 8 * pn := ⟨_, rfl⟩
      rw [← hkd] at hk ⊢
      replace hkk := hkk.trans hkd.symm
      have hz3 : za (2 + 5 * kk) 3 = 5 + 5 * kk + 1 := by rw [(za_fm hk).2.2.2.1]; omega
      obtain ⟨gS, gM, -, -, -, -⟩ := cF kk hk
      have hbx := fS_box hk
      have hat := gM.at
      conv => whnf
      refine ⟨(show (¬ (_ : Nat) = _) ∧ (¬ (_ : Nat) = _) from by omega), _, hz3, ?_⟩
      conv => whnf
      refine ⟨by omega, fun c74 => ?_, ?_⟩
      · conv => whnf
        refine zinv0 (s_X11_countNewForms T  (by exact cF) (by exact hp7) ?_)
        conv => whnf
        obtain rfl : w = 7 := by omega
        exact h cha_1.1 cha_1.2 cha_7.1 cha_7.2
      refine ⟨fun c74 => ?_, ?_⟩
      · conv => whnf
        refine ⟨(show (¬ (_ : Nat) = _) ∧ (¬ (_ : Nat) = _) from by omega), ?_⟩
        conv => whnf
        subst c74
        rw [hat.2.2.1, hbx.2.2.2.1]
        have h9 := h cha_1.1 cha_1.2 cha_7.1 cha_7.2
        rw [(aPiece_k hkk).1] at h9; exact h9
      refine ⟨fun c74 => ?_, ?_⟩
      · conv => whnf
        refine ⟨(show (¬ (_ : Nat) = _) ∧ (¬ (_ : Nat) = _) from by omega), ?_⟩
        conv => whnf
        subst c74
        rw [hat.2.2.2, hbx.2.1]
        have h9 := h cha_1.1 cha_1.2 cha_7.1 cha_7.2
        rw [(aPiece_k hkk).2.1] at h9; exact h9
      refine ⟨fun c74 => ?_, ?_⟩
      · conv => whnf
        refine ⟨(show (¬ (_ : Nat) = _) ∧ (¬ (_ : Nat) = _) from by omega), ?_⟩
        conv => whnf
        subst c74
        rw [gM.1, hbx.2.2.2.2]
        have h9 := h cha_1.1 cha_1.2 cha_7.1 cha_7.2
        rw [(aPiece_k hkk).2.2] at h9; exact h9
      exact trivial
    · intro ch2a_36
      conv => whnf
      refine ⟨by decide, fun _ => ?_, fun c => absurd c (by decide)⟩
      conv => whnf
      refine ⟨by decide, _, rfl, ?_⟩
      conv => whnf
      refine ⟨by decide, _, rfl, ?_⟩
      conv => whnf
      refine ⟨by decide, _, rfl, ?_⟩
      conv => whnf
      refine ⟨by omega, by decide, ?_⟩
      conv => whnf
      refine ⟨by decide, _, rfl, ?_⟩
      conv => whnf
      refine zinv0 (s_X11_formAt T (fi M pn) (by rcases hfc with e | ⟨e1, e2, _⟩; (exact absurd (hff.trans e) ch2a_36); (have h9 : I (283 + 3) (pn : Int) = mF M pn := hff; omega)) (by exact (hform (fun e => ch2a_36 (hff.trans e))).1) ?_)
      have hoff : ¬ mF M pn = -1 := fun e => ch2a_36 (hff.trans e)
      have hk : fi M pn < 56 := (hform hoff).1
      have hkk : (if mF M pn = -1 then 8 * pn else fi M pn) = fi M pn := if_neg hoff
      obtain ⟨kk, hkd⟩ : ∃ kk, kk = fi M pn := ⟨_, rfl⟩
      rw [← hkd] at hk ⊢
      replace hkk := hkk.trans hkd.symm
      have hz3 : za (2 + 5 * kk) 3 = 5 + 5 * kk + 1 := by rw [(za_fm hk).2.2.2.1]; omega
      obtain ⟨gS, gM, -, -, -, -⟩ := cF kk hk
      have hbx := fS_box hk
      have hat := gM.at
      conv => whnf
      refine ⟨(show (¬ (_ : Nat) = _) ∧ (¬ (_ : Nat) = _) from by omega), _, hz3, ?_⟩
      conv => whnf
      refine ⟨by omega, fun c74 => ?_, ?_⟩
      · conv => whnf
        refine zinv0 (s_X11_countNewForms T  (by exact cF) (by exact hp7) ?_)
        conv => whnf
        obtain rfl : w = 7 := by omega
        exact h cha_1.1 cha_1.2 cha_7.1 cha_7.2
      refine ⟨fun c74 => ?_, ?_⟩
      · conv => whnf
        refine ⟨(show (¬ (_ : Nat) = _) ∧ (¬ (_ : Nat) = _) from by omega), ?_⟩
        conv => whnf
        subst c74
        rw [hat.2.2.1, hbx.2.2.2.1]
        have h9 := h cha_1.1 cha_1.2 cha_7.1 cha_7.2
        rw [(aPiece_k hkk).1] at h9; exact h9
      refine ⟨fun c74 => ?_, ?_⟩
      · conv => whnf
        refine ⟨(show (¬ (_ : Nat) = _) ∧ (¬ (_ : Nat) = _) from by omega), ?_⟩
        conv => whnf
        subst c74
        rw [hat.2.2.2, hbx.2.1]
        have h9 := h cha_1.1 cha_1.2 cha_7.1 cha_7.2
        rw [(aPiece_k hkk).2.1] at h9; exact h9
      refine ⟨fun c74 => ?_, ?_⟩
      · conv => whnf
        refine ⟨(show (¬ (_ : Nat) = _) ∧ (¬ (_ : Nat) = _) from by omega), ?_⟩
        conv => whnf
        subst c74
        rw [gM.1, hbx.2.2.2.2]
        have h9 := h cha_1.1 cha_1.2 cha_7.1 cha_7.2
        rw [(aPiece_k hkk).2.2] at h9; exact h9
      exact trivial
  · conv => whnf
    refine ⟨by decide, _, rfl, ?_⟩
    conv => whnf
    refine ⟨by decide, _, rfl, ?_⟩
    conv => whnf
    refine zinv0 (s_X5_tell T  (by rfl) (by rfl) (by rfl) (by first | assumption | omega | rfl | decide) (by first | assumption | omega | rfl | decide) (by first | assumption | omega | rfl | decide) (by rw [show I (283 + 3) (pn : Int) = mF M pn from hff]; rcases hfc with e | ⟨e1, e2, _⟩; (exact Or.inl e); (exact Or.inr ⟨e1, e2⟩)) ?_)
    conv => whnf
    have hw3 : 0 ≤ w ∧ w ≤ 3 := by omega
    have hcs : w = 0 ∨ w = 1 ∨ w = 2 ∨ w = 3 := by omega
    have hff' : I (283 + 3) (pn : Int) = mF M pn := hff
    by_cases hoff : mF M pn = -1
    · rw [if_pos (hff'.trans hoff)]
      have h9 := h cha_1.1 cha_1.2 hw3.1 (by omega)
      rcases hcs with e | e | e | e <;> subst e <;> (unfold aPiece at h9; simp only [hoff, if_true] at h9; exact h9)
    · rw [if_neg (fun c => hoff (hff'.symm.trans c))]
      obtain ⟨hx, hy⟩ := hxy hoff
      have h9 := h cha_1.1 cha_1.2 hw3.1 (by omega)
      rcases hcs with e | e | e | e <;> subst e
      · rw [if_pos rfl, hx]
        unfold aPiece at h9; simp only [hoff, if_false] at h9; exact h9
      · rw [if_neg (by omega), if_pos rfl, hy]
        unfold aPiece at h9; simp only [hoff, if_false] at h9; exact h9
      · rw [if_neg (by omega), if_neg (by omega), if_pos rfl, hff']
        unfold aPiece at h9; simp only [hoff, if_false] at h9; exact h9
      · rw [if_neg (by omega), if_neg (by omega), if_neg (by omega), hff']
        unfold aPiece at h9; simp only [hoff, if_false] at h9; exact h9
theorem s0_pieceAt (T : ZTh (XX Ln xs) CZ RZ) {d b : Nat} {W H n bl : Nat} {M : Mo} {P SL : Nat → Mo} {u : Nat → Int} {q : Int} {I : ZI} {L : ZL} {Q : ZQ} (hC : CB I L W H M P n SL bl u) (hq : zR q) (h : Q (.inl (some (.inl (owAt M q)))) I L) : CZ (d + 2) k_X11_pieceAt [.inr (.ref 0, 12), .inl q] b I L Q := by
  refine T.call rfl ?_
  obtain ⟨cF, cS, cW, cSil, cPa, cPw, cSl, cFi, cb1, cb2, cb3⟩ := id hC
  obtain ⟨t1, t2, t3, t4, t5⟩ := id cS
  obtain ⟨⟨⟨w1, w2, w3, w4⟩, -⟩, w5, -⟩ := id cW
  refine T.go [] 90 ?_
  conv => whnf
  refine ⟨by decide, _, rfl, ?_⟩
  conv => whnf
  refine zinv0 (s_X7_ownerAt T  (by first | assumption | omega | rfl | decide) ?_ ?_)
  · intro cha_5 chb_5
    have ew : owAt M q = I 530 q := owAt_in cSil.1 ⟨cha_5, chb_5⟩
    conv => whnf
    rw [← ew]
    exact h
  · intro ch2a_5
    have ew : owAt M q = -1 := if_neg ch2a_5
    conv => whnf
    rw [← ew]
    exact h
theorem s0_loop (T : ZTh (XX Ln xs) CZ RZ) {d b : Nat} {W H n bl : Nat} {M : Mo} {P SL : Nat → Mo} {u : Nat → Int} {l w : Int} {I : ZI} {L : ZL} {Q : ZQ} (hC : CB I L W H M P n SL bl u) (hl : zR l) (hw : zR w) (hr : 0 ≤ l ∧ l < oL (olM M)) (hr2 : 0 ≤ w ∧ w ≤ 5) (h : 0 ≤ l → l < oL (olM M) → 0 ≤ w ∧ w ≤ 5 → Q (.inl (some (.inl (aLoop (olM M) l.toNat w)))) I L) : CZ (d + 2) k_X11_loop [.inr (.ref 0, 12), .inl l, .inl w] b I L Q := by
  refine T.call rfl ?_
  obtain ⟨cF, cS, cW, cSil, cPa, cPw, cSl, cFi, cb1, cb2, cb3⟩ := id hC
  obtain ⟨t1, t2, t3, t4, t5⟩ := id cS
  obtain ⟨⟨⟨w1, w2, w3, w4⟩, -⟩, w5, w6⟩ := id cW
  have ho := hC.outl
  obtain ⟨-, -, ⟨-, o3, o4, -⟩, -, -, o5, o6⟩ := id ho
  refine T.go [] 150 ?_
  conv => whnf
  refine zinv0 (s0_checkLoop T (w := l) (by first | assumption | omega | rfl | decide) (by exact ⟨by omega, by omega⟩) (by omega) ?_)
  intro cha_2 chb_2
  obtain ⟨l, rfl⟩ := Int.eq_ofNat_of_zero_le cha_2
  have hl : l < oL (olM M) := by omega
  obtain ⟨f, c, q1, q2, q3, q4, q5, q6, q7, q8, q9, qa, qb, qc, qd⟩ := hC.lo hl
  have hml : ((l : Nat) : Int).toNat = l := Int.toNat_natCast l
  have hqf : (oFE (olM M) l).toNat = f := by rw [q1]; exact Int.toNat_natCast f
  have hqc : (oEC (olM M) l).toNat = c := by rw [q2]; exact Int.toNat_natCast c
  have hzar := (hC.zAR hl).1
  conv => whnf
  refine zinv0 (s0_checkWhat T  (by first | assumption | omega | rfl | decide) (by first | assumption | omega | rfl | decide) (by first | assumption | omega | rfl | decide) ?_)
  intro cha_7
  have h9 := h (by omega) (by omega) cha_7
  rw [hml] at h9
  have hed := hC.ed (e := f) (by omega)
  obtain ⟨u1, u2, u3, u4, u5, u6, u7, u8, u9⟩ := hed
  conv => whnf
  refine ⟨by decide, _, rfl, ?_⟩
  conv => whnf
  refine ⟨by decide, _, rfl, ?_⟩
  conv => whnf
  refine ⟨by omega, by decide, ?_⟩
  conv => whnf
  refine ⟨by omega, fun c21 => ?_, ?_⟩
  · conv => whnf
    refine ⟨by decide, _, rfl, ?_⟩
    conv => whnf
    refine ⟨by decide, _, rfl, ?_⟩
    conv => whnf
    refine ⟨by omega, by decide, ?_⟩
    conv => whnf
    refine ⟨by rw [q5, u3]; omega, Or.inl ⟨by rw [q5, u3]; omega, ?_⟩⟩
    conv => whnf
    obtain rfl : w = 5 := by omega
    have e : aLoop (olM M) l 5 = oK (olM M) f / 25 := by rw [← hqf]; rfl
    rw [e] at h9
    rw [q5, u3]
    exact h9
  refine ⟨fun c21 => ?_, ?_⟩
  · conv => whnf
    refine ⟨by decide, _, rfl, ?_⟩
    conv => whnf
    refine ⟨by decide, _, rfl, ?_⟩
    conv => whnf
    refine ⟨by omega, by decide, ?_⟩
    conv => whnf
    obtain rfl : w = 0 := by omega
    rw [q6, ← q2]
    exact h9
  refine ⟨fun c21 => ?_, ?_⟩
  · conv => whnf
    refine ⟨by decide, _, rfl, ?_⟩
    conv => whnf
    refine ⟨by decide, _, rfl, ?_⟩
    conv => whnf
    refine ⟨by omega, by decide, ?_⟩
    conv => whnf
    obtain rfl : w = 1 := by omega
    rw [q7]
    exact h9
  refine ⟨fun c21 => ?_, ?_⟩
  · conv => whnf
    refine ⟨by decide, _, rfl, ?_⟩
    conv => whnf
    refine ⟨by decide, _, rfl, ?_⟩
    conv => whnf
    refine ⟨by omega, by decide, ?_⟩
    conv => whnf
    obtain rfl : w = 2 := by omega
    rw [q8]
    exact h9
  refine ⟨fun c21 => ?_, ?_⟩
  · conv => whnf
    refine ⟨by decide, _, rfl, ?_⟩
    conv => whnf
    refine zinv0 (s_X3_isHole T  (by omega) (by exact hzar) ?_ ?_)
    · intro cha_91
      conv => whnf
      refine ⟨by decide, fun c => absurd c (by decide), fun _ => ?_⟩
      conv => whnf
      obtain rfl : w = 3 := by omega
      have e : aLoop (olM M) l 3 = 1 := if_pos (by omega)
      rw [e] at h9
      exact h9
    · intro ch2a_91
      conv => whnf
      refine ⟨by decide, fun _ => ?_, fun c => absurd c (by decide)⟩
      conv => whnf
      obtain rfl : w = 3 := by omega
      have e : aLoop (olM M) l 3 = 0 := if_neg (by omega)
      rw [e] at h9
      exact h9
  refine ⟨fun c21 => ?_, ?_⟩
  · conv => whnf
    refine ⟨by decide, _, rfl, ?_⟩
    conv => whnf
    refine ⟨by decide, _, rfl, ?_⟩
    conv => whnf
    refine ⟨by omega, by decide, ?_⟩
    conv => whnf
    refine ⟨by rw [q5, u3]; omega, ?_⟩
    conv => whnf
    obtain rfl : w = 4 := by omega
    have e : aLoop (olM M) l 4 = oK (olM M) f % 25 := by rw [← hqf]; rfl
    rw [e] at h9
    rw [q5, u3]
    exact h9
  exact trivial
theorem s0_shape (T : ZTh (XX Ln xs) CZ RZ) {d b : Nat} {W H n bl : Nat} {M : Mo} {P SL : Nat → Mo} {u : Nat → Int} {k w : Int} {I : ZI} {L : ZL} {Q : ZQ} (hC : CB I L W H M P n SL bl u) (hk : zR k) (hw : zR w) (hr : 0 ≤ k ∧ k < mN M) (hr2 : 0 ≤ w ∧ w ≤ 4) (h : 0 ≤ k → k < mN M → 0 ≤ w → w ≤ 4 → Q (.inl (some (.inl (aShape (mS M k.toNat) w)))) I L) : CZ (d + 2) k_X11_shape [.inr (.ref 0, 12), .inl k, .inl w] b I L Q := by
  refine T.call rfl ?_
  obtain ⟨cF, cS, cW, cSil, cPa, cPw, cSl, cFi, cb1, cb2, cb3⟩ := id hC
  obtain ⟨t1, t2, t3, t4, t5⟩ := id cS
  obtain ⟨⟨⟨w1, w2, w3, w4⟩, -⟩, w5, w6⟩ := id cW
  refine T.go [] 90 ?_
  conv => whnf
  refine zinv0 (s0_checkShape T (w := k) (by first | assumption | omega | rfl | decide) (by exact ⟨by omega, by omega⟩) (by omega) ?_)
  intro cha_2 chb_2
  obtain ⟨k, rfl⟩ := Int.eq_ofNat_of_zero_le cha_2
  have hk : k < mN M := by omega
  have zz := za_shp (k := k) (by omega)
  obtain ⟨g1, g2⟩ := t5 k hk
  replace g1 : RgS L (288 + 2 * k) (mS M k) := g1
  replace g2 : RgM I (288 + 2 * k) (mS M k) := g2
  have hmk : ((k : Nat) : Int).toNat = k := Int.toNat_natCast k
  conv => whnf
  refine zinv0 (s0_checkWhat T  (by first | assumption | omega | rfl | decide) (by first | assumption | omega | rfl | decide) (by first | assumption | omega | rfl | decide) ?_)
  intro cha_7
  have ga := g2.at
  have h9 := h (by omega) (by omega) cha_7.1 cha_7.2
  rw [hmk] at h9
  conv => whnf
  refine ⟨by decide, _, rfl, ?_⟩
  conv => whnf
  refine ⟨by decide, _, rfl, ?_⟩
  conv => whnf
  refine ⟨by omega, by decide, _, zz.1, ?_⟩
  conv => whnf
  refine ⟨by omega, fun c21 => ?_, ?_⟩
  · conv => whnf
    refine ⟨(show (¬ (_ : Nat) = _) ∧ (¬ (_ : Nat) = _) from by omega), ?_⟩
    conv => whnf
    obtain rfl : w = 4 := by omega
    rw [ga.2.2.2]
    exact h9
  refine ⟨fun c21 => ?_, ?_⟩
  · conv => whnf
    refine ⟨(show (¬ (_ : Nat) = _) ∧ (¬ (_ : Nat) = _) from by omega), ?_⟩
    conv => whnf
    obtain rfl : w = 0 := by omega
    rw [g2.1]
    exact h9
  refine ⟨fun c21 => ?_, ?_⟩
  · conv => whnf
    refine ⟨(show (¬ (_ : Nat) = _) ∧ (¬ (_ : Nat) = _) from by omega), ?_⟩
    conv => whnf
    obtain rfl : w = 1 := by omega
    rw [ga.1]
    exact h9
  refine ⟨fun c21 => ?_, ?_⟩
  · conv => whnf
    refine ⟨(show (¬ (_ : Nat) = _) ∧ (¬ (_ : Nat) = _) from by omega), ?_⟩
    conv => whnf
    obtain rfl : w = 2 := by omega
    rw [ga.2.1]
    exact h9
  refine ⟨fun c21 => ?_, ?_⟩
  · conv => whnf
    refine ⟨(show (¬ (_ : Nat) = _) ∧ (¬ (_ : Nat) = _) from by omega), ?_⟩
    conv => whnf
    obtain rfl : w = 3 := by omega
    rw [ga.2.2.1]
    exact h9
  exact trivial
end
