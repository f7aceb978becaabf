/-! THE REFERENCE ANSWERS, 5: matches -/
section
variable {Ln : Nat} {xs : Nat → Int32} {CZ : Nat → ZC} {RZ : Nat → Nat → ZQ → ZP}
/-- a corner turned t times, with its box -/
def rcT (p f c : Nat) : Nat → Int × Int × Int × Int
  | 0 => (if f = 1 then (bW p : Int) - mcX (4 * p + c) else mcX (4 * p + c), mcY (4 * p + c), bW p, bH p)
  | t + 1 => ((rcT p f c t).2.2.2 - (rcT p f c t).2.1, (rcT p f c t).1, (rcT p f c t).2.2.2, (rcT p f c t).2.2.1)
theorem rcT_am : (List.range 7).all (fun p => (List.range 2).all fun f => (List.range 4).all fun t => (List.range 4).all fun c => !decide (c < nC p) || (decide ((rcT p f c t).1 = cX (8 * p + 2 * t + f) c) && decide ((rcT p f c t).2.1 = cY (8 * p + 2 * t + f) c))) = true := by decide +kernel
theorem rcT_ok {p f t c : Nat} (hp : p < 7) (hf : f < 2) (ht : t < 4) (hc : c < nC p) (hc4 : c < 4) : (rcT p f c t).1 = cX (8 * p + 2 * t + f) c ∧ (rcT p f c t).2.1 = cY (8 * p + 2 * t + f) c := by
  have h := List.all_eq_true.mp (List.all_eq_true.mp (List.all_eq_true.mp (List.all_eq_true.mp rcT_am p (List.mem_range.mpr hp)) f (List.mem_range.mpr hf)) t (List.mem_range.mpr ht)) c (List.mem_range.mpr hc4)
  rw [Bool.or_eq_true, decide_eq_true hc, Bool.not_true, Bool.and_eq_true, decide_eq_true_iff, decide_eq_true_iff] at h
  exact h.resolve_left (by decide)
/-- a corner of a placed piece, as the reference tells it -/
def cnA (M : Mo) (p c : Nat) : Int := 100 * (mY M p + cY (fi M p) c) + mX M p + cX (fi M p) c
theorem l_cornerOf (T : ZTh (XX Ln xs) CZ RZ) {d b : Nat} {Q : ZQ} {p c W H : Nat} {M : Mo} {I : ZI} {L : ZL} (hT : TabOK I) (hR : RowM I 604 0 M) (hw : Wq W H M) (hp : p < 7) (hf : ¬ mF M p = -1) (hc : c < nC p ∧ c < 4) (h : Q (.inl (some (.inl (cnA M p c)))) I L) (m : Nat) : ∀ (j : Nat) (x y w h9 : Int), (j ≤ 3 ∧ (j : Int) ≤ mF M p / 2) → ((x, y, w, h9) = rcT p (mF M p % 2).toNat c j) → 4 - (j : Int) < (m : Int) → RZ (d + 1) k_X12_cornerOf Q 61 [.inr (.ref 603, 13), .inl ((p : Int)), zj, .inl x, .inl y, .inl w, .inl h9, .inl ((j : Int)), zj, zj] [] b I L := by
  induction m with
  | zero =>
    intro j x y w h9 hj hv hm
    exfalso
    omega
  | succ m ih =>
    intro j x y w h9 hj hv hm
    obtain ⟨f1, f2, f3, f4, f5, f6, f7, f8⟩ := hw.form hp hf
    have hfi : fi M p = 8 * p + (mF M p).toNat := rfl
    obtain ⟨⟨w1, w2, w3, w4⟩, -, -⟩ := id hw
    obtain ⟨t, ht⟩ : ∃ t : Nat, mF M p / 2 = t := ⟨(mF M p / 2).toNat, by omega⟩
    obtain ⟨f, hff⟩ : ∃ f : Nat, mF M p % 2 = f := ⟨(mF M p % 2).toNat, by omega⟩
    have e3 : tlM M p ((3 : Nat) : Int) = f := by
      unfold tlM
      rw [if_neg hf, if_neg (by omega), if_neg (by omega), if_neg (by omega)]
      exact hff
    have e2 : tlM M p ((2 : Nat) : Int) = t := by
      unfold tlM
      rw [if_neg hf, if_neg (by omega), if_neg (by omega), if_pos (by omega)]
      exact ht
    have e1 : tlM M p ((1 : Nat) : Int) = mY M p := by
      unfold tlM
      rw [if_neg hf, if_neg (by omega), if_pos (by omega)]
    have e0 : tlM M p ((0 : Nat) : Int) = mX M p := by
      unfold tlM
      rw [if_neg hf, if_pos (by omega)]
    obtain ⟨b1, b2, b3, b4⟩ := hT.1 p hp
    have b5 := hT.2.1 (4 * p + c) (by omega)
    rw [show ((4 * p + c : Nat) : Int) = 4 * (p : Int) + (c : Int) by omega] at b5
    have v1 : x = (rcT p (mF M p % 2).toNat c j).1 := by rw [← hv]
    have v2' : y = (rcT p (mF M p % 2).toNat c j).2.1 := by rw [← hv]
    have v3 : w = (rcT p (mF M p % 2).toNat c j).2.2.1 := by rw [← hv]
    have v4 : h9 = (rcT p (mF M p % 2).toNat c j).2.2.2 := by rw [← hv]
    refine T.go [61] 90 ?_
    conv => whnf
    refine zinv0 (s_X12_of T (p := p) (w := 2) (M := M) (by exact hR) (by exact hp) (by omega) ?_)
    rw [e2]
    conv => whnf
    refine ⟨by omega, fun c69 => ?_, fun c69 => ?_⟩
    · conv => whnf
      refine zinv0 (s_X12_of T (p := p) (w := 1) (M := M) (by exact hR) (by exact hp) (by omega) ?_)
      rw [e1]
      conv => whnf
      refine zinv0 (s_X12_of T (p := p) (w := 0) (M := M) (by exact hR) (by exact hp) (by omega) ?_)
      rw [e0]
      conv => whnf
      have ej : j = t := by omega
      have hk := rcT_ok (p := p) (f := (mF M p % 2).toNat) (t := t) (c := c) hp (by omega) (by omega) hc.1 hc.2
      rw [show 8 * p + 2 * t + (mF M p % 2).toNat = fi M p by omega, ← ej, ← v1, ← v2'] at hk
      rw [hk.1, hk.2]
      exact h
    · conv => whnf
      refine T.fg [8, 9] ?_
      refine ih (j + 1) _ _ _ _ (by omega) ?_ (by omega)
      show _ = ((rcT p (mF M p % 2).toNat c j).2.2.2 - (rcT p (mF M p % 2).toNat c j).2.1, (rcT p (mF M p % 2).toNat c j).1, (rcT p (mF M p % 2).toNat c j).2.2.2, (rcT p (mF M p % 2).toNat c j).2.2.1)
      rw [← v1, ← v2', ← v3, ← v4]
theorem s_X12_cornerOf (T : ZTh (XX Ln xs) CZ RZ) {d b : Nat} {p c W H : Nat} {M : Mo} {I : ZI} {L : ZL} {Q : ZQ} (hT : TabOK I) (hR : RowM I 604 0 M) (hw : Wq W H M) (hp : p < 7) (hf : ¬ mF M p = -1) (hc : c < nC p ∧ c < 4) (h : Q (.inl (some (.inl (cnA M p c)))) I L) : CZ (d + 2) k_X12_cornerOf [.inr (.ref 603, 13), .inl ((p : Int)), .inl ((c : Int))] b I L Q := by
  refine T.call rfl ?_
  obtain ⟨f1, f2, f3, f4, f5, f6, f7, f8⟩ := hw.form hp hf
  have hfi : fi M p = 8 * p + (mF M p).toNat := rfl
  obtain ⟨⟨w1, w2, w3, w4⟩, -, -⟩ := id hw
  obtain ⟨t, ht⟩ : ∃ t : Nat, mF M p / 2 = t := ⟨(mF M p / 2).toNat, by omega⟩
  obtain ⟨f, hff⟩ : ∃ f : Nat, mF M p % 2 = f := ⟨(mF M p % 2).toNat, by omega⟩
  have e3 : tlM M p ((3 : Nat) : Int) = f := by
    unfold tlM
    rw [if_neg hf, if_neg (by omega), if_neg (by omega), if_neg (by omega)]
    exact hff
  have e2 : tlM M p ((2 : Nat) : Int) = t := by
    unfold tlM
    rw [if_neg hf, if_neg (by omega), if_neg (by omega), if_pos (by omega)]
    exact ht
  have e1 : tlM M p ((1 : Nat) : Int) = mY M p := by
    unfold tlM
    rw [if_neg hf, if_neg (by omega), if_pos (by omega)]
  have e0 : tlM M p ((0 : Nat) : Int) = mX M p := by
    unfold tlM
    rw [if_neg hf, if_pos (by omega)]
  obtain ⟨b1, b2, b3, b4⟩ := hT.1 p hp
  have b5 := hT.2.1 (4 * p + c) (by omega)
  rw [show ((4 * p + c : Nat) : Int) = 4 * (p : Int) + (c : Int) by omega] at b5
  refine T.go [61] 90 ?_
  conv => whnf
  refine ⟨by decide, _, rfl, ?_⟩
  conv => whnf
  refine ⟨by omega, by decide, ?_⟩
  conv => whnf
  refine ⟨by decide, _, rfl, ?_⟩
  conv => whnf
  refine ⟨by omega, by decide, ?_⟩
  conv => whnf
  refine ⟨by decide, _, rfl, ?_⟩
  conv => whnf
  refine ⟨by omega, by decide, ?_⟩
  conv => whnf
  refine ⟨by decide, _, rfl, ?_⟩
  conv => whnf
  refine ⟨by omega, by decide, ?_⟩
  conv => whnf
  refine zinv0 (s_X12_of T (p := p) (w := 3) (M := M) (by exact hR) (by exact hp) (by omega) ?_)
  rw [e3]
  conv => whnf
  refine ⟨by omega, fun c46 => ?_, fun c46 => ?_⟩
  · conv => whnf
    refine T.fg [2] ?_
    rw [b1, b2, b5.1, b5.2]
    refine l_cornerOf T hT hR hw hp hf hc h 5 0 _ _ _ _ (by omega) ?_ (by omega)
    have e : (mF M p % 2).toNat = f := by omega
    rw [e]
    show _ = ((if f = 1 then (bW p : Int) - mcX (4 * p + c) else mcX (4 * p + c)), _)
    rw [if_neg (by omega)]
  · conv => whnf
    refine T.fg [2] ?_
    rw [b1, b2, b5.1, b5.2]
    refine l_cornerOf T hT hR hw hp hf hc h 5 0 _ _ _ _ (by omega) ?_ (by omega)
    have e : (mF M p % 2).toNat = f := by omega
    rw [e]
    show _ = ((if f = 1 then (bW p : Int) - mcX (4 * p + c) else mcX (4 * p + c)), _)
    rw [if_pos (by omega)]
theorem cnA_b {W H : Nat} {M : Mo} (hw : Wq W H M) {p c : Nat} (hp : p < 7) (hf : ¬ mF M p = -1) (hc : c < 4) : zR (cnA M p c) := by
  obtain ⟨f1, f2, f3, f4, f5, f6, f7, f8⟩ := hw.form hp hf
  obtain ⟨⟨w1, w2, w3, w4⟩, -, -⟩ := id hw
  have := cXY_b (i := fi M p) (c := c) f1 hc
  unfold cnA
  exact ⟨by omega, by omega⟩
theorem nC_34 {p : Nat} (hp : p < 7) : 3 ≤ nC p ∧ nC p ≤ 4 := by
  have h : (List.range 7).all (fun p => decide (3 ≤ nC p ∧ nC p ≤ 4)) = true := by decide +kernel
  exact of_decide_eq_true (List.all_eq_true.mp h p (List.mem_range.mpr hp))
theorem fC_nC {W H : Nat} {M : Mo} (hw : Wq W H M) {p : Nat} (hp : p < 7) (hf : ¬ mF M p = -1) : fC (fi M p) = nC p := by
  obtain ⟨f1, f2, f3, f4, -⟩ := hw.form hp hf
  have hfi : fi M p = 8 * p + (mF M p).toNat := rfl
  rw [(bx_ok f1).2.2.2.2.2.1, show fi M p / 8 = p by omega]
theorem cnA_pt {M : Mo} {p o c : Nat} (hc : c < fC (fi M o)) : cnA M o c = ptA (fi M o) c (mX M o - mX M p) (mY M o - mY M p) + (100 * mY M p + mX M p) := by
  unfold cnA ptA
  rw [if_pos hc]
  omega
theorem cnA_p0 {M : Mo} {p c : Nat} (hc : c < fC (fi M p)) : cnA M p c = ptA (fi M p) c 0 0 + (100 * mY M p + mX M p) := by
  unfold cnA ptA
  rw [if_pos hc]
  omega
theorem ptA_n {i s : Nat} {x y : Int} (hs : s < fC i) : ptA i (s + 1) x y = ptA i ((s + 1) % fC i) x y := by
  unfold ptA
  by_cases e : s + 1 < fC i
  · rw [Nat.mod_eq_of_lt e]
  · rw [show s + 1 = fC i by omega, Nat.mod_self, if_neg (by omega), if_pos (by omega)]
theorem seA_cn {M : Mo} {p o s t : Nat} (hs : s < fC (fi M p)) (ht : t < fC (fi M o)) : seA (fi M p) s (fi M o) t (mX M o - mX M p) (mY M o - mY M p) = decide ((cnA M p s = cnA M o t ∧ cnA M p ((s + 1) % fC (fi M p)) = cnA M o ((t + 1) % fC (fi M o))) ∨ (cnA M p s = cnA M o ((t + 1) % fC (fi M o)) ∧ cnA M p ((s + 1) % fC (fi M p)) = cnA M o t)) := by
  have h1 := cnA_p0 hs
  have h2 := cnA_p0 (M := M) (p := p) (c := (s + 1) % fC (fi M p)) (Nat.mod_lt _ (by omega))
  have h3 := cnA_pt (M := M) (p := p) (o := o) ht
  have h4 := cnA_pt (M := M) (p := p) (o := o) (c := (t + 1) % fC (fi M o)) (Nat.mod_lt _ (by omega))
  unfold seA
  rw [ptA_n hs, ptA_n ht]
  refine decide_eq_decide.mpr ?_
  omega
theorem s_X12_isMatch (T : ZTh (XX Ln xs) CZ RZ) {d b : Nat} {p o s t W H : Nat} {M : Mo} {I : ZI} {L : ZL} {Q : ZQ} (hT : TabOK I) (hR : RowM I 604 0 M) (hw : Wq W H M) (hp : p < 7) (ho : o < 7) (hfp : ¬ mF M p = -1) (hfo : ¬ mF M o = -1) (hs : s < nC p) (ht : t < nC o) (h : Q (.inl (some (.inl (bi (seA (fi M p) s (fi M o) t (mX M o - mX M p) (mY M o - mY M p)))))) I L) : CZ (d + 3) k_X12_isMatch [.inr (.ref 603, 13), .inl ((p : Int)), .inl ((s : Int)), .inl ((o : Int)), .inl ((t : Int))] b I L Q := by
  refine T.call rfl ?_
  have n1 := nC_34 hp
  have n2 := nC_34 ho
  have c1 := fC_nC hw hp hfp
  have c2 := fC_nC hw ho hfo
  obtain ⟨-, -, b3, -⟩ := hT.1 p hp
  obtain ⟨-, -, d3, -⟩ := hT.1 o ho
  have m1 : (s + 1) % nC p < nC p := Nat.mod_lt _ (by omega)
  have m2 : (t + 1) % nC o < nC o := Nat.mod_lt _ (by omega)
  have z1 := cnA_b hw hp hfp (c := s) (by omega)
  have z2 := cnA_b hw hp hfp (c := (s + 1) % nC p) (by omega)
  have z3 := cnA_b hw ho hfo (c := t) (by omega)
  have z4 := cnA_b hw ho hfo (c := (t + 1) % nC o) (by omega)
  rw [seA_cn (by omega) (by omega), c1, c2] at h
  refine T.go [] 90 ?_
  conv => whnf
  refine zinv0 (s_X12_cornerOf T (p := p) (c := s) (W := W) (H := H) (M := M) (by exact hT) (by exact hR) (by exact hw) (by omega) (by exact hfp) (by exact ⟨by omega, by omega⟩) ?_)
  conv => whnf
  refine ⟨by decide, _, rfl, ?_⟩
  conv => whnf
  refine ⟨by omega, by decide, ?_⟩
  conv => whnf
  refine ⟨by rw [b3]; omega, ?_⟩
  conv => whnf
  rw [b3, show ((s : Int) + 1) % ((nC p : Nat) : Int) = (((s + 1) % nC p : Nat) : Int) by rw [Int.natCast_emod]; rfl]
  refine zinv0 (s_X12_cornerOf T (p := p) (c := (s + 1) % nC p) (W := W) (H := H) (M := M) (by exact hT) (by exact hR) (by exact hw) (by omega) (by exact hfp) (by exact ⟨by omega, by omega⟩) ?_)
  conv => whnf
  refine zinv0 (s_X12_cornerOf T (p := o) (c := t) (W := W) (H := H) (M := M) (by exact hT) (by exact hR) (by exact hw) (by omega) (by exact hfo) (by exact ⟨by omega, by omega⟩) ?_)
  conv => whnf
  refine ⟨by decide, _, rfl, ?_⟩
  conv => whnf
  refine ⟨by omega, by decide, ?_⟩
  conv => whnf
  refine ⟨by rw [d3]; omega, ?_⟩
  conv => whnf
  rw [d3, show ((t : Int) + 1) % ((nC o : Nat) : Int) = (((t + 1) % nC o : Nat) : Int) by rw [Int.natCast_emod]; rfl]
  refine zinv0 (s_X12_cornerOf T (p := o) (c := (t + 1) % nC o) (W := W) (H := H) (M := M) (by exact hT) (by exact hR) (by exact hw) (by omega) (by exact hfo) (by exact ⟨by omega, by omega⟩) ?_)
  conv => whnf
  refine ⟨by exact ⟨z1, z3⟩, fun c56 => ?_, fun c56 => ?_⟩
  · conv => whnf
    refine ⟨by exact ⟨z1, z4⟩, fun c70 => ?_, fun c70 => ?_⟩
    · conv => whnf
      refine ⟨by omega, ?_⟩
      rw [decide_eq_false (show ¬ ((cnA M p s = cnA M o t ∧ cnA M p ((s + 1) % nC p) = cnA M o ((t + 1) % nC o)) ∨ (cnA M p s = cnA M o ((t + 1) % nC o) ∧ cnA M p ((s + 1) % nC p) = cnA M o t)) by omega)] at h
      exact h
    · conv => whnf
      refine ⟨by exact ⟨z2, z3⟩, fun c77 => ?_, fun c77 => ?_⟩
      · conv => whnf
        refine ⟨by omega, ?_⟩
        rw [decide_eq_false (show ¬ ((cnA M p s = cnA M o t ∧ cnA M p ((s + 1) % nC p) = cnA M o ((t + 1) % nC o)) ∨ (cnA M p s = cnA M o ((t + 1) % nC o) ∧ cnA M p ((s + 1) % nC p) = cnA M o t)) by omega)] at h
        exact h
      · conv => whnf
        refine ⟨by omega, ?_⟩
        rw [decide_eq_true (show (cnA M p s = cnA M o t ∧ cnA M p ((s + 1) % nC p) = cnA M o ((t + 1) % nC o)) ∨ (cnA M p s = cnA M o ((t + 1) % nC o) ∧ cnA M p ((s + 1) % nC p) = cnA M o t) by omega)] at h
        exact h
  · conv => whnf
    refine ⟨by exact ⟨z2, z4⟩, fun c63 => ?_, fun c63 => ?_⟩
    · conv => whnf
      refine ⟨by omega, ?_⟩
      rw [decide_eq_true (show (cnA M p s = cnA M o t ∧ cnA M p ((s + 1) % nC p) = cnA M o ((t + 1) % nC o)) ∨ (cnA M p s = cnA M o ((t + 1) % nC o) ∧ cnA M p ((s + 1) % nC p) = cnA M o t) by omega)] at h
      exact h
    · conv => whnf
      refine ⟨by exact ⟨z1, z4⟩, fun c70 => ?_, fun c70 => ?_⟩
      · conv => whnf
        refine ⟨by omega, ?_⟩
        rw [decide_eq_false (show ¬ ((cnA M p s = cnA M o t ∧ cnA M p ((s + 1) % nC p) = cnA M o ((t + 1) % nC o)) ∨ (cnA M p s = cnA M o ((t + 1) % nC o) ∧ cnA M p ((s + 1) % nC p) = cnA M o t)) by omega)] at h
        exact h
      · conv => whnf
        refine ⟨by exact ⟨z2, z3⟩, fun c77 => ?_, fun c77 => ?_⟩
        · conv => whnf
          refine ⟨by omega, ?_⟩
          rw [decide_eq_false (show ¬ ((cnA M p s = cnA M o t ∧ cnA M p ((s + 1) % nC p) = cnA M o ((t + 1) % nC o)) ∨ (cnA M p s = cnA M o ((t + 1) % nC o) ∧ cnA M p ((s + 1) % nC p) = cnA M o t)) by omega)] at h
          exact h
        · conv => whnf
          refine ⟨by omega, ?_⟩
          rw [decide_eq_true (show (cnA M p s = cnA M o t ∧ cnA M p ((s + 1) % nC p) = cnA M o ((t + 1) % nC o)) ∨ (cnA M p s = cnA M o ((t + 1) % nC o) ∧ cnA M p ((s + 1) % nC p) = cnA M o t) by omega)] at h
          exact h
theorem l_mmoI (T : ZTh (XX Ln xs) CZ RZ) {d b : Nat} {Q : ZQ} {p o s W H : Nat} {c0 : Int} {M : Mo} {I : ZI} {L : ZL} (hT : TabOK I) (hR : RowM I 604 0 M) (hw : Wq W H M) (hp : p < 7) (ho : o < 7) (hfp : ¬ mF M p = -1) (hfo : ¬ mF M o = -1) (hs : s < nC p) (hk : RZ (d + 3) k_X12_matchesOf Q 5 [.inr (.ref 603, 13), .inl (p : Int), .inl (o : Int), .inl (c0 + smI (fun t => bi (seA (fi M p) s (fi M o) t (mX M o - mX M p) (mY M o - mY M p))) (nC o)), .inl ((s : Int) + 1), zj] [] b I L) (m : Nat) : ∀ (t : Nat) (c : Int), (t ≤ nC o) → (c = c0 + smI (fun t => bi (seA (fi M p) s (fi M o) t (mX M o - mX M p) (mY M o - mY M p))) t) → 4 - (t : Int) < (m : Int) → RZ (d + 3) k_X12_matchesOf Q 19 [.inr (.ref 603, 13), .inl ((p : Int)), .inl ((o : Int)), .inl c, .inl ((s : Int)), .inl ((t : Int))] [] b I L := by
  induction m with
  | zero =>
    intro t c ht hc hm
    have n2 := nC_34 ho
    exfalso
    omega
  | succ m ih =>
    intro t c ht hc hm
    have n1 := nC_34 hp
    have n2 := nC_34 ho
    obtain ⟨-, -, b3, -⟩ := hT.1 p hp
    obtain ⟨-, -, d3, -⟩ := hT.1 o ho
    have hbb := bi_b (seA (fi M p) s (fi M o) t (mX M o - mX M p) (mY M o - mY M p))
    refine T.go [5, 19] 90 ?_
    conv => whnf
    refine ⟨by decide, _, rfl, ?_⟩
    conv => whnf
    refine ⟨by omega, by decide, ?_⟩
    conv => whnf
    refine ⟨by rw [d3]; omega, fun c27 => ?_, fun c27 => ?_⟩
    · conv => whnf
      refine T.fg [5] ?_
      rw [d3] at c27
      obtain rfl : t = nC o := by omega
      rw [hc]
      exact hk
    · conv => whnf
      rw [d3] at c27
      refine zinv0 (s_X12_isMatch T (p := p) (o := o) (s := s) (t := t) (W := W) (H := H) (M := M) (by exact hT) (by exact hR) (by exact hw) (by exact hp) (by exact ho) (by exact hfp) (by exact hfo) (by exact hs) (by omega) ?_)
      conv => whnf
      refine ⟨by exact ⟨by omega, by omega⟩, fun c41 => ?_, fun c41 => ?_⟩
      · conv => whnf
        refine ih (t + 1) _ (by omega) ?_ (by omega)
        show _ = c0 + (smI (fun t => bi (seA (fi M p) s (fi M o) t (mX M o - mX M p) (mY M o - mY M p))) t + bi (seA (fi M p) s (fi M o) t (mX M o - mX M p) (mY M o - mY M p)))
        omega
      · conv => whnf
        refine ih (t + 1) _ (by omega) ?_ (by omega)
        show _ = c0 + (smI (fun t => bi (seA (fi M p) s (fi M o) t (mX M o - mX M p) (mY M o - mY M p))) t + bi (seA (fi M p) s (fi M o) t (mX M o - mX M p) (mY M o - mY M p)))
        omega
theorem l_mmoO (T : ZTh (XX Ln xs) CZ RZ) {d b : Nat} {Q : ZQ} {p o W H : Nat} {M : Mo} {I : ZI} {L : ZL} (hT : TabOK I) (hR : RowM I 604 0 M) (hw : Wq W H M) (hp : p < 7) (ho : o < 7) (hfp : ¬ mF M p = -1) (hfo : ¬ mF M o = -1) (h : Q (.inl (some (.inl (mtA M p o)))) I L) (m : Nat) : ∀ (s : Nat) (c : Int), (s ≤ nC p) → (c = smI (mtR M p o) s) → 4 - (s : Int) < (m : Int) → RZ (d + 3) k_X12_matchesOf Q 5 [.inr (.ref 603, 13), .inl ((p : Int)), .inl ((o : Int)), .inl c, .inl ((s : Int)), zj] [] b I L := by
  induction m with
  | zero =>
    intro s c hs hc hm
    have n1 := nC_34 hp
    exfalso
    omega
  | succ m ih =>
    intro s c hs hc hm
    have n1 := nC_34 hp
    have n2 := nC_34 ho
    obtain ⟨-, -, b3, -⟩ := hT.1 p hp
    obtain ⟨-, -, d3, -⟩ := hT.1 o ho
    refine T.go [19] 90 ?_
    conv => whnf
    refine ⟨by decide, _, rfl, ?_⟩
    conv => whnf
    refine ⟨by omega, by decide, ?_⟩
    conv => whnf
    refine ⟨by rw [b3]; omega, fun c13 => ?_, fun c13 => ?_⟩
    · conv => whnf
      rw [b3] at c13
      obtain rfl : s = nC p := by omega
      rw [hc]
      unfold mtA at h
      rw [fC_nC hw hp hfp] at h
      exact h
    · conv => whnf
      rw [b3] at c13
      have e : mtR M p o s = smI (fun t => bi (seA (fi M p) s (fi M o) t (mX M o - mX M p) (mY M o - mY M p))) (nC o) := by
        unfold mtR
        rw [fC_nC hw ho hfo]
      exact l_mmoI T (c0 := c) (W := W) (H := H) hT hR hw hp ho hfp hfo (by omega) (ih (s + 1) _ (by omega) (by rw [← e, hc]; rfl) (by omega)) 5 0 _ (by omega) (by show c = c + 0; omega) (by omega)
theorem s_X12_matchesOf (T : ZTh (XX Ln xs) CZ RZ) {d b : Nat} {p o W H : Nat} (M : Mo) {I : ZI} {L : ZL} {Q : ZQ} (hT : TabOK I) (hR : RowM I 604 0 M) (hw : Wq W H M) (hp : p < 7) (ho : o < 7) (hfp : ¬ mF M p = -1) (hfo : ¬ mF M o = -1) (h : Q (.inl (some (.inl (mtA M p o)))) I L) : CZ (d + 4) k_X12_matchesOf [.inr (.ref 603, 13), .inl ((p : Int)), .inl ((o : Int))] b I L Q := by
  refine T.call rfl ?_
  refine T.go [5] 90 ?_
  conv => whnf
  exact l_mmoO T (W := W) (H := H) hT hR hw hp ho hfp hfo h 5 0 0 (by omega) rfl (by omega)
theorem l_mmaI (T : ZTh (XX Ln xs) CZ RZ) {d b : Nat} {Q : ZQ} {p W H : Nat} {c0 : Int} {M : Mo} {I : ZI} {L : ZL} (hT : TabOK I) (hR : RowM I 604 0 M) (hw : Wq W H M) (hp : p < 7) (hk : RZ (d + 4) k_X12_matches Q 9 [.inr (.ref 603, 13), .inl (c0 + smI (mtC M p) 7), .inl ((p : Int) + 1), zj] [] b I L) (m : Nat) : ∀ (o : Nat) (c : Int), (p < o ∧ o ≤ 7) → (c = c0 + smI (mtC M p) o) → 7 - (o : Int) < (m : Int) → RZ (d + 4) k_X12_matches Q 19 [.inr (.ref 603, 13), .inl c, .inl ((p : Int)), .inl ((o : Int))] [] b I L := by
  induction m with
  | zero =>
    intro o c ho hc hm
    exfalso
    omega
  | succ m ih =>
    intro o c ho hc hm
    refine T.go [9, 19] 90 ?_
    conv => whnf
    refine ⟨by omega, fun c22 => ?_, fun c22 => ?_⟩
    · conv => whnf
      refine T.fg [3] ?_
      obtain rfl : o = 7 := by omega
      rw [hc]
      exact hk
    · conv => whnf
      refine zinv0 (s_X12_isOn T (p := p) (W := W) (H := H) (M := M) (by exact hR) (by exact hp) (by exact hw) ?_ ?_)
      · intro cha_28
        conv => whnf
        refine ⟨by decide, fun c => absurd c (by decide), fun _ => ?_⟩
        conv => whnf
        refine zinv0 (s_X12_isOn T (p := o) (W := W) (H := H) (M := M) (by exact hR) (by omega) (by exact hw) ?_ ?_)
        · intro cha_36
          conv => whnf
          refine ⟨by decide, fun c => absurd c (by decide), fun _ => ?_⟩
          conv => whnf
          refine zinv0 (s_X12_matchesOf T (p := p) (o := o) (W := W) (H := H) M (by exact hT) (by exact hR) (by exact hw) (by exact hp) (by omega) (by exact cha_28) (by exact cha_36) ?_)
          conv => whnf
          refine ih (o + 1) _ (by omega) ?_ (by omega)
          have e : mtC M p o = mtA M p o := if_pos ⟨ho.1, cha_28, cha_36⟩
          show _ = c0 + (smI (mtC M p) o + mtC M p o)
          rw [e]
          omega
        · intro ch2a_36
          conv => whnf
          refine ⟨by decide, fun _ => ?_, fun c => absurd c (by decide)⟩
          conv => whnf
          refine ih (o + 1) _ (by omega) ?_ (by omega)
          have e : mtC M p o = 0 := if_neg (fun g => g.2.2 ch2a_36)
          show _ = c0 + (smI (mtC M p) o + mtC M p o)
          rw [e]
          omega
      · intro ch2a_28
        conv => whnf
        refine ⟨by decide, fun _ => ?_, fun c => absurd c (by decide)⟩
        conv => whnf
        refine ih (o + 1) _ (by omega) ?_ (by omega)
        have e : mtC M p o = 0 := if_neg (fun g => g.2.1 ch2a_28)
        show _ = c0 + (smI (mtC M p) o + mtC M p o)
        rw [e]
        omega
theorem l_mmaO (T : ZTh (XX Ln xs) CZ RZ) {d b : Nat} {Q : ZQ} {W H : Nat} {M : Mo} {I : ZI} {L : ZL} (hT : TabOK I) (hR : RowM I 604 0 M) (hw : Wq W H M) (h : Q (.inl (some (.inl (matchesA M)))) I L) (m : Nat) : ∀ (p : Nat) (c : Int), (p ≤ 7) → (c = smI (fun p => smI (mtC M p) 7) p) → 7 - (p : Int) < (m : Int) → RZ (d + 4) k_X12_matches Q 9 [.inr (.ref 603, 13), .inl c, .inl ((p : Int)), zj] [] b I L := by
  induction m with
  | zero =>
    intro p c hp hc hm
    exfalso
    omega
  | succ m ih =>
    intro p c hp hc hm
    refine T.go [19] 90 ?_
    conv => whnf
    refine ⟨by omega, fun c12 => ?_, fun c12 => ?_⟩
    · conv => whnf
      obtain rfl : p = 7 := by omega
      rw [hc]
      exact h
    · conv => whnf
      refine l_mmaI T (c0 := c) (W := W) (H := H) (p := p) hT hR hw (by omega) (ih (p + 1) _ (by omega) (by rw [hc]; rfl) (by omega)) 8 (p + 1) _ (by omega) ?_ (by omega)
      rw [smI_0 (f := mtC M p) (p + 1) (fun i hi => if_neg (fun g => by omega))]
      omega
theorem s_X12_matches (T : ZTh (XX Ln xs) CZ RZ) {d b : Nat} {W H n bl : Nat} {M : Mo} {P SL : Nat → Mo} {v u : Nat → Int}  {I : ZI} {L : ZL} {Q : ZQ} (hC : MB I W H M P n SL v bl u) (hA : WfA W H M P n SL v) (h : ∀ I', Fr PSc I I' → I' 603 8 = 0 → MB I' W H M P n SL v bl u → Q (.inl (some (.inl (matchesA M)))) I' L) : CZ (d + 5) k_X12_matches [.inr (.ref 603, 13)] b I L Q := by
  refine T.call rfl ?_
  refine T.go [9] 90 ?_
  conv => whnf
  refine ⟨by decide, ?_⟩
  conv => whnf
  have hC0 := hC.th hA 0
  exact l_mmaO T (W := W) (H := H) (M := M) hC0.1 hC0.2.1 hA.1.1 (h _ (frTh I 0) (v2_eq _ _ _ _) hC0) 8 0 0 (by omega) rfl (by omega)
end
