/-! QUESTIONS, 4 -/
section
variable {Ln : Nat} {xs : Nat → Int32} {CZ : Nat → ZC} {RZ : Nat → Nat → ZQ → ZP}
theorem cXY_b0 : (List.range 56).all (fun i => decide (3 ≤ fC i ∧ fC i ≤ 4) && (List.range 4).all (fun c => decide (cX i c ≤ 4 ∧ cY i c ≤ 4))) = true := by decide +kernel
theorem fC_b {i : Nat} (hi : i < 56) : 3 ≤ fC i ∧ fC i ≤ 4 := of_decide_eq_true ((Bool.and_eq_true _ _).mp (List.all_eq_true.mp cXY_b0 i (List.mem_range.mpr hi))).1
theorem cXY_b {i c : Nat} (hi : i < 56) (hc : c < 4) : cX i c ≤ 4 ∧ cY i c ≤ 4 := of_decide_eq_true (List.all_eq_true.mp ((Bool.and_eq_true _ _).mp (List.all_eq_true.mp cXY_b0 i (List.mem_range.mpr hi))).2 c (List.mem_range.mpr hc))
/-- corner s of form i as a number, its box moved by x and y -/
def ptA (i s : Nat) (x y : Int) : Int := 100 * (cY i (if s < fC i then s else 0) + y) + cX i (if s < fC i then s else 0) + x
def seA (i s j t : Nat) (x y : Int) : Bool := decide ((ptA i s 0 0 = ptA j t x y ∧ ptA i (s + 1) 0 0 = ptA j (t + 1) x y) ∨ (ptA i s 0 0 = ptA j (t + 1) x y ∧ ptA i (s + 1) 0 0 = ptA j t x y))
theorem ptA_b {i s : Nat} {x y : Int} (hi : i < 56) (hs : s ≤ 4) (hx : -50 ≤ x ∧ x ≤ 50) (hy : -50 ≤ y ∧ y ≤ 50) : zR (ptA i s x y) := by
  have hc := fC_b hi
  unfold ptA
  split
  · have := cXY_b (c := s) hi (by omega)
    exact ⟨by omega, by omega⟩
  · have := cXY_b (c := 0) hi (by omega)
    exact ⟨by omega, by omega⟩
theorem s_X1_pointAt (T : ZTh (XX Ln xs) CZ RZ) {d b : Nat} {i s : Nat} {x y : Int} {I : ZI} {L : ZL} {Q : ZQ} (hF : FormOK I L) (hi : i < 56) (hs : s ≤ 4) (hx : -50 ≤ x ∧ x ≤ 50) (hy : -50 ≤ y ∧ y ≤ 50) (h : Q (.inl (some (.inl (ptA i s x y)))) I L) : CZ (d + 1) k_X1_pointAt [.inr (.ref (2 + 5 * i), 2), .inl ((s : Int)), .inl x, .inl y] b I L Q := by
  refine T.call rfl ?_
  obtain ⟨-, -, f1, -, -, f2⟩ := hF i hi
  have zz := za_fm hi
  have z1 : za (2 + 5 * i) 1 = 3 + 5 * i + 1 := by rw [zz.2.1]; omega
  have z2 : za (2 + 5 * i) 2 = 4 + 5 * i + 1 := by rw [zz.2.2.1]; omega
  have hc := fC_b hi
  have q1 := fun h : s < 4 => f2 s h
  have q2 : I (3 + 5 * i) 0 = ((cX i 0 : Nat) : Int) ∧ I (4 + 5 * i) 0 = ((cY i 0 : Nat) : Int) := f2 0 (by omega)
  have b1 := fun h : s < 4 => cXY_b hi h
  have b2 := cXY_b (c := 0) hi (by omega)
  have r1 := fun h : s < fC i => (if_pos h : (if s < fC i then s else 0) = s)
  have r2 := fun h : ¬ s < fC i => (if_neg h : (if s < fC i then s else 0) = 0)
  refine T.go [] 90 ?_
  conv => whnf
  refine ⟨by omega, fun c1 => by exfalso; omega, fun c1 => ?_⟩
  conv => whnf
  refine ⟨(show (¬ (_ : Nat) = _) ∧ (¬ (_ : Nat) = _) from by omega), ?_⟩
  conv => whnf
  refine ⟨by omega, fun c9 => ?_, fun c9 => ?_⟩
  · conv => whnf
    have e3 := r2 (by omega)
    obtain ⟨g1, g2⟩ := q2
    have g3 := b2
    refine ⟨(show (¬ (_ : Nat) = _) ∧ (¬ (_ : Nat) = _) from by omega), _, z2, ?_⟩
    conv => whnf
    refine ⟨by omega, (show (¬ (_ : Nat) = _) ∧ (¬ (_ : Nat) = _) from by omega), ?_⟩
    conv => whnf
    refine ⟨(show (¬ (_ : Nat) = _) ∧ (¬ (_ : Nat) = _) from by omega), _, z1, ?_⟩
    conv => whnf
    refine ⟨by omega, (show (¬ (_ : Nat) = _) ∧ (¬ (_ : Nat) = _) from by omega), ?_⟩
    conv => whnf
    unfold ptA at h
    rw [e3] at h
    rw [show I (4 + 5 * i) _ = _ from g2, show I (3 + 5 * i) _ = _ from g1]
    exact h
  · conv => whnf
    have hs9 : s < fC i := by omega
    have e3 := r1 hs9
    obtain ⟨g1, g2⟩ := q1 (by omega)
    have g3 := b1 (by omega)
    refine ⟨(show (¬ (_ : Nat) = _) ∧ (¬ (_ : Nat) = _) from by omega), _, z2, ?_⟩
    conv => whnf
    refine ⟨by omega, (show (¬ (_ : Nat) = _) ∧ (¬ (_ : Nat) = _) from by omega), ?_⟩
    conv => whnf
    refine ⟨(show (¬ (_ : Nat) = _) ∧ (¬ (_ : Nat) = _) from by omega), _, z1, ?_⟩
    conv => whnf
    refine ⟨by omega, (show (¬ (_ : Nat) = _) ∧ (¬ (_ : Nat) = _) from by omega), ?_⟩
    conv => whnf
    unfold ptA at h
    rw [e3] at h
    rw [show I (4 + 5 * i) _ = _ from g2, show I (3 + 5 * i) _ = _ from g1]
    exact h
theorem s_X11_haveSameEnds (T : ZTh (XX Ln xs) CZ RZ) {d b : Nat} {i s j t : Nat} {x y : Int} {I : ZI} {L : ZL} {Q : ZQ} (hF : FormOK I L) (hi : i < 56) (hj : j < 56) (hs : s < 4) (ht : t < 4) (hx : -12 ≤ x ∧ x ≤ 12) (hy : -12 ≤ y ∧ y ≤ 12) (h : Q (.inl (some (.inl (bi (seA i s j t x y))))) I L) : CZ (d + 2) k_X11_haveSameEnds [.inr (.ref (2 + 5 * i), 2), .inl ((s : Int)), .inr (.ref (2 + 5 * j), 2), .inl ((t : Int)), .inl x, .inl y] b I L Q := by
  refine T.call rfl ?_
  have p1 := ptA_b (i := i) (s := s) (x := 0) (y := 0) hi (by omega) (by omega) (by omega)
  have p2 := ptA_b (i := i) (s := s + 1) (x := 0) (y := 0) hi (by omega) (by omega) (by omega)
  have p3 := ptA_b (i := j) (s := t) (x := x) (y := y) hj (by omega) (by omega) (by omega)
  have p4 := ptA_b (i := j) (s := t + 1) (x := x) (y := y) hj (by omega) (by omega) (by omega)
  refine T.go [] 200 ?_
  conv => whnf
  refine zinv0 (s_X1_pointAt T (i := i) (s := s) (by exact hF) (by omega) (by omega) (by omega) (by omega) ?_)
  conv => whnf
  refine zinv0 (s_X1_pointAt T (i := i) (s := s + 1) (by exact hF) (by omega) (by omega) (by omega) (by omega) ?_)
  conv => whnf
  refine zinv0 (s_X1_pointAt T (i := j) (s := t) (by exact hF) (by omega) (by omega) (by omega) (by omega) ?_)
  conv => whnf
  refine zinv0 (s_X1_pointAt T (i := j) (s := t + 1) (by exact hF) (by omega) (by omega) (by omega) (by omega) ?_)
  conv => whnf
  refine ⟨by omega, fun c48 => ?_, fun c48 => ?_⟩
  · conv => whnf
    refine ⟨by omega, fun c62 => ?_, fun c62 => ?_⟩
    · conv => whnf
      refine ⟨by omega, ?_⟩
      have e : seA i s j t x y = false := decide_eq_false (by omega)
      rw [e] at h
      exact h
    · conv => whnf
      refine ⟨by omega, fun c69 => ?_, fun c69 => ?_⟩
      · conv => whnf
        refine ⟨by omega, ?_⟩
        have e : seA i s j t x y = false := decide_eq_false (by omega)
        rw [e] at h
        exact h
      · conv => whnf
        refine ⟨by omega, ?_⟩
        have e : seA i s j t x y = true := decide_eq_true (by omega)
        rw [e] at h
        exact h
  · conv => whnf
    refine ⟨by omega, fun c55 => ?_, fun c55 => ?_⟩
    · conv => whnf
      refine ⟨by omega, ?_⟩
      have e : seA i s j t x y = true := decide_eq_true (by omega)
      rw [e] at h
      exact h
    · conv => whnf
      refine ⟨by omega, fun c62 => ?_, fun c62 => ?_⟩
      · conv => whnf
        refine ⟨by omega, ?_⟩
        have e : seA i s j t x y = false := decide_eq_false (by omega)
        rw [e] at h
        exact h
      · conv => whnf
        refine ⟨by omega, fun c69 => ?_, fun c69 => ?_⟩
        · conv => whnf
          refine ⟨by omega, ?_⟩
          have e : seA i s j t x y = false := decide_eq_false (by omega)
          rw [e] at h
          exact h
        · conv => whnf
          refine ⟨by omega, ?_⟩
          have e : seA i s j t x y = true := decide_eq_true (by omega)
          rw [e] at h
          exact h
def mtR (M : Mo) (p o s : Nat) : Int := smI (fun t => bi (seA (fi M p) s (fi M o) t (mX M o - mX M p) (mY M o - mY M p))) (fC (fi M o))
def mtA (M : Mo) (p o : Nat) : Int := smI (mtR M p o) (fC (fi M p))
theorem mtR_b {M : Mo} {p o : Nat} (ho : fi M o < 56) (s : Nat) : 0 ≤ mtR M p o s ∧ mtR M p o s ≤ 4 := by
  have := smI_b (f := fun t => bi (seA (fi M p) s (fi M o) t (mX M o - mX M p) (mY M o - mY M p))) (c := 1) (fun t => bi_b _) (fC (fi M o))
  have := fC_b ho
  unfold mtR
  omega
theorem mtA_b {M : Mo} {p o : Nat} (hp : fi M p < 56) (ho : fi M o < 56) : 0 ≤ mtA M p o ∧ mtA M p o ≤ 16 := by
  have := smI_b (mtR_b (M := M) (p := p) ho) (fC (fi M p))
  have := fC_b hp
  unfold mtA
  omega
theorem l_mtI (T : ZTh (XX Ln xs) CZ RZ) {d b : Nat} {Q : ZQ} {p o s : Nat} {c0 : Int} {M : Mo} {I : ZI} {L : ZL} (hF : FormOK I L) (hi : fi M p < 56) (hj : fi M o < 56) (hx : -12 ≤ mX M o - mX M p ∧ mX M o - mX M p ≤ 12) (hy : -12 ≤ mY M o - mY M p ∧ mY M o - mY M p ≤ 12) (hs : s < fC (fi M p)) (hc0 : 0 ≤ c0 ∧ c0 ≤ 16) (hk : RZ (d + 2) k_X11_countMatches Q 76 [zj, zj, zj, zj, .inr (.ref (2 + 5 * fi M p), 2), .inr (.ref (2 + 5 * fi M o), 2), .inl (mX M o - mX M p), .inl (mY M o - mY M p), .inl (c0 + mtR M p o s), .inl ((s : Int) + 1), zj] [] b I L) (m : Nat) : ∀ (t : Nat) (c : Int), (t ≤ fC (fi M o)) → (c = c0 + smI (fun t => bi (seA (fi M p) s (fi M o) t (mX M o - mX M p) (mY M o - mY M p))) t) → 4 - (t : Int) < (m : Int) → RZ (d + 2) k_X11_countMatches Q 89 [zj, zj, zj, zj, .inr (.ref (2 + 5 * fi M p), 2), .inr (.ref (2 + 5 * fi M o), 2), .inl ((mX M o - mX M p)), .inl ((mY M o - mY M p)), .inl c, .inl ((s : Int)), .inl ((t : Int))] [] b I L := by
  induction m with
  | zero =>
    intro t c ht hc hm
    exfalso
    have := fC_b hj
    omega
  | succ m ih =>
    intro t c ht hc hm
    have hb := smI_b (f := fun t => bi (seA (fi M p) s (fi M o) t (mX M o - mX M p) (mY M o - mY M p))) (c := 1) (fun t => bi_b _) t
    have hci := fC_b hi
    have hcj := fC_b hj
    obtain ⟨-, -, f1, -, -, -⟩ := hF _ hj
    have hbb := bi_b (seA (fi M p) s (fi M o) t (mX M o - mX M p) (mY M o - mY M p))
    refine T.go [76, 89] 90 ?_
    conv => whnf
    refine ⟨(show (¬ (_ : Nat) = _) ∧ (¬ (_ : Nat) = _) from by omega), ?_⟩
    conv => whnf
    refine ⟨by omega, fun c96 => ?_, fun c96 => ?_⟩
    · conv => whnf
      refine T.fg [10] ?_
      obtain rfl : t = fC (fi M o) := by omega
      rw [hc]
      exact hk
    · conv => whnf
      refine zinv0 (s_X11_haveSameEnds T (i := fi M p) (s := s) (j := fi M o) (t := t) (by exact hF) (by exact hi) (by exact hj) (by omega) (by omega) (by exact hx) (by exact hy) ?_)
      conv => whnf
      refine ⟨by omega, fun c114 => ?_, fun c114 => ?_⟩
      · conv => whnf
        refine ih (t + 1) _ (by omega) ?_ (by omega)
        show _ = c0 + (smI _ t + bi (seA (fi M p) s (fi M o) t (mX M o - mX M p) (mY M o - mY M p)))
        omega
      · conv => whnf
        refine ih (t + 1) _ (by omega) ?_ (by omega)
        show _ = c0 + (smI _ t + bi (seA (fi M p) s (fi M o) t (mX M o - mX M p) (mY M o - mY M p)))
        omega
theorem l_mtO (T : ZTh (XX Ln xs) CZ RZ) {d b : Nat} {Q : ZQ} {p o : Nat} {M : Mo} {I : ZI} {L : ZL} (hF : FormOK I L) (hi : fi M p < 56) (hj : fi M o < 56) (hx : -12 ≤ mX M o - mX M p ∧ mX M o - mX M p ≤ 12) (hy : -12 ≤ mY M o - mY M p ∧ mY M o - mY M p ≤ 12) (h : Q (.inl (some (.inl (mtA M p o)))) I L) (m : Nat) : ∀ (s : Nat) (c : Int), (s ≤ fC (fi M p)) → (c = smI (mtR M p o) s) → 4 - (s : Int) < (m : Int) → RZ (d + 2) k_X11_countMatches Q 76 [zj, zj, zj, zj, .inr (.ref (2 + 5 * fi M p), 2), .inr (.ref (2 + 5 * fi M o), 2), .inl ((mX M o - mX M p)), .inl ((mY M o - mY M p)), .inl c, .inl ((s : Int)), zj] [] b I L := by
  induction m with
  | zero =>
    intro s c hs hc hm
    exfalso
    have := fC_b hi
    omega
  | succ m ih =>
    intro s c hs hc hm
    have hb := smI_b (mtR_b (M := M) (p := p) hj) s
    have hci := fC_b hi
    obtain ⟨-, -, f1, -, -, -⟩ := hF _ hi
    refine T.go [89] 90 ?_
    conv => whnf
    refine ⟨(show (¬ (_ : Nat) = _) ∧ (¬ (_ : Nat) = _) from by omega), ?_⟩
    conv => whnf
    refine ⟨by omega, fun c83 => ?_, fun c83 => ?_⟩
    · conv => whnf
      obtain rfl : s = fC (fi M p) := by omega
      rw [hc]
      exact h
    · conv => whnf
      exact l_mtI T (c0 := c) hF hi hj hx hy (by omega) (by omega) (ih (s + 1) _ (by omega) (by rw [hc]; rfl) (by omega)) 5 0 c (by omega) (by show c = c + 0; omega) (by omega)
theorem s_X11_countMatches (T : ZTh (XX Ln xs) CZ RZ) {d b : Nat} {W H n bl : Nat} {M : Mo} {P SL : Nat → Mo} {u : Nat → Int} {p o : Nat} {I : ZI} {L : ZL} {Q : ZQ} (hC : CB I L W H M P n SL bl u) (hp : p < 7) (ho : o < 7) (hfp : mF M p ≠ -1) (hfo : mF M o ≠ -1) (h : Q (.inl (some (.inl (mtA M p o)))) I L) : CZ (d + 3) k_X11_countMatches [.inr (.ref 0, 12), .inl ((p : Int)), .inl ((o : Int))] b I L Q := by
  refine T.call rfl ?_
  obtain ⟨cF, cS, cW, cSil, cPa, cPw, cSl, cFi, cb1, cb2, cb3⟩ := id hC
  obtain ⟨t1, t2, t3, t4, t5⟩ := id cS
  obtain ⟨⟨⟨w1, w2, w3, w4⟩, -⟩, w5, -⟩ := id cW
  obtain ⟨a1, a2, a3, a4, a5, a6, a7, a8⟩ := cW.1.form hp hfp
  obtain ⟨b1, b2, b3, b4, b5, b6, b7, b8⟩ := cW.1.form ho hfo
  obtain ⟨x1, x2⟩ := t3 p (by omega) (by omega)
  obtain ⟨y1, y2⟩ := t3 o (by omega) (by omega)
  obtain ⟨x2, x3⟩ := x2 hfp
  obtain ⟨y2, y3⟩ := y2 hfo
  replace x1 : I 286 (p : Int) = mF M p := x1
  replace x2 : I 284 (p : Int) = mX M p := x2
  replace x3 : I 285 (p : Int) = mY M p := x3
  replace y1 : I 286 (o : Int) = mF M o := y1
  replace y2 : I 284 (o : Int) = mX M o := y2
  replace y3 : I 285 (o : Int) = mY M o := y3
  have da := fW_b a1
  have db := fW_b b1
  refine T.go [76] 200 ?_
  conv => whnf
  refine ⟨by decide, _, rfl, ?_⟩
  conv => whnf
  refine ⟨by decide, _, rfl, ?_⟩
  conv => whnf
  refine ⟨by decide, _, rfl, ?_⟩
  conv => whnf
  refine ⟨by decide, _, rfl, ?_⟩
  conv => whnf
  refine ⟨by omega, by decide, ?_⟩
  conv => whnf
  refine zinv0 (s_X11_formAt T (fi M p) (by omega) (by exact a1) ?_)
  conv => whnf
  refine ⟨by decide, _, rfl, ?_⟩
  conv => whnf
  refine ⟨by decide, _, rfl, ?_⟩
  conv => whnf
  refine ⟨by omega, by decide, ?_⟩
  conv => whnf
  refine zinv0 (s_X11_formAt T (fi M o) (by omega) (by exact b1) ?_)
  conv => whnf
  refine ⟨by decide, _, rfl, ?_⟩
  conv => whnf
  refine ⟨by omega, by decide, ?_⟩
  conv => whnf
  refine ⟨by decide, _, rfl, ?_⟩
  conv => whnf
  refine ⟨by omega, by decide, ?_⟩
  conv => whnf
  refine ⟨by decide, _, rfl, ?_⟩
  conv => whnf
  refine ⟨by omega, by decide, ?_⟩
  conv => whnf
  refine ⟨by decide, _, rfl, ?_⟩
  conv => whnf
  refine ⟨by omega, by decide, ?_⟩
  conv => whnf
  refine T.fg [0, 1, 2, 3] ?_
  rw [x2, x3, y2, y3]
  exact l_mtO T cF a1 b1 (by omega) (by omega) h 5 0 0 (by omega) rfl (by omega)
end
