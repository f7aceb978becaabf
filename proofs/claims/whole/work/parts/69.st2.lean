/-! STATES, 2: why a piece cannot be placed -/
section
variable {Ln : Nat} {xs : Nat → Int32} {CZ : Nat → ZC} {RZ : Nat → Nat → ZQ → ZP}
/-- a piece, so placed, overlaps another one -/
noncomputable def ovp (M : Mo) (p n : Nat) (x y : Int) (j : Nat) : Bool := dc (j ≠ p ∧ mF M j ≠ -1 ∧ ∃ q, shf (fS n) (48 * y.toNat + 4 * x.toNat) q = true ∧ cvr M j q = true)
/-- why a piece can't be placed so -/
noncomputable def why (W H : Nat) (M : Mo) (p n : Nat) (x y : Int) : Int := bif dc (InB W H n x y) then (if cn (ovp M p n x y) 7 = 0 then 0 else 2 + lo (ovp M p n x y) 7) else 1
theorem why_1 {W H : Nat} {M : Mo} {p n : Nat} {x y : Int} (h : ¬ InB W H n x y) : why W H M p n x y = 1 := by
  unfold why
  rw [dc_not.mpr h]
  rfl
theorem why_0 {W H : Nat} {M : Mo} {p n : Nat} {x y : Int} (h : InB W H n x y) (h0 : ∀ j, j < 7 → ovp M p n x y j = false) : why W H M p n x y = 0 := by
  unfold why
  rw [dc_iff.mpr h, cond_true, if_pos (cn_false h0)]
theorem why_2 {W H : Nat} {M : Mo} {p n : Nat} {x y : Int} (h : InB W H n x y) {j : Nat} (hj : j < 7) (h0 : ∀ i, i < j → ovp M p n x y i = false) (h1 : ovp M p n x y j = true) : why W H M p n x y = 2 + j := by
  unfold why
  have hc : cn (ovp M p n x y) 7 ≠ 0 := fun c => by
    have := cn_zero c j hj
    rw [h1] at this
    cases this
  rw [dc_iff.mpr h, cond_true, if_neg hc]
  rcases lo_spec (ovp M p n x y) 7 with ⟨c, _⟩ | ⟨_, k, k1, k2, k3, k4⟩
  · exact (hc c).elim
  · have a : ¬ k < j := fun c => by rw [h0 k c] at k3; cases k3
    have b : ¬ j < k := fun c => by
      have := k4 j c
      rw [h1] at this
      cases this
    rw [k2]
    omega
theorem why_b {W H : Nat} {M : Mo} {p n : Nat} {x y : Int} : 0 ≤ why W H M p n x y ∧ why W H M p n x y ≤ 9 := by
  have := lo_bound (ovp M p n x y) 7
  unfold why
  cases dc (InB W H n x y)
  · simp only [cond_false]; omega
  · simp only [cond_true]; split <;> omega
theorem l_hindrance (T : ZTh (XX Ln xs) CZ RZ) {d b : Nat} {Q : ZQ} {s p k x y W H : Nat} {M : Mo} {I : ZI} {L : ZL} (hs : s ∈ stR) (hF : FormOK I L) (hw : Wq W H M) (hW : I s 0 = W) (hH : I s 1 = H) (hP : PlC I (s + 1) M) (hpp : p < 7) (hk : 8 * p + k < 56 ∧ k < 8) (hb : InB W H (8 * p + k) x y) (h : Q (.inl (some (.inl (why W H M p (8 * p + k) x y)))) I L) (m : Nat) : ∀ (j : Nat), (j ≤ 7) → (∀ i, i < j → ovp M p (8 * p + k) x y i = false) → 7 - (j : Int) < (m : Int) → RZ (d + 2) k_X8_hindrance Q 55 [.inr (.ref s, 9), .inr (.ref 1, 110056), .inl ((p : Int)), .inl ((x : Int)), .inl ((y : Int)), zj, .inr (.ref (5 + 5 * (8 * p + k)), 7), .inl ((j : Int)), zj] [] b I L := by
  induction m with
  | zero =>
    intro j hj hp0 hm
    exfalso
    omega
  | succ m ih =>
    intro j hj hp0 hm
    have hst := za_st hs
    have hpl := za_pl hs
    have hrn := st_rng hs
    obtain ⟨zp, zq, -, -, -⟩ := hst
    obtain ⟨zx, zy, zf⟩ := hpl
    obtain ⟨⟨w1, w2, w3, w4⟩, -⟩ := id hw
    obtain ⟨gS, gM, -, -, -, -⟩ := hF (8 * p + k) (by omega)
    obtain ⟨z1, -, -, z3, z5⟩ := za_fm (i := 8 * p + k) (by omega)
    have z3' : za (2 + 5 * (8 * p + k)) 3 = 5 + 5 * (8 * p + k) + 1 := by rw [z3]; omega
    obtain ⟨t1, t2, t3, t4, t5⟩ := fS_box (i := 8 * p + k) (by omega)
    obtain ⟨d1, d2, d3, d4, -, -⟩ := fW_b (i := 8 * p + k) (by omega)
    obtain ⟨m2, m3, m4, m5⟩ := gM.at
    rw [t4] at m4
    obtain ⟨b1, b2, b3, b4⟩ := id hb
    refine T.go [55] 90 ?_
    conv => whnf
    refine ⟨by omega, fun c59 => ?_, fun c59 => ?_⟩
    · conv => whnf
      obtain rfl : j = 7 := by omega
      rw [why_0 hb hp0] at h
      exact h
    · conv => whnf
      refine ⟨by omega, fun c65 => ?_, fun c65 => ?_⟩
      · conv => whnf
        refine ih (j + 1) (by omega) (fun i hi => ?_) (by omega)
        by_cases e : i = j
        · subst e
          rw [ovp, dc_not]
          rintro ⟨e1, e2, e3⟩
          exact e1 (by omega)
        · exact hp0 i (by omega)
      · conv => whnf
        refine ⟨(show (¬ (_ : Nat) = _) ∧ (¬ (_ : Nat) = _) from by omega), _, zp, ?_⟩
        conv => whnf
        refine zinv0 (s_X5_isOff T  (by exact zf) (by omega) (by first | assumption | omega | rfl | decide) (by exact hP.zR hw (by omega) (by omega)) ?_ ?_)
        · intro cha_74
          conv => whnf
          refine ⟨by decide, fun _ => ?_, fun c => absurd c (by decide)⟩
          conv => whnf
          refine ih (j + 1) (by omega) (fun i hi => ?_) (by omega)
          by_cases e : i = j
          · subst e
            rw [ovp, dc_not]
            rintro ⟨e1, e2, e3⟩
            exact e2 ((hP i (by omega) (by omega)).1.symm.trans cha_74)
          · exact hp0 i (by omega)
        · intro ch2a_74
          conv => whnf
          refine ⟨by decide, fun c => absurd c (by decide), fun _ => ?_⟩
          conv => whnf
          refine ⟨(show (¬ (_ : Nat) = _) ∧ (¬ (_ : Nat) = _) from by omega), _, zp, ?_⟩
          conv => whnf
          refine ⟨(show (¬ (_ : Nat) = _) ∧ (¬ (_ : Nat) = _) from by omega), _, zf, ?_⟩
          conv => whnf
          refine ⟨by omega, (show (¬ (_ : Nat) = _) ∧ (¬ (_ : Nat) = _) from by omega), ?_⟩
          conv => whnf
          have hFj : mF M j ≠ -1 := fun e => ch2a_74 ((hP j (by omega) (by omega)).1.trans e)
          obtain ⟨f1, f2, f3, f4, f5⟩ := hw.form (by omega) hFj
          obtain ⟨fx, fy⟩ := (hP j (by omega) (by omega)).2 hFj
          have ff := (hP j (by omega) (by omega)).1
          obtain ⟨gS2, gM2, -, -, -, -⟩ := hF (fi M j) f1
          obtain ⟨-, -, -, y3, y5⟩ := za_fm f1
          have y3' : za (2 + 5 * fi M j) 3 = 5 + 5 * fi M j + 1 := by rw [y3]; omega
          obtain ⟨v1, v2, v3, v4, v5⟩ := fS_box f1
          obtain ⟨i1, i2, i3, i4⟩ := id f5
          rw [ff]
          refine zinv0 (s_X11_formAt T (fi M j) (by omega) (by exact f1) ?_)
          conv => whnf
          refine ⟨(show (¬ (_ : Nat) = _) ∧ (¬ (_ : Nat) = _) from by omega), _, y3', ?_⟩
          conv => whnf
          refine ⟨(show (¬ (_ : Nat) = _) ∧ (¬ (_ : Nat) = _) from by omega), _, zp, ?_⟩
          conv => whnf
          refine ⟨(show (¬ (_ : Nat) = _) ∧ (¬ (_ : Nat) = _) from by omega), _, zx, ?_⟩
          conv => whnf
          refine ⟨by omega, (show (¬ (_ : Nat) = _) ∧ (¬ (_ : Nat) = _) from by omega), ?_⟩
          conv => whnf
          refine ⟨(show (¬ (_ : Nat) = _) ∧ (¬ (_ : Nat) = _) from by omega), _, zp, ?_⟩
          conv => whnf
          refine ⟨(show (¬ (_ : Nat) = _) ∧ (¬ (_ : Nat) = _) from by omega), _, zy, ?_⟩
          conv => whnf
          refine ⟨by omega, (show (¬ (_ : Nat) = _) ∧ (¬ (_ : Nat) = _) from by omega), ?_⟩
          conv => whnf
          rw [fx, fy, show mX M j = (((mX M j).toNat : Nat) : Int) by omega, show mY M j = (((mY M j).toNat : Nat) : Int) by omega]
          refine zinv0 (s_X8_overlap T (fS (8 * p + k)) (fS (fi M j)) (x2 := (mX M j).toNat) (y2 := (mY M j).toNat) (by exact z5) (by show (¬ (_ : Nat) = _) ∧ (¬ (_ : Nat) = _); omega) (by exact y5) (by show (¬ (_ : Nat) = _) ∧ (¬ (_ : Nat) = _); omega) (by exact gS) (by exact gS2) (by exact m5) (by exact t1) (by rw [t2]; have := d1; omega) (by have := fW_b f1; omega) (by exact fS_Bx (by omega) (by omega) (by omega)) (by exact fS_Bx f1 (by omega) (by omega)) ?_ ?_)
          · intro cha_128
            conv => whnf
            refine ⟨by decide, fun c => absurd c (by decide), fun _ => ?_⟩
            conv => whnf
            rw [why_2 (j := j) hb (by omega) hp0 (by rw [ovp, dc_iff]; exact ⟨by omega, hFj, cha_128⟩)] at h
            exact h
          · intro ch2a_128
            conv => whnf
            refine ⟨by decide, fun _ => ?_, fun c => absurd c (by decide)⟩
            conv => whnf
            refine T.fg [8] ?_
            refine ih (j + 1) (by omega) (fun i hi => ?_) (by omega)
            by_cases e : i = j
            · subst e
              rw [ovp, dc_not]
              rintro ⟨e1, e2, e3⟩
              exact ch2a_128 e3
            · exact hp0 i (by omega)
theorem s_X8_hindrance (T : ZTh (XX Ln xs) CZ RZ) {d b : Nat} {s p k W H : Nat} {x y : Int} (M : Mo) {I : ZI} {L : ZL} {Q : ZQ} (hs : s ∈ stR) (hF : FormOK I L) (hw : Wq W H M) (hW : I s 0 = W) (hH : I s 1 = H) (hP : PlC I (s + 1) M) (hpp : p < 7) (hk : 8 * p + k < 56 ∧ k < 8) (hx : zR x) (hy : zR y) (h : Q (.inl (some (.inl (why W H M p (8 * p + k) x y)))) I L) : CZ (d + 3) k_X8_hindrance [.inr (.ref s, 9), .inr (.ref 1, 110056), .inl ((p : Int)), .inl x, .inl y, .inl ((k : Int))] b I L Q := by
  refine T.call rfl ?_
  have hst := za_st hs
  have hpl := za_pl hs
  have hrn := st_rng hs
  obtain ⟨zp, zq, -, -, -⟩ := hst
  obtain ⟨zx, zy, zf⟩ := hpl
  obtain ⟨⟨w1, w2, w3, w4⟩, -⟩ := id hw
  obtain ⟨gS, gM, -, -, -, -⟩ := hF (8 * p + k) (by omega)
  obtain ⟨z1, -, -, z3, z5⟩ := za_fm (i := 8 * p + k) (by omega)
  have z3' : za (2 + 5 * (8 * p + k)) 3 = 5 + 5 * (8 * p + k) + 1 := by rw [z3]; omega
  obtain ⟨t1, t2, t3, t4, t5⟩ := fS_box (i := 8 * p + k) (by omega)
  obtain ⟨d1, d2, d3, d4, -, -⟩ := fW_b (i := 8 * p + k) (by omega)
  obtain ⟨m2, m3, m4, m5⟩ := gM.at
  rw [t4] at m4
  refine T.go [55] 90 ?_
  conv => whnf
  refine zinv0 (s_X11_formAt T (8 * p + k) (by omega) (by omega) ?_)
  conv => whnf
  refine ⟨(show (¬ (_ : Nat) = _) ∧ (¬ (_ : Nat) = _) from by omega), _, z3', ?_⟩
  conv => whnf
  refine ⟨by omega, fun c13 => ?_, fun c13 => ?_⟩
  · conv => whnf
    rw [why_1 (by unfold InB; omega)] at h
    exact h
  · conv => whnf
    refine ⟨by omega, fun c18 => ?_, fun c18 => ?_⟩
    · conv => whnf
      rw [why_1 (by unfold InB; omega)] at h
      exact h
    · conv => whnf
      refine ⟨(show (¬ (_ : Nat) = _) ∧ (¬ (_ : Nat) = _) from by omega), ?_⟩
      conv => whnf
      refine ⟨(show (¬ (_ : Nat) = _) ∧ (¬ (_ : Nat) = _) from by omega), ?_⟩
      conv => whnf
      refine ⟨by omega, fun c32 => ?_, fun c32 => ?_⟩
      · conv => whnf
        rw [why_1 (by unfold InB; omega)] at h
        exact h
      · conv => whnf
        refine ⟨(show (¬ (_ : Nat) = _) ∧ (¬ (_ : Nat) = _) from by omega), ?_⟩
        conv => whnf
        refine ⟨(show (¬ (_ : Nat) = _) ∧ (¬ (_ : Nat) = _) from by omega), ?_⟩
        conv => whnf
        refine ⟨by omega, fun c47 => ?_, fun c47 => ?_⟩
        · conv => whnf
          refine T.fg [5] ?_
          obtain ⟨xn, rfl⟩ := Int.eq_ofNat_of_zero_le c18
          obtain ⟨yn, rfl⟩ := Int.eq_ofNat_of_zero_le c13
          exact l_hindrance T hs hF hw hW hH hP hpp hk (by unfold InB; omega) h 8 0 (by omega) (fun i hi => by omega) (by omega)
        · conv => whnf
          rw [why_1 (by unfold InB; omega)] at h
          exact h
end
