/-! QUESTIONS, 8 -/
section
variable {Ln : Nat} {xs : Nat → Int32} {CZ : Nat → ZC} {RZ : Nat → Nat → ZQ → ZP}
/-- the first number from k on, of m, where f is not -1 -/
def fnd (f : Nat → Int) : Nat → Nat → Int
  | 0, _ => -1
  | m + 1, k => if f k = -1 then fnd f m (k + 1) else (k : Int)
noncomputable def findA (M : Mo) : Int := fnd (fun k => flk (sil M) (mS M k) 8 0) (mN M) 0
noncomputable def fok (M : Mo) (k : Nat) : Int := fnd (fun j => flk (mS M k) (mS M j) 8 0) k 0
noncomputable def kindsA (M : Mo) : Int := cn (fun k => decide (fok M k = -1)) (mN M)
theorem fnd_t {f : Nat → Int} {m k : Nat} (h : f k = -1) : fnd f (m + 1) k = fnd f m (k + 1) := if_pos h
theorem fnd_f {f : Nat → Int} {m k : Nat} (h : ¬ f k = -1) : fnd f (m + 1) k = k := if_neg h
theorem l_find (T : ZTh (XX Ln xs) CZ RZ) {d b : Nat} {Q : ZQ} {W H n bl : Nat} {M : Mo} {P SL : Nat → Mo} {u : Nat → Int} {I : ZI} {L : ZL} (hC : CB I L W H M P n SL bl u) (hL : LkOK I L (sil M) (fun _ => True)) (m : Nat) : ∀ (k : Nat), (k ≤ mN M) → (Q (.inl (some (.inl (fnd (fun k => flk (sil M) (mS M k) 8 0) (mN M - k) k)))) I L) → (mN M : Int) - (k : Int) < (m : Int) → RZ (d + 4) k_X11_find Q 16 [.inr (.ref 0, 12), .inl ((k : Int))] [] b I L := by
  induction m with
  | zero =>
    intro k hk h hm
    exfalso
    omega
  | succ m ih =>
    intro k hk h hm
    obtain ⟨cF, cS, cW, cSil, cPa, cPw, cSl, cFi, cb1, cb2, cb3⟩ := id hC
    obtain ⟨t1, t2, t3, t4, t5⟩ := id cS
    obtain ⟨⟨⟨w1, w2, w3, w4⟩, -⟩, w5, w6⟩ := id cW
    have zz9 := fun h : k < 8 => za_shp (k := k) h
    have t59 : ∀ j : Nat, j < mN M → RgS L (288 + 2 * j) (mS M j) ∧ RgM I (288 + 2 * j) (mS M j) := t5
    refine T.go [16] 90 ?_
    conv => whnf
    refine ⟨by decide, _, rfl, ?_⟩
    conv => whnf
    refine ⟨by decide, ?_⟩
    conv => whnf
    refine ⟨by omega, fun c24 => ?_, fun c24 => ?_⟩
    · conv => whnf
      rw [show mN M - k = 0 by omega] at h
      exact h
    · conv => whnf
      refine ⟨by decide, _, rfl, ?_⟩
      conv => whnf
      refine ⟨by decide, _, rfl, ?_⟩
      conv => whnf
      refine ⟨by decide, _, rfl, ?_⟩
      conv => whnf
      refine ⟨by omega, by decide, _, (zz9 (by omega)).1, ?_⟩
      conv => whnf
      refine zinv0 (s_X2_firstLike T (sil M) (mS M k) (by exact (zz9 (by omega)).2) (by show (¬ (_ : Nat) = _) ∧ (¬ (_ : Nat) = _); omega) (by exact (t59 k (by omega)).1) (by exact (t59 k (by omega)).2) (by exact hL) ?_)
      have hfz := flk_z (sil M) (mS M k)
      obtain ⟨j, hj⟩ : ∃ j, mN M - k = j + 1 := ⟨mN M - k - 1, by omega⟩
      rw [hj] at h
      conv => whnf
      refine ⟨by omega, fun c44 => ?_, fun c44 => ?_⟩
      · conv => whnf
        exact ih (k + 1) (by omega) (by rw [show mN M - (k + 1) = j by omega, ← fnd_t (f := fun k => flk (sil M) (mS M k) 8 0) (by omega)]; exact h) (by omega)
      · conv => whnf
        rw [fnd_f (by omega)] at h
        exact h
theorem s_X11_find (T : ZTh (XX Ln xs) CZ RZ) {d b : Nat} {W H n bl : Nat} {M : Mo} {P SL : Nat → Mo} {u : Nat → Int}  {I : ZI} {L : ZL} {Q : ZQ} (hC : CB I L W H M P n SL bl u) (h : ∀ I' L', Fr PQ I I' → Fr PQ L L' → CB I' L' W H M P n SL bl u → Q (.inl (some (.inl (findA M)))) I' L') : CZ (d + 5) k_X11_find [.inr (.ref 0, 12)] b I L Q := by
  refine T.call rfl ?_
  obtain ⟨cF, cS, cW, cSil, cPa, cPw, cSl, cFi, cb1, cb2, cb3⟩ := id hC
  obtain ⟨t1, t2, t3, t4, t5⟩ := id cS
  obtain ⟨⟨⟨w1, w2, w3, w4⟩, -⟩, w5, w6⟩ := id cW
  refine T.go [16] 90 ?_
  conv => whnf
  refine ⟨by decide, _, rfl, ?_⟩
  conv => whnf
  refine ⟨by decide, _, rfl, ?_⟩
  conv => whnf
  refine ⟨by decide, _, rfl, ?_⟩
  conv => whnf
  refine zinv0 (s_X2_makeOf T (sil M) (by rfl) (by omega) (by exact cSil.2.1) (by exact cSil.2.2.1) ?_)
  intro I_11 L_11 hf_11 hg_11 hL_11
  conv => whnf
  exact l_find T (hC.frk hf_11 hg_11) hL_11 (mN M + 1) 0 (by omega) (h _ _ (hf_11.mono PLk_PQ) (hg_11.mono PLk_PQ) (hC.frk hf_11 hg_11)) (by omega)
theorem l_fok (T : ZTh (XX Ln xs) CZ RZ) {d b : Nat} {Q : ZQ} {k : Nat} {W H n bl : Nat} {M : Mo} {P SL : Nat → Mo} {u : Nat → Int} {I : ZI} {L : ZL} (hC : CB I L W H M P n SL bl u) (hk : k < mN M) (hL : LkOK I L (mS M k) (fun _ => True)) (m : Nat) : ∀ (j : Nat), (j ≤ k) → (fnd (fun j => flk (mS M k) (mS M j) 8 0) (k - j) j = -1 → Q (.inl (some (.inl 1))) I L) → (¬ fnd (fun j => flk (mS M k) (mS M j) 8 0) (k - j) j = -1 → Q (.inl (some (.inl 0))) I L) → (k : Int) - (j : Int) < (m : Int) → RZ (d + 4) k_X11_isFirstOfKind Q 18 [.inr (.ref 0, 12), .inl ((k : Int)), .inl ((j : Int))] [] b I L := by
  induction m with
  | zero =>
    intro j hj h h2 hm
    exfalso
    omega
  | succ m ih =>
    intro j hj h h2 hm
    obtain ⟨cF, cS, cW, cSil, cPa, cPw, cSl, cFi, cb1, cb2, cb3⟩ := id hC
    obtain ⟨t1, t2, t3, t4, t5⟩ := id cS
    obtain ⟨⟨⟨w1, w2, w3, w4⟩, -⟩, w5, w6⟩ := id cW
    have zz9 := fun h : j < 8 => za_shp (k := j) h
    have t59 : ∀ j : Nat, j < mN M → RgS L (288 + 2 * j) (mS M j) ∧ RgM I (288 + 2 * j) (mS M j) := t5
    refine T.go [18] 90 ?_
    conv => whnf
    refine ⟨by omega, fun c20 => ?_, fun c20 => ?_⟩
    · conv => whnf
      refine ⟨by omega, ?_⟩
      rw [show k - j = 0 by omega] at h
      exact h rfl
    · conv => whnf
      refine ⟨by decide, _, rfl, ?_⟩
      conv => whnf
      refine ⟨by decide, _, rfl, ?_⟩
      conv => whnf
      refine ⟨by decide, _, rfl, ?_⟩
      conv => whnf
      refine ⟨by omega, by decide, _, (zz9 (by omega)).1, ?_⟩
      conv => whnf
      refine zinv0 (s_X2_firstLike T (mS M k) (mS M j) (by exact (zz9 (by omega)).2) (by show (¬ (_ : Nat) = _) ∧ (¬ (_ : Nat) = _); omega) (by exact (t59 j (by omega)).1) (by exact (t59 j (by omega)).2) (by exact hL) ?_)
      have hfz := flk_z (mS M k) (mS M j)
      obtain ⟨m2, hm2⟩ : ∃ m2, k - j = m2 + 1 := ⟨k - j - 1, by omega⟩
      rw [hm2] at h h2
      conv => whnf
      refine ⟨by omega, fun c40 => ?_, fun c40 => ?_⟩
      · conv => whnf
        rw [fnd_t (f := fun j => flk (mS M k) (mS M j) 8 0) (by omega)] at h h2
        exact ih (j + 1) (by omega) (by rw [show k - (j + 1) = m2 by omega]; exact h) (by rw [show k - (j + 1) = m2 by omega]; exact h2) (by omega)
      · conv => whnf
        refine ⟨by omega, ?_⟩
        rw [fnd_f (by omega)] at h2
        exact h2 (by omega)
theorem s_X11_isFirstOfKind (T : ZTh (XX Ln xs) CZ RZ) {d b : Nat} {k : Nat} {W H n bl : Nat} {M : Mo} {P SL : Nat → Mo} {u : Nat → Int} {I : ZI} {L : ZL} {Q : ZQ} (hC : CB I L W H M P n SL bl u) (hk : k < mN M) (h : ∀ I' L', Fr PQ I I' → Fr PQ L L' → CB I' L' W H M P n SL bl u → fok M k = -1 → Q (.inl (some (.inl (1)))) I' L') (h2 : ∀ I' L', Fr PQ I I' → Fr PQ L L' → CB I' L' W H M P n SL bl u → ¬ fok M k = -1 → Q (.inl (some (.inl (0)))) I' L') : CZ (d + 5) k_X11_isFirstOfKind [.inr (.ref 0, 12), .inl ((k : Int))] b I L Q := by
  refine T.call rfl ?_
  obtain ⟨cF, cS, cW, cSil, cPa, cPw, cSl, cFi, cb1, cb2, cb3⟩ := id hC
  obtain ⟨t1, t2, t3, t4, t5⟩ := id cS
  obtain ⟨⟨⟨w1, w2, w3, w4⟩, -⟩, w5, w6⟩ := id cW
  have zz9 := fun h : k < 8 => za_shp (k := k) h
  have t59 : ∀ j : Nat, j < mN M → RgS L (288 + 2 * j) (mS M j) ∧ RgM I (288 + 2 * j) (mS M j) := t5
  refine T.go [18] 90 ?_
  conv => whnf
  refine ⟨by decide, _, rfl, ?_⟩
  conv => whnf
  refine ⟨by decide, _, rfl, ?_⟩
  conv => whnf
  refine ⟨by decide, _, rfl, ?_⟩
  conv => whnf
  refine ⟨by omega, by decide, _, (zz9 (by omega)).1, ?_⟩
  conv => whnf
  refine zinv0 (s_X2_makeOf T (mS M k) (by exact (zz9 (by omega)).2) (by omega) (by exact (t59 k hk).1) (by exact (t59 k hk).2) ?_)
  intro I_13 L_13 hf_13 hg_13 hL_13
  conv => whnf
  exact l_fok T (hC.frk hf_13 hg_13) hk hL_13 (k + 1) 0 (by omega) (h _ _ (hf_13.mono PLk_PQ) (hg_13.mono PLk_PQ) (hC.frk hf_13 hg_13)) (h2 _ _ (hf_13.mono PLk_PQ) (hg_13.mono PLk_PQ) (hC.frk hf_13 hg_13)) (by omega)
theorem l_kinds (T : ZTh (XX Ln xs) CZ RZ) {d b : Nat} {Q : ZQ} {W H n bl : Nat} {M : Mo} {P SL : Nat → Mo} {u : Nat → Int} {I0 : ZI} {L0 : ZL} (h : ∀ I' L', Fr PQ I0 I' → Fr PQ L0 L' → CB I' L' W H M P n SL bl u → Q (.inl (some (.inl (kindsA M)))) I' L') (m : Nat) : ∀ (k : Nat) (c : Int) (I : ZI) (L : ZL), (k ≤ mN M) → (c = cn (fun k => decide (fok M k = -1)) k) → (Fr PQ I0 I) → (Fr PQ L0 L) → (CB I L W H M P n SL bl u) → (mN M : Int) - (k : Int) < (m : Int) → RZ (d + 5) k_X11_kinds Q 4 [.inr (.ref 0, 12), .inl c, .inl ((k : Int))] [] b I L := by
  induction m with
  | zero =>
    intro k c I L hk hc hfr hgr hC hm
    exfalso
    omega
  | succ m ih =>
    intro k c I L hk hc hfr hgr hC hm
    obtain ⟨cF, cS, cW, cSil, cPa, cPw, cSl, cFi, cb1, cb2, cb3⟩ := id hC
    obtain ⟨t1, t2, t3, t4, t5⟩ := id cS
    obtain ⟨⟨⟨w1, w2, w3, w4⟩, -⟩, w5, w6⟩ := id cW
    have hc1 := cn_nonneg (fun k => decide (fok M k = -1)) k
    have hc2 := cn_le (fun k => decide (fok M k = -1)) k
    refine T.go [4] 90 ?_
    conv => whnf
    refine ⟨by decide, _, rfl, ?_⟩
    conv => whnf
    refine ⟨by decide, ?_⟩
    conv => whnf
    refine ⟨by omega, fun c12 => ?_, fun c12 => ?_⟩
    · conv => whnf
      obtain rfl : k = mN M := by omega
      rw [hc]
      exact h _ _ hfr hgr hC
    · conv => whnf
      refine zinv0 (s_X11_isFirstOfKind T  (by exact hC) (by omega) ?_ ?_)
      · intro I_17 L_17 hf_17 hg_17 hC_17 hv_17
        conv => whnf
        refine ⟨by decide, fun c => absurd c (by decide), fun _ => ?_⟩
        conv => whnf
        refine ih (k + 1) _ _ _ (by omega) ?_ (hfr.trans hf_17) (hgr.trans hg_17) hC_17 (by omega)
        rw [cn_s, hc]
        simp [hv_17]
      · intro I_17 L_17 hf_17 hg_17 hC_17 hv_17
        conv => whnf
        refine ⟨by decide, fun _ => ?_, fun c => absurd c (by decide)⟩
        conv => whnf
        refine ih (k + 1) _ _ _ (by omega) ?_ (hfr.trans hf_17) (hgr.trans hg_17) hC_17 (by omega)
        rw [cn_s, hc]
        simp [hv_17]
theorem s_X11_kinds (T : ZTh (XX Ln xs) CZ RZ) {d b : Nat} {W H n bl : Nat} {M : Mo} {P SL : Nat → Mo} {u : Nat → Int}  {I : ZI} {L : ZL} {Q : ZQ} (hC : CB I L W H M P n SL bl u) (h : ∀ I' L', Fr PQ I I' → Fr PQ L L' → CB I' L' W H M P n SL bl u → Q (.inl (some (.inl (kindsA M)))) I' L') : CZ (d + 6) k_X11_kinds [.inr (.ref 0, 12)] b I L Q := by
  refine T.call rfl ?_
  refine T.go [4] 90 ?_
  conv => whnf
  exact l_kinds T h (mN M + 1) 0 0 _ _ (by omega) rfl (Fr.refl _) (Fr.refl _) hC (by omega)
end
