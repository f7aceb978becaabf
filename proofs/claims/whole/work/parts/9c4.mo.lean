/-! THE REFERENCE, 4: owners -/
section
variable {Ln : Nat} {xs : Nat → Int32} {CZ : Nat → ZC} {RZ : Nat → Nat → ZQ → ZP}
theorem lz_shf {i f q : Nat} (hi : i < 56) : dc (∃ j2, j2 < pN (i / 8) ∧ f + lz i j2 = q) = shf (fS i) f q := by
  unfold shf
  apply Bool.eq_iff_iff.mpr
  rw [dc_iff, Bool.and_eq_true, decide_eq_true_iff]
  constructor
  · rintro ⟨j, h1, h2⟩
    refine ⟨by omega, ?_⟩
    rw [show q - f = lz i j by omega]
    exact (lz_in hi h1).1
  · rintro ⟨h1, h2⟩
    obtain ⟨j, h3, h4⟩ := lz_ex hi h2
    exact ⟨j, h3, by omega⟩
theorem l_covers (T : ZTh (XX Ln xs) CZ RZ) {d b : Nat} {Q : ZQ} {p k X Y : Nat} {c : Int} {I0 : ZI} {L : ZL} (hT : TabOK I0) (hp : p < 7) (hk : k < 8) (hX : X + fW (8 * p + k) ≤ 12 ∧ Y + fH (8 * p + k) ≤ 12) (h : ∀ I', Fr (fun a _ => a = 620) I0 I' → (∀ q : Nat, q < 576 → I' 620 (q : Int) = if shf (fS (8 * p + k)) (48 * Y + 4 * X) q = true then c else I0 620 (q : Int)) → Q (.inl none) I' L) (m : Nat) : ∀ (j : Nat) (I : ZI), (j ≤ pN p) → (Fr (fun a _ => a = 620) I0 I) → ((∀ q : Nat, q < 576 → I 620 (q : Int) = if dc (∃ j2, j2 < j ∧ 48 * Y + 4 * X + lz (8 * p + k) j2 = q) = true then c else I0 620 (q : Int))) → 16 - (j : Int) < (m : Int) → RZ (d + 1) k_X12_covers Q 3 [.inr (.ref 603, 13), .inl ((p : Int)), .inl ((X : Int)), .inl ((Y : Int)), .inl ((k : Int)), .inl c, .inl ((j : Int)), zj] [] b I L := by
  induction m with
  | zero =>
    intro j I hj hfr hv hm
    have h16 := pN_16 p
    exfalso
    omega
  | succ m ih =>
    intro j I hj hfr hv hm
    have h16 := pN_16 p
    obtain ⟨-, -, -, g4⟩ := hT.1 p hp
    have e614 : I 614 (p : Int) = pN p := (hfr _ _ (by omega)).trans g4
    have hi8 : (8 * p + k) / 8 = p := by omega
    have hb := fW_b (i := 8 * p + k) (by omega)
    refine T.go [3] 90 ?_
    conv => whnf
    refine ⟨by decide, _, rfl, ?_⟩
    conv => whnf
    refine ⟨by omega, by decide, ?_⟩
    conv => whnf
    refine ⟨by rw [e614]; omega, fun c11 => ?_, fun c11 => ?_⟩
    · conv => whnf
      rw [e614] at c11
      obtain rfl : j = pN p := by omega
      refine h I hfr (fun q hq => ?_)
      rw [hv q hq]
      have e := lz_shf (i := 8 * p + k) (f := 48 * Y + 4 * X) (q := q) (by omega)
      rw [hi8] at e
      rw [e]
    · conv => whnf
      rw [e614] at c11
      have hin := lz_in (i := 8 * p + k) (k := j) (by omega) (by rw [hi8]; omega)
      obtain ⟨t1, t2, t3⟩ := hT.2.2.1 (8 * p + k) j (by omega) (by omega)
      rw [← hfr _ _ (by omega)] at t1 t2 t3
      have hlz : lz (8 * p + k) j = 48 * lY (8 * p + k) j + 4 * lX (8 * p + k) j + lQ (8 * p + k) j := rfl
      refine zinv0 (s_X12_lookAt T   ?_)
      conv => whnf
      rw [show 128 * (p : Int) + 16 * (k : Int) + (j : Int) = ((16 * (8 * p + k) + j : Nat) : Int) by omega]
      refine ⟨by decide, _, rfl, ?_⟩
      conv => whnf
      refine ⟨by decide, _, rfl, ?_⟩
      conv => whnf
      refine ⟨by omega, by decide, ?_⟩
      conv => whnf
      refine ⟨by decide, _, rfl, ?_⟩
      conv => whnf
      refine ⟨by omega, by decide, ?_⟩
      conv => whnf
      refine ⟨by decide, _, rfl, ?_⟩
      conv => whnf
      refine ⟨by omega, by decide, ?_⟩
      conv => whnf
      rw [t1, t2, t3, show 4 * (12 * ((Y : Int) + ((lY (8 * p + k) j : Nat) : Int)) + (X : Int) + ((lX (8 * p + k) j : Nat) : Int)) + ((lQ (8 * p + k) j : Nat) : Int) = ((48 * Y + 4 * X + lz (8 * p + k) j : Nat) : Int) by omega]
      refine ⟨by omega, by decide, ?_⟩
      conv => whnf
      refine T.fg [7] ?_
      refine ih (j + 1) _ (by omega) (hfr.v2 rfl) (fun q hq => ?_) (by omega)
      by_cases e : q = 48 * Y + 4 * X + lz (8 * p + k) j
      · rw [e, v2_eq, if_pos (dc_iff.mpr ⟨j, by omega, rfl⟩)]
      · rw [v2_ne (by omega), hv q hq]
        have e2 : dc (∃ j2, j2 < j ∧ 48 * Y + 4 * X + lz (8 * p + k) j2 = q) = dc (∃ j2, j2 < j + 1 ∧ 48 * Y + 4 * X + lz (8 * p + k) j2 = q) := dc_congr ⟨fun ⟨j2, a, b⟩ => ⟨j2, by omega, b⟩, fun ⟨j2, a, b⟩ => ⟨j2, by
          by_cases ej : j2 = j
          · rw [ej] at b; omega
          · omega, b⟩⟩
        rw [e2]
theorem s_X12_covers (T : ZTh (XX Ln xs) CZ RZ) {d b : Nat} {p k X Y : Nat} {c : Int} {I : ZI} {L : ZL} {Q : ZQ} (hT : TabOK I) (hp : p < 7) (hk : k < 8) (hX : X + fW (8 * p + k) ≤ 12 ∧ Y + fH (8 * p + k) ≤ 12) (h : ∀ I', Fr (fun a _ => a = 620) I I' → (∀ q : Nat, q < 576 → I' 620 (q : Int) = if shf (fS (8 * p + k)) (48 * Y + 4 * X) q = true then c else I 620 (q : Int)) → Q (.inl none) I' L) : CZ (d + 2) k_X12_covers [.inr (.ref 603, 13), .inl ((p : Int)), .inl ((X : Int)), .inl ((Y : Int)), .inl ((k : Int)), .inl c] b I L Q := by
  refine T.call rfl ?_
  refine T.go [3] 90 ?_
  conv => whnf
  exact l_covers T hT hp hk hX h 17 0 I (Nat.zero_le _) (Fr.refl I) (fun q hq => by rw [dc_not.mpr (fun ⟨j2, a, _⟩ => absurd a (Nat.not_lt_zero j2))]; rfl) (by omega)
theorem l_lowB (T : ZTh (XX Ln xs) CZ RZ) {d b : Nat} {Q : ZQ} {r W H : Nat} {M : Mo} {I0 : ZI} {L : ZL} (hT : TabOK I0) (hn : r ≠ 304 ∧ r ≠ 578 ∧ r ≠ 620) (hR : RowM I0 r 0 M) (hw : Wq W H M) (h : ∀ I', Fr (fun a _ => a = 620) I0 I' → (∀ q : Nat, q < 576 → I' 620 (q : Int) = own M q) → Q (.inl none) I' L) (m : Nat) : ∀ (p : Nat) (I : ZI), (p ≤ 7) → (Fr (fun a _ => a = 620) I0 I) → (∀ q : Nat, q < 576 → I 620 (q : Int) = ow M p q) → 7 - (p : Int) < (m : Int) → RZ (d + 2) k_X12_laysOwners Q 24 [.inr (.ref 603, 13), .inr (.ref r, 10173), .inl ((p : Int)), zj] [] b I L := by
  induction m with
  | zero =>
    intro p I hp hfr hv hm
    exfalso
    omega
  | succ m ih =>
    intro p I hp hfr hv hm
    have hR2 : p < 7 → ∀ w : Nat, w < 4 → I r (1 + 4 * (p : Int) + (w : Int)) = tlM M p w := fun h w hw' => by rw [hfr _ _ (by exact hn.2.2)]; exact hR.at h hw'
    obtain ⟨⟨w1, w2, w3, w4⟩, -, -⟩ := id hw
    refine T.go [24] 90 ?_
    conv => whnf
    refine ⟨by omega, fun c27 => ?_, fun c27 => ?_⟩
    · conv => whnf
      obtain rfl : p = 7 := by omega
      exact h I hfr hv
    · conv => whnf
      have r0 := hR2 (by omega) 0 (by omega)
      have r1 := hR2 (by omega) 1 (by omega)
      have r2 := hR2 (by omega) 2 (by omega)
      have r3 := hR2 (by omega) 3 (by omega)
      have hz2 := tlM_z hw (p := p) (by omega) (w := 2) (by omega)
      have hm2 := tlM_2 hw (p := p) (by omega)
      replace r0 : I r (1 + 4 * (p : Int) + 0) = tlM M p (0 : Nat) := r0
      replace r1 : I r (1 + 4 * (p : Int) + 1) = tlM M p (1 : Nat) := r1
      replace r2 : I r (1 + 4 * (p : Int) + 2) = tlM M p (2 : Nat) := r2
      replace r3 : I r (1 + 4 * (p : Int) + 3) = tlM M p (3 : Nat) := r3
      refine ⟨by exact ⟨by omega, by omega⟩, (show (¬ (_ : Nat) = _) ∧ (¬ (_ : Nat) = _) from by omega), ?_⟩
      conv => whnf
      refine ⟨by rw [r2]; exact ⟨⟨by omega, by omega⟩, ⟨by omega, by omega⟩⟩, fun c42 => ?_, fun c42 => ?_⟩
      · conv => whnf
        refine T.fg [3] ?_
        have hof : mF M p = -1 := hm2.mp (r2.symm.trans c42)
        refine ih (p + 1) I (by omega) hfr (fun q hq => ?_) (by omega)
        rw [ow_s, if_neg (fun g => g.1 hof)]
        exact hv q hq
      · conv => whnf
        refine ⟨by omega, (show (¬ (_ : Nat) = _) ∧ (¬ (_ : Nat) = _) from by omega), ?_⟩
        conv => whnf
        refine ⟨by omega, (show (¬ (_ : Nat) = _) ∧ (¬ (_ : Nat) = _) from by omega), ?_⟩
        conv => whnf
        refine ⟨by omega, (show (¬ (_ : Nat) = _) ∧ (¬ (_ : Nat) = _) from by omega), ?_⟩
        conv => whnf
        refine ⟨by omega, (show (¬ (_ : Nat) = _) ∧ (¬ (_ : Nat) = _) from by omega), ?_⟩
        conv => whnf
        rw [r0, r1, r2, r3]
        have hof : ¬ mF M p = -1 := fun e => c42 (by rw [r2]; exact hm2.mpr e)
        obtain ⟨b1, b2, b3, b4, b5, b6, b7, b8⟩ := hw.form (by omega) hof
        have e0 : tlM M p (0 : Nat) = (((mX M p).toNat : Nat) : Int) := by
          unfold tlM
          rw [if_neg hof, if_pos (by omega)]
          omega
        have e1 : tlM M p (1 : Nat) = (((mY M p).toNat : Nat) : Int) := by
          unfold tlM
          rw [if_neg hof, if_neg (by omega), if_pos (by omega)]
          omega
        have e23 : 2 * tlM M p (2 : Nat) + tlM M p (3 : Nat) = (((mF M p).toNat : Nat) : Int) := by
          unfold tlM
          rw [if_neg hof, if_neg (by omega), if_neg (by omega), if_pos (by omega), if_neg hof, if_neg (by omega), if_neg (by omega), if_neg (by omega)]
          omega
        rw [e0, e1, e23]
        have hfi : fi M p = 8 * p + (mF M p).toNat := rfl
        refine zinv0 (s_X12_covers T (k := (mF M p).toNat) (X := (mX M p).toNat) (Y := (mY M p).toNat) (by exact hT.fr (fun a b _ _ => hfr _ _ (by omega))) (by omega) (by omega) (by rw [← hfi]; omega) ?_)
        intro I_71 hf_71 hv_71
        conv => whnf
        refine T.fg [3] ?_
        refine ih (p + 1) I_71 (by omega) (hfr.trans hf_71) (fun q hq => ?_) (by omega)
        rw [hv_71 q hq, hv q hq, ow_s]
        have hcv : cvr M p q = shf (fS (8 * p + (mF M p).toNat)) (48 * (mY M p).toNat + 4 * (mX M p).toNat) q := rfl
        rw [← hcv]
        by_cases e : cvr M p q = true
        · rw [if_pos e, if_pos ⟨hof, e⟩]
        · rw [if_neg e, if_neg (fun g => e g.2)]
theorem l_lowA (T : ZTh (XX Ln xs) CZ RZ) {d b : Nat} {Q : ZQ} {r : Nat} {I0 : ZI} {L : ZL} (hk : ∀ I', Fr (fun a _ => a = 620) I0 I' → (∀ x : Nat, x < 576 → I' 620 (x : Int) = -1) → RZ (d + 2) k_X12_laysOwners Q 24 [.inr (.ref 603, 13), .inr (.ref r, 10173), .inl 0, zj] [] b I' L) (m : Nat) : ∀ (q : Nat) (I : ZI), (q ≤ 576) → (Fr (fun a _ => a = 620) I0 I) → (∀ x : Nat, x < q → I 620 (x : Int) = -1) → 576 - (q : Int) < (m : Int) → RZ (d + 2) k_X12_laysOwners Q 2 [.inr (.ref 603, 13), .inr (.ref r, 10173), .inl ((q : Int)), zj] [] b I L := by
  induction m with
  | zero =>
    intro q I hq hfr hv hm
    exfalso
    omega
  | succ m ih =>
    intro q I hq hfr hv hm
    refine T.go [2, 24] 90 ?_
    conv => whnf
    refine ⟨by omega, fun c6 => ?_, fun c6 => ?_⟩
    · conv => whnf
      exact hk I hfr (fun x hx => hv x (by omega))
    · conv => whnf
      refine ⟨by decide, _, rfl, ?_⟩
      conv => whnf
      refine ⟨by omega, by decide, ?_⟩
      conv => whnf
      refine ih (q + 1) _ (by omega) (hfr.v2 rfl) (fun x hx => ?_) (by omega)
      by_cases e : x = q
      · rw [e, v2_eq]
      · rw [v2_ne (by omega)]; exact hv x (by omega)
theorem s_X12_laysOwners (T : ZTh (XX Ln xs) CZ RZ) {d b : Nat} {r W H : Nat} {M : Mo} {I : ZI} {L : ZL} {Q : ZQ} (hT : TabOK I) (hn : r ≠ 304 ∧ r ≠ 578 ∧ r ≠ 620) (hR : RowM I r 0 M) (hw : Wq W H M) (h : ∀ I', Fr (fun a _ => a = 620) I I' → (∀ q : Nat, q < 576 → I' 620 (q : Int) = own M q) → Q (.inl none) I' L) : CZ (d + 3) k_X12_laysOwners [.inr (.ref 603, 13), .inr (.ref r, 10173)] b I L Q := by
  refine T.call rfl ?_
  refine T.go [2] 90 ?_
  conv => whnf
  refine l_lowA T (I0 := I) (fun I1 f1 v1' => ?_) 577 0 I (by omega) (Fr.refl I) (fun x hx => absurd hx (Nat.not_lt_zero x)) (by omega)
  exact l_lowB T (I0 := I) hT hn hR hw h 8 0 I1 (by omega) f1 v1' (by omega)
end
