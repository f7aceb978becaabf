/-! THE REFERENCE ANSWERS, 15: ways, the search whole -/
section
variable {Ln : Nat} {xs : Nat → Int32} {CZ : Nat → ZC} {RZ : Nat → Nat → ZQ → ZP}
theorem l_skW (T : ZTh (XX Ln xs) CZ RZ) {d b : Nat} {Q : ZQ} {most : Int} {R : Nat → Bool} {TG : Int × Mo} {I0 : ZI} {L : ZL} (hT0 : TabOK I0) (hmz : zR most) (h : ∀ I', Fr PSk I0 I' → I' 603 49 = TG.1 → (TG.1 = most → most = 1 → WayM I' R TG.2) → Q (.inl none) I' L) (m : Nat) : ∀ (x : Int) (mu : Nat) (I : ZI), (Fr PSk I0 I) → (SkH most R TG I x mu) → (mu : Int) < (m : Int) → RZ (d + 4) k_X12_seeks Q 67 [.inr (.ref 603, 13), zj, .inl most, .inl x] [] b I L := by
  induction m with
  | zero =>
    intro x mu I hfr hH hm
    exfalso
    omega
  | succ m ih =>
    intro x mu I hfr hH hm
    have hT := hT0.fr (fun a b g1 g2 => hfr a b (by unfold PSk; omega))
    obtain ⟨a, a1, a2, hx⟩ := hH
    have hxr : -1 ≤ x ∧ x ≤ 6 := by
      rcases hx with ⟨e, -⟩ | ⟨l, n, c, e1, e2, -⟩ <;> omega
    refine T.go [87] 90 ?_
    conv => whnf
    refine ⟨by omega, fun c68 => ?_, fun c68 => ?_⟩
    · conv => whnf
      obtain ⟨-, rfl⟩ : x = -1 ∧ a = TG := by
        rcases hx with g | ⟨l, n, c, e1, -⟩
        · exact g
        · omega
      exact h I hfr a1 (fun g => by omega)
    · conv => whnf
      obtain ⟨l, n, c, rfl, hl, hS, hcase⟩ := hx.resolve_left (fun g => by omega)
      have h38 : I 638 (l : Int) = -1 ∨ (I 638 (l : Int) = c l ∧ c l < 56) := by
        rcases hcase with ⟨-, e, -⟩ | ⟨e1, e, -⟩
        · exact Or.inl e
        · exact Or.inr ⟨e, (hS.2.2.1 l (by omega)).1⟩
      refine ⟨by decide, _, rfl, ?_⟩
      conv => whnf
      refine ⟨by omega, by decide, ?_⟩
      conv => whnf
      refine ⟨by omega, fun c78 => ?_, fun c78 => ?_⟩
      · conv => whnf
        obtain ⟨hnl, e38, eF, eM⟩ : n = l ∧ I 638 (l : Int) = -1 ∧ FinS most R c l 0 a = TG ∧ mu = muB c l + 57 * 58 ^ (6 - l) := by
          rcases hcase with g | ⟨e1, e, -⟩
          · exact g
          · omega
        obtain rfl : l = n := hnl.symm
        have lt3 : ∀ mu2 : Nat, mu2 < muB c l + (57 - 0) * 58 ^ (6 - l) → mu2 < mu := fun mu2 g => by rw [eM]; exact g
        exact l_skB T (k0 := 0) (c := c) (a := a) (TG := TG) (I0 := I0) hT0 hfr hS hl (by omega) (by omega) a1 a2 eF hmz (fun I2 x2 mu2 f2 h2 lt2 => ih x2 mu2 I2 f2 h2 (by have := lt3 _ lt2; omega)) (fun I2 f2 e2 e3 w2 => h I2 f2 e2 (fun _ => w2))
      · conv => whnf
        obtain ⟨hnl, e38, eF, eM⟩ := hcase.resolve_left (fun g => c78 g.2.1)
        subst hnl
        obtain ⟨b1, b2⟩ := hS.2.2.1 l (by omega)
        refine zinv0 (s_X12_changesChoice T (c := l) (k := c l) (q := qF (skR R c l)) (f := 0) (skR R c l) (by exact hT) (by omega) (by exact b1) (by exact okC_q b1 (qF_le _) b2) (by exact e38) (by exact hS.2.2.2.2 l (Nat.le_refl _)) (by exact (okC_iff.mp b2).2.2.2) (by exact Or.inl rfl) ?_)
        intro I_84 hf_84 hv_84 hu_84
        have hS2 : SkS I_84 R c l l := hS.undo hv_84 hu_84 (fun j hj => hf_84 _ _ (by unfold PCc; omega)) (fun j hj => hf_84 _ _ (by unfold PCc; omega))
        conv => whnf
        have eV : mu = muB c l + (57 - (c l + 1)) * 58 ^ (6 - l) := by rw [eM, show 57 - (c l + 1) = 56 - c l by omega]
        exact l_skB T (k0 := c l + 1) (c := c) (a := a) (TG := TG) (I0 := I0) hT0 (hfr.trans (hf_84.mono (fun a b g => by unfold PCc at g; unfold PSk; omega))) hS2 hl (by omega) (by rw [hf_84 _ _ (by unfold PCc; omega), e38]; omega) ((hf_84 _ _ (by unfold PCc; omega)).trans a1) a2 eF hmz (fun I2 x2 mu2 f2 h2 lt2 => ih x2 mu2 I2 f2 h2 (by rw [← eV] at lt2; omega)) (fun I2 f2 e2 e3 w2 => h I2 f2 e2 (fun _ => w2))
theorem sk_target {most : Int} {S : Nat → Bool} (hc : cn S 576 = 64) (c : Nat → Nat) : FinS most S c 0 0 (0, offM) = waysR most S := by
  unfold waysR
  rw [if_pos hc, SW_q]
  rfl
theorem l_sk0 (T : ZTh (XX Ln xs) CZ RZ) {d b : Nat} {Q : ZQ} {S : Nat → Bool} {I0 : ZI} {most : Int} {L : ZL} (hA : ArB I0 637 S) (hk2 : ∀ I', Fr (fun a _ => a = 640) I0 I' → (∀ e : Nat, e < 7 → I' 640 e = 0) → RZ (d + 4) k_X12_seeks Q 67 [.inr (.ref 603, 13), zj, .inl most, .inl 0] [] b (v2 (v2 I' 639 0 (qF S : Int)) 638 0 (-1)) L) (m : Nat) : ∀ (k : Nat) (I : ZI), (k ≤ 7) → (Fr (fun a _ => a = 640) I0 I) → (∀ e : Nat, e < k → I 640 e = 0) → 7 - (k : Int) < (m : Int) → RZ (d + 4) k_X12_seeks Q 29 [.inr (.ref 603, 13), zj, .inl most, .inl ((k : Int))] [] b I L := by
  induction m with
  | zero =>
    intro k I hk hfr hv hm
    exfalso
    omega
  | succ m ih =>
    intro k I hk hfr hv hm
    refine T.go [29, 67] 90 ?_
    conv => whnf
    refine ⟨by omega, fun c32 => ?_, fun c32 => ?_⟩
    · conv => whnf
      refine ⟨by decide, _, rfl, ?_⟩
      conv => whnf
      refine zinv0 (s_X12_firstLeft T S (by exact fun z hz => by rw [hfr _ _ (by show ¬ (637 : Nat) = 640; omega)]; exact hA z hz) ?_)
      conv => whnf
      refine ⟨by omega, by decide, ?_⟩
      conv => whnf
      refine ⟨by decide, _, rfl, ?_⟩
      conv => whnf
      refine ⟨by omega, by decide, ?_⟩
      conv => whnf
      obtain rfl : k = 7 := by omega
      exact hk2 I hfr hv
    · conv => whnf
      refine ⟨by decide, _, rfl, ?_⟩
      conv => whnf
      refine ⟨by omega, ⟨by decide, by decide, by omega⟩, ?_⟩
      conv => whnf
      refine ih (k + 1) _ (by omega) (hfr.v2 rfl) (fun e he => ?_) (by omega)
      by_cases c : e = k
      · rw [c, v2_eq]
      · rw [v2_ne (by omega)]
        exact hv e (by omega)
theorem s_X12_seeks (T : ZTh (XX Ln xs) CZ RZ) {d b : Nat} {k W H : Nat} {most : Int} (M : Mo) {I : ZI} {L : ZL} {Q : ZQ} (hT : TabOK I) (hR : RowM I 604 0 M) (hw : Wq W H M) (hk : k < mN M ∧ mN M ≤ 8) (hm : 1 ≤ most ∧ most ≤ 1000) (h : ∀ I', Fr PSk I I' → I' 603 49 = (waysR most (mS M k)).1 → ((waysR most (mS M k)).1 = most → most = 1 → WayM I' (mS M k) (waysR most (mS M k)).2) → Q (.inl none) I' L) : CZ (d + 5) k_X12_seeks [.inr (.ref 603, 13), .inl ((k : Int)), .inl most] b I L Q := by
  refine T.call rfl ?_
  refine T.go [29] 90 ?_
  conv => whnf
  refine ⟨by decide, ?_⟩
  conv => whnf
  refine ⟨by decide, _, rfl, ?_⟩
  conv => whnf
  refine zinv0 (s_takesK T (k := k) (W := W) (H := H) M (by exact hT.fr (fun a b g1 g2 => v2_ne (by omega))) (by exact hR.fr hk.2 (fun j _ _ => v2_ne (by omega))) (by exact hw) (by omega) (by exact hk) ?_)
  intro I_11 hf_11 hO_11 hS_11
  have hfr11 : Fr PSk I I_11 := ((Fr.refl I).v2 (by unfold PSk; omega)).trans (hf_11.mono (fun a b g => by unfold PSk; omega))
  have e49 : I_11 603 49 = 0 := (hf_11 _ _ (by omega)).trans (v2_eq _ _ _ _)
  have hcS := cn_nonneg (mS M k) 576
  have hcS2 := cn_le (mS M k) 576
  conv => whnf
  refine ⟨by decide, _, rfl, ?_⟩
  conv => whnf
  refine zinv0 (s_X12_sizeOf T (mS M k) (by decide) (by exact hS_11) ?_)
  conv => whnf
  refine ⟨by exact ⟨⟨by omega, by omega⟩, ⟨by omega, by omega⟩⟩, fun c23 => ?_, fun c23 => ?_⟩
  · conv => whnf
    refine T.fg [1] ?_
    refine l_sk0 T (S := mS M k) (I0 := I_11) hS_11 (fun I1 f1 z1 => ?_) 8 0 I_11 (by omega) (Fr.refl _) (fun e he => absurd he (Nat.not_lt_zero e)) (by omega)
    have hfr2 : Fr PSk I (v2 (v2 I1 639 0 (qF (mS M k) : Int)) 638 0 (-1)) := ((hfr11.trans (f1.mono (fun a b g => by unfold PSk; omega))).v2 (by unfold PSk; omega)).v2 (by unfold PSk; omega)
    refine l_skW T (most := most) (R := mS M k) (TG := waysR most (mS M k)) (I0 := I) hT ⟨by omega, by omega⟩ (fun I2 f2 e2 w2 => h I2 f2 e2 w2) (muB (fun _ => 0) 0 + 57 * 58 ^ (6 - 0) + 1) 0 (muB (fun _ => 0) 0 + 57 * 58 ^ (6 - 0)) _ hfr2 ⟨(0, offM), ?_, ⟨Int.le_refl _, by show (0 : Int) < most; omega⟩, Or.inr ⟨0, 0, fun _ => 0, rfl, by omega, ⟨fun z hz => ?_, fun p hp => ?_, fun j hj => absurd hj (Nat.not_lt_zero j), fun j hj => absurd hj (Nat.not_lt_zero j), fun j hj => ?_⟩, Or.inl ⟨rfl, v2_eq _ _ _ _, sk_target c23 _, rfl⟩⟩⟩ (Int.ofNat_lt.mpr (Nat.lt_succ_self _))
    · rw [v2_ne (by omega), v2_ne (by omega), f1 _ _ (by omega)]; exact e49
    · rw [v2_ne (by omega), v2_ne (by omega), f1 _ _ (by omega)]; exact hS_11 z hz
    · rw [v2_ne (by omega), v2_ne (by omega)]; exact z1 p hp
    · obtain rfl : j = 0 := by omega
      rw [v2_ne (by omega)]
      exact v2_eq _ _ _ _
  · conv => whnf
    have ew : waysR most (mS M k) = (0, offM) := if_neg c23
    refine h I_11 hfr11 ?_ (fun g => ?_)
    · rw [ew]; exact e49
    · rw [ew] at g
      have g' : (0 : Int) = most := g
      omega
end
