/-! THE REFERENCE ANSWERS, 1 -/
section
variable {Ln : Nat} {xs : Nat → Int32} {CZ : Nat → ZC} {RZ : Nat → Nat → ZQ → ZP}
theorem s_fails0 (T : ZTh (XX Ln xs) CZ RZ) {d b : Nat}  {I : ZI} {L : ZL} {Q : ZQ}  (h : Q (.inl (some (.inl (0)))) (v2 I 603 8 0) L) : CZ (d + 1) k_X12_fails [.inr (.ref 603, 13), .inl 0] b I L Q := by
  refine T.call rfl ?_
  refine T.go [] 90 ?_
  conv => whnf
  refine ⟨by decide, fun _ => ?_, fun c => absurd c (by decide)⟩
  conv => whnf
  refine ⟨by decide, ?_⟩
  conv => whnf
  refine ⟨by omega, ?_⟩
  exact h
theorem s_fails1 (T : ZTh (XX Ln xs) CZ RZ) {d b : Nat}  {I : ZI} {L : ZL} {Q : ZQ}  (h : Q (.inl (some (.inl (1)))) (v2 I 603 8 1) L) : CZ (d + 1) k_X12_fails [.inr (.ref 603, 13), .inl 1] b I L Q := by
  refine T.call rfl ?_
  refine T.go [] 90 ?_
  conv => whnf
  refine ⟨by decide, fun c => absurd c (by decide), fun _ => ?_⟩
  conv => whnf
  refine ⟨by decide, ?_⟩
  conv => whnf
  refine ⟨by omega, ?_⟩
  exact h
theorem s_refuses0 (T : ZTh (XX Ln xs) CZ RZ) {d b : Nat} {w : Int} {I : ZI} {L : ZL} {Q : ZQ} (h0 : I 603 8 = 0) (h : Q (.inl (some (.inl (0)))) I L) : CZ (d + 1) k_X12_refuses [.inr (.ref 603, 13), .inl 0, .inl w] b I L Q := by
  refine T.call rfl ?_
  refine T.go [] 90 ?_
  conv => whnf
  refine ⟨by decide, fun _ => ?_, fun c => absurd c (by decide)⟩
  conv => whnf
  refine ⟨by decide, ?_⟩
  conv => whnf
  refine ⟨by rw [h0]; decide, fun c20 => ?_, fun c20 => by exfalso; exact c20 h0⟩
  conv => whnf
  refine ⟨by omega, ?_⟩
  exact h
theorem s_refuses1 (T : ZTh (XX Ln xs) CZ RZ) {d b : Nat} {w : Int} {I : ZI} {L : ZL} {Q : ZQ} (h0 : I 603 8 = 0) (hw : 1 ≤ w ∧ w ≤ 2) (h : Q (.inl (some (.inl (1)))) (v2 I 603 8 w) L) : CZ (d + 1) k_X12_refuses [.inr (.ref 603, 13), .inl 1, .inl w] b I L Q := by
  refine T.call rfl ?_
  refine T.go [] 90 ?_
  conv => whnf
  refine ⟨by decide, fun c => absurd c (by decide), fun _ => ?_⟩
  conv => whnf
  refine ⟨by decide, ?_⟩
  conv => whnf
  refine ⟨by rw [h0]; decide, fun c8 => by exfalso; exact c8 h0, fun c8 => ?_⟩
  conv => whnf
  refine ⟨by decide, ?_⟩
  conv => whnf
  refine ⟨by decide, ?_⟩
  conv => whnf
  refine ⟨by rw [v2_eq]; exact ⟨by omega, by omega⟩, fun c20 => by exfalso; rw [v2_eq] at c20; omega, fun c20 => ?_⟩
  conv => whnf
  refine ⟨by omega, ?_⟩
  exact h
theorem MB.th {I : ZI} {W H : Nat} {M : Mo} {P : Nat → Mo} {n : Nat} {SL : Nat → Mo} {v : Nat → Int} {bl : Nat} {u : Nat → Int} (h : MB I W H M P n SL v bl u) (hW : WfA W H M P n SL v) (w : Int) : MB (v2 I 603 8 w) W H M P n SL v bl u := h.fr hW (fun a b _ g => v2_ne (by unfold PSc at g; omega))
theorem PSc8 : PSc 603 8 := by unfold PSc; omega
theorem frTh (I : ZI) (w : Int) : Fr PSc I (v2 I 603 8 w) := (Fr.refl I).v2 PSc8
/-- what alikeTo may change -/
def PAl : Nat → Int → Prop := fun a b => a = 620 ∨ (633 ≤ a ∧ a ≤ 636) ∨ (a = 603 ∧ 40 ≤ b ∧ b ≤ 43)
theorem PAl_c : ∀ a b, PAl a b → PSc a b := fun a b h => by unfold PAl at h; unfold PSc; omega
theorem PLb_a : ∀ a b, PLb a b → PAl a b := fun a b h => by unfold PLb at h; unfold PAl; omega
theorem alk_z (M : Mo) (k : Nat) : zR (alkR M k) := by
  rw [alk_eq]
  unfold alikeA
  generalize flk (sil M) (mS M k) 8 0 = f
  by_cases e1 : dc (∀ q, q < 576 → mS M k q = sil M q) = true
  · rw [if_pos e1]; decide
  · rw [if_neg e1]
    by_cases e2 : f = -1
    · rw [if_pos e2]; decide
    · rw [if_neg e2]
      by_cases e3 : f = 0
      · rw [if_pos e3]; decide
      · rw [if_neg e3]
        by_cases e4 : f < 4
        · rw [if_pos e4]; decide
        · rw [if_neg e4]; decide
theorem s_X12_alikeTo (T : ZTh (XX Ln xs) CZ RZ) {d b : Nat} {k : Nat} {W H n bl : Nat} {M : Mo} {P SL : Nat → Mo} {v u : Nat → Int}  {I : ZI} {L : ZL} {Q : ZQ} (hC : MB I W H M P n SL v bl u) (hA : WfA W H M P n SL v) (hk : k < mN M) (h : ∀ I', Fr PAl I I' → MB I' W H M P n SL v bl u → Q (.inl (some (.inl (alkR M k)))) I' L) : CZ (d + 5) k_X12_alikeTo [.inr (.ref 603, 13), .inl ((k : Int))] b I L Q := by
  refine T.call rfl ?_
  obtain ⟨mT, mR, ⟨mW, mH⟩, ⟨mn, mn8⟩, mP, mS9, ⟨mb1, mb2, mb3⟩, mz⟩ := id hC
  obtain ⟨⟨⟨⟨w1, w2, w3, w4⟩, -⟩, w5, w6⟩, wP, wS⟩ := id hA
  refine T.go [] 150 ?_
  conv => whnf
  refine ⟨by decide, _, rfl, ?_⟩
  conv => whnf
  refine zinv0 (s_takesK T (k := k) (W := W) (H := H) M (by exact mT) (by exact mR) (by exact hA.1.1) (by omega) (by exact ⟨hk, w5⟩) ?_)
  intro I_6 hf_6 hO_6 hS_6
  have hf6 : Fr PAl I I_6 := hf_6.mono (fun a b c => by unfold PAl; omega)
  have hC6 := hC.fr hA (fun a b _ g => hf6 a b (fun c => g (PAl_c _ _ c)))
  conv => whnf
  refine ⟨by decide, _, rfl, ?_⟩
  conv => whnf
  refine zinv0 (s_takesN T (W := W) (H := H) M (by exact hC6.1) (by exact hC6.2.1) (by exact hA.1.1) (by omega) ?_)
  intro I_15 hf_15 hO_15 hS_15
  have hf15 : Fr PAl I_6 I_15 := hf_15.mono (fun a b c => by unfold PAl; omega)
  have hC15 := hC6.fr hA (fun a b _ g => hf15 a b (fun c => g (PAl_c _ _ c)))
  have hS1 : ArB I_15 633 (mS M k) := hS_6.fr (fun b => hf_15 _ _ (by omega))
  conv => whnf
  refine ⟨by decide, _, rfl, ?_⟩
  conv => whnf
  refine ⟨by decide, _, rfl, ?_⟩
  conv => whnf
  refine zinv0 (s_X12_areEqual T (mS M k) (sil M) (by decide) (by decide) (by exact hS1) (by exact hS_15) ?_)
  have hbb := bi_b (dc (∀ z, z < 576 → mS M k z = sil M z))
  conv => whnf
  refine ⟨by omega, fun c29 => ?_, fun c29 => ?_⟩
  · conv => whnf
    refine ⟨by decide, _, rfl, ?_⟩
    conv => whnf
    refine ⟨by decide, _, rfl, ?_⟩
    conv => whnf
    refine zinv0 (s_X12_likeBy T (mS M k) (sil M) (by exact hS1) (by exact hS_15) ?_)
    intro I_43 hf_43
    have hlb := lik_spec (mS M k) (sil M) 8 0
    have hls : -1 ≤ likA (mS M k) (sil M) 8 0 ∧ likA (mS M k) (sil M) 8 0 < 8 := by
      rcases hlb with ⟨e, -⟩ | ⟨j, e1, e2, e3, -⟩ <;> omega
    have hf43 : Fr PAl I_15 I_43 := hf_43.mono PLb_a
    have hC43 := hC15.fr hA (fun a b _ g => hf43 a b (fun c => g (PAl_c _ _ c)))
    conv => whnf
    refine ⟨by omega, fun c49 => ?_, fun c49 => ?_⟩
    · conv => whnf
      refine ⟨by omega, fun c57 => ?_, fun c57 => ?_⟩
      · conv => whnf
        refine ⟨by omega, fun c66 => ?_, fun c66 => ?_⟩
        · conv => whnf
          have e : ¬ dc (∀ q, q < 576 → mS M k q = sil M q) = true := fun g => by
            rw [g] at c29
            exact absurd c29 (by decide)
          have h9 := h I_43 ((hf6.trans hf15).trans hf43) hC43
          unfold alkR clsL at h9
          rw [if_neg e, if_neg (by omega), if_neg (by omega), if_neg (by omega)] at h9
          exact h9
        · conv => whnf
          have e : ¬ dc (∀ q, q < 576 → mS M k q = sil M q) = true := fun g => by
            rw [g] at c29
            exact absurd c29 (by decide)
          have h9 := h I_43 ((hf6.trans hf15).trans hf43) hC43
          unfold alkR clsL at h9
          rw [if_neg e, if_neg (by omega), if_neg (by omega), if_pos (by omega)] at h9
          exact h9
      · conv => whnf
        have e : ¬ dc (∀ q, q < 576 → mS M k q = sil M q) = true := fun g => by
          rw [g] at c29
          exact absurd c29 (by decide)
        have h9 := h I_43 ((hf6.trans hf15).trans hf43) hC43
        unfold alkR clsL at h9
        rw [if_neg e, if_neg (by omega), if_pos (by omega)] at h9
        exact h9
    · conv => whnf
      have e : ¬ dc (∀ q, q < 576 → mS M k q = sil M q) = true := fun g => by
        rw [g] at c29
        exact absurd c29 (by decide)
      have h9 := h I_43 ((hf6.trans hf15).trans hf43) hC43
      unfold alkR clsL at h9
      rw [if_neg e, if_pos (by omega)] at h9
      exact h9
  · conv => whnf
    have e : dc (∀ q, q < 576 → mS M k q = sil M q) = true := by
      cases g : dc (∀ q, q < 576 → mS M k q = sil M q) with
      | true => rfl
      | false => rw [g] at c29; exact absurd rfl c29
    have h9 := h I_15 (hf6.trans hf15) hC15
    unfold alkR at h9
    rw [if_pos e] at h9
    exact h9
theorem s_X12_alike (T : ZTh (XX Ln xs) CZ RZ) {d b : Nat} {W H n bl : Nat} {M : Mo} {P SL : Nat → Mo} {v u : Nat → Int} {k : Int} {I : ZI} {L : ZL} {Q : ZQ} (hC : MB I W H M P n SL v bl u) (hA : WfA W H M P n SL v) (hk : zR k) (h : 0 ≤ k ∧ k < mN M → ∀ I', Fr PSc I I' → I' 603 8 = 0 → MB I' W H M P n SL v bl u → Q (.inl (some (.inl (alkR M k.toNat)))) I' L) (h2 : ¬ (0 ≤ k ∧ k < mN M) → ∀ I', Fr PSc I I' → I' 603 8 = 1 → MB I' W H M P n SL v bl u → Q (.inl (some (.inl (0)))) I' L) : CZ (d + 6) k_X12_alike [.inr (.ref 603, 13), .inl k] b I L Q := by
  refine T.call rfl ?_
  obtain ⟨mT, mR, ⟨mW, mH⟩, ⟨mn, mn8⟩, mP, mS9, ⟨mb1, mb2, mb3⟩, mz⟩ := id hC
  obtain ⟨⟨⟨⟨w1, w2, w3, w4⟩, -⟩, w5, w6⟩, wP, wS⟩ := id hA
  refine T.go [] 90 ?_
  conv => whnf
  refine zinv0 (s_X12_isShape T (k := k) (n := mN M) (by exact hk) (by exact ⟨mR.1, w5⟩) ?_ ?_)
  · intro cha_3
    conv => whnf
    refine ⟨by decide, fun _ => ?_, fun c => absurd c (by decide)⟩
    conv => whnf
    refine zinv0 (s_fails0 T   ?_)
    have hC1 := hC.th hA 0
    obtain ⟨k, rfl⟩ := Int.eq_ofNat_of_zero_le cha_3.1
    have hkN : k < mN M := by omega
    have hmk : ((k : Nat) : Int).toNat = k := Int.toNat_natCast k
    rw [hmk] at h
    conv => whnf
    refine ⟨by decide, fun _ => ?_, fun c => absurd c (by decide)⟩
    conv => whnf
    refine zinv0 (s_X12_alikeTo T (k := k) (by exact hC1) (by exact hA) (by exact hkN) ?_)
    intro I_26 hf_26 hC_26
    conv => whnf
    exact h cha_3 I_26 ((frTh I 0).trans (hf_26.mono PAl_c)) ((hf_26 _ _ (by unfold PAl; omega)).trans (v2_eq _ _ _ _)) hC_26
  · intro ch2a_3
    conv => whnf
    refine ⟨by decide, fun c => absurd c (by decide), fun _ => ?_⟩
    conv => whnf
    refine zinv0 (s_fails1 T   ?_)
    conv => whnf
    refine ⟨by decide, fun c => absurd c (by decide), fun _ => ?_⟩
    conv => whnf
    exact h2 ch2a_3 _ (frTh I 1) (v2_eq _ _ _ _) (hC.th hA 1)
theorem l_mfind (T : ZTh (XX Ln xs) CZ RZ) {d b : Nat} {Q : ZQ} {W H n bl : Nat} {M : Mo} {P SL : Nat → Mo} {v u : Nat → Int} {I0 : ZI} {L : ZL} (hA : WfA W H M P n SL v) (m : Nat) : ∀ (k : Nat) (I : ZI), (k ≤ mN M) → (Fr PSc I0 I) → (I 603 8 = 0) → (MB I W H M P n SL v bl u) → (∀ I', Fr PSc I0 I' → I' 603 8 = 0 → MB I' W H M P n SL v bl u → Q (.inl (some (.inl (fnd (fun k => flk (sil M) (mS M k) 8 0) (mN M - k) k)))) I' L) → (mN M : Int) - (k : Int) < (m : Int) → RZ (d + 5) k_X12_find Q 7 [.inr (.ref 603, 13), .inl ((k : Int))] [] b I L := by
  induction m with
  | zero =>
    intro k I hk hfr ht hC h hm
    exfalso
    omega
  | succ m ih =>
    intro k I hk hfr ht hC h hm
    obtain ⟨mT, mR, ⟨mW, mH⟩, ⟨mn, mn8⟩, mP, mS9, ⟨mb1, mb2, mb3⟩, mz⟩ := id hC
    obtain ⟨⟨⟨⟨w1, w2, w3, w4⟩, -⟩, w5, w6⟩, wP, wS⟩ := id hA
    have mR1 : I 604 0 = mN M := mR.1
    refine T.go [7] 90 ?_
    conv => whnf
    refine ⟨by decide, _, rfl, ?_⟩
    conv => whnf
    refine ⟨by omega, by decide, ?_⟩
    conv => whnf
    refine ⟨by omega, fun c14 => ?_, fun c14 => ?_⟩
    · conv => whnf
      have h9 := h I hfr ht hC
      rw [show mN M - k = 0 by omega] at h9
      exact h9
    · conv => whnf
      refine zinv0 (s_X12_alikeTo T (k := k) (by exact hC) (by exact hA) (by omega) ?_)
      intro I_19 hf_19 hC_19
      have hf19 := hf_19.mono PAl_c
      have ht19 : I_19 603 8 = 0 := (hf_19 _ _ (by unfold PAl; omega)).trans ht
      have ha0 := alk_0 M k
      obtain ⟨m2, hm2⟩ : ∃ m2, mN M - k = m2 + 1 := ⟨mN M - k - 1, by omega⟩
      rw [hm2] at h
      conv => whnf
      refine ⟨by exact alk_z M k, fun c22 => ?_, fun c22 => ?_⟩
      · conv => whnf
        exact ih (k + 1) I_19 (by omega) (hfr.trans hf19) ht19 hC_19 (fun I2 f2 t2 c2 => by rw [show mN M - (k + 1) = m2 by omega, ← fnd_t (f := fun k => flk (sil M) (mS M k) 8 0) (ha0.mp c22)]; exact h I2 f2 t2 c2) (by omega)
      · conv => whnf
        have h9 := h I_19 (hfr.trans hf19) ht19 hC_19
        rw [fnd_f (f := fun k => flk (sil M) (mS M k) 8 0) (fun e => c22 (ha0.mpr e))] at h9
        exact h9
theorem s_X12_find (T : ZTh (XX Ln xs) CZ RZ) {d b : Nat} {W H n bl : Nat} {M : Mo} {P SL : Nat → Mo} {v u : Nat → Int}  {I : ZI} {L : ZL} {Q : ZQ} (hC : MB I W H M P n SL v bl u) (hA : WfA W H M P n SL v) (h : ∀ I', Fr PSc I I' → I' 603 8 = 0 → MB I' W H M P n SL v bl u → Q (.inl (some (.inl (findA M)))) I' L) : CZ (d + 6) k_X12_find [.inr (.ref 603, 13)] b I L Q := by
  refine T.call rfl ?_
  refine T.go [7] 90 ?_
  conv => whnf
  refine ⟨by decide, ?_⟩
  conv => whnf
  exact l_mfind T (I0 := I) hA (mN M + 1) 0 _ (by omega) (frTh I 0) (v2_eq _ _ _ _) (hC.th hA 0) h (by omega)
theorem fnd_all {f : Nat → Int} : ∀ m k, (fnd f m k = -1 ↔ ∀ j, k ≤ j → j < k + m → f j = -1)
  | 0, k => ⟨fun _ j h1 h2 => absurd h2 (by omega), fun _ => rfl⟩
  | m + 1, k => by
    by_cases e : f k = -1
    · rw [fnd_t e, fnd_all m (k + 1)]
      constructor
      · intro h j h1 h2
        by_cases ej : j = k
        · rw [ej]; exact e
        · exact h j (by omega) (by omega)
      · intro h j h1 h2
        exact h j (by omega) (by omega)
    · rw [fnd_f e]
      constructor
      · intro h
        omega
      · intro h
        exact absurd (h k (by omega) (by omega)) e
theorem l_mle (T : ZTh (XX Ln xs) CZ RZ) {d b : Nat} {Q : ZQ} {k : Nat} {W H n bl : Nat} {M : Mo} {P SL : Nat → Mo} {v u : Nat → Int} {I0 : ZI} {L : ZL} (hA : WfA W H M P n SL v) (hk : k < mN M) (h : ∀ I', Fr PAl I0 I' → MB I' W H M P n SL v bl u → fok M k = -1 → Q (.inl (some (.inl 0))) I' L) (h2 : ∀ I', Fr PAl I0 I' → MB I' W H M P n SL v bl u → ¬ fok M k = -1 → Q (.inl (some (.inl 1))) I' L) (m : Nat) : ∀ (i : Nat) (c : Int) (I : ZI), (i ≤ k) → (Fr PAl I0 I) → (MB I W H M P n SL v bl u) → ((c = 0 ∨ c = 1) ∧ (c = 0 ↔ ∀ j, j < i → flk (mS M k) (mS M j) 8 0 = -1)) → (k : Int) - (i : Int) < (m : Int) → RZ (d + 4) k_X12_isLikeEarlier Q 4 [.inr (.ref 603, 13), .inl ((k : Int)), .inl c, .inl ((i : Int))] [] b I L := by
  induction m with
  | zero =>
    intro i c I hi hfr hC hc hm
    exfalso
    omega
  | succ m ih =>
    intro i c I hi hfr hC hc hm
    obtain ⟨mT, mR, ⟨mW, mH⟩, ⟨mn, mn8⟩, mP, mS9, ⟨mb1, mb2, mb3⟩, mz⟩ := id hC
    obtain ⟨⟨⟨⟨w1, w2, w3, w4⟩, -⟩, w5, w6⟩, wP, wS⟩ := id hA
    refine T.go [4] 150 ?_
    conv => whnf
    refine ⟨by omega, fun c6 => ?_, fun c6 => ?_⟩
    · conv => whnf
      refine ⟨by omega, ?_⟩
      obtain rfl : i = k := by omega
      have hfo : fok M i = -1 ↔ c = 0 := by
        unfold fok
        rw [fnd_all, hc.2]
        exact ⟨fun g j hj => g j (Nat.zero_le j) (by omega), fun g j _ hj => g j (by omega)⟩
      rcases hc.1 with e | e
      · subst e
        exact h I hfr hC (hfo.mpr rfl)
      · subst e
        exact h2 I hfr hC (fun g => absurd (hfo.mp g) (by decide))
    · conv => whnf
      refine ⟨by decide, _, rfl, ?_⟩
      conv => whnf
      refine zinv0 (s_takesK T (k := k) (W := W) (H := H) M (by exact mT) (by exact mR) (by exact hA.1.1) (by omega) (by exact ⟨hk, w5⟩) ?_)
      intro I_15 hf_15 hO_15 hS_15
      have hf15 : Fr PAl I I_15 := hf_15.mono (fun a b c => by unfold PAl; omega)
      have hC15 := hC.fr hA (fun a b _ g => hf15 a b (fun c => g (PAl_c _ _ c)))
      conv => whnf
      refine ⟨by decide, _, rfl, ?_⟩
      conv => whnf
      refine zinv0 (s_takesK T (k := i) (W := W) (H := H) M (by exact hC15.1) (by exact hC15.2.1) (by exact hA.1.1) (by omega) (by exact ⟨by omega, w5⟩) ?_)
      intro I_24 hf_24 hO_24 hS_24
      have hf24 : Fr PAl I_15 I_24 := hf_24.mono (fun a b c => by unfold PAl; omega)
      have hC24 := hC15.fr hA (fun a b _ g => hf24 a b (fun c => g (PAl_c _ _ c)))
      have hS1 : ArB I_24 633 (mS M k) := hS_15.fr (fun b => hf_24 _ _ (by omega))
      conv => whnf
      refine ⟨by exact ⟨by omega, by omega⟩, fun c28 => ?_, fun c28 => ?_⟩
      · conv => whnf
        refine ih (i + 1) 1 I_24 (by omega) ((hfr.trans hf15).trans hf24) hC24 ⟨Or.inr rfl, ⟨fun e => absurd e (by decide), fun e => ?_⟩⟩ (by omega)
        exact absurd (hc.2.mpr (fun j hj => e j (by omega))) c28
      · conv => whnf
        refine ⟨by decide, _, rfl, ?_⟩
        conv => whnf
        refine ⟨by decide, _, rfl, ?_⟩
        conv => whnf
        refine zinv0 (s_X12_likeBy T (mS M k) (mS M i) (by exact hS1) (by exact hS_24) ?_)
        intro I_40 hf_40
        have hlb := lik_spec (mS M k) (mS M i) 8 0
        have hls : -1 ≤ likA (mS M k) (mS M i) 8 0 ∧ likA (mS M k) (mS M i) 8 0 < 8 := by
          rcases hlb with ⟨e, -⟩ | ⟨j, e1, e2, e3, -⟩ <;> omega
        have hff := flk_lik (mS M k) (mS M i) 8 0 (by omega)
        have hf40 : Fr PAl I_24 I_40 := hf_40.mono PLb_a
        have hC40 := hC24.fr hA (fun a b _ g => hf40 a b (fun c => g (PAl_c _ _ c)))
        conv => whnf
        refine ⟨by omega, fun c44 => ?_, fun c44 => ?_⟩
        · conv => whnf
          refine ih (i + 1) 0 I_40 (by omega) (((hfr.trans hf15).trans hf24).trans hf40) hC40 ⟨Or.inl rfl, ⟨fun e => fun j hj => by
            by_cases ej : j = i
            · rw [ej, hff]; exact c44
            · exact hc.2.mp c28 j (by omega), fun e => rfl⟩⟩ (by omega)
        · conv => whnf
          refine ih (i + 1) 1 I_40 (by omega) (((hfr.trans hf15).trans hf24).trans hf40) hC40 ⟨Or.inr rfl, ⟨fun e => absurd e (by decide), fun e => absurd (hff.symm.trans (e i (by omega))) c44⟩⟩ (by omega)
theorem s_X12_isLikeEarlier (T : ZTh (XX Ln xs) CZ RZ) {d b : Nat} {k : Nat} {W H n bl : Nat} {M : Mo} {P SL : Nat → Mo} {v u : Nat → Int}  {I : ZI} {L : ZL} {Q : ZQ} (hC : MB I W H M P n SL v bl u) (hA : WfA W H M P n SL v) (hk : k < mN M) (h : ∀ I', Fr PAl I I' → MB I' W H M P n SL v bl u → fok M k = -1 → Q (.inl (some (.inl (0)))) I' L) (h2 : ∀ I', Fr PAl I I' → MB I' W H M P n SL v bl u → ¬ fok M k = -1 → Q (.inl (some (.inl (1)))) I' L) : CZ (d + 5) k_X12_isLikeEarlier [.inr (.ref 603, 13), .inl ((k : Int))] b I L Q := by
  refine T.call rfl ?_
  refine T.go [4] 90 ?_
  conv => whnf
  exact l_mle T (I0 := I) hA hk h h2 (k + 1) 0 0 I (Nat.zero_le _) (Fr.refl I) hC ⟨Or.inl rfl, ⟨fun _ j hj => absurd hj (Nat.not_lt_zero j), fun _ => rfl⟩⟩ (by omega)
theorem l_mkinds (T : ZTh (XX Ln xs) CZ RZ) {d b : Nat} {Q : ZQ} {W H n bl : Nat} {M : Mo} {P SL : Nat → Mo} {v u : Nat → Int} {I0 : ZI} {L : ZL} (hA : WfA W H M P n SL v) (h : ∀ I', Fr PSc I0 I' → I' 603 8 = 0 → MB I' W H M P n SL v bl u → Q (.inl (some (.inl (kindsA M)))) I' L) (m : Nat) : ∀ (k : Nat) (c : Int) (I : ZI), (k ≤ mN M) → (c = cn (fun k => decide (fok M k = -1)) k) → (Fr PSc I0 I) → (I 603 8 = 0) → (MB I W H M P n SL v bl u) → (mN M : Int) - (k : Int) < (m : Int) → RZ (d + 5) k_X12_kinds Q 9 [.inr (.ref 603, 13), .inl c, .inl ((k : Int))] [] b I L := by
  induction m with
  | zero =>
    intro k c I hk hc hfr ht hC hm
    exfalso
    omega
  | succ m ih =>
    intro k c I hk hc hfr ht hC hm
    obtain ⟨mT, mR, ⟨mW, mH⟩, ⟨mn, mn8⟩, mP, mS9, ⟨mb1, mb2, mb3⟩, mz⟩ := id hC
    obtain ⟨⟨⟨⟨w1, w2, w3, w4⟩, -⟩, w5, w6⟩, wP, wS⟩ := id hA
    have mR1 : I 604 0 = mN M := mR.1
    refine T.go [9] 90 ?_
    conv => whnf
    refine ⟨by decide, _, rfl, ?_⟩
    conv => whnf
    refine ⟨by omega, by decide, ?_⟩
    conv => whnf
    refine ⟨by omega, fun c16 => ?_, fun c16 => ?_⟩
    · conv => whnf
      obtain rfl : k = mN M := by omega
      rw [hc]
      exact h I hfr ht hC
    · conv => whnf
      refine zinv0 (s_X12_isLikeEarlier T (k := k) (by exact hC) (by exact hA) (by omega) ?_ ?_)
      · intro I_22 hf_22 hC_22 hv_22
        conv => whnf
        refine ⟨by decide, fun _ => ?_, fun c => absurd c (by decide)⟩
        conv => whnf
        refine ih (k + 1) _ _ (by omega) ?_ (hfr.trans (hf_22.mono PAl_c)) ((hf_22 _ _ (by unfold PAl; omega)).trans ht) hC_22 (by omega)
        rw [cn_s, hc]
        simp [hv_22]
      · intro I_22 hf_22 hC_22 hv_22
        conv => whnf
        refine ⟨by decide, fun c => absurd c (by decide), fun _ => ?_⟩
        conv => whnf
        refine ih (k + 1) _ _ (by omega) ?_ (hfr.trans (hf_22.mono PAl_c)) ((hf_22 _ _ (by unfold PAl; omega)).trans ht) hC_22 (by omega)
        rw [cn_s, hc]
        simp [hv_22]
theorem s_X12_kinds (T : ZTh (XX Ln xs) CZ RZ) {d b : Nat} {W H n bl : Nat} {M : Mo} {P SL : Nat → Mo} {v u : Nat → Int}  {I : ZI} {L : ZL} {Q : ZQ} (hC : MB I W H M P n SL v bl u) (hA : WfA W H M P n SL v) (h : ∀ I', Fr PSc I I' → I' 603 8 = 0 → MB I' W H M P n SL v bl u → Q (.inl (some (.inl (kindsA M)))) I' L) : CZ (d + 6) k_X12_kinds [.inr (.ref 603, 13)] b I L Q := by
  refine T.call rfl ?_
  refine T.go [9] 90 ?_
  conv => whnf
  refine ⟨by decide, ?_⟩
  conv => whnf
  exact l_mkinds T (I0 := I) hA h (mN M + 1) 0 0 _ (by omega) rfl (frTh I 0) (v2_eq _ _ _ _) (hC.th hA 0) (by omega)
end
