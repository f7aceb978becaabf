/-! THE REFERENCE, 6: sets -/
section
variable {Ln : Nat} {xs : Nat → Int32} {CZ : Nat → ZC} {RZ : Nat → Nat → ZQ → ZP}
/-- a row of booleans holds a set -/
def ArB (I : ZI) (r : Nat) (S : Nat → Bool) : Prop := ∀ q : Nat, q < 576 → I r (q : Int) = bi (S q)
theorem ArB.fr {I I' : ZI} {r : Nat} {S : Nat → Bool} (h : ArB I r S) (h1 : ∀ b, I' r b = I r b) : ArB I' r S := fun q hq => by rw [h1]; exact h q hq
theorem bi_1 {b : Bool} : bi b = 0 ↔ b = false := by cases b <;> simp [bi]
theorem l_sizeOf (T : ZTh (XX Ln xs) CZ RZ) {d b : Nat} {Q : ZQ} {r : Nat} {S : Nat → Bool} {I : ZI} {L : ZL} (hn : r ≠ 304 ∧ r ≠ 578) (hS : ArB I r S) (h : Q (.inl (some (.inl (cn S 576)))) I L) (m : Nat) : ∀ (q : Nat) (c : Int), (q ≤ 576) → (c = cn S q) → 576 - (q : Int) < (m : Int) → RZ d k_X12_sizeOf Q 4 [.inr (.ref r, 20576), .inl c, .inl ((q : Int))] [] b I L := by
  induction m with
  | zero =>
    intro q c hq hc hm
    exfalso
    omega
  | succ m ih =>
    intro q c hq hc hm
    refine T.go [4] 90 ?_
    conv => whnf
    refine ⟨by omega, fun c8 => ?_, fun c8 => ?_⟩
    · conv => whnf
      obtain rfl : q = 576 := by omega
      rw [hc]
      exact h
    · conv => whnf
      refine ⟨by omega, (show (¬ (_ : Nat) = _) ∧ (¬ (_ : Nat) = _) from by omega), ?_⟩
      conv => whnf
      refine ⟨by rw [hS q (by omega)]; have := bi_b (S q); exact ⟨by omega, by omega⟩, fun c15 => ?_, fun c15 => ?_⟩
      · conv => whnf
        rw [hS q (by omega)] at c15
        exact ih (q + 1) _ (by omega) (by rw [hc, cn_s]; rw [bi_1] at c15; rw [c15]; rfl) (by omega)
      · conv => whnf
        rw [hS q (by omega)] at c15
        exact ih (q + 1) _ (by omega) (by rw [hc, cn_s]; cases e : S q with
          | false => exact absurd (bi_1.mpr e) c15
          | true => rfl) (by omega)
theorem s_X12_sizeOf (T : ZTh (XX Ln xs) CZ RZ) {d b : Nat} {r : Nat} (S : Nat → Bool) {I : ZI} {L : ZL} {Q : ZQ} (hn : r ≠ 304 ∧ r ≠ 578) (hS : ArB I r S) (h : Q (.inl (some (.inl (cn S 576)))) I L) : CZ (d + 1) k_X12_sizeOf [.inr (.ref r, 20576)] b I L Q := by
  refine T.call rfl ?_
  refine T.go [4] 90 ?_
  conv => whnf
  exact l_sizeOf T hn hS h 577 0 0 (by omega) rfl (by omega)
theorem l_areEqual (T : ZTh (XX Ln xs) CZ RZ) {d b : Nat} {Q : ZQ} {r o : Nat} {S S2 : Nat → Bool} {I : ZI} {L : ZL} (hn : r ≠ 304 ∧ r ≠ 578) (ho : o ≠ 304 ∧ o ≠ 578) (hS : ArB I r S) (hS2 : ArB I o S2) (h : Q (.inl (some (.inl (bi (dc (∀ z, z < 576 → S z = S2 z)))))) I L) (m : Nat) : ∀ (q : Nat) (c : Int), (q ≤ 576) → (c = bi (dc (∀ z, z < q → S z = S2 z))) → 576 - (q : Int) < (m : Int) → RZ d k_X12_areEqual Q 4 [.inr (.ref r, 20576), .inr (.ref o, 20576), .inl c, .inl ((q : Int))] [] b I L := by
  induction m with
  | zero =>
    intro q c hq hc hm
    exfalso
    omega
  | succ m ih =>
    intro q c hq hc hm
    have hcb := bi_b (dc (∀ z, z < q → S z = S2 z))
    refine T.go [4] 90 ?_
    conv => whnf
    refine ⟨by omega, fun c8 => ?_, fun c8 => ?_⟩
    · conv => whnf
      refine ⟨by omega, ?_⟩
      obtain rfl : q = 576 := by omega
      rw [hc]
      exact h
    · conv => whnf
      refine ⟨by exact ⟨by omega, by omega⟩, fun c12 => ?_, fun c12 => ?_⟩
      · conv => whnf
        refine ih (q + 1) _ (by omega) ?_ (by omega)
        rw [dc_not.mpr (fun g => ?_)]
        · rfl
        · rw [hc, bi_1, dc_not] at c12
          exact c12 (fun z hz => g z (by omega))
      · conv => whnf
        refine ⟨by omega, (show (¬ (_ : Nat) = _) ∧ (¬ (_ : Nat) = _) from by omega), ?_⟩
        conv => whnf
        refine ⟨by omega, (show (¬ (_ : Nat) = _) ∧ (¬ (_ : Nat) = _) from by omega), ?_⟩
        conv => whnf
        refine ⟨by rw [hS q (by omega), hS2 q (by omega)]; have := bi_b (S q); have := bi_b (S2 q); exact ⟨⟨by omega, by omega⟩, ⟨by omega, by omega⟩⟩, fun c21 => ?_, fun c21 => ?_⟩
        · conv => whnf
          refine ih (q + 1) _ (by omega) ?_ (by omega)
          rw [hS q (by omega), hS2 q (by omega)] at c21
          rw [dc_not.mpr (fun g => ?_)]
          · rfl
          · exact c21 (by rw [g q (by omega)])
        · conv => whnf
          refine ih (q + 1) _ (by omega) ?_ (by omega)
          rw [hS q (by omega), hS2 q (by omega)] at c21
          rw [dc_iff.mpr (fun z hz => ?_)]
          · rfl
          · by_cases e : z = q
            · rw [e]
              cases e1 : S q <;> cases e2 : S2 q <;> rw [e1, e2] at c21 <;> first | rfl | exact absurd c21 (by decide)
            · rw [hc, bi_1] at c12
              cases e3 : dc (∀ z, z < q → S z = S2 z) with
              | false => exact absurd e3 c12
              | true => exact dc_iff.mp e3 z (by omega)
theorem s_X12_areEqual (T : ZTh (XX Ln xs) CZ RZ) {d b : Nat} {r o : Nat} (S S2 : Nat → Bool) {I : ZI} {L : ZL} {Q : ZQ} (hn : r ≠ 304 ∧ r ≠ 578) (ho : o ≠ 304 ∧ o ≠ 578) (hS : ArB I r S) (hS2 : ArB I o S2) (h : Q (.inl (some (.inl (bi (dc (∀ z, z < 576 → S z = S2 z)))))) I L) : CZ (d + 1) k_X12_areEqual [.inr (.ref r, 20576), .inr (.ref o, 20576)] b I L Q := by
  refine T.call rfl ?_
  refine T.go [4] 90 ?_
  conv => whnf
  exact l_areEqual T hn ho hS hS2 h 577 0 1 (by omega) (by rw [dc_iff.mpr (fun z hz => absurd hz (Nat.not_lt_zero z))]; rfl) (by omega)
theorem l_covered (T : ZTh (XX Ln xs) CZ RZ) {d b : Nat} {Q : ZQ} {M : Mo} {I : ZI} {L : ZL} (hO : OwM I M) (h : Q (.inl (some (.inl (cn (sil M) 576)))) I L) (m : Nat) : ∀ (q : Nat) (c : Int), (q ≤ 576) → (c = cn (sil M) q) → 576 - (q : Int) < (m : Int) → RZ (d + 3) k_X12_covered Q 12 [.inr (.ref 603, 13), .inl c, .inl ((q : Int))] [] b I L := by
  induction m with
  | zero =>
    intro q c hq hc hm
    exfalso
    omega
  | succ m ih =>
    intro q c hq hc hm
    refine T.go [12] 90 ?_
    conv => whnf
    refine ⟨by omega, fun c16 => ?_, fun c16 => ?_⟩
    · conv => whnf
      obtain rfl : q = 576 := by omega
      rw [hc]
      exact h
    · conv => whnf
      refine ⟨by decide, _, rfl, ?_⟩
      conv => whnf
      refine ⟨by omega, by decide, ?_⟩
      conv => whnf
      refine ⟨by rw [hO q (by omega)]; have := own_b M q; exact ⟨⟨by omega, by omega⟩, ⟨by omega, by omega⟩⟩, fun c27 => ?_, fun c27 => ?_⟩
      · conv => whnf
        rw [hO q (by omega)] at c27
        exact ih (q + 1) _ (by omega) (by rw [hc, cn_s]; unfold sil; simp [c27]) (by omega)
      · conv => whnf
        rw [hO q (by omega)] at c27
        exact ih (q + 1) _ (by omega) (by rw [hc, cn_s]; unfold sil; simp [c27]) (by omega)
theorem s_X12_covered (T : ZTh (XX Ln xs) CZ RZ) {d b : Nat} {W H : Nat} (M : Mo) {I : ZI} {L : ZL} {Q : ZQ} (hT : TabOK I) (hR : RowM I 604 0 M) (hw : Wq W H M) (h : ∀ I', Fr (fun a _ => a = 620) I I' → OwM I' M → Q (.inl (some (.inl (cn (sil M) 576)))) I' L) : CZ (d + 4) k_X12_covered [.inr (.ref 603, 13)] b I L Q := by
  refine T.call rfl ?_
  refine T.go [12] 90 ?_
  conv => whnf
  refine ⟨by decide, _, rfl, ?_⟩
  conv => whnf
  refine zinv0 (s_X12_laysOwners T (W := W) (H := H) (M := M) (by first | assumption | omega | rfl | decide) (by decide) (by first | assumption | omega | rfl | decide) (by first | assumption | omega | rfl | decide) ?_)
  intro I_5 hf_5 hv_5
  conv => whnf
  exact l_covered T hv_5 (h _ hf_5 hv_5) 577 0 0 (by omega) rfl (by omega)
theorem l_onBoard (T : ZTh (XX Ln xs) CZ RZ) {d b : Nat} {Q : ZQ} {W H : Nat} {M : Mo} {I : ZI} {L : ZL} (hR : RowM I 604 0 M) (hw : Wq W H M) (h : Q (.inl (some (.inl (plN M)))) I L) (m : Nat) : ∀ (p : Nat) (c : Int), (p ≤ 7) → (c = cn (fun j => !decide (mF M (j : Int) = -1)) p) → 7 - (p : Int) < (m : Int) → RZ (d + 2) k_X12_onBoard Q 4 [.inr (.ref 603, 13), .inl c, .inl ((p : Int))] [] b I L := by
  induction m with
  | zero =>
    intro p c hp hc hm
    exfalso
    omega
  | succ m ih =>
    intro p c hp hc hm
    refine T.go [4] 90 ?_
    conv => whnf
    refine ⟨by omega, fun c7 => ?_, fun c7 => ?_⟩
    · conv => whnf
      obtain rfl : p = 7 := by omega
      rw [hc]
      exact h
    · conv => whnf
      refine zinv0 (s_X12_isOn T (p := p) (W := W) (H := H) (M := M) (by first | assumption | omega | rfl | decide) (by omega) (by first | assumption | omega | rfl | decide) ?_ ?_)
      · intro cha_13
        conv => whnf
        refine ⟨by decide, fun c => absurd c (by decide), fun _ => ?_⟩
        conv => whnf
        exact ih (p + 1) _ (by omega) (by rw [hc, cn_s]; simp [cha_13]) (by omega)
      · intro ch2a_13
        conv => whnf
        refine ⟨by decide, fun _ => ?_, fun c => absurd c (by decide)⟩
        conv => whnf
        exact ih (p + 1) _ (by omega) (by rw [hc, cn_s]; simp [ch2a_13]) (by omega)
theorem s_X12_onBoard (T : ZTh (XX Ln xs) CZ RZ) {d b : Nat} {W H : Nat} (M : Mo) {I : ZI} {L : ZL} {Q : ZQ} (hR : RowM I 604 0 M) (hw : Wq W H M) (h : Q (.inl (some (.inl (plN M)))) I L) : CZ (d + 3) k_X12_onBoard [.inr (.ref 603, 13)] b I L Q := by
  refine T.call rfl ?_
  refine T.go [4] 90 ?_
  conv => whnf
  exact l_onBoard T hR hw h 8 0 0 (by omega) rfl (by omega)
theorem l_ownLooks (T : ZTh (XX Ln xs) CZ RZ) {d b : Nat} {Q : ZQ} {p : Nat} {I : ZI} {L : ZL} (hT : TabOK I) (hp : p < 7) (h : Q (.inl (some (.inl (cn (fun k => decide (fV (8 * p + k) = 1)) 8)))) I L) (m : Nat) : ∀ (k : Nat) (c : Int), (k ≤ 8) → (c = cn (fun k => decide (fV (8 * p + k) = 1)) k) → 8 - (k : Int) < (m : Int) → RZ d k_X12_ownLooks Q 4 [.inr (.ref 603, 13), .inl ((p : Int)), .inl c, .inl ((k : Int))] [] b I L := by
  induction m with
  | zero =>
    intro k c hk hc hm
    exfalso
    omega
  | succ m ih =>
    intro k c hk hc hm
    refine T.go [4] 90 ?_
    conv => whnf
    refine ⟨by omega, fun c7 => ?_, fun c7 => ?_⟩
    · conv => whnf
      obtain rfl : k = 8 := by omega
      rw [hc]
      exact h
    · conv => whnf
      refine ⟨by decide, _, rfl, ?_⟩
      conv => whnf
      refine ⟨by omega, by decide, ?_⟩
      conv => whnf
      have g9 := (hT.2.2.2 (8 * p + k) (by omega)).2
      rw [show ((8 * p + k : Nat) : Int) = 8 * (p : Int) + (k : Int) by omega] at g9
      rw [g9]
      have hv1 := (fW_b (i := 8 * p + k) (by omega)).2.2.2.2.2
      refine ⟨by exact ⟨by omega, by omega⟩, fun c22 => ?_, fun c22 => ?_⟩
      · conv => whnf
        exact ih (k + 1) _ (by omega) (by rw [hc, cn_s]; simp [show ¬ fV (8 * p + k) = 1 by omega]) (by omega)
      · conv => whnf
        exact ih (k + 1) _ (by omega) (by rw [hc, cn_s]; simp [show fV (8 * p + k) = 1 by omega]) (by omega)
theorem s_X12_ownLooks (T : ZTh (XX Ln xs) CZ RZ) {d b : Nat} {p : Nat} {I : ZI} {L : ZL} {Q : ZQ} (hT : TabOK I) (hp : p < 7) (h : Q (.inl (some (.inl (cn (fun k => decide (fV (8 * p + k) = 1)) 8)))) I L) : CZ (d + 1) k_X12_ownLooks [.inr (.ref 603, 13), .inl ((p : Int))] b I L Q := by
  refine T.call rfl ?_
  refine T.go [4] 90 ?_
  conv => whnf
  exact l_ownLooks T hT hp h 9 0 0 (by omega) rfl (by omega)
theorem l_takesN (T : ZTh (XX Ln xs) CZ RZ) {d b : Nat} {Q : ZQ} {r : Nat} {M : Mo} {I0 : ZI} {L : ZL} (hr : r = 633 ∨ r = 634 ∨ r = 637) (hO : OwM I0 M) (h : ∀ I', Fr (fun a _ => a = r) I0 I' → ArB I' r (sil M) → Q (.inl none) I' L) (m : Nat) : ∀ (q : Nat) (I : ZI), (q ≤ 576) → (Fr (fun a _ => a = r) I0 I) → (∀ z : Nat, z < q → I r (z : Int) = bi (sil M z)) → 576 - (q : Int) < (m : Int) → RZ (d + 3) k_X12_takes Q 10 [.inr (.ref 603, 13), .inl ((-1)), .inr (.ref r, 20576), .inl ((q : Int))] [] b I L := by
  induction m with
  | zero =>
    intro q I hq hfr hv hm
    exfalso
    omega
  | succ m ih =>
    intro q I hq hfr hv hm
    have hO9 : ∀ z : Nat, z < 576 → I 620 (z : Int) = own M z := fun z hz => (hfr _ _ (by omega)).trans (hO z hz)
    refine T.go [10] 90 ?_
    conv => whnf
    refine ⟨by omega, fun c14 => ?_, fun c14 => ?_⟩
    · conv => whnf
      obtain rfl : q = 576 := by omega
      exact h I hfr (fun z hz => hv z hz)
    · conv => whnf
      refine ⟨by decide, fun c => absurd c (by decide), fun _ => ?_⟩
      conv => whnf
      refine ⟨by decide, _, rfl, ?_⟩
      conv => whnf
      refine ⟨by omega, by decide, ?_⟩
      conv => whnf
      refine ⟨by rw [hO9 q (by omega)]; have := own_b M q; exact ⟨⟨by omega, by omega⟩, ⟨by omega, by omega⟩⟩, fun c31 => ?_, fun c31 => ?_⟩
      · conv => whnf
        refine ⟨by omega, (show (¬ (_ : Nat) = _) ∧ (¬ (_ : Nat) = _) ∧ _ from by omega), ?_⟩
        conv => whnf
        rw [hO9 q (by omega)] at c31
        refine ih (q + 1) _ (by omega) (hfr.v2 rfl) (fun z hz => ?_) (by omega)
        by_cases e : z = q
        · rw [e, v2_eq]
          unfold sil
          rw [decide_eq_true c31]
          rfl
        · rw [v2_ne (by omega)]; exact hv z (by omega)
      · conv => whnf
        refine ⟨by omega, (show (¬ (_ : Nat) = _) ∧ (¬ (_ : Nat) = _) ∧ _ from by omega), ?_⟩
        conv => whnf
        rw [hO9 q (by omega)] at c31
        refine ih (q + 1) _ (by omega) (hfr.v2 rfl) (fun z hz => ?_) (by omega)
        by_cases e : z = q
        · rw [e, v2_eq]
          unfold sil
          rw [decide_eq_false c31]
          rfl
        · rw [v2_ne (by omega)]; exact hv z (by omega)
theorem l_takesK (T : ZTh (XX Ln xs) CZ RZ) {d b : Nat} {Q : ZQ} {r k : Nat} {M : Mo} {I0 : ZI} {L : ZL} (hr : r = 633 ∨ r = 634 ∨ r = 637) (hR : RowM I0 604 0 M) (hk : k < mN M ∧ mN M ≤ 8) (h : ∀ I', Fr (fun a _ => a = r) I0 I' → ArB I' r (mS M k) → Q (.inl none) I' L) (m : Nat) : ∀ (q : Nat) (I : ZI), (q ≤ 576) → (Fr (fun a _ => a = r) I0 I) → (∀ z : Nat, z < q → I r (z : Int) = bi (mS M k z)) → 576 - (q : Int) < (m : Int) → RZ (d + 3) k_X12_takes Q 10 [.inr (.ref 603, 13), .inl ((k : Int)), .inr (.ref r, 20576), .inl ((q : Int))] [] b I L := by
  induction m with
  | zero =>
    intro q I hq hfr hv hm
    exfalso
    omega
  | succ m ih =>
    intro q I hq hfr hv hm
    refine T.go [10] 90 ?_
    conv => whnf
    refine ⟨by omega, fun c14 => ?_, fun c14 => ?_⟩
    · conv => whnf
      obtain rfl : q = 576 := by omega
      exact h I hfr (fun z hz => hv z hz)
    · conv => whnf
      refine ⟨by omega, fun c21 => ?_, fun c21 => by exfalso; omega⟩
      conv => whnf
      refine ⟨by decide, _, rfl, ?_⟩
      conv => whnf
      refine zinv0 (s_X12_hasBit T (k := k) (q := q) (M := M) (by exact hR.fr hk.2 (fun j _ _ => hfr _ _ (by omega))) (by exact hk) (by omega) ?_)
      have hbb := bi_b (mS M k q)
      conv => whnf
      refine ⟨by omega, (show (¬ (_ : Nat) = _) ∧ (¬ (_ : Nat) = _) ∧ _ from by omega), ?_⟩
      conv => whnf
      refine ih (q + 1) _ (by omega) (hfr.v2 rfl) (fun z hz => ?_) (by omega)
      by_cases e : z = q
      · rw [e, v2_eq]
      · rw [v2_ne (by omega)]; exact hv z (by omega)
theorem s_takesN (T : ZTh (XX Ln xs) CZ RZ) {d b : Nat} {r W H : Nat} (M : Mo) {I : ZI} {L : ZL} {Q : ZQ} (hT : TabOK I) (hR : RowM I 604 0 M) (hw : Wq W H M) (hr : r = 633 ∨ r = 634 ∨ r = 637) (h : ∀ I', Fr (fun a _ => a = r ∨ a = 620) I I' → OwM I' M → ArB I' r (sil M) → Q (.inl none) I' L) : CZ (d + 4) k_X12_takes [.inr (.ref 603, 13), .inl ((-1)), .inr (.ref r, 20576)] b I L Q := by
  refine T.call rfl ?_
  refine T.go [10] 90 ?_
  conv => whnf
  refine ⟨by decide, _, rfl, ?_⟩
  conv => whnf
  refine zinv0 (s_X12_laysOwners T (W := W) (H := H) (M := M) (by first | assumption | omega | rfl | decide) (by decide) (by first | assumption | omega | rfl | decide) (by first | assumption | omega | rfl | decide) ?_)
  intro I_5 hf_5 hv_5
  conv => whnf
  exact l_takesN T (I0 := I_5) hr hv_5 (fun I2 f2 s2 => h I2 ((hf_5.mono (fun a b c => Or.inr c)).trans (f2.mono (fun a b c => Or.inl c))) (fun q hq => (f2 _ _ (by omega)).trans (hv_5 q hq)) s2) 577 0 I_5 (by omega) (Fr.refl _) (fun z hz => absurd hz (Nat.not_lt_zero z)) (by omega)
theorem s_takesK (T : ZTh (XX Ln xs) CZ RZ) {d b : Nat} {r k W H : Nat} (M : Mo) {I : ZI} {L : ZL} {Q : ZQ} (hT : TabOK I) (hR : RowM I 604 0 M) (hw : Wq W H M) (hr : r = 633 ∨ r = 634 ∨ r = 637) (hk : k < mN M ∧ mN M ≤ 8) (h : ∀ I', Fr (fun a _ => a = r ∨ a = 620) I I' → OwM I' M → ArB I' r (mS M k) → Q (.inl none) I' L) : CZ (d + 4) k_X12_takes [.inr (.ref 603, 13), .inl ((k : Int)), .inr (.ref r, 20576)] b I L Q := by
  refine T.call rfl ?_
  refine T.go [10] 90 ?_
  conv => whnf
  refine ⟨by decide, _, rfl, ?_⟩
  conv => whnf
  refine zinv0 (s_X12_laysOwners T (W := W) (H := H) (M := M) (by first | assumption | omega | rfl | decide) (by decide) (by first | assumption | omega | rfl | decide) (by first | assumption | omega | rfl | decide) ?_)
  intro I_5 hf_5 hv_5
  conv => whnf
  exact l_takesK T (I0 := I_5) hr (hR.fr hk.2 (fun j _ _ => hf_5 _ _ (by omega))) hk (fun I2 f2 s2 => h I2 ((hf_5.mono (fun a b c => Or.inr c)).trans (f2.mono (fun a b c => Or.inl c))) (fun q hq => (f2 _ _ (by omega)).trans (hv_5 q hq)) s2) 577 0 I_5 (by omega) (Fr.refl _) (fun z hz => absurd hz (Nat.not_lt_zero z)) (by omega)
end
