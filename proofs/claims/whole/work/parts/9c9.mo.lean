/-! THE REFERENCE, 8: looks -/
section
variable {Ln : Nat} {xs : Nat → Int32} {CZ : Nat → ZC} {RZ : Nat → Nat → ZQ → ZP}
/-- behind j turns -/
def RTt (S : Nat → Bool) (its q j : Nat) (x y k w h : Int) : Prop := ∃ xn yn kn : Nat, x = xn ∧ y = yn ∧ k = kn ∧ kn < 4 ∧ (xn : Int) < w ∧ (yn : Int) < h ∧ 48 * yn + 4 * xn + kn = mT4 (wd S) (hg S) j (lkB S its q) ∧ (w = if j % 2 = 0 then (wd S : Int) else hg S) ∧ (h = if j % 2 = 0 then (hg S : Int) else wd S)
theorem RTt.st {S : Nat → Bool} {its q j : Nat} {x y k w h : Int} (g : RTt S its q j x y k w h) (hj : j < 3) : RTt S its q (j + 1) (h - 1 - y) x ((k + 1) % 4) h w := by
  obtain ⟨xn, yn, kn, e1, e2, e3, e4, e5, e6, e7, e8, e9⟩ := g
  have hbx := box_le S
  have hw12 : w ≤ 12 := by rw [e8]; split <;> omega
  have hh12 : h ≤ 12 := by rw [e9]; split <;> omega
  obtain ⟨hn, hhn⟩ : ∃ hn : Nat, h = hn := ⟨h.toNat, by omega⟩
  have key : mT4 (wd S) (hg S) (j + 1) (lkB S its q) = mTq hn (mT4 (wd S) (hg S) j (lkB S its q)) := by
    rcases (show j = 0 ∨ j = 1 ∨ j = 2 by omega) with e | e | e <;> subst e
    · have : hn = hg S := by rw [if_pos (by omega)] at e9; omega
      rw [this]; rfl
    · have : hn = wd S := by rw [if_neg (by omega)] at e9; omega
      rw [this]; rfl
    · have : hn = hg S := by rw [if_pos (by omega)] at e9; omega
      rw [this]; rfl
  refine ⟨hn - 1 - yn, xn, (kn + 1) % 4, by omega, by omega, by omega, by omega, by omega, by omega, ?_, ?_, ?_⟩
  · rw [key, ← e7]
    unfold mTq gx gy
    omega
  · rw [e9]
    by_cases c : j % 2 = 0
    · rw [if_pos c, if_neg (by omega)]
    · rw [if_neg c, if_pos (by omega)]
  · rw [e8]
    by_cases c : j % 2 = 0
    · rw [if_pos c, if_neg (by omega)]
    · rw [if_neg c, if_pos (by omega)]
theorem lk8_lt {S : Nat → Bool} {its z : Nat} (h : lk8 S its z = true) : z < 576 := by
  have h1 : ∀ {T : Nat → Bool} {z : Nat}, nrm T z = true → z < 576 := fun {T z} h => by
    unfold nrm at h
    rw [Bool.and_eq_true, decide_eq_true_iff] at h
    omega
  have h2 : ∀ {T : Nat → Bool} {z : Nat}, flp T z = true → z < 576 := fun {T z} h => by
    have := box_le T
    unfold flp at h
    rw [Bool.and_eq_true, Bool.and_eq_true, decide_eq_true_iff] at h
    omega
  have h3 : ∀ {T : Nat → Bool} {z : Nat}, trn T z = true → z < 576 := fun {T z} h => by
    have := box_le T
    unfold trn at h
    rw [Bool.and_eq_true, Bool.and_eq_true, decide_eq_true_iff] at h
    omega
  unfold lk8 at h
  split at h
  · cases its with
    | zero => exact h1 h
    | succ j => exact h3 h
  · revert h
    cases its - 4 with
    | zero => exact fun h => h2 h
    | succ j => exact fun h => h3 h
theorem l_lookedAt (T : ZTh (XX Ln xs) CZ RZ) {d b : Nat} {Q : ZQ} {S : Nat → Bool} {its q : Nat} {I : ZI} {L : ZL} (hi : its < 8) (h : Q (.inl (some (.inl ((lkA S its q : Nat) : Int)))) I L) (m : Nat) : ∀ (j : Nat) (x y k w h9 : Int), (j ≤ its % 4) → (RTt S its q j x y k w h9) → 4 - (j : Int) < (m : Int) → RZ d k_X12_lookedAt Q 76 [zj, zj, .inl ((its : Int)), .inl x, .inl y, .inl k, .inl w, .inl h9, .inl ((j : Int)), zj, zj] [] b I L := by
  induction m with
  | zero =>
    intro j x y k w h9 hj hR hm
    exfalso
    omega
  | succ m ih =>
    intro j x y k w h9 hj hR hm
    obtain ⟨xn, yn, kn, e1, e2, e3, e4, e5, e6, e7, e8, e9⟩ := id hR
    have hbx := box_le S
    have hw12 : w ≤ 12 := by rw [e8]; split <;> omega
    have hh12 : h9 ≤ 12 := by rw [e9]; split <;> omega
    refine T.go [76] 90 ?_
    conv => whnf
    refine ⟨by omega, ?_⟩
    conv => whnf
    refine ⟨by omega, fun c81 => ?_, fun c81 => ?_⟩
    · conv => whnf
      have ej : j = its % 4 := by omega
      have ek : lkA S its q = 48 * yn + 4 * xn + kn := by
        rw [e7, ej]
        rfl
      rw [ek] at h
      rw [show 4 * (12 * y + x) + k = ((48 * yn + 4 * xn + kn : Nat) : Int) by omega]
      exact h
    · conv => whnf
      refine ⟨by omega, ?_⟩
      conv => whnf
      refine T.fg [9, 10] ?_
      exact ih (j + 1) _ _ _ _ _ (by omega) (hR.st (by omega)) (by omega)
theorem s_X12_lookedAt (T : ZTh (XX Ln xs) CZ RZ) {d b : Nat} {its q : Nat} (S : Nat → Bool) {I : ZI} {L : ZL} {Q : ZQ} (hB : BxM I S) (hq : q < 576) (hs : S q = true) (hi : its < 8) (h : Q (.inl (some (.inl (((lkA S its q : Nat) : Int))))) I L) : CZ (d + 1) k_X12_lookedAt [.inr (.ref 603, 13), .inl ((q : Int)), .inl ((its : Int))] b I L Q := by
  refine T.call rfl ?_
  have h0 := cn_ex hq hs
  obtain ⟨g42, g43, g4⟩ := hB
  obtain ⟨g40, g41⟩ := g4 h0
  have hbx := box_le S
  obtain ⟨x0, -⟩ := ext_of h0
  have xb := x0 q hq hs
  have ex : (q : Int) / 4 % 12 = (gx q : Nat) := by unfold gx; omega
  have ey : (q : Int) / 4 / 12 = (gy q : Nat) := by unfold gy; omega
  refine T.go [76] 90 ?_
  conv => whnf
  refine ⟨by omega, Or.inl ⟨by omega, ?_⟩⟩
  conv => whnf
  refine ⟨by omega, ?_⟩
  conv => whnf
  refine ⟨by decide, ?_⟩
  conv => whnf
  rw [ex, g40]
  refine ⟨by omega, Or.inl ⟨by omega, ?_⟩⟩
  conv => whnf
  refine ⟨by omega, Or.inl ⟨by omega, ?_⟩⟩
  conv => whnf
  refine ⟨by decide, ?_⟩
  conv => whnf
  rw [ey, g41]
  refine ⟨by omega, ?_⟩
  conv => whnf
  refine ⟨by decide, ?_⟩
  conv => whnf
  rw [g42]
  refine ⟨by decide, ?_⟩
  conv => whnf
  rw [g43]
  refine ⟨by omega, fun c44 => ?_, fun c44 => ?_⟩
  · conv => whnf
    refine T.fg [0, 1] ?_
    refine l_lookedAt T (S := S) (q := q) hi h 5 0 _ _ _ _ _ (Nat.zero_le _) ⟨gx q - lt S, gy q - tp S, q % 4, by omega, by omega, by omega, by omega, by omega, by omega, ?_, by rw [if_pos (by omega)], by rw [if_pos (by omega)]⟩ (by omega)
    show _ = lkB S its q
    unfold lkB mNq
    rw [if_pos (by omega)]
  · conv => whnf
    refine ⟨by omega, ?_⟩
    conv => whnf
    refine ⟨by omega, fun c59 => ?_, fun c59 => ?_⟩
    · conv => whnf
      refine T.fg [0, 1] ?_
      refine l_lookedAt T (S := S) (q := q) hi h 5 0 _ _ _ _ _ (Nat.zero_le _) ⟨wd S - 1 - (gx q - lt S), gy q - tp S, (4 - q % 4) % 4, by omega, by omega, by omega, by omega, by omega, by omega, ?_, by rw [if_pos (by omega)], by rw [if_pos (by omega)]⟩ (by omega)
      show _ = lkB S its q
      unfold lkB mFq
      rw [if_neg (by omega)]
    · conv => whnf
      refine T.fg [0, 1] ?_
      refine l_lookedAt T (S := S) (q := q) hi h 5 0 _ _ _ _ _ (Nat.zero_le _) ⟨wd S - 1 - (gx q - lt S), gy q - tp S, (4 - q % 4) % 4, by omega, by omega, by omega, by omega, by omega, by omega, ?_, by rw [if_pos (by omega)], by rw [if_pos (by omega)]⟩ (by omega)
      show _ = lkB S its q
      unfold lkB mFq
      rw [if_neg (by omega)]
theorem l_llB (T : ZTh (XX Ln xs) CZ RZ) {d b : Nat} {Q : ZQ} {r o its : Nat} {S : Nat → Bool} {I0 : ZI} {L : ZL} (hr : r = 633 ∨ r = 634) (ho : o = 635 ∨ o = 636 ∨ o = 642) (hi : its < 8) (hS : ArB I0 r S) (h : ∀ I', Fr (fun a b => a = o ∨ (a = 603 ∧ 40 ≤ b ∧ b ≤ 43)) I0 I' → ArB I' o (lk8 S its) → Q (.inl none) I' L) (m : Nat) : ∀ (q : Nat) (I : ZI), (q ≤ 576) → (Fr (fun a b => a = o ∨ (a = 603 ∧ 40 ≤ b ∧ b ≤ 43)) I0 I) → (BxM I S) → (∀ z : Nat, z < 576 → I o (z : Int) = bi (dc (∃ y, y < q ∧ S y = true ∧ lkA S its y = z))) → 576 - (q : Int) < (m : Int) → RZ (d + 1) k_X12_laysLook Q 30 [.inr (.ref 603, 13), .inr (.ref r, 20576), .inl ((its : Int)), .inr (.ref o, 20576), .inl ((q : Int))] [] b I L := by
  induction m with
  | zero =>
    intro q I hq hfr hB hv hm
    exfalso
    omega
  | succ m ih =>
    intro q I hq hfr hB hv hm
    have hS9 : ∀ z : Nat, z < 576 → I r (z : Int) = bi (S z) := fun z hz => (hfr _ _ (by omega)).trans (hS z hz)
    refine T.go [30] 90 ?_
    conv => whnf
    refine ⟨by omega, fun c35 => ?_, fun c35 => ?_⟩
    · conv => whnf
      obtain rfl : q = 576 := by omega
      refine h I hfr (fun z hz => ?_)
      rw [hv z hz]
      congr 1
      by_cases h0 : cn S 576 = 0
      · rw [lk8_0 h0 hi]
        exact dc_not.mpr (fun ⟨y, a, b, _⟩ => by rw [cn_zero h0 y a] at b; cases b)
      · apply Bool.eq_iff_iff.mpr
        rw [dc_iff]
        exact (lk8_im h0 hi z).symm
    · conv => whnf
      refine ⟨by omega, (show (¬ (_ : Nat) = _) ∧ (¬ (_ : Nat) = _) from by omega), ?_⟩
      conv => whnf
      refine ⟨by rw [hS9 q (by omega)]; have := bi_b (S q); exact ⟨by omega, by omega⟩, fun c42 => ?_, fun c42 => ?_⟩
      · conv => whnf
        have hs : S q = false := by rw [hS9 q (by omega), bi_1] at c42; exact c42
        refine ih (q + 1) I (by omega) hfr hB (fun z hz => ?_) (by omega)
        rw [hv z hz]
        congr 1
        refine dc_congr ⟨fun ⟨y, a, b, c⟩ => ⟨y, by omega, b, c⟩, fun ⟨y, a, b, c⟩ => ⟨y, ?_, b, c⟩⟩
        by_cases e : y = q
        · rw [e, hs] at b; cases b
        · omega
      · conv => whnf
        have hs : S q = true := by
          rw [hS9 q (by omega)] at c42
          cases e : S q with
          | false => exact absurd (bi_1.mpr e) c42
          | true => rfl
        have hlk : lkA S its q < 576 := lk8_lt ((lk8_im (cn_ex (by omega) hs) hi _).mpr ⟨q, by omega, hs, rfl⟩)
        refine zinv0 (s_X12_lookedAt T (its := its) (q := q) S (by exact hB) (by omega) (by exact hs) (by exact hi) ?_)
        conv => whnf
        refine ⟨by omega, (show (¬ (_ : Nat) = _) ∧ (¬ (_ : Nat) = _) ∧ _ from by omega), ?_⟩
        conv => whnf
        refine ih (q + 1) _ (by omega) (hfr.v2 (Or.inl rfl)) ⟨(v2_ne (by omega)).trans hB.1, (v2_ne (by omega)).trans hB.2.1, fun g => ⟨(v2_ne (by omega)).trans (hB.2.2 g).1, (v2_ne (by omega)).trans (hB.2.2 g).2⟩⟩ (fun z hz => ?_) (by omega)
        by_cases e : z = lkA S its q
        · rw [e, v2_eq, dc_iff.mpr ⟨q, by omega, hs, rfl⟩]
          rfl
        · rw [v2_ne (by omega), hv z hz]
          congr 1
          refine dc_congr ⟨fun ⟨y, a, b, c⟩ => ⟨y, by omega, b, c⟩, fun ⟨y, a, b, c⟩ => ⟨y, ?_, b, c⟩⟩
          by_cases e2 : y = q
          · rw [e2] at c; exact absurd c.symm e
          · omega
theorem l_llA (T : ZTh (XX Ln xs) CZ RZ) {d b : Nat} {Q : ZQ} {r o its : Nat} {I0 : ZI} {L : ZL} (hr : r = 633 ∨ r = 634) (ho : o = 635 ∨ o = 636 ∨ o = 642) (hi : its < 8) (hk : ∀ I', Fr (fun a _ => a = o) I0 I' → (∀ z : Nat, z < 576 → I' o (z : Int) = 0) → RZ (d + 1) k_X12_laysLook Q 22 [.inr (.ref 603, 13), .inr (.ref r, 20576), .inl (its : Int), .inr (.ref o, 20576), zj] [] b I' L) (m : Nat) : ∀ (q : Nat) (I : ZI), (q ≤ 576) → (Fr (fun a _ => a = o) I0 I) → (∀ z : Nat, z < q → I o (z : Int) = 0) → 576 - (q : Int) < (m : Int) → RZ (d + 1) k_X12_laysLook Q 3 [.inr (.ref 603, 13), .inr (.ref r, 20576), .inl ((its : Int)), .inr (.ref o, 20576), .inl ((q : Int))] [] b I L := by
  induction m with
  | zero =>
    intro q I hq hfr hv hm
    exfalso
    omega
  | succ m ih =>
    intro q I hq hfr hv hm
    refine T.go [3, 22] 90 ?_
    conv => whnf
    refine ⟨by omega, fun c8 => ?_, fun c8 => ?_⟩
    · conv => whnf
      refine T.fg [4] ?_
      exact hk I hfr (fun z hz => hv z (by omega))
    · conv => whnf
      refine ⟨by omega, (show (¬ (_ : Nat) = _) ∧ (¬ (_ : Nat) = _) ∧ _ from by omega), ?_⟩
      conv => whnf
      refine ih (q + 1) _ (by omega) (hfr.v2 rfl) (fun z hz => ?_) (by omega)
      by_cases e : z = q
      · rw [e, v2_eq]
      · rw [v2_ne (by omega)]; exact hv z (by omega)
theorem l_llC (T : ZTh (XX Ln xs) CZ RZ) {d b : Nat} {Q : ZQ} {r o its : Nat} {S : Nat → Bool} {I0 I : ZI} {L : ZL} (hr : r = 633 ∨ r = 634) (ho : o = 635 ∨ o = 636 ∨ o = 642) (hi : its < 8) (hS : ArB I0 r S) (hfr : Fr (fun a _ => a = o) I0 I) (hv : ∀ z : Nat, z < 576 → I o (z : Int) = 0) (h : ∀ I', Fr (fun a b => a = o ∨ (a = 603 ∧ 40 ≤ b ∧ b ≤ 43)) I0 I' → ArB I' o (lk8 S its) → Q (.inl none) I' L) : RZ (d + 1) k_X12_laysLook Q 22 [.inr (.ref 603, 13), .inr (.ref r, 20576), .inl ((its : Int)), .inr (.ref o, 20576), zj] [] b I L := by
  refine T.go [30] 90 ?_
  conv => whnf
  refine zinv0 (s_X12_measures T S (by omega) (by exact hS.fr (fun b => hfr _ _ (by omega))) ?_)
  intro I_24 hf_24 hB_24
  conv => whnf
  exact l_llB T (I0 := I0) (S := S) hr ho hi hS h 577 0 I_24 (by omega) ((hfr.mono (fun a b c => Or.inl c)).trans (hf_24.mono (fun a b c => Or.inr c))) hB_24 (fun z hz => by rw [hf_24 _ _ (by omega), hv z hz, dc_not.mpr (fun ⟨y, a, _⟩ => absurd a (Nat.not_lt_zero y))]; rfl) (by omega)
theorem s_X12_laysLook (T : ZTh (XX Ln xs) CZ RZ) {d b : Nat} {r o its : Nat} (S : Nat → Bool) {I : ZI} {L : ZL} {Q : ZQ} (hr : r = 633 ∨ r = 634) (ho : o = 635 ∨ o = 636 ∨ o = 642) (hi : its < 8) (hS : ArB I r S) (h : ∀ I', Fr (fun a b => a = o ∨ (a = 603 ∧ 40 ≤ b ∧ b ≤ 43)) I I' → ArB I' o (lk8 S its) → Q (.inl none) I' L) : CZ (d + 2) k_X12_laysLook [.inr (.ref 603, 13), .inr (.ref r, 20576), .inl ((its : Int)), .inr (.ref o, 20576)] b I L Q := by
  refine T.call rfl ?_
  refine T.go [3] 90 ?_
  conv => whnf
  exact l_llA T (I0 := I) hr ho hi (fun I1 f1 v1' => l_llC T hr ho hi hS f1 v1' h) 577 0 I (by omega) (Fr.refl I) (fun z hz => absurd hz (Nat.not_lt_zero z)) (by omega)
noncomputable def lkq (A B : Nat → Bool) (k : Nat) : Bool := dc (∀ z, z < 576 → lk8 A k z = lk8 B 0 z)
/-- the first look of A that is B's first look -/
noncomputable def likA (A B : Nat → Bool) : Nat → Nat → Int
  | 0, _ => -1
  | m + 1, k => if lkq A B k = true then (k : Int) else likA A B m (k + 1)
def PLb : Nat → Int → Prop := fun a b => a = 635 ∨ a = 636 ∨ (a = 603 ∧ 40 ≤ b ∧ b ≤ 43)
theorem l_likeBy (T : ZTh (XX Ln xs) CZ RZ) {d b : Nat} {Q : ZQ} {A B : Nat → Bool} {I0 : ZI} {L : ZL} (hA : ArB I0 633 A) (hB : ArB I0 634 B) (m : Nat) : ∀ (k : Nat) (I : ZI), (k ≤ 8) → (Fr PLb I0 I) → (ArB I 636 (lk8 B 0)) → (∀ I', Fr PLb I0 I' → Q (.inl (some (.inl (likA A B (8 - k) k)))) I' L) → 8 - (k : Int) < (m : Int) → RZ (d + 2) k_X12_likeBy Q 12 [.inr (.ref 603, 13), .inr (.ref 633, 20576), zj, .inl ((k : Int))] [] b I L := by
  induction m with
  | zero =>
    intro k I hk hfr hv h hm
    exfalso
    omega
  | succ m ih =>
    intro k I hk hfr hv h hm
    refine T.go [12] 90 ?_
    conv => whnf
    refine ⟨by omega, fun c15 => ?_, fun c15 => ?_⟩
    · conv => whnf
      have h9 := h I hfr
      rw [show 8 - k = 0 by omega] at h9
      exact h9
    · conv => whnf
      refine ⟨by decide, _, rfl, ?_⟩
      conv => whnf
      refine zinv0 (s_X12_laysLook T (its := k) A (by omega) (by omega) (by omega) (by exact hA.fr (fun b => hfr _ _ (by unfold PLb; omega))) ?_)
      intro I_25 hf_25 hS_25
      obtain ⟨m2, hm2⟩ : ∃ m2, 8 - k = m2 + 1 := ⟨8 - k - 1, by omega⟩
      rw [hm2] at h
      have hfr2 : Fr PLb I0 I_25 := hfr.trans (hf_25.mono (fun a b c => by unfold PLb; omega))
      have hv2 : ArB I_25 636 (lk8 B 0) := hv.fr (fun b => hf_25 _ _ (by omega))
      conv => whnf
      refine ⟨by decide, _, rfl, ?_⟩
      conv => whnf
      refine ⟨by decide, _, rfl, ?_⟩
      conv => whnf
      refine zinv0 (s_X12_areEqual T (lk8 A k) (lk8 B 0) (by decide) (by decide) (by exact hS_25) (by exact hv2) ?_)
      have hbb := bi_b (dc (∀ z, z < 576 → lk8 A k z = lk8 B 0 z))
      conv => whnf
      refine ⟨by omega, fun c39 => ?_, fun c39 => ?_⟩
      · conv => whnf
        have e : ¬ lkq A B k = true := fun g => by
          have g2 : dc (∀ z, z < 576 → lk8 A k z = lk8 B 0 z) = true := g
          rw [g2] at c39
          exact absurd c39 (by decide)
        refine ih (k + 1) I_25 (by omega) hfr2 hv2 (fun I2 f2 => ?_) (by omega)
        have h9 := h I2 f2
        rw [show likA A B (m2 + 1) k = likA A B m2 (k + 1) from if_neg e] at h9
        rw [show 8 - (k + 1) = m2 by omega]
        exact h9
      · conv => whnf
        have e : lkq A B k = true := by
          show dc (∀ z, z < 576 → lk8 A k z = lk8 B 0 z) = true
          cases g : dc (∀ z, z < 576 → lk8 A k z = lk8 B 0 z) with
          | true => rfl
          | false => rw [g] at c39; exact absurd rfl c39
        have h9 := h I_25 hfr2
        rw [show likA A B (m2 + 1) k = k from if_pos e] at h9
        exact h9
theorem s_X12_likeBy (T : ZTh (XX Ln xs) CZ RZ) {d b : Nat} (A B : Nat → Bool) {I : ZI} {L : ZL} {Q : ZQ} (hA : ArB I 633 A) (hB : ArB I 634 B) (h : ∀ I', Fr PLb I I' → Q (.inl (some (.inl (likA A B 8 0)))) I' L) : CZ (d + 3) k_X12_likeBy [.inr (.ref 603, 13), .inr (.ref 633, 20576), .inr (.ref 634, 20576)] b I L Q := by
  refine T.call rfl ?_
  refine T.go [12] 90 ?_
  conv => whnf
  refine ⟨by decide, _, rfl, ?_⟩
  conv => whnf
  refine zinv0 (s_X12_laysLook T (its := 0) B (by omega) (by omega) (by omega) (by exact hB) ?_)
  intro I_7 hf_7 hS_7
  conv => whnf
  refine T.fg [2] ?_
  exact l_likeBy T (I0 := I) hA hB 9 0 I_7 (by omega) (hf_7.mono (fun a b c => by unfold PLb; omega)) hS_7 h (by omega)
end
