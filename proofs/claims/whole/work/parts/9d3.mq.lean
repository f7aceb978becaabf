/-! THE REFERENCE ANSWERS, 8: loops, holes, crossings -/
section
variable {Ln : Nat} {xs : Nat → Int32} {CZ : Nat → ZC} {RZ : Nat → Nat → ZQ → ZP}
/-- what laysLoops may change -/
def PLo : Nat → Int → Prop := fun a b => (620 ≤ a ∧ a ≤ 631) ∨ (a = 603 ∧ (b = 24 ∨ b = 25 ∨ b = 34 ∨ b = 35))
theorem PLo_c : ∀ a b, PLo a b → PSc a b := fun a b h => by unfold PLo at h; unfold PSc; omega
/-- the reference's outlines are those of M -/
def OuM (I : ZI) (M : Mo) : Prop := OSm I (olM M) (oL (olM M)) ∧ BI (olM M) (oL (olM M)) ∧ ∀ e : Nat, e < 5000 → I 621 (e : Int) = bi (bs (sil M) e)
theorem ol_ok {W H : Nat} {M : Mo} (hw : Wq W H M) : WI (sil M) (olM M) ∧ (∀ e, bs (sil M) e = true → oW (olM M) e = true) ∧ cn (oW (olM M)) 5000 ≤ 192 ∧ oL (olM M) ≤ 192 ∧ oE (olM M) ≤ 192 := by
  have hr := runO_WI (sil_cn hw) 5000
  have hc := bs_count (sil M)
  have hs := sil_cn hw
  have hm := cn_mono (f := oW (olM M)) (g := bs (sil M)) (fun i hi => hr.1.1 i hi) 5000
  have h1 : ((oE (olM M) : Nat) : Int) ≤ cn (oW (olM M)) 5000 := hr.1.2.2.1
  have h2 : ((oL (olM M) : Nat) : Int) ≤ cn (oW (olM M)) 5000 := hr.1.2.2.2.1
  refine ⟨hr.1, fun e he => hr.2 e (bs_lt he) he, ?_⟩
  generalize cn (oW (olM M)) 5000 = x at *
  generalize cn (bs (sil M)) 5000 = y at *
  omega
theorem OuM.ar {I : ZI} {W H : Nat} {M : Mo} (h : OuM I M) (hw : Wq W H M) {l : Nat} (hl : l < oL (olM M)) : I 631 l = oAR (olM M) l ∧ zR (oAR (olM M) l) := by
  have hb := h.2.1.2 l hl
  have h3 := (ol_ok hw).2.2.1
  refine ⟨(h.1.2.2.2.2.1 l hl).2.2.2, ?_⟩
  generalize cn (oW (olM M)) 5000 = x at *
  exact ⟨by omega, by omega⟩
theorem OuM.lo {I : ZI} {W H : Nat} {M : Mo} (h : OuM I M) (hw : Wq W H M) {l : Nat} (hl : l < oL (olM M)) : ∃ f c : Nat, oFE (olM M) l = f ∧ oEC (olM M) l = c ∧ 1 ≤ c ∧ f + c ≤ oE (olM M) ∧ I 624 (l : Int) = f ∧ I 624 ((l : Int) + 1) = f + c ∧ I 629 l = oLG (olM M) l ∧ I 630 l = oSH (olM M) l := by
  obtain ⟨o1, o2, o3, o4, o5⟩ := ol_ok hw
  obtain ⟨a1, a2, a3⟩ := o1.inE (oL (olM M)) l (by omega) hl
  obtain ⟨f, hf⟩ := Int.eq_ofNat_of_zero_le a1
  obtain ⟨c, hc⟩ := Int.eq_ofNat_of_zero_le (a := oEC (olM M) l) (by omega)
  obtain ⟨-, -, -, -, k5, k6⟩ := h.1
  obtain ⟨b1, b2, b3, -⟩ := k5 l hl
  have hx := (o1.2.2.2.2.1 l hl).2.2
  refine ⟨f, c, hf, hc, by omega, by omega, by rw [b1, hf], ?_, b2, b3⟩
  by_cases e : l + 1 < oL (olM M)
  · rw [if_pos e] at hx
    have := (k5 (l + 1) e).1
    rw [show (l : Int) + 1 = ((l + 1 : Nat) : Int) by omega, this]
    omega
  · rw [if_neg e] at hx
    have := k6 rfl (by omega)
    rw [show (l : Int) + 1 = ((oL (olM M) : Nat) : Int) by omega, this]
    omega
theorem OuM.ed {I : ZI} {W H : Nat} {M : Mo} (h : OuM I M) (hw : Wq W H M) {e : Nat} (he : e < oE (olM M)) : I 625 e = oD (olM M) e ∧ I 626 e = oC (olM M) e ∧ I 627 e = oK (olM M) e % 25 ∧ I 628 e = oK (olM M) e / 25 ∧ 0 ≤ oD (olM M) e ∧ oD (olM M) e < 8 := by
  obtain ⟨b1, b2, b3, b4⟩ := h.1.2.2.2.1 e he
  have hb := h.2.1.1 e he
  exact ⟨b1, b2, b3, b4, hb.1, hb.2.1⟩
theorem l_mll (T : ZTh (XX Ln xs) CZ RZ) {d b : Nat} {Q : ZQ} {O : Nat → Bool} {I0 : ZI} {L : ZL} (hO : cn O 576 ≤ 64) (hB : ∀ e : Nat, e < 5000 → I0 621 (e : Int) = bi (bs O e)) (h : ∀ I', Fr PWk I0 I' → OSm I' (runO O 5000) (oL (runO O 5000)) → BI (runO O 5000) (oL (runO O 5000)) → Q (.inl none) I' L) (m : Nat) : ∀ (k : Nat) (I : ZI), (k ≤ 5000) → (Fr PWk I0 I) → (OSm I (runO O k) (oL (runO O k))) → (BI (runO O k) (oL (runO O k))) → 5000 - (k : Int) < (m : Int) → RZ (d + 4) k_X12_laysLoops Q 16 [.inr (.ref 603, 13), .inl ((k : Int))] [] b I L := by
  induction m with
  | zero =>
    intro k I hk hfr hS hBI hm
    exfalso
    omega
  | succ m ih =>
    intro k I hk hfr hS hBI hm
    have hB2 : ∀ e : Nat, e < 5000 → I 621 (e : Int) = bi (bs O e) := fun e he => by rw [hfr _ _ (by unfold PWk; omega)]; exact hB e he
    have hWI := (runO_WI hO k).1
    have hb1 := bi_b (bs O k)
    have hb2 := bi_b (oW (runO O k) k)
    refine T.go [16] 90 ?_
    conv => whnf
    refine ⟨by omega, fun c20 => ?_, fun c20 => ?_⟩
    · conv => whnf
      obtain rfl : k = 5000 := by omega
      exact h I hfr hS hBI
    · conv => whnf
      refine ⟨by decide, _, rfl, ?_⟩
      conv => whnf
      refine ⟨by omega, by decide, ?_⟩
      conv => whnf
      rw [hB2 k (by omega)]
      refine ⟨by omega, fun c29 => ?_, fun c29 => ?_⟩
      · conv => whnf
        have es := runO_skip (O := O) (k := k) (Or.inl (by
          cases e : bs O k with
          | false => rfl
          | true => rw [e] at c29; exact absurd c29 (by decide)))
        exact ih (k + 1) I (by omega) hfr (by rw [es]; exact hS) (by rw [es]; exact hBI) (by omega)
      · conv => whnf
        refine ⟨by decide, _, rfl, ?_⟩
        conv => whnf
        refine ⟨by omega, by decide, ?_⟩
        conv => whnf
        rw [hS.1 k (by omega)]
        refine ⟨by omega, fun c38 => ?_, fun c38 => ?_⟩
        · conv => whnf
          have es := runO_skip (O := O) (k := k) (Or.inr (by
            cases e : oW (runO O k) k with
            | true => rfl
            | false => rw [e] at c38; exact absurd rfl c38))
          exact ih (k + 1) I (by omega) hfr (by rw [es]; exact hS) (by rw [es]; exact hBI) (by omega)
        · conv => whnf
          have hbk : bs O k = true := by
            cases e : bs O k with
            | true => rfl
            | false => rw [e] at c29; exact absurd rfl c29
          have hwk : oW (runO O k) k = false := by
            cases e : oW (runO O k) k with
            | false => rfl
            | true => rw [e] at c38; exact absurd c38 (by decide)
          refine zinv0 (s_X12_walks T (f := k) O (runO O k) (by exact hO) (by exact hB2) (by exact hWI) (by exact hS) (by exact hBI) (by exact ⟨hbk, hwk⟩) (by exact run_room hO hWI hbk hwk) ?_)
          intro I_43 hf_43 hS_43 hBI_43
          conv => whnf
          have es := runO_walk hbk hwk
          have el : oL (walk1 O (runO O k) k) = oL (runO O k) + 1 := by
            show oL (wk O 192 (begL (runO O k)) k k) + 1 = _
            rw [wk_L]
            rfl
          exact ih (k + 1) _ (by omega) (hfr.trans hf_43) (by rw [es, el]; exact hS_43) (by rw [es, el]; exact hBI_43) (by omega)
theorem s_X12_laysLoops (T : ZTh (XX Ln xs) CZ RZ) {d b : Nat} {W H n bl : Nat} {M : Mo} {P SL : Nat → Mo} {v u : Nat → Int}  {I : ZI} {L : ZL} {Q : ZQ} (hC : MB I W H M P n SL v bl u) (hA : WfA W H M P n SL v) (h : ∀ I', Fr PLo I I' → OuM I' M → Q (.inl none) I' L) : CZ (d + 5) k_X12_laysLoops [.inr (.ref 603, 13)] b I L Q := by
  refine T.call rfl ?_
  obtain ⟨mT, mR, ⟨mW, mH⟩, ⟨mn, mn8⟩, mP, mS9, ⟨mb1, mb2, mb3⟩, mz⟩ := id hC
  obtain ⟨⟨⟨⟨w1, w2, w3, w4⟩, -⟩, w5, w6⟩, wP, wS⟩ := id hA
  refine T.go [16] 90 ?_
  conv => whnf
  refine zinv0 (s_X12_laysBorders T (W := W) (H := H) (M := M) (P := P) (SL := SL) (v := v) (u := u) (by exact hC) (by exact hA) ?_)
  intro I_1 hf_1 hO_1 hL_1
  conv => whnf
  refine ⟨by decide, ?_⟩
  conv => whnf
  refine ⟨by decide, ?_⟩
  conv => whnf
  have eb : bsP (sil M) 576 0 = bs (sil M) := funext fun e => bsP_all _ e
  have h21 : ∀ e : Nat, e < 5000 → v2 (v2 I_1 603 34 0) 603 35 0 621 (e : Int) = bi (bs (sil M) e) := fun e he => by rw [v2_ne (by omega), v2_ne (by omega), ← eb]; exact (hL_1.1 e he).1
  refine l_mll T (O := sil M) (I0 := v2 (v2 I_1 603 34 0) 603 35 0) (sil_cn hA.1.1) h21 (fun I2 f2 s2 b2 => h I2 ?_ ⟨s2, b2, fun e he => by rw [f2 _ _ (by unfold PWk; omega)]; exact h21 e he⟩) 5001 0 _ (by omega) (Fr.refl _) ⟨fun e he => ?_, ?_, ?_, fun i hi => absurd hi (Nat.not_lt_zero i), fun i hi => absurd hi (Nat.not_lt_zero i), fun _ g => absurd g (Nat.not_lt_zero 0)⟩ ⟨fun i hi => absurd hi (Nat.not_lt_zero i), fun i hi => absurd hi (Nat.not_lt_zero i)⟩ (by omega)
  · intro a b g
    unfold PLo at g
    rw [f2 a b (by unfold PWk; omega), v2_ne (by omega), v2_ne (by omega), hf_1 a b (by unfold PBs; omega)]
  · rw [v2_ne (by omega), v2_ne (by omega)]
    exact (hL_1.1 e he).2
  · rw [v2_ne (by omega), v2_eq]
    rfl
  · rw [v2_eq]
    rfl
theorem l_mho (T : ZTh (XX Ln xs) CZ RZ) {d b : Nat} {Q : ZQ} {W H : Nat} {M : Mo} {I : ZI} {L : ZL} (hO : OuM I M) (hw : Wq W H M) (h : Q (.inl (some (.inl (hoN M)))) I L) (m : Nat) : ∀ (l : Nat) (c : Int), (l ≤ oL (olM M)) → (c = cn (fun j => decide (oAR (olM M) j < 0)) l) → (oL (olM M) : Int) - (l : Int) < (m : Int) → RZ d k_X12_holes Q 4 [.inr (.ref 603, 13), .inl c, .inl ((l : Int))] [] b I L := by
  induction m with
  | zero =>
    intro l c hl hc hm
    exfalso
    omega
  | succ m ih =>
    intro l c hl hc hm
    obtain ⟨o1, o2, o3, o4, o5⟩ := ol_ok hw
    have h34 := hO.1.2.1
    have har := fun g : l < oL (olM M) => hO.ar hw g
    refine T.go [4] 90 ?_
    conv => whnf
    refine ⟨by decide, ?_⟩
    conv => whnf
    refine ⟨by rw [h34]; exact ⟨⟨by omega, by omega⟩, ⟨by omega, by omega⟩⟩, fun c9 => ?_, fun c9 => ?_⟩
    · conv => whnf
      obtain rfl : l = oL (olM M) := by omega
      rw [hc]
      exact h
    · conv => whnf
      refine ⟨by decide, _, rfl, ?_⟩
      conv => whnf
      refine ⟨by omega, by decide, ?_⟩
      conv => whnf
      refine ⟨by rw [(har (by omega)).1]; exact (har (by omega)).2, fun c19 => ?_, fun c19 => ?_⟩
      · conv => whnf
        have hr := har (by omega)
        rw [hr.1] at c19
        refine ih (l + 1) _ (by omega) ?_ (by omega)
        rw [hc]
        show _ = cn (fun j => decide (oAR (olM M) j < 0)) l + (bif decide (oAR (olM M) l < 0) then 1 else 0)
        rw [decide_eq_false (by omega)]
        rfl
      · conv => whnf
        have hr := har (by omega)
        rw [hr.1] at c19
        refine ih (l + 1) _ (by omega) ?_ (by omega)
        rw [hc]
        show _ = cn (fun j => decide (oAR (olM M) j < 0)) l + (bif decide (oAR (olM M) l < 0) then 1 else 0)
        rw [decide_eq_true (by omega)]
        rfl
theorem s_X12_holes (T : ZTh (XX Ln xs) CZ RZ) {d b : Nat} {W H : Nat} {M : Mo} {I : ZI} {L : ZL} {Q : ZQ} (hO : OuM I M) (hw : Wq W H M) (h : Q (.inl (some (.inl (hoN M)))) I L) : CZ (d + 1) k_X12_holes [.inr (.ref 603, 13)] b I L Q := by
  refine T.call rfl ?_
  refine T.go [4] 90 ?_
  conv => whnf
  exact l_mho T (W := W) (H := H) hO hw h (oL (olM M) + 1) 0 0 (by omega) rfl (by omega)
theorem cn_two {f : Nat → Bool} : ∀ n, (1 < cn f n ↔ ∃ i j, i < n ∧ j < n ∧ i ≠ j ∧ f i = true ∧ f j = true)
  | 0 => ⟨fun h => absurd h (by show ¬ (1 : Int) < 0; decide), fun ⟨i, j, hi, _⟩ => absurd hi (Nat.not_lt_zero i)⟩
  | n + 1 => by
    have ih := cn_two (f := f) n
    have hn := cn_nonneg f n
    show 1 < cn f n + (bif f n then 1 else 0) ↔ _
    cases e : f n with
    | false =>
      show 1 < cn f n + 0 ↔ _
      rw [Int.add_zero, ih]
      constructor
      · rintro ⟨i, j, h1, h2, h3⟩; exact ⟨i, j, by omega, by omega, h3⟩
      · rintro ⟨i, j, h1, h2, h3, h4, h5⟩
        refine ⟨i, j, ?_, ?_, h3, h4, h5⟩
        · apply Classical.byContradiction; intro g
          rw [show i = n by omega, e] at h4; cases h4
        · apply Classical.byContradiction; intro g
          rw [show j = n by omega, e] at h5; cases h5
    | true =>
      show 1 < cn f n + 1 ↔ _
      constructor
      · intro g
        apply Classical.byContradiction
        intro h
        have hz : ∀ i, i < n → f i = false := fun i hi => by
          cases e2 : f i with
          | false => rfl
          | true => exact (h ⟨i, n, by omega, by omega, by omega, e2, e⟩).elim
        have : cn f n = cn (fun _ => false) n := cn_congr n (fun i hi => hz i hi)
        rw [this, cn_non (fun _ => rfl)] at g
        omega
      · rintro ⟨i, j, h1, h2, h3, h4, h5⟩
        apply Classical.byContradiction
        intro g
        have h0 := cn_zero (f := f) (n := n) (by omega)
        by_cases e1 : i = n
        · have := h0 j (by omega)
          rw [this] at h5; cases h5
        · have := h0 i (by omega)
          rw [this] at h4; cases h4
/-- two borders begin at one of the first p points -/
def crN (B : Nat → Bool) (p : Nat) : Prop := ∃ q, q < p ∧ 1 < cn (fun d => B (8 * q + d)) 8
theorem crN_s {B : Nat → Bool} {p : Nat} : crN B (p + 1) ↔ crN B p ∨ 1 < cn (fun d => B (8 * p + d)) 8 := by
  constructor
  · rintro ⟨q, h1, h2⟩
    by_cases e : q = p
    · rw [e] at h2; exact Or.inr h2
    · exact Or.inl ⟨q, by omega, h2⟩
  · rintro (⟨q, h1, h2⟩ | h)
    · exact ⟨q, by omega, h2⟩
    · exact ⟨p, by omega, h⟩
theorem crN_all {B : Nat → Bool} : crN B 625 ↔ crs B := by
  constructor
  · rintro ⟨q, h1, h2⟩
    obtain ⟨i, j, g1, g2, g3, g4, g5⟩ := (cn_two 8).mp h2
    exact ⟨q, i, j, h1, g1, g2, g3, g4, g5⟩
  · rintro ⟨q, i, j, h1, g1, g2, g3, g4, g5⟩
    exact ⟨q, h1, (cn_two 8).mpr ⟨i, j, g1, g2, g3, g4, g5⟩⟩
theorem cn_b8 (f : Nat → Bool) {n : Nat} (h : n ≤ 8) : 0 ≤ cn f n ∧ cn f n ≤ 8 := by
  have h1 := cn_nonneg f n
  have h2 := cn_le f n
  omega
theorem l_mcrI (T : ZTh (XX Ln xs) CZ RZ) {d b : Nat} {Q : ZQ} {p : Nat} {x : Int} {B : Nat → Bool} {I : ZI} {L : ZL} (hB : ∀ e : Nat, e < 5000 → I 621 (e : Int) = bi (B e)) (hp : p < 625) (hx : x = 0 ∨ x = 1) (hk : ∀ y : Int, (y = 0 ∨ y = 1) → (y = 1 ↔ x = 1 ∨ 1 < cn (fun d => B (8 * p + d)) 8) → RZ d k_X12_isCrossed Q 4 [.inr (.ref 603, 13), .inl y, .inl ((p : Int) + 1), zj, zj] [] b I L) (m : Nat) : ∀ (j : Nat) (c : Int), (j ≤ 8) → (c = cn (fun d => B (8 * p + d)) j) → 8 - (j : Int) < (m : Int) → RZ d k_X12_isCrossed Q 16 [.inr (.ref 603, 13), .inl x, .inl ((p : Int)), .inl c, .inl ((j : Int))] [] b I L := by
  induction m with
  | zero =>
    intro j c hj hc hm
    exfalso
    omega
  | succ m ih =>
    intro j c hj hc hm
    have hB1 : j < 8 → I 621 (8 * (p : Int) + (j : Int)) = bi (B (8 * p + j)) := fun hj => by
      have := hB (8 * p + j) (by omega)
      rw [show ((8 * p + j : Nat) : Int) = 8 * (p : Int) + (j : Int) by omega] at this
      exact this
    have hbb := bi_b (B (8 * p + j))
    have hcb := cn_b8 (fun d => B (8 * p + d)) hj
    refine T.go [4, 16] 90 ?_
    conv => whnf
    refine ⟨by omega, fun c20 => ?_, fun c20 => ?_⟩
    · conv => whnf
      refine ⟨by omega, fun c53 => ?_, fun c53 => ?_⟩
      · conv => whnf
        refine T.fg [3, 4] ?_
        obtain rfl : j = 8 := by omega
        exact hk _ (by omega) (by omega)
      · conv => whnf
        refine ⟨by omega, fun c58 => ?_, fun c58 => ?_⟩
        · conv => whnf
          refine T.fg [3, 4] ?_
          obtain rfl : j = 8 := by omega
          exact hk _ (by omega) (by omega)
        · conv => whnf
          refine T.fg [3, 4] ?_
          obtain rfl : j = 8 := by omega
          exact hk _ (by omega) (by omega)
    · conv => whnf
      refine ⟨by decide, _, rfl, ?_⟩
      conv => whnf
      refine ⟨by omega, by decide, ?_⟩
      conv => whnf
      rw [hB1 (by omega)]
      refine ⟨by omega, fun c36 => ?_, fun c36 => ?_⟩
      · conv => whnf
        refine ih (j + 1) _ (by omega) ?_ (by omega)
        rw [hc]
        show _ = cn (fun d => B (8 * p + d)) j + (bif B (8 * p + j) then 1 else 0)
        cases e : B (8 * p + j) with
        | true => rw [e] at c36; exact absurd c36 (by decide)
        | false => rfl
      · conv => whnf
        refine ih (j + 1) _ (by omega) ?_ (by omega)
        rw [hc]
        show _ = cn (fun d => B (8 * p + d)) j + (bif B (8 * p + j) then 1 else 0)
        cases e : B (8 * p + j) with
        | false => rw [e] at c36; exact absurd rfl c36
        | true => rfl
theorem l_mcrO (T : ZTh (XX Ln xs) CZ RZ) {d b : Nat} {Q : ZQ} {B : Nat → Bool} {I : ZI} {L : ZL} (hB : ∀ e : Nat, e < 5000 → I 621 (e : Int) = bi (B e)) (h : Q (.inl (some (.inl (bi (dc (crs B)))))) I L) (m : Nat) : ∀ (p : Nat) (x : Int), (p ≤ 625) → (x = 0 ∨ x = 1) → (x = 1 ↔ crN B p) → 625 - (p : Int) < (m : Int) → RZ d k_X12_isCrossed Q 4 [.inr (.ref 603, 13), .inl x, .inl ((p : Int)), zj, zj] [] b I L := by
  induction m with
  | zero =>
    intro p x hp hx hc hm
    exfalso
    omega
  | succ m ih =>
    intro p x hp hx hc hm
    refine T.go [16] 90 ?_
    conv => whnf
    refine ⟨by omega, fun c8 => ?_, fun c8 => ?_⟩
    · conv => whnf
      refine ⟨by omega, ?_⟩
      obtain rfl : p = 625 := by omega
      have e : x = bi (dc (crs B)) := by
        cases g : dc (crs B) with
        | true => rw [dc_iff] at g; exact hc.mpr (crN_all.mpr g)
        | false =>
          rw [dc_not] at g
          rcases hx with e | e
          · exact e
          · exact (g (crN_all.mp (hc.mp e))).elim
      rw [e]
      exact h
    · conv => whnf
      exact l_mcrI T hB (by omega) hx (fun y y1 y2 => ih (p + 1) y (by omega) y1 (by rw [y2, hc, crN_s]) (by omega)) 9 0 0 (by omega) rfl (by omega)
theorem s_X12_isCrossed (T : ZTh (XX Ln xs) CZ RZ) {d b : Nat} (B : Nat → Bool) {I : ZI} {L : ZL} {Q : ZQ} (hB : ∀ e : Nat, e < 5000 → I 621 (e : Int) = bi (B e)) (h : Q (.inl (some (.inl (bi (dc (crs B)))))) I L) : CZ (d + 1) k_X12_isCrossed [.inr (.ref 603, 13)] b I L Q := by
  refine T.call rfl ?_
  refine T.go [4] 90 ?_
  conv => whnf
  exact l_mcrO T hB h 626 0 0 (by omega) (Or.inl rfl) ⟨fun g => absurd g (by decide), fun ⟨q, hq, _⟩ => absurd hq (Nat.not_lt_zero q)⟩ (by omega)
end
