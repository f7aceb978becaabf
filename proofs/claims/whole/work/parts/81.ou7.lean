/-! OUTLINES, 7: made anew -/
section
variable {Ln : Nat} {xs : Nat → Int32} {CZ : Nat → ZC} {RZ : Nat → Nat → ZQ → ZP}
theorem s_X3_addStart (T : ZTh (XX Ln xs) CZ RZ) {d b : Nat} {q s : Nat} (B : Nat → Bool) {I : ZI} {L : ZL} {Q : ZQ} (hq : q < 576 ∧ s < 3) (hB : Bits I 534 B) (ht : I 533 12 = 0 ∨ I 533 12 = 1) (h : ∀ I', Fr (fun a b => a = 534 ∨ (a = 533 ∧ b = 12)) I I' → Bits I' 534 (fun x => if x = bd q s then true else B x) → (I' 533 12 = 0 ∨ I' 533 12 = 1) → (I' 533 12 = 1 ↔ I 533 12 = 1 ∨ ∃ d, d < 8 ∧ B (8 * (bd q s / 8) + d) = true) → Q (.inl none) I' L) : CZ (d + 2) k_X3_addStart [.inr (.ref 533, 4), .inl ((q : Int)), .inl ((s : Int))] b I L Q := by
  refine T.call rfl ?_
  have hlt := (bd_ok hq.1 hq.2).1
  refine T.go [] 90 ?_
  conv => whnf
  refine ⟨by omega, ?_⟩
  conv => whnf
  refine ⟨by omega, ?_⟩
  conv => whnf
  refine ⟨by omega, Or.inl ⟨by omega, ?_⟩⟩
  conv => whnf
  refine ⟨by omega, Or.inl ⟨by omega, ?_⟩⟩
  conv => whnf
  refine ⟨by omega, fun c24 => ?_, fun c24 => ?_⟩
  · conv => whnf
    refine ⟨by omega, ?_⟩
    conv => whnf
    refine ⟨by omega, fun c60 => ?_, fun c60 => ?_⟩
    · conv => whnf
      refine ⟨by omega, fun c83 => ?_, fun c83 => ?_⟩
      · conv => whnf
        refine ⟨by omega, ?_⟩
        conv => whnf
        refine zinv0 (s_X3_addStartAt T (e := bd q s) B (by exact hlt) (by unfold bd; rw [if_neg (by omega)]; dsimp only; (repeat' split) <;> omega) (by unfold bd; rw [if_neg (by omega)]; dsimp only; (repeat' split) <;> omega) (by first | assumption | omega | rfl | decide) (by first | assumption | omega | rfl | decide) ?_)
        intro I_112 hf_112 hB_112 ht_112 hc_112
        conv => whnf
        first | exact h _ hf_44 hB_44 ht_44 hc_44 | exact h _ hf_112 hB_112 ht_112 hc_112
      · conv => whnf
        refine ⟨by omega, ?_⟩
        conv => whnf
        refine zinv0 (s_X3_addStartAt T (e := bd q s) B (by exact hlt) (by unfold bd; rw [if_neg (by omega)]; dsimp only; (repeat' split) <;> omega) (by unfold bd; rw [if_neg (by omega)]; dsimp only; (repeat' split) <;> omega) (by first | assumption | omega | rfl | decide) (by first | assumption | omega | rfl | decide) ?_)
        intro I_112 hf_112 hB_112 ht_112 hc_112
        conv => whnf
        first | exact h _ hf_44 hB_44 ht_44 hc_44 | exact h _ hf_112 hB_112 ht_112 hc_112
    · conv => whnf
      refine ⟨by omega, fun c66 => ?_, fun c66 => ?_⟩
      · conv => whnf
        refine ⟨by omega, fun c83 => ?_, fun c83 => ?_⟩
        · conv => whnf
          refine ⟨by omega, ?_⟩
          conv => whnf
          refine zinv0 (s_X3_addStartAt T (e := bd q s) B (by exact hlt) (by unfold bd; rw [if_neg (by omega)]; dsimp only; (repeat' split) <;> omega) (by unfold bd; rw [if_neg (by omega)]; dsimp only; (repeat' split) <;> omega) (by first | assumption | omega | rfl | decide) (by first | assumption | omega | rfl | decide) ?_)
          intro I_112 hf_112 hB_112 ht_112 hc_112
          conv => whnf
          first | exact h _ hf_44 hB_44 ht_44 hc_44 | exact h _ hf_112 hB_112 ht_112 hc_112
        · conv => whnf
          refine ⟨by omega, ?_⟩
          conv => whnf
          refine zinv0 (s_X3_addStartAt T (e := bd q s) B (by exact hlt) (by unfold bd; rw [if_neg (by omega)]; dsimp only; (repeat' split) <;> omega) (by unfold bd; rw [if_neg (by omega)]; dsimp only; (repeat' split) <;> omega) (by first | assumption | omega | rfl | decide) (by first | assumption | omega | rfl | decide) ?_)
          intro I_112 hf_112 hB_112 ht_112 hc_112
          conv => whnf
          first | exact h _ hf_44 hB_44 ht_44 hc_44 | exact h _ hf_112 hB_112 ht_112 hc_112
      · conv => whnf
        refine ⟨by omega, fun c83 => ?_, fun c83 => ?_⟩
        · conv => whnf
          refine ⟨by omega, ?_⟩
          conv => whnf
          refine zinv0 (s_X3_addStartAt T (e := bd q s) B (by exact hlt) (by unfold bd; rw [if_neg (by omega)]; dsimp only; (repeat' split) <;> omega) (by unfold bd; rw [if_neg (by omega)]; dsimp only; (repeat' split) <;> omega) (by first | assumption | omega | rfl | decide) (by first | assumption | omega | rfl | decide) ?_)
          intro I_112 hf_112 hB_112 ht_112 hc_112
          conv => whnf
          first | exact h _ hf_44 hB_44 ht_44 hc_44 | exact h _ hf_112 hB_112 ht_112 hc_112
        · conv => whnf
          refine ⟨by omega, ?_⟩
          conv => whnf
          refine zinv0 (s_X3_addStartAt T (e := bd q s) B (by exact hlt) (by unfold bd; rw [if_neg (by omega)]; dsimp only; (repeat' split) <;> omega) (by unfold bd; rw [if_neg (by omega)]; dsimp only; (repeat' split) <;> omega) (by first | assumption | omega | rfl | decide) (by first | assumption | omega | rfl | decide) ?_)
          intro I_112 hf_112 hB_112 ht_112 hc_112
          conv => whnf
          first | exact h _ hf_44 hB_44 ht_44 hc_44 | exact h _ hf_112 hB_112 ht_112 hc_112
  · conv => whnf
    refine ⟨by omega, ?_⟩
    conv => whnf
    refine zinv0 (s_X3_addStartAt T (e := bd q s) B (by exact hlt) (by unfold bd; rw [if_pos (by omega)]; omega) (by unfold bd; rw [if_pos (by omega)]; omega) (by first | assumption | omega | rfl | decide) (by first | assumption | omega | rfl | decide) ?_)
    intro I_44 hf_44 hB_44 ht_44 hc_44
    conv => whnf
    first | exact h _ hf_44 hB_44 ht_44 hc_44 | exact h _ hf_112 hB_112 ht_112 hc_112
/-- the borders of the quarters below q, and of q's sides below s -/
noncomputable def bsP (O : Nat → Bool) (q s e : Nat) : Bool := dc (∃ q' s' : Nat, q' < 576 ∧ s' < 3 ∧ O q' = true ∧ fil O (nb q' s') = false ∧ bd q' s' = e ∧ (q' < q ∨ (q' = q ∧ s' < s)))
/-- some point is the beginning of two borders -/
def crs (B : Nat → Bool) : Prop := ∃ p d1 d2, p < 625 ∧ d1 < 8 ∧ d2 < 8 ∧ d1 ≠ d2 ∧ B (8 * p + d1) = true ∧ B (8 * p + d2) = true
theorem bd_inj {q s q' s' : Nat} (hq : q < 576) (hs : s < 3) (hq' : q' < 576) (hs' : s' < 3) (h : bd q s = bd q' s') : q = q' ∧ s = s' := by
  have h1 := (bd_ok hq hs).2.1
  have h2 := (bd_ok hq' hs').2.1
  rw [h, h2] at h1
  have e : q = q' := by omega
  subst e
  refine ⟨rfl, ?_⟩
  have h3 := (bd_ok hq hs).2.2.1
  have h4 := (bd_ok hq' hs').2.2.1
  rw [h, h4] at h3
  have : (List.range 576).all (fun q => decide (nb q 0 ≠ nb q 1 ∧ nb q 0 ≠ nb q 2 ∧ nb q 1 ≠ nb q 2)) = true := by decide +kernel
  obtain ⟨k1, k2, k3⟩ := of_decide_eq_true (List.all_eq_true.mp this q (List.mem_range.mpr hq))
  have c1 : s = 0 ∨ s = 1 ∨ s = 2 := by omega
  have c2 : s' = 0 ∨ s' = 1 ∨ s' = 2 := by omega
  rcases c1 with e1 | e1 | e1 <;> rcases c2 with e2 | e2 | e2 <;> subst e1 <;> subst e2
  · rfl
  · exact (k1 h3.symm).elim
  · exact (k2 h3.symm).elim
  · exact (k1 h3).elim
  · rfl
  · exact (k3 h3.symm).elim
  · exact (k2 h3).elim
  · exact (k3 h3).elim
  · rfl
theorem bsP_0 (O : Nat → Bool) (e : Nat) : bsP O 0 0 e = false := by
  rw [bsP, dc_not]
  rintro ⟨q, s, _, _, _, _, _, h⟩
  omega
theorem bsP_all (O : Nat → Bool) (e : Nat) : bsP O 576 0 e = bs O e := by
  apply dc_congr
  constructor
  · rintro ⟨q, s, h1, h2, h3, h4, h5, _⟩
    exact ⟨q, s, h1, h2, h3, h4, h5⟩
  · rintro ⟨q, s, h1, h2, h3, h4, h5⟩
    exact ⟨q, s, h1, h2, h3, h4, h5, Or.inl h1⟩
theorem bsP_q {O : Nat → Bool} {q : Nat} (e : Nat) : bsP O q 3 e = bsP O (q + 1) 0 e := by
  apply dc_congr
  constructor
  · rintro ⟨q', s, h1, h2, h3, h4, h5, h6⟩
    exact ⟨q', s, h1, h2, h3, h4, h5, by omega⟩
  · rintro ⟨q', s, h1, h2, h3, h4, h5, h6⟩
    exact ⟨q', s, h1, h2, h3, h4, h5, by omega⟩
theorem bsP_off {O : Nat → Bool} {q : Nat} (hO : O q = false) (e : Nat) : bsP O (q + 1) 0 e = bsP O q 0 e := by
  apply dc_congr
  constructor
  · rintro ⟨q', s, h1, h2, h3, h4, h5, h6⟩
    refine ⟨q', s, h1, h2, h3, h4, h5, ?_⟩
    by_cases e : q' = q
    · subst e; rw [hO] at h3; cases h3
    · omega
  · rintro ⟨q', s, h1, h2, h3, h4, h5, h6⟩
    exact ⟨q', s, h1, h2, h3, h4, h5, by omega⟩
theorem bsP_in {O : Nat → Bool} {q s : Nat} (hn : fil O (nb q s) = true) (e : Nat) : bsP O q (s + 1) e = bsP O q s e := by
  apply dc_congr
  constructor
  · rintro ⟨q', s', h1, h2, h3, h4, h5, h6⟩
    refine ⟨q', s', h1, h2, h3, h4, h5, ?_⟩
    by_cases e : q' = q ∧ s' = s
    · obtain ⟨e1, e2⟩ := e
      subst e1 e2
      rw [hn] at h4
      cases h4
    · omega
  · rintro ⟨q', s', h1, h2, h3, h4, h5, h6⟩
    exact ⟨q', s', h1, h2, h3, h4, h5, by omega⟩
theorem bsP_new {O : Nat → Bool} {q s : Nat} (hq : q < 576) (hs : s < 3) (hO : O q = true) (hn : fil O (nb q s) = false) (e : Nat) : bsP O q (s + 1) e = (if e = bd q s then true else bsP O q s e) := by
  apply Bool.eq_iff_iff.mpr
  constructor
  · intro h
    rw [bsP, dc_iff] at h
    obtain ⟨q', s', h1, h2, h3, h4, h5, h6⟩ := h
    by_cases e0 : e = bd q s
    · rw [if_pos e0]
    · rw [if_neg e0, bsP, dc_iff]
      refine ⟨q', s', h1, h2, h3, h4, h5, ?_⟩
      by_cases e1 : q' = q ∧ s' = s
      · rw [e1.1, e1.2] at h5; exact (e0 h5.symm).elim
      · omega
  · intro h
    rw [bsP, dc_iff]
    by_cases e0 : e = bd q s
    · exact ⟨q, s, hq, hs, hO, hn, e0.symm, by omega⟩
    · rw [if_neg e0, bsP, dc_iff] at h
      obtain ⟨q', s', h1, h2, h3, h4, h5, h6⟩ := h
      exact ⟨q', s', h1, h2, h3, h4, h5, by omega⟩
theorem bsP_fresh {O : Nat → Bool} {q s : Nat} (hq : q < 576) (hs : s < 3) : bsP O q s (bd q s) = false := by
  rw [bsP, dc_not]
  rintro ⟨q', s', h1, h2, h3, h4, h5, h6⟩
  have := bd_inj h1 h2 hq hs h5
  omega
theorem crs_new {B : Nat → Bool} {e : Nat} (he : e < 5000) (h0 : B e = false) : crs (fun x => if x = e then true else B x) ↔ crs B ∨ ∃ d, d < 8 ∧ B (8 * (e / 8) + d) = true := by
  constructor
  · rintro ⟨p, d1, d2, h1, h2, h3, h4, h5, h6⟩
    simp only [] at h5 h6
    by_cases e1 : 8 * p + d1 = e
    · right
      refine ⟨d2, h3, ?_⟩
      rw [if_neg (by omega)] at h6
      rw [show 8 * (e / 8) + d2 = 8 * p + d2 by omega]
      exact h6
    · by_cases e2 : 8 * p + d2 = e
      · right
        refine ⟨d1, h2, ?_⟩
        rw [if_neg e1] at h5
        rw [show 8 * (e / 8) + d1 = 8 * p + d1 by omega]
        exact h5
      · rw [if_neg e1] at h5
        rw [if_neg e2] at h6
        exact Or.inl ⟨p, d1, d2, h1, h2, h3, h4, h5, h6⟩
  · rintro (⟨p, d1, d2, h1, h2, h3, h4, h5, h6⟩ | ⟨d, hd, hb⟩)
    · refine ⟨p, d1, d2, h1, h2, h3, h4, ?_, ?_⟩
      · show (if 8 * p + d1 = e then true else B (8 * p + d1)) = true
        split
        · rfl
        · exact h5
      · show (if 8 * p + d2 = e then true else B (8 * p + d2)) = true
        split
        · rfl
        · exact h6
    · have hne : d ≠ e % 8 := by
        intro c
        rw [c, show 8 * (e / 8) + e % 8 = e by omega, h0] at hb
        cases hb
      refine ⟨e / 8, d, e % 8, by omega, hd, by omega, hne, ?_, ?_⟩
      · show (if 8 * (e / 8) + d = e then true else B (8 * (e / 8) + d)) = true
        rw [if_neg (by omega)]; exact hb
      · show (if 8 * (e / 8) + e % 8 = e then true else B (8 * (e / 8) + e % 8)) = true
        rw [if_pos (by omega)]
theorem crs_congr {B B' : Nat → Bool} (h : ∀ e, e < 5000 → B e = B' e) : crs B ↔ crs B' := by
  constructor
  · rintro ⟨p, d1, d2, h1, h2, h3, h4, h5, h6⟩
    exact ⟨p, d1, d2, h1, h2, h3, h4, by rw [← h _ (by omega)]; exact h5, by rw [← h _ (by omega)]; exact h6⟩
  · rintro ⟨p, d1, d2, h1, h2, h3, h4, h5, h6⟩
    exact ⟨p, d1, d2, h1, h2, h3, h4, by rw [h _ (by omega)]; exact h5, by rw [h _ (by omega)]; exact h6⟩
theorem l_makeI (T : ZTh (XX Ln xs) CZ RZ) {d b : Nat} {Q : ZQ} {O : Nat → Bool} {q : Nat} {I0 : ZI} {L : ZL} (hO : ∀ q : Nat, q < 576 → zR (I0 530 q) ∧ (I0 530 q ≠ -1 ↔ O q = true)) (hq : q < 576 ∧ O q = true) (hk : ∀ I', Fr (fun a b => a = 534 ∨ (a = 533 ∧ b = 12)) I0 I' → Bits I' 534 (bsP O q 3) ∧ (I' 533 12 = 0 ∨ I' 533 12 = 1) ∧ (I' 533 12 = 1 ↔ crs (bsP O q 3)) → RZ (d + 3) k_X3_make Q 33 [.inr (.ref 533, 4), .inr (.ref 527, 8), .inl ((q : Int) + 1), zj] [] b I' L) (m : Nat) : ∀ (s : Nat) (I : ZI), (s ≤ 3) → (Fr (fun a b => a = 534 ∨ (a = 533 ∧ b = 12)) I0 I) → (Bits I 534 (bsP O q s) ∧ (I 533 12 = 0 ∨ I 533 12 = 1) ∧ (I 533 12 = 1 ↔ crs (bsP O q s))) → 3 - (s : Int) < (m : Int) → RZ (d + 3) k_X3_make Q 52 [.inr (.ref 533, 4), .inr (.ref 527, 8), .inl ((q : Int)), .inl ((s : Int))] [] b I L := by
  induction m with
  | zero =>
    intro s I hs hfr hS hm
    exfalso
    omega
  | succ m ih =>
    intro s I hs hfr hS hm
    have hnb := nb_b (q := q) (s := s) (by omega) (by omega)
    have hOn : ∀ n : Nat, n < 576 → I 530 n = I0 530 n := fun n _ => hfr _ _ (by omega)
    have hzn : 0 ≤ nb q s → zR (I 530 (nb q s)) := fun h0 => by
      obtain ⟨n, hn⟩ := Int.eq_ofNat_of_zero_le h0
      rw [hn, hOn n (by omega)]
      exact (hO n (by omega)).1
    refine T.go [33, 52] 90 ?_
    conv => whnf
    refine ⟨by omega, fun c54 => ?_, fun c54 => ?_⟩
    · conv => whnf
      refine T.fg [3] ?_
      obtain rfl : s = 3 := by omega
      exact hk I hfr hS
    · conv => whnf
      refine zinv0 (s_X11_neighbour T  (by first | assumption | omega | rfl | decide) (by first | assumption | omega | rfl | decide) ?_)
      conv => whnf
      refine zinv0 (s_X7_ownerAt T  (by omega) ?_ ?_)
      · intro cha_63 chb_63
        have hz9 := hzn cha_63
        conv => whnf
        refine ⟨by omega, fun c67 => ?_, fun c67 => ?_⟩
        · conv => whnf
          have hn : fil O (nb q s) = true := by
            obtain ⟨n, hn⟩ := Int.eq_ofNat_of_zero_le cha_63
            rw [hn] at c67 ⊢
            rw [fil_n, ← (hO n (by omega)).2, ← hOn n (by omega)]
            exact c67
          refine ih (s + 1) I (by omega) hfr ⟨hS.1.congr (fun e _ => (bsP_in hn e).symm), hS.2.1, hS.2.2.trans (crs_congr (fun e _ => (bsP_in hn e).symm))⟩ (by omega)
        · conv => whnf
          refine zinv0 (s_X3_addStart T (q := q) (s := s) (bsP O q s) (by exact ⟨hq.1, by omega⟩) (by exact hS.1) (by exact hS.2.1) ?_)
          intro I_73 hf_73 hB_73 ht_73 hc_73
          conv => whnf
          have hn : fil O (nb q s) = false := by
            obtain ⟨n, hn⟩ := Int.eq_ofNat_of_zero_le cha_63
            rw [hn] at c67 ⊢
            rw [fil_n]
            cases e : O n with
            | false => rfl
            | true => exact ((hO n (by omega)).2.mpr e (by rw [← hOn n (by omega)]; exact c67)).elim
          have hnew := bsP_new hq.1 (by omega) hq.2 hn (s := s)
          refine ih (s + 1) _ (by omega) (hfr.trans hf_73) ⟨hB_73.congr (fun e _ => (hnew e).symm), ht_73, ?_⟩ (by omega)
          rw [hc_73, hS.2.2, ← crs_new (bd_ok hq.1 (by omega)).1 (bsP_fresh hq.1 (by omega))]
          exact crs_congr (fun e _ => (hnew e).symm)
      · intro ch2a_63
        conv => whnf
        refine ⟨by omega, fun c67 => by exfalso; omega, fun c67 => ?_⟩
        conv => whnf
        refine zinv0 (s_X3_addStart T (q := q) (s := s) (bsP O q s) (by exact ⟨hq.1, by omega⟩) (by exact hS.1) (by exact hS.2.1) ?_)
        intro I_73 hf_73 hB_73 ht_73 hc_73
        conv => whnf
        have hn : fil O (nb q s) = false := by
          unfold fil
          rw [decide_eq_false (by omega)]
          rfl
        have hnew := bsP_new hq.1 (by omega) hq.2 hn (s := s)
        refine ih (s + 1) _ (by omega) (hfr.trans hf_73) ⟨hB_73.congr (fun e _ => (hnew e).symm), ht_73, ?_⟩ (by omega)
        rw [hc_73, hS.2.2, ← crs_new (bd_ok hq.1 (by omega)).1 (bsP_fresh hq.1 (by omega))]
        exact crs_congr (fun e _ => (hnew e).symm)
theorem l_makeO (T : ZTh (XX Ln xs) CZ RZ) {d b : Nat} {Q : ZQ} {O : Nat → Bool} {I0 : ZI} {L : ZL} (hO : ∀ q : Nat, q < 576 → zR (I0 530 q) ∧ (I0 530 q ≠ -1 ↔ O q = true)) (hc : cn O 576 ≤ 64) (h0 : OSr I0 os0 0) (h : ∀ I', Fr (fun a b => a = 534 ∨ PO a b ∨ (a = 533 ∧ b = 12)) I0 I' → Bits I' 534 (bs O) → OSr I' (runO O 5000) (oL (runO O 5000)) → BI (runO O 5000) (oL (runO O 5000)) → (I' 533 12 = 0 ∨ I' 533 12 = 1) → (I' 533 12 = 1 ↔ crs (bs O)) → Q (.inl none) I' L) (m : Nat) : ∀ (q : Nat) (I : ZI), (q ≤ 576) → (Fr (fun a b => a = 534 ∨ (a = 533 ∧ b = 12)) I0 I) → (Bits I 534 (bsP O q 0) ∧ (I 533 12 = 0 ∨ I 533 12 = 1) ∧ (I 533 12 = 1 ↔ crs (bsP O q 0))) → 576 - (q : Int) < (m : Int) → RZ (d + 3) k_X3_make Q 33 [.inr (.ref 533, 4), .inr (.ref 527, 8), .inl ((q : Int)), zj] [] b I L := by
  induction m with
  | zero =>
    intro q I hq hfr hS hm
    exfalso
    omega
  | succ m ih =>
    intro q I hq hfr hS hm
    have hOq : q < 576 → zR (I 530 q) ∧ (I 530 q ≠ -1 ↔ O q = true) := fun hx => by rw [hfr _ _ (by omega)]; exact hO q hx
    refine T.go [33, 52] 90 ?_
    conv => whnf
    refine ⟨by omega, fun c37 => ?_, fun c37 => ?_⟩
    · conv => whnf
      obtain rfl : q = 576 := by omega
      refine zinv0 (s_X3_walkAll T O (by exact hc) (by exact hS.1.congr (fun e _ => bsP_all O e)) (by exact ⟨h0.1.fr (fun b => hfr _ _ (by omega)), by rw [hfr _ _ (by omega)]; exact h0.2.1, by rw [hfr _ _ (by omega)]; exact h0.2.2.1, fun i hi => absurd hi (Nat.not_lt_zero i), fun i hi => absurd hi (Nat.not_lt_zero i)⟩) ?_)
      intro I_89 hf_89 hS_89 hBI_89
      conv => whnf
      refine h _ ((hfr.mono (fun a b c => by omega)).trans (hf_89.mono (fun a b c => Or.inr (Or.inl c)))) ((hS.1.congr (fun e _ => bsP_all O e)).fr (fun b => hf_89 _ _ (by unfold PO; omega))) hS_89 hBI_89 ?_ ?_
      · rw [hf_89 _ _ (by unfold PO; omega)]; exact hS.2.1
      · rw [hf_89 _ _ (by unfold PO; omega), hS.2.2]; exact crs_congr (fun e _ => bsP_all O e)
    · conv => whnf
      refine ⟨by decide, _, rfl, ?_⟩
      conv => whnf
      refine ⟨by omega, by decide, ?_⟩
      conv => whnf
      refine ⟨by have := hOq (by omega); omega, fun c47 => ?_, fun c47 => ?_⟩
      · conv => whnf
        have hq9 : q < 576 := by omega
        have hO9 : O q = false := by
          cases e : O q with
          | false => rfl
          | true => exact ((hOq hq9).2.mpr e c47).elim
        exact ih (q + 1) I (by omega) hfr ⟨hS.1.congr (fun e _ => (bsP_off hO9 e).symm), hS.2.1, hS.2.2.trans (crs_congr (fun e _ => (bsP_off hO9 e).symm))⟩ (by omega)
      · conv => whnf
        have hq9 : q < 576 := by omega
        have hO9 := (hOq hq9).2.mp c47
        exact l_makeI T (I0 := I0) hO ⟨hq9, hO9⟩ (fun I2 f2 s2 => ih (q + 1) I2 (by omega) f2 ⟨s2.1.congr (fun e _ => bsP_q e), s2.2.1, s2.2.2.trans (crs_congr (fun e _ => bsP_q e))⟩ (by omega)) 4 0 I (by omega) hfr hS (by omega)
theorem s_X3_make (T : ZTh (XX Ln xs) CZ RZ) {d b : Nat} (O : Nat → Bool) {I : ZI} {L : ZL} {Q : ZQ} (hO : ∀ q : Nat, q < 576 → zR (I 530 q) ∧ (I 530 q ≠ -1 ↔ O q = true)) (hc : cn O 576 ≤ 64) (h : ∀ I', Fr (fun a b => a = 534 ∨ PO a b ∨ (a = 533 ∧ b = 12)) I I' → Bits I' 534 (bs O) → OSr I' (runO O 5000) (oL (runO O 5000)) → BI (runO O 5000) (oL (runO O 5000)) → (I' 533 12 = 0 ∨ I' 533 12 = 1) → (I' 533 12 = 1 ↔ crs (bs O)) → Q (.inl none) I' L) : CZ (d + 4) k_X3_make [.inr (.ref 533, 4), .inr (.ref 527, 8)] b I L Q := by
  refine T.call rfl ?_
  refine T.go [33] 90 ?_
  conv => whnf
  refine ⟨by decide, _, rfl, ?_⟩
  conv => whnf
  refine zinv0 (s_fill625 T  (by show (¬ (_ : Nat) = _) ∧ (¬ (_ : Nat) = _); omega) ?_)
  intro I_5 hf_5 hv_5
  conv => whnf
  refine ⟨by decide, _, rfl, ?_⟩
  conv => whnf
  refine zinv0 (s_fill625 T  (by show (¬ (_ : Nat) = _) ∧ (¬ (_ : Nat) = _); omega) ?_)
  intro I_13 hf_13 hv_13
  conv => whnf
  refine ⟨by decide, ?_⟩
  conv => whnf
  refine ⟨by decide, ?_⟩
  conv => whnf
  refine ⟨⟨by decide, by decide, by omega⟩, ?_⟩
  conv => whnf
  have hz : ∀ (r : Nat) (J : ZI), (∀ j, 0 ≤ j → j < 625 → J r j = 0) → Bits J r (fun _ => false) := fun r J hj p hp => ⟨0, by decide, hj p (by omega) (by omega), fun d _ => Nat.zero_testBit d⟩
  have hs : Bits (v2 (v2 (v2 I_13 533 10 0) 533 11 0) 533 12 0) 534 (fun _ => false) := (hz 534 I_13 (fun j j0 j1 => by rw [hf_13 _ _ (by omega)]; exact hv_5 j j0 j1)).fr (fun b => by simp [v2_ap])
  refine l_makeO T (I0 := v2 (v2 (v2 I_13 533 10 0) 533 11 0) 533 12 0) (O := O) (fun q hq => ?_) hc ⟨(hz 535 I_13 hv_13).fr (fun b => by simp [v2_ap]), ?_, ?_, fun i hi => absurd hi (Nat.not_lt_zero i), fun i hi => absurd hi (Nat.not_lt_zero i)⟩ (fun I2 f2 b2 s2 bi t2 c2 => h I2 (Fr.trans ?_ f2) b2 s2 bi t2 c2) 577 0 _ (by omega) (Fr.refl _) ⟨hs.congr (fun e _ => (bsP_0 O e).symm), Or.inl (by simp [v2_ap]), ?_⟩ (by omega)
  · simp [v2_ap]
    rw [hf_13 _ _ (by omega), hf_5 _ _ (by omega)]
    exact hO q hq
  · simp [v2_ap]
    rfl
  · simp [v2_ap]
    rfl
  · exact (((Fr.trans (hf_5.mono (fun a b c => Or.inl c)) (hf_13.mono (fun a b c => Or.inr (Or.inl (by unfold PO; omega))))).v2 (by simp [PO])).v2 (by simp [PO])).v2 (by simp [PO])
  · simp [v2_ap]
    rintro ⟨p, d1, d2, _, _, _, _, h5, _⟩
    rw [bsP_0] at h5
    cases h5
end
