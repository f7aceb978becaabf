/-! TEXTS, 2: words -/
section
variable {Ln : Nat} {xs : Nat → Int32} {CZ : Nat → ZC} {RZ : Nat → Nat → ZQ → ZP}
theorem XX_tx {Ln : Nat} {xs : Nat → Int32} (r : Nat) : (XX Ln xs).2.2.1 r = 10050 + tkX.getD (r - 10020) 0 := rfl
theorem XX_len {Ln : Nat} {xs : Nat → Int32} (r : Nat) : (XX Ln xs).2.2.2.1 r = lenS.getD (r - 10050) 0 := by unfold XX; with_reducible rfl
theorem XX_ch {Ln : Nat} {xs : Nat → Int32} (r k : Nat) : (XX Ln xs).2.2.2.2.1 r k = (bytS.getD (r - 10050) []).getD k 0 := by unfold XX; with_reducible rfl
theorem XX_dir {Ln : Nat} {xs : Nat → Int32} (r : Nat) : (XX Ln xs).2.1 r = tkD.getD (r - 10020) 0 := by unfold XX; with_reducible rfl
theorem txt_am : (List.range 18).all (fun i => decide (lenS.getD (tkX.getD i 0) 0 = (wtx i).length) && (List.range (wtx i).length).all (fun k => decide (((bytS.getD (tkX.getD i 0) []).getD k 0).toInt = (((wtx i).getD k 0 : Nat) : Int)))) = true := by decide +kernel
theorem dir_am : (List.range 18).all (fun i => decide ((tkD.getD i 0).toInt = if i < 10 then -1 else ((i : Nat) : Int) - 10)) = true := by decide +kernel
theorem sub_ten (a b : Nat) : a + b - a = b := by omega
theorem txt_ok {Ln : Nat} {xs : Nat → Int32} (i : Nat) (hi : i < 18) : (XX Ln xs).2.2.2.1 ((XX Ln xs).2.2.1 (10020 + i)) = (wtx i).length ∧ ∀ k : Nat, k < (wtx i).length → ((XX Ln xs).2.2.2.2.1 ((XX Ln xs).2.2.1 (10020 + i)) k).toInt = ((wtx i).getD k 0 : Nat) := by
  have h1 := List.all_eq_true.mp txt_am i (List.mem_range.mpr hi)
  rw [Bool.and_eq_true, decide_eq_true_iff] at h1
  rw [XX_tx, XX_len, sub_ten, sub_ten]
  refine ⟨h1.1, fun k hk => ?_⟩
  rw [XX_ch, sub_ten]
  exact of_decide_eq_true (List.all_eq_true.mp h1.2 k (List.mem_range.mpr hk))
theorem dir_ok {Ln : Nat} {xs : Nat → Int32} (i : Nat) (hi : i < 18) : ((XX Ln xs).2.1 (10020 + i)).toInt = if i < 10 then -1 else ((i : Nat) : Int) - 10 := by
  have h1 := of_decide_eq_true (List.all_eq_true.mp dir_am i (List.mem_range.mpr hi))
  rw [XX_dir, sub_ten]
  exact h1
theorem wtx_b : ∀ i : Nat, i < 18 → (wtx i).length ≤ 5 ∧ ∀ k : Nat, (wtx i).getD k 0 < 123 := by
  have h : (List.range 18).all (fun i => decide ((wtx i).length ≤ 5) && (List.range 6).all (fun k => decide ((wtx i).getD k 0 < 123))) = true := by decide +kernel
  intro i hi
  have h1 := List.all_eq_true.mp h i (List.mem_range.mpr hi)
  rw [Bool.and_eq_true, decide_eq_true_iff] at h1
  refine ⟨h1.1, fun k => ?_⟩
  by_cases hk : k < 6
  · exact of_decide_eq_true (List.all_eq_true.mp h1.2 k (List.mem_range.mpr hk))
  · rw [List.getD_eq_getElem?_getD, List.getElem?_eq_none (by omega)]
    show (0 : Nat) < 123
    decide
theorem wmB_iff {u : Nat → Int} {p e : Nat} {w : List Nat} : wmB u p e w = true ↔ e - p = w.length ∧ ∀ i, i < w.length → u (p + i) = (w.getD i 0 : Nat) := by
  unfold wmB
  rw [Bool.and_eq_true, decide_eq_true_iff, List.all_eq_true]
  refine ⟨fun h => ⟨h.1, fun i hi => of_decide_eq_true (h.2 i (List.mem_range.mpr hi))⟩, fun h => ⟨h.1, fun i hi => decide_eq_true (h.2 i (List.mem_range.mp hi))⟩⟩
theorem wI_y {u : Nat → Int} {p e m i : Nat} (h : wmB u p e (wtx i) = true) : wI u p e (m + 1) i = i := if_pos h
theorem wI_n {u : Nat → Int} {p e m i : Nat} (h : ¬ wmB u p e (wtx i) = true) : wI u p e (m + 1) i = wI u p e m (i + 1) := if_neg h
theorem l_isWord (T : ZTh (XX Ln xs) CZ RZ) {d b : Nat} {Q : ZQ} {u : Nat → Int} {bl p e i : Nat} {I : ZI} {L : ZL} (hB : BY I u bl) (hp : p ≤ e ∧ e ≤ bl) (hi : i < 18) (hlen : e - p = (wtx i).length) (h : wmB u p e (wtx i) = true → Q (.inl (some (.inl 1))) I L) (h2 : ¬ wmB u p e (wtx i) = true → Q (.inl (some (.inl 0))) I L) (m : Nat) : ∀ (k : Nat), (k ≤ (wtx i).length) → (∀ j, j < k → u (p + j) = ((wtx i).getD j 0 : Nat)) → 6 - (k : Int) < (m : Int) → RZ (d + 1) k_X10_isWord Q 15 [.inr (.ref 576, 11), .inr (.ref ((XX Ln xs).2.2.1 (10020 + i)), 20), .inl ((p : Int)), zj, .inl ((k : Int))] [] b I L := by
  induction m with
  | zero =>
    intro k hk hv hm
    have := (wtx_b i hi).1
    exfalso
    omega
  | succ m ih =>
    intro k hk hv hm
    have hl := hB.1
    obtain ⟨x1, x2⟩ := txt_ok (Ln := Ln) (xs := xs) i hi
    obtain ⟨y1, y2⟩ := wtx_b i hi
    refine T.go [15] 90 ?_
    conv => whnf
    refine ⟨by rw [x1]; omega, fun c21 => ?_, fun c21 => ?_⟩
    · conv => whnf
      refine ⟨by omega, ?_⟩
      rw [x1] at c21
      exact h (wmB_iff.mpr ⟨hlen, fun j hj => hv j (by omega)⟩)
    · conv => whnf
      refine ⟨by rw [x1]; omega, ?_⟩
      conv => whnf
      rw [show (p : Int) + (k : Int) = ((p + k : Nat) : Int) by omega]
      rw [x1] at c21
      refine zinv0 (s_X10_byteAt T (u := u) (bl := bl) (i := p + k) (by first | assumption | omega | rfl | decide) (by omega) ?_)
      obtain ⟨g0, g1, g2⟩ := hB.2 (p + k) (by omega)
      obtain ⟨s0, s1, s2, s3⟩ := sB_z g0 g1
      have y3 := y2 k
      conv => whnf
      refine ⟨by rw [show ((k : Nat) : Int).toNat = k from Int.toNat_natCast k, x2 k (by omega)]; have := y2 k; exact ⟨⟨by omega, by omega⟩, ⟨by omega, by omega⟩⟩, fun c38 => ?_, fun c38 => ?_⟩
      · conv => whnf
        rw [show ((k : Nat) : Int).toNat = k from Int.toNat_natCast k, x2 k (by omega)] at c38
        refine ih (k + 1) (by omega) (fun j hj => ?_) (by omega)
        by_cases ej : j = k
        · rw [ej]; omega
        · exact hv j (by omega)
      · conv => whnf
        refine ⟨by omega, ?_⟩
        rw [show ((k : Nat) : Int).toNat = k from Int.toNat_natCast k, x2 k (by omega)] at c38
        refine h2 (fun c => ?_)
        have := (wmB_iff.mp c).2 k (by omega)
        omega
theorem s_X10_isWord (T : ZTh (XX Ln xs) CZ RZ) {d b : Nat} {u : Nat → Int} {bl p e i : Nat} {I : ZI} {L : ZL} {Q : ZQ} (hB : BY I u bl) (hp : p ≤ e ∧ e ≤ bl) (hi : i < 18) (h : wmB u p e (wtx i) = true → Q (.inl (some (.inl (1)))) I L) (h2 : ¬ wmB u p e (wtx i) = true → Q (.inl (some (.inl (0)))) I L) : CZ (d + 2) k_X10_isWord [.inr (.ref 576, 11), .inr (.ref ((XX Ln xs).2.2.1 (10020 + i)), 20), .inl ((p : Int)), .inl ((e : Int))] b I L Q := by
  refine T.call rfl ?_
  have hl := hB.1
  obtain ⟨x1, x2⟩ := txt_ok (Ln := Ln) (xs := xs) i hi
  obtain ⟨y1, y2⟩ := wtx_b i hi
  refine T.go [15] 90 ?_
  conv => whnf
  refine ⟨by rw [x1]; omega, fun c7 => ?_, fun c7 => ?_⟩
  · conv => whnf
    refine T.fg [3] ?_
    rw [x1] at c7
    exact l_isWord T hB hp hi (by omega) h h2 7 0 (by omega) (fun j hj => by omega) (by omega)
  · conv => whnf
    refine ⟨by omega, ?_⟩
    rw [x1] at c7
    exact h2 (fun c => by have := (wmB_iff.mp c).1; omega)
theorem l_findWord (T : ZTh (XX Ln xs) CZ RZ) {d b : Nat} {Q : ZQ} {u : Nat → Int} {bl p e : Nat} {I : ZI} {L : ZL} (hB : BY I u bl) (hp : p ≤ e ∧ e ≤ bl) (m : Nat) : ∀ (i : Nat), (i ≤ 18) → (Q (.inl (some (.inr (.ref (10020 + wI u p e (18 - i) i), 10)))) I L) → 18 - (i : Int) < (m : Int) → RZ (d + 2) k_X10_findWord Q 2 [.inr (.ref 576, 11), .inl ((p : Int)), .inl ((e : Int)), .inl ((i : Int))] [] b I L := by
  induction m with
  | zero =>
    intro i hi h hm
    exfalso
    omega
  | succ m ih =>
    intro i hi h hm
    have hl := hB.1
    refine T.go [2] 90 ?_
    conv => whnf
    refine ⟨by omega, fun c7 => ?_, fun c7 => ?_⟩
    · conv => whnf
      obtain rfl : i = 18 := by omega
      exact h
    · conv => whnf
      refine ⟨by omega, ?_⟩
      conv => whnf
      obtain ⟨m2, hm2⟩ : ∃ m2, 18 - i = m2 + 1 := ⟨18 - i - 1, by omega⟩
      rw [hm2] at h
      rw [show ((i : Nat) : Int).toNat = i from Int.toNat_natCast i]
      refine zinv0 (s_X10_isWord T (u := u) (bl := bl) (i := i) (by first | assumption | omega | rfl | decide) (by first | assumption | omega | rfl | decide) (by omega) ?_ ?_)
      · intro cha_21
        conv => whnf
        refine ⟨by decide, fun c => absurd c (by decide), fun _ => ?_⟩
        conv => whnf
        refine ⟨by omega, ?_⟩
        conv => whnf
        rw [wI_y cha_21] at h
        rw [show ((i : Nat) : Int).toNat = i from Int.toNat_natCast i]
        exact h
      · intro ch2a_21
        conv => whnf
        refine ⟨by decide, fun _ => ?_, fun c => absurd c (by decide)⟩
        conv => whnf
        rw [wI_n ch2a_21] at h
        exact ih (i + 1) (by omega) (by rw [show 18 - (i + 1) = m2 by omega]; exact h) (by omega)
theorem s_X10_findWord (T : ZTh (XX Ln xs) CZ RZ) {d b : Nat} {u : Nat → Int} {bl p e : Nat} {I : ZI} {L : ZL} {Q : ZQ} (hB : BY I u bl) (hp : p ≤ e ∧ e ≤ bl) (h : Q (.inl (some (.inr (.ref (10020 + wI u p e 18 0), 10)))) I L) : CZ (d + 3) k_X10_findWord [.inr (.ref 576, 11), .inl ((p : Int)), .inl ((e : Int))] b I L Q := by
  refine T.call rfl ?_
  refine T.go [2] 90 ?_
  conv => whnf
  exact l_findWord T hB hp 19 0 (by omega) h (by omega)
end
