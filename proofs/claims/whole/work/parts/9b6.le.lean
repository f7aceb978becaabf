/-! TEXTS, 4: all tokens -/
section
variable {Ln : Nat} {xs : Nat → Int32} {CZ : Nat → ZC} {RZ : Nat → Nat → ZQ → ZP}
theorem tkU_18 {u : Nat → Int} {n p : Nat} : tkU u n p < 18 := by
  unfold tkU
  by_cases h0 : n ≤ p
  · rw [if_pos h0]; omega
  · rw [if_neg h0]
    by_cases h1 : bS (u p) = 1
    · rw [if_pos h1]
      have hg : ∀ m i, i + m = 18 → wI u p (tE u n p) m i < 18 := by
        intro m
        induction m with
        | zero => intro i _; show (1 : Nat) < 18; decide
        | succ m ih =>
          intro i hi
          show (if wmB u p (tE u n p) (wtx i) = true then i else wI u p (tE u n p) m (i + 1)) < 18
          by_cases c : wmB u p (tE u n p) (wtx i) = true
          · rw [if_pos c]; omega
          · rw [if_neg c]; exact ih (i + 1) (by omega)
      exact hg 18 0 (by omega)
    · rw [if_neg h1]
      repeat' split
      all_goals omega
theorem s_X10_kind (T : ZTh (XX Ln xs) CZ RZ) {d b : Nat} {u : Nat → Int} {n c i : Nat} {I : ZI} {L : ZL} {Q : ZQ} (hT : TkC I u n c i) (hn : n ≤ 700) (h : Q (.inl (some (.inr (.ref (10020 + tkU u n (posA u n i)), 10)))) I L) : CZ (d + 1) k_X10_kind [.inr (.ref 576, 11)] b I L Q := by
  refine T.call rfl ?_
  obtain ⟨k1, k2, k3, k4, k5, k6⟩ := id hT
  obtain ⟨e1, e2, e3⟩ := k4 i k6
  have hpb := (posA_b u n i).1
  refine T.go [] 90 ?_
  conv => whnf
  refine ⟨by decide, _, rfl, ?_⟩
  conv => whnf
  refine ⟨by decide, ?_⟩
  conv => whnf
  refine ⟨⟨rfl, by rw [k5]; omega⟩, ?_⟩
  conv => whnf
  rw [show (I 578 (I 576 5)).toNat = 10020 + tkU u n (posA u n i) by rw [k5, e1]; omega]
  exact h
theorem s_X10_number (T : ZTh (XX Ln xs) CZ RZ) {d b : Nat} {u : Nat → Int} {n c i : Nat} {I : ZI} {L : ZL} {Q : ZQ} (hT : TkC I u n c i) (hn : n ≤ 700) (h : Q (.inl (some (.inl (I 580 (i : Int))))) I L) : CZ (d + 1) k_X10_number [.inr (.ref 576, 11)] b I L Q := by
  refine T.call rfl ?_
  obtain ⟨k1, k2, k3, k4, k5, k6⟩ := id hT
  obtain ⟨e1, e2, e3⟩ := k4 i k6
  have hpb := (posA_b u n i).1
  refine T.go [] 90 ?_
  conv => whnf
  refine ⟨by decide, _, rfl, ?_⟩
  conv => whnf
  refine ⟨by decide, ?_⟩
  conv => whnf
  refine ⟨by rw [k5]; omega, by decide, ?_⟩
  conv => whnf
  rw [k5]
  exact h
theorem s_X10_start (T : ZTh (XX Ln xs) CZ RZ) {d b : Nat} {u : Nat → Int} {n c i : Nat} {I : ZI} {L : ZL} {Q : ZQ} (hT : TkC I u n c i) (hn : n ≤ 700) (h : Q (.inl (some (.inl (((posA u n i : Nat) : Int))))) I L) : CZ (d + 1) k_X10_start [.inr (.ref 576, 11)] b I L Q := by
  refine T.call rfl ?_
  obtain ⟨k1, k2, k3, k4, k5, k6⟩ := id hT
  obtain ⟨e1, e2, e3⟩ := k4 i k6
  have hpb := (posA_b u n i).1
  refine T.go [] 90 ?_
  conv => whnf
  refine ⟨by decide, _, rfl, ?_⟩
  conv => whnf
  refine ⟨by decide, ?_⟩
  conv => whnf
  refine ⟨by rw [k5]; omega, by decide, ?_⟩
  conv => whnf
  rw [k5, e2]
  exact h
theorem s_X10_startBefore (T : ZTh (XX Ln xs) CZ RZ) {d b : Nat} {u : Nat → Int} {n c i : Nat} {I : ZI} {L : ZL} {Q : ZQ} (hT : TkC I u n c i) (hn : n ≤ 700) (hi : 0 < i) (h : Q (.inl (some (.inl (((posA u n (i - 1) : Nat) : Int))))) I L) : CZ (d + 1) k_X10_startBefore [.inr (.ref 576, 11)] b I L Q := by
  refine T.call rfl ?_
  obtain ⟨k1, k2, k3, k4, k5, k6⟩ := id hT
  obtain ⟨e1, e2, e3⟩ := k4 i k6
  have hpb := (posA_b u n i).1
  obtain ⟨b1, b2, b3⟩ := k4 (i - 1) (by omega)
  refine T.go [] 90 ?_
  conv => whnf
  refine ⟨by decide, ?_⟩
  conv => whnf
  refine ⟨by rw [k5]; omega, fun c4 => by exfalso; rw [k5] at c4; omega, fun c4 => ?_⟩
  conv => whnf
  refine ⟨by decide, _, rfl, ?_⟩
  conv => whnf
  refine ⟨by decide, ?_⟩
  conv => whnf
  refine ⟨by rw [k5]; omega, by decide, ?_⟩
  conv => whnf
  rw [k5, show (i : Int) - 1 = ((i - 1 : Nat) : Int) by omega, b2]
  exact h
theorem s_X10_advance (T : ZTh (XX Ln xs) CZ RZ) {d b : Nat} {u : Nat → Int} {n c i : Nat} {I : ZI} {L : ZL} {Q : ZQ} (hT : TkC I u n c i) (hn : n ≤ 700) (hi : i < c) (h : Q (.inl none) (v2 I 576 5 ((i + 1 : Nat) : Int)) L) : CZ (d + 1) k_X10_advance [.inr (.ref 576, 11)] b I L Q := by
  refine T.call rfl ?_
  obtain ⟨k1, k2, k3, k4, k5, k6⟩ := id hT
  obtain ⟨e1, e2, e3⟩ := k4 i k6
  have hpb := (posA_b u n i).1
  refine T.go [] 90 ?_
  conv => whnf
  refine ⟨by decide, ?_⟩
  conv => whnf
  refine ⟨by rw [k5]; omega, fun c7 => by exfalso; rw [k5] at c7; omega, fun c7 => ?_⟩
  conv => whnf
  refine ⟨by decide, ?_⟩
  conv => whnf
  refine ⟨by decide, ?_⟩
  conv => whnf
  rw [k5, show (i : Int) + 1 = ((i + 1 : Nat) : Int) by omega]
  exact h
theorem TkC.adv {I : ZI} {u : Nat → Int} {n c i : Nat} (h : TkC I u n c i) (hi : i < c) : TkC (v2 I 576 5 ((i + 1 : Nat) : Int)) u n c (i + 1) :=
  ⟨h.1, h.2.1, h.2.2.1, fun j hj => (h.2.2.2.1 j hj).fr (fun a a1 a2 => v2_ne (by omega)), v2_eq _ _ _ _, by omega⟩
theorem l_scan (T : ZTh (XX Ln xs) CZ RZ) {d b : Nat} {Q : ZQ} {u : Nat → Int} {bl n : Nat} {I0 : ZI} {L : ZL} (hn : n ≤ bl) (h : ∀ I' c', Fr (fun a b => a = 578 ∨ a = 579 ∨ a = 580 ∨ (a = 576 ∧ b = 5)) I0 I' → TkC I' u n c' 0 → Q (.inl none) I' L) (m : Nat) : ∀ (c : Nat) (I : ZI), (c ≤ posA u n c ∧ ∀ j, j < c → posA u n j < n) → (Fr (fun a b => a = 578 ∨ a = 579 ∨ a = 580 ∨ (a = 576 ∧ b = 5)) I0 I) → (BY I u bl) → (∀ j, j < c → TkE I u n j) → 701 - (c : Int) < (m : Int) → RZ (d + 4) k_X10_scan Q 10 [.inr (.ref 576, 11), .inl ((n : Int)), .inl (((posA u n c : Nat) : Int)), .inl ((c : Int))] [] b I L := by
  induction m with
  | zero =>
    intro c I hc hfr hB hE hm
    have hl := hB.1
    have hpb := (posA_b u n c).1
    exfalso
    omega
  | succ m ih =>
    intro c I hc hfr hB hE hm
    have hl := hB.1
    have hpb := (posA_b u n c).1
    refine T.go [10] 90 ?_
    conv => whnf
    refine ⟨by omega, fun c12 => ?_, fun c12 => ?_⟩
    · conv => whnf
      refine ⟨by decide, _, rfl, ?_⟩
      conv => whnf
      refine ⟨⟨rfl, by omega⟩, ?_⟩
      conv => whnf
      refine ⟨by decide, _, rfl, ?_⟩
      conv => whnf
      refine ⟨by omega, by decide, ?_⟩
      conv => whnf
      refine ⟨by decide, ?_⟩
      conv => whnf
      have hpn : posA u n c = n := by omega
      have htk : tkU u n n = 0 := if_pos (Nat.le_refl n)
      refine h _ c (((hfr.v2 (by omega)).v2 (by omega)).v2 (by omega)) ⟨by omega, hpn, hc.2, fun j hj => ?_, v2_eq _ _ _ _, by omega⟩
      by_cases e : j = c
      · refine ⟨?_, ?_, fun c2 => ?_⟩
        · rw [e, hpn, htk, v2_ne (by omega), v2_ne (by omega), v2_eq]
          rfl
        · rw [e, hpn, v2_ne (by omega), v2_eq]
        · rw [e, hpn, htk] at c2
          exact absurd c2 (by decide)
      · exact (hE j (by omega)).fr (fun a a1 a2 => by rw [v2_ne (by omega), v2_ne (by omega), v2_ne (by omega)])
    · conv => whnf
      refine ⟨by omega, fun c19 => by exfalso; omega, fun c19 => ?_⟩
      conv => whnf
      refine zinv0 (s_X10_scanToken T (u := u) (bl := bl) (n := n) (c := c) (p := posA u n c) (by first | assumption | omega | rfl | decide) (by first | assumption | omega | rfl | decide) (by rfl) (by omega) (by exact hc.1) ?_)
      intro I_27 hf_27 hT_27
      conv => whnf
      have htb := tE_b (show posA u n c < n by omega) ((posA_b u n c).2 (by omega))
      have hB2 : BY I_27 u bl := hB.fr (fun b => hf_27 _ _ (by omega))
      refine zinv0 (s_X10_endOfRun T (u := u) (bl := bl) (n := n) (s := 0) (x := tE u n (posA u n c)) (by exact hB2) (by first | assumption | omega | rfl | decide) (by omega) (by omega) ?_)
      conv => whnf
      have hps := posA_s (u := u) (n := n) (i := c) (by omega)
      have epos : eRn u n 0 (tE u n (posA u n c)) = posA u n (c + 1) := by
        show _ = nxT u n (posA u n c)
        unfold nxT
        rw [if_neg (by omega)]
      rw [epos]
      refine ih (c + 1) I_27 ⟨by omega, fun j hj => ?_⟩ (hfr.trans (hf_27.mono (fun a b c => by omega))) hB2 (fun j hj => ?_) (by omega)
      · by_cases e : j = c
        · rw [e]; omega
        · exact hc.2 j (by omega)
      · by_cases e : j = c
        · rw [e]; exact hT_27
        · exact (hE j (by omega)).fr (fun a a1 a2 => hf_27 _ _ (by omega))
theorem s_X10_scan (T : ZTh (XX Ln xs) CZ RZ) {d b : Nat} {u : Nat → Int} {bl n : Nat} {I : ZI} {L : ZL} {Q : ZQ} (hB : BY I u bl) (hn : n ≤ bl) (h : ∀ I' c', Fr (fun a b => a = 578 ∨ a = 579 ∨ a = 580 ∨ (a = 576 ∧ b = 5)) I I' → TkC I' u n c' 0 → Q (.inl none) I' L) : CZ (d + 5) k_X10_scan [.inr (.ref 576, 11), .inl ((n : Int))] b I L Q := by
  refine T.call rfl ?_
  have hl := hB.1
  refine T.go [10] 90 ?_
  conv => whnf
  refine zinv0 (s_X10_endOfRun T (u := u) (bl := bl) (n := n) (s := 0) (x := 0) (by first | assumption | omega | rfl | decide) (by first | assumption | omega | rfl | decide) (by omega) (by omega) ?_)
  conv => whnf
  exact l_scan T (u := u) (n := n) hn h 702 0 I ⟨Nat.zero_le _, fun j hj => by omega⟩ (Fr.refl I) hB (fun j hj => by omega) (by omega)
end
