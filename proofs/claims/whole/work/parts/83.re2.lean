/-! REMEMBER, 2 -/
section
variable {Ln : Nat} {xs : Nat → Int32} {CZ : Nat → ZC} {RZ : Nat → Nat → ZQ → ZP}
theorem l_remA (T : ZTh (XX Ln xs) CZ RZ) {d b : Nat} {Q : ZQ} {W H s0 : Nat} {P : Nat → Mo} {M : Mo} {I0 : ZI} {L : ZL} (hP : PaOK I0 L W H P 8) (hs : I0 304 0 = s0) (hM : mN M ≤ 8 ∧ StC I0 L 282 W H M) (h : ∀ I' L', Fr PPa I0 I' → Fr (fun a _ => 304 ≤ a ∧ a ≤ 480) L L' → PaOK I' L' W H (fun i => if i = 7 then M else P (i + 1)) 8 → Q (.inl none) I' L') (m : Nat) : ∀ (i : Nat) (I : ZI), (1 ≤ i ∧ i ≤ 8) → (Fr (fun a _ => a = 304) I0 I) → (∀ j : Nat, j < 8 → I 304 j = if j + 1 < i then I0 304 ((j + 1 : Nat) : Int) else I0 304 j) → 8 - (i : Int) < (m : Int) → RZ (d + 2) k_X11_remember Q 18 [.inr (.ref 0, 12), .inr (.ref s0, 9), .inl ((i : Int))] [] b I L := by
  induction m with
  | zero =>
    intro i I hi hfr hv hm
    exfalso
    omega
  | succ m ih =>
    intro i I hi hfr hv hm
    obtain ⟨p1, p2, p3, p4, p5⟩ := id hP
    refine T.go [18, 58] 90 ?_
    conv => whnf
    refine ⟨by omega, fun c21 => ?_, fun c21 => ?_⟩
    · conv => whnf
      refine ⟨by decide, _, rfl, ?_⟩
      conv => whnf
      refine ⟨⟨rfl, by omega⟩, ?_⟩
      conv => whnf
      refine ⟨by decide, ?_⟩
      conv => whnf
      refine T.fg [1, 2] ?_
      obtain rfl : i = 8 := by omega
      have g : ∀ j : Nat, j < 7 → v2 (v2 I 304 7 (s0 : Int)) 0 3 7 304 (j : Int) = I0 304 ((j + 1 : Nat) : Int) := fun j hj => by
        rw [v2_ne (by omega), v2_ne (by omega), hv j (by omega), if_pos (by omega)]
      have g7 : v2 (v2 I 304 7 (s0 : Int)) 0 3 7 304 ((7 : Nat) : Int) = I0 304 ((0 : Nat) : Int) := by
        rw [v2_ne (by omega)]
        show v2 I 304 7 (s0 : Int) 304 7 = I0 304 0
        rw [v2_eq, hs]
      have gf : ∀ a b, a ≠ 304 → a ≠ 0 → v2 (v2 I 304 7 (s0 : Int)) 0 3 7 a b = I0 a b := fun a b h1 h2 => by
        rw [v2_ne (fun c => h2 c.1), v2_ne (fun c => h1 c.1), hfr _ _ h1]
      refine l_remB T (W := W) (H := H) (n := 7) (P := fun i => P (i + 1)) (M := M) (I0 := I0) ⟨by omega, v2_eq _ _ _ _, fun j hj => ?_, fun j k hj hk hjk => ?_, fun j hj => ?_⟩ (by omega) ⟨hM.1, hM.2.fr hM.1 (fun a b _ _ => gf a b (by omega) (by omega)) (fun a b _ _ => rfl)⟩ (fun a b c => ?_) (fun I2 L2 f1 f2 f3 => h I2 L2 f1 f2 f3)
      · by_cases e : j = 7
        · rw [e, g7]; exact p3 0 (by omega)
        · rw [g j (by omega)]; exact p3 (j + 1) (by omega)
      · by_cases e : j = 7
        · rw [e, g7, g k (by omega)]; exact p4 0 (k + 1) (by omega) (by omega) (by omega)
        · by_cases e2 : k = 7
          · rw [e2, g7, g j (by omega)]; exact p4 (j + 1) 0 (by omega) (by omega) (by omega)
          · rw [g j (by omega), g k (by omega)]; exact p4 (j + 1) (k + 1) (by omega) (by omega) (by omega)
      · rw [g j hj]
        obtain ⟨t, t1, t2⟩ := p3 (j + 1) (by omega)
        have ht := pa_st t1
        refine ⟨(p5 (j + 1) (by omega)).1, ?_⟩
        have h9 := (p5 (j + 1) (by omega)).2
        rw [t2] at h9 ⊢
        exact h9.fr (p5 (j + 1) (by omega)).1 (fun a b h1 h2 => gf a b (by rw [Int.toNat_natCast] at h1 h2; omega) (by rw [Int.toNat_natCast] at h1 h2; omega)) (fun a b _ _ => rfl)
      · unfold PPa at c
        by_cases e : a = 304
        · exact (c (by omega)).elim
        · by_cases e0 : a = 0
          · rw [e0, v2_ne (by omega), v2_ne (by omega), hfr _ _ (by omega)]
          · exact gf a b e e0
    · conv => whnf
      refine ⟨by decide, _, rfl, ?_⟩
      conv => whnf
      refine ⟨by decide, _, rfl, ?_⟩
      conv => whnf
      refine ⟨⟨rfl, by omega⟩, ?_⟩
      conv => whnf
      obtain ⟨t, t1, t2⟩ := p3 i (by omega)
      have hti : I 304 (i : Int) = t := by rw [hv i (by omega), if_neg (by omega)]; exact t2
      rw [hti]
      rw [show ((t : Nat) : Int).toNat = t from Int.toNat_natCast t]
      refine ⟨⟨rfl, by omega⟩, ?_⟩
      conv => whnf
      refine ih (i + 1) _ (by omega) (hfr.v2 rfl) (fun j hj => ?_) (by omega)
      rw [show (i : Int) - 1 = ((i - 1 : Nat) : Int) by omega]
      by_cases e : j = i - 1
      · rw [e, v2_eq, if_pos (by omega), show i - 1 + 1 = i by omega]; exact t2.symm
      · rw [v2_ne (by omega), hv j hj]
        by_cases e2 : j + 1 < i
        · rw [if_pos e2, if_pos (by omega)]
        · rw [if_neg e2, if_neg (by omega)]
theorem s_X11_remember (T : ZTh (XX Ln xs) CZ RZ) {d b : Nat} {W H n : Nat} (P : Nat → Mo) (M : Mo) {I : ZI} {L : ZL} {Q : ZQ} (hP : PaOK I L W H P n) (hM : mN M ≤ 8 ∧ StC I L 282 W H M) (h : ∀ I' L', Fr PPa I I' → Fr (fun a _ => 304 ≤ a ∧ a ≤ 480) L L' → PaOK I' L' W H (psh P n M) (psn n) → Q (.inl none) I' L') : CZ (d + 3) k_X11_remember [.inr (.ref 0, 12)] b I L Q := by
  refine T.call rfl ?_
  obtain ⟨p1, p2, p3, p4, p5⟩ := id hP
  obtain ⟨s0, s1, s2⟩ := p3 0 (by omega)
  refine T.go [18, 58] 90 ?_
  conv => whnf
  refine ⟨by decide, ?_⟩
  conv => whnf
  refine ⟨by omega, fun c6 => ?_, fun c6 => ?_⟩
  · conv => whnf
    have hn : n < 8 := by omega
    refine l_remB T (W := W) (H := H) (n := n) (P := P) (M := M) (I0 := I) hP hn hM (Fr.refl I) (fun I2 L2 f1 f2 f3 => h I2 L2 f1 f2 ?_)
    unfold psh psn
    rw [if_neg (by omega), if_neg (by omega)]
    exact f3
  · conv => whnf
    refine ⟨by decide, _, rfl, ?_⟩
    conv => whnf
    refine ⟨⟨rfl, by omega⟩, ?_⟩
    conv => whnf
    have hs0 : I 304 0 = s0 := s2
    rw [hs0]
    rw [show ((s0 : Nat) : Int).toNat = s0 from Int.toNat_natCast s0]
    obtain rfl : n = 8 := by omega
    exact l_remA T (W := W) (H := H) (P := P) (M := M) (I0 := I) hP s2 hM (fun I2 L2 f1 f2 f3 => h I2 L2 f1 f2 f3) 9 1 I (by omega) (Fr.refl I) (fun j hj => by rw [if_neg (by omega)]) (by omega)
end
