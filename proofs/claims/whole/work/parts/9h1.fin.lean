/-! THE START, 9: what the law finds -/
noncomputable def vI9 (I : Hp Int32) (r j : Nat) : Int := (hpG 0 I r j).toInt
noncomputable def vL9 (L : Hp Int64) (r j : Nat) : Nat := (hpG 0 L r j).toBitVec.toNat
noncomputable def eqI9 (I : Hp Int32) (r j : Nat) (x : Int) : Bool := decide (vI9 I r j = x)
theorem eqI9_s {I : Hp Int32} {r j : Nat} {x : Int} (h : eqI9 I r j x = true) : vI9 I r j = x := of_decide_eq_true h
noncomputable def chF9 (I : Hp Int32) (L : Hp Int64) (i : Nat) : Bool :=
  (List.range 12).all (fun y => Nat.beq (vL9 L (6 + 5 * i) y) ((fmT.getD i 0 >>> (48 * y)) % 2 ^ 48)) &&
  (eqI9 I (5 + 5 * i) 1 (fN i) && (eqI9 I (5 + 5 * i) 2 0 && (eqI9 I (5 + 5 * i) 3 0 && (eqI9 I (5 + 5 * i) 4 (fW i) && (eqI9 I (5 + 5 * i) 5 (fH i) && (eqI9 I (2 + 5 * i) 0 (fC i) && (eqI9 I (2 + 5 * i) 4 (fQ i) && (eqI9 I (2 + 5 * i) 5 (fV i) &&
  (List.range 4).all (fun c => eqI9 I (3 + 5 * i) c (cX i c) && eqI9 I (4 + 5 * i) c (cY i c))))))))))
noncomputable def chO9 (I : Hp Int32) (L : Hp Int64) (A : Hp Nat) : Bool :=
  (eqI9 I 282 0 8 && (eqI9 I 282 1 8 && (eqI9 I 282 4 0 && (List.range 7).all (fun j => eqI9 I 286 j (-1))))) &&
  ((List.range 576).all (fun q => eqI9 I 530 q (-1)) &&
  ((List.range 12).all (fun y => Nat.beq (vL9 L 529 y) 0 && Nat.beq (vL9 L 564 y) 0) &&
  ((eqI9 I 528 1 0 && (eqI9 I 528 2 0 && (eqI9 I 528 3 0 && (eqI9 I 528 4 0 && (eqI9 I 528 5 0 && eqI9 I 527 2 0))))) &&
  ((List.range 625).all (fun p => eqI9 I 535 p 0) &&
  ((eqI9 I 533 10 0 && (eqI9 I 533 11 0 && (eqI9 I 533 12 0 && eqI9 I 0 3 0))) &&
  ((List.range 8).all (fun i => Nat.beq (hpG 0 A 304 i) (306 + 22 * i)) &&
  ((List.range 701).all (fun b => Nat.ble 1 (hpG 0 A 578 b)) &&
  (eqI9 I 562 3 0 && (eqI9 I 526 0 0 && (eqI9 I 526 1 0 && eqI9 I 576 1 0))))))))))
noncomputable def chM9 (I : Hp Int32) : Bool :=
  (List.range 7).all (fun p => eqI9 I 609 p (bW p) && (eqI9 I 610 p (bH p) && (eqI9 I 611 p (nC p) && eqI9 I 614 p (pN p)))) &&
  ((List.range 28).all (fun c => eqI9 I 612 c (mcX c) && eqI9 I 613 c (mcY c)) &&
  ((List.range 56).all (fun i => (List.range 16).all (fun k => eqI9 I 615 (16 * i + k) (lX i k) && (eqI9 I 616 (16 * i + k) (lY i k) && eqI9 I 617 (16 * i + k) (lQ i k)))) &&
  ((List.range 56).all (fun i => eqI9 I 618 i (lF i) && eqI9 I 619 i (fV i)) &&
  ((eqI9 I 604 0 0 && (List.range 28).all (fun j => eqI9 I 604 (1 + j) (-1))) &&
  (eqI9 I 603 5 8 && (eqI9 I 603 6 8 && (eqI9 I 603 7 0 && (eqI9 I 603 51 0 && (eqI9 I 608 0 0 && (eqI9 I 608 1 0 && eqI9 I 603 56 0))))))))))
noncomputable def fin9 (s : S9) : Bool := bS9 s fun _ c => match c with
  | ⟨_, _, _, _, _, I, L, A, _⟩ => (List.range 56).all (chF9 I L) && (chO9 I L A && chM9 I)
theorem fin9_s {s : S9} (h : fin9 s = true) : (∀ i, i < 56 → chF9 (hI9 s.I) (hL9 s.L) i = true) ∧ chO9 (hI9 s.I) (hL9 s.L) (hA9 s.A) = true ∧ chM9 (hI9 s.I) = true := by
  unfold fin9 at h
  rw [bS9_eq] at h
  have h1 : ((List.range 56).all (chF9 (hI9 s.I) (hL9 s.L)) && (chO9 (hI9 s.I) (hL9 s.L) (hA9 s.A) && chM9 (hI9 s.I))) = true := h
  rw [Bool.and_eq_true, Bool.and_eq_true] at h1
  exact ⟨fun i hi => List.all_eq_true.mp h1.1 i (List.mem_range.mpr hi), h1.2⟩
theorem allR9 {n : Nat} {f : Nat → Bool} (h : (List.range n).all f = true) {i : Nat} (hi : i < n) : f i = true := List.all_eq_true.mp h i (List.mem_range.mpr hi)
/-- the Z machine's heaps -/
noncomputable def Iz9 (s : S9) : ZI := fun a b => if a = 304 ∨ a = 578 then ((hpG 0 (hA9 s.A) a b.toNat : Nat) : Int) - 1 else vI9 (hI9 s.I) a b.toNat
noncomputable def Lz9 (s : S9) : ZL := fun a b => hpG 0 (hL9 s.L) a b.toNat
theorem Iz9_n (s : S9) {a : Nat} (h : a ≠ 304 ∧ a ≠ 578) (b : Int) {x : Int} (e : eqI9 (hI9 s.I) a b.toNat x = true) : Iz9 s a b = x := by
  unfold Iz9
  rw [if_neg (by omega)]
  exact eqI9_s e
theorem RgS_w {L : ZL} {r : Nat} {S : Nat → Bool} {F : Nat} (hS : ∀ q, S q = F.testBit q) (h : ∀ y : Nat, y < 12 → (L (r + 1) (y : Int)).toBitVec.toNat = (F >>> (48 * y)) % 2 ^ 48) : RgS L r S := by
  intro y hy i
  show ((L (r + 1) (y : Int)).toBitVec.toNat).testBit i = _
  rw [h y hy, Nat.testBit_mod_two_pow, Nat.testBit_shiftRight, hS]
theorem FormOK9 {s : S9} (h : ∀ i, i < 56 → chF9 (hI9 s.I) (hL9 s.L) i = true) : FormOK (Iz9 s) (Lz9 s) := by
  intro i hi
  have h1 := h i hi
  unfold chF9 at h1
  simp only [Bool.and_eq_true] at h1
  obtain ⟨w, a1, a2, a3, a4, a5, a6, a7, a8, a9⟩ := h1
  obtain ⟨b1, b2, b3, b4, b5⟩ := of_decide_eq_true (allR9 fm_box hi)
  refine ⟨RgS_w (F := fmT.getD i 0) (fun q => rfl) (fun y hy => ?_), ⟨?_, ?_, ?_, ?_, ?_⟩, ?_, ?_, ?_, fun c hc => ?_⟩
  · rw [show 5 + 5 * i + 1 = 6 + 5 * i by omega]
    exact Nat.eq_of_beq_eq_true (allR9 w hy)
  · rw [b5]; exact Iz9_n s ⟨by omega, by omega⟩ _ a1
  · rw [lo_congr (fun y _ => colO_B (fS i) y), b3]; exact Iz9_n s ⟨by omega, by omega⟩ _ a2
  · rw [lo_congr (fun y _ => rowO_B (fS i) y), b1]; exact Iz9_n s ⟨by omega, by omega⟩ _ a3
  · rw [lw_congr (fun y _ => colO_B (fS i) y), b4]; exact Iz9_n s ⟨by omega, by omega⟩ _ a4
  · rw [lw_congr (fun y _ => rowO_B (fS i) y), b2]; exact Iz9_n s ⟨by omega, by omega⟩ _ a5
  · exact Iz9_n s ⟨by omega, by omega⟩ _ a6
  · rw [(fQ_ok hi).1]; exact Iz9_n s ⟨by omega, by omega⟩ _ a7
  · exact Iz9_n s ⟨by omega, by omega⟩ _ a8
  · have h2 := allR9 a9 hc
    rw [Bool.and_eq_true] at h2
    exact ⟨Iz9_n s ⟨by omega, by omega⟩ _ h2.1, Iz9_n s ⟨by omega, by omega⟩ _ h2.2⟩
/-- nothing is placed -/
theorem own_off (q : Nat) : own offM q = -1 := by
  have h : ∀ p, ow offM p q = -1 := by
    intro p
    induction p with
    | zero => rfl
    | succ p ih => rw [ow_s, if_neg (fun e => e.1 rfl)]; exact ih
  exact h 7
theorem sil_off (q : Nat) : sil offM q = false := by
  unfold sil
  rw [own_off]
  rfl
theorem bs_off (e : Nat) : bs (sil offM) e = false := by
  unfold bs
  rw [dc_not]
  rintro ⟨q, t, _, _, h, _⟩
  rw [sil_off] at h
  cases h
theorem runO_off (n : Nat) : runO (sil offM) n = os0 := by
  induction n with
  | zero => rfl
  | succ n ih =>
    show (bif bs (sil offM) n && !oW (runO (sil offM) n) n then walk1 (sil offM) (runO (sil offM) n) n else runO (sil offM) n) = os0
    rw [bs_off, ih]
    rfl
theorem cn_off {f : Nat → Bool} (h : ∀ i, f i = false) (n : Nat) : cn f n = 0 ∧ lo f n = 0 ∧ lw f n = 0 := by
  induction n with
  | zero => exact ⟨rfl, rfl, rfl⟩
  | succ n ih => rw [cn_s, lo_s, lw_s, h n]; exact ⟨by rw [ih.1]; rfl, ih.2.1, ih.2.2⟩
theorem rowO_off {S : Nat → Bool} (h : ∀ i, S i = false) (y : Nat) : rowO S y = false := by
  unfold rowO
  rw [dc_not]
  rintro ⟨i, _, e⟩
  rw [h] at e
  cases e
theorem colO_off {S : Nat → Bool} (h : ∀ i, S i = false) (y : Nat) : colO S y = false := by
  unfold colO
  rw [dc_not]
  rintro ⟨i, _, k, _, e⟩
  rw [h] at e
  cases e
theorem Wf_off : Wf 8 8 offM := ⟨⟨by omega, fun j _ => Or.inl rfl, fun i j _ _ _ hi _ => absurd rfl hi⟩, Nat.zero_le _, fun k hk => absurd hk (Nat.not_lt_zero _)⟩
theorem RgS_off {L : ZL} {r : Nat} {S : Nat → Bool} (hS : ∀ q, S q = false) (h : ∀ y : Nat, y < 12 → (L (r + 1) (y : Int)).toBitVec.toNat = 0) : RgS L r S := by
  intro y hy i
  show ((L (r + 1) (y : Int)).toBitVec.toNat).testBit i = _
  rw [h y hy, hS, Nat.zero_testBit, Bool.and_false]
theorem CB9 {s : S9} (h : ∀ i, i < 56 → chF9 (hI9 s.I) (hL9 s.L) i = true) (h2 : chO9 (hI9 s.I) (hL9 s.L) (hA9 s.A) = true) : CB (Iz9 s) (Lz9 s) 8 8 offM (fun _ => offM) 0 (fun _ => offM) 0 (fun _ => 0) := by
  unfold chO9 at h2
  simp only [Bool.and_eq_true] at h2
  obtain ⟨⟨a1, a2, a3, a4⟩, b, c, ⟨d1, d2, d3, d4, d5, d6⟩, e, ⟨f1, f2, f3, f4⟩, g, _, k1, k2, k3, k4⟩ := h2
  have N : ∀ {a : Nat}, (a ≠ 304 ∧ a ≠ 578) → ∀ (b : Int) {x : Int}, eqI9 (hI9 s.I) a b.toNat x = true → Iz9 s a b = x := fun {a} h b {x} => Iz9_n s h b
  have hc : ∀ y, y < 12 → vL9 (hL9 s.L) 529 y = 0 ∧ vL9 (hL9 s.L) 564 y = 0 := fun y hy => by
    have := allR9 c hy
    rw [Bool.and_eq_true] at this
    exact ⟨Nat.eq_of_beq_eq_true this.1, Nat.eq_of_beq_eq_true this.2⟩
  have h3 : ∀ i : Nat, i < 8 → Iz9 s 304 i = ((305 + 22 * i : Nat) : Int) := fun i hi => by
    have := Nat.eq_of_beq_eq_true (allR9 g hi)
    show (if 304 = 304 ∨ 304 = 578 then ((hpG 0 (hA9 s.A) 304 i : Nat) : Int) - 1 else _) = _
    rw [if_pos (Or.inl rfl), this]
    omega
  refine ⟨FormOK9 h, ⟨N (by decide) _ a1, N (by decide) _ a2, fun j j0 j7 => ?_, N (by decide) _ a3, fun k hk => absurd hk (Nat.not_lt_zero _)⟩, Wf_off, ⟨fun q hq => ?_, RgS_off sil_off (fun y hy => (hc y hy).1), ⟨?_, ?_, ?_, ?_, ?_⟩, ?_, ?_, ?_, ?_, ?_⟩, ⟨by omega, N (by decide) _ f4, fun i hi => ?_, fun i j hi hj hij => ?_, fun i hi => absurd hi (Nat.not_lt_zero _)⟩, fun i hi => absurd hi (Nat.not_lt_zero _), fun t ht => ?_, ⟨fun _ => false, RgS_off (fun _ => rfl) (fun y hy => (hc y hy).2), fun _ _ => rfl, Or.inl (N (by decide) _ k1)⟩, N (by decide) _ k4, by omega, fun i hi => absurd hi (Nat.not_lt_zero _)⟩
  · obtain ⟨n, rfl⟩ := Int.eq_ofNat_of_zero_le j0
    exact ⟨N (by decide) _ (allR9 a4 (by omega)), fun hf => absurd rfl hf⟩
  · rw [own_off]; exact N (by decide) _ (allR9 b hq)
  · rw [(cn_off sil_off 576).1]; exact N (by decide) _ d1
  · rw [(cn_off (colO_off sil_off) 12).2.1]; exact N (by decide) _ d2
  · rw [(cn_off (rowO_off sil_off) 12).2.1]; exact N (by decide) _ d3
  · rw [(cn_off (colO_off sil_off) 12).2.2]; exact N (by decide) _ d4
  · rw [(cn_off (rowO_off sil_off) 12).2.2]; exact N (by decide) _ d5
  · unfold partsO
    rw [(cn_off (fun i => by rw [sil_off, Bool.false_and]) 576).1]; exact N (by decide) _ d6
  · rw [runO_off]
    refine ⟨fun p hp => ⟨0, by omega, N (by decide) _ (allR9 e hp), fun d _ => Nat.zero_testBit d⟩, N (by decide) _ f1, N (by decide) _ f2, fun i hi => absurd hi (Nat.not_lt_zero _), fun i hi => absurd hi (Nat.not_lt_zero _)⟩
  · rw [runO_off]
    exact ⟨fun i hi => absurd hi (Nat.not_lt_zero _), fun i hi => absurd hi (Nat.not_lt_zero _)⟩
  · exact Or.inl (N (by decide) _ f3)
  · rw [N (by decide) _ f3]
    refine ⟨fun x => by omega, ?_⟩
    rintro ⟨p, d1, d2, _, _, _, _, x, _⟩
    rw [bs_off] at x
    cases x
  · refine ⟨305 + 22 * i, ?_, h3 i hi⟩
    have : ∀ i : Nat, i < 8 → 305 + 22 * i ∈ paR := by decide
    exact this i hi
  · rw [h3 i hi, h3 j hj]; omega
  · have e0 : Iz9 s 526 (t : Int) = 0 := by
      match t, ht with
      | 0, _ => exact N (by decide) _ k2
      | 1, _ => exact N (by decide) _ k3
    exact ⟨Or.inl e0, fun g => by rw [e0] at g; omega⟩
theorem MB9 {s : S9} (h2 : chO9 (hI9 s.I) (hL9 s.L) (hA9 s.A) = true) (h : chM9 (hI9 s.I) = true) : MB (Iz9 s) 8 8 offM (fun _ => offM) 0 (fun _ => offM) (fun t => Iz9 s 526 (t : Int)) 0 (fun _ => 0) := by
  unfold chO9 at h2
  simp only [Bool.and_eq_true] at h2
  obtain ⟨_, _, _, _, _, _, _, _, k1, k2, k3, k4⟩ := h2
  unfold chM9 at h
  simp only [Bool.and_eq_true] at h
  obtain ⟨a, b, c, d, ⟨e1, e2⟩, f1, f2, f3, f4, f5, f6, f7⟩ := h
  have N : ∀ {a : Nat}, (a ≠ 304 ∧ a ≠ 578) → ∀ (b : Int) {x : Int}, eqI9 (hI9 s.I) a b.toNat x = true → Iz9 s a b = x := fun {a} h b {x} => Iz9_n s h b
  refine ⟨⟨fun p hp => ?_, fun p hp => ?_, fun i k hi hk => ?_, fun i hi => ?_⟩, ⟨N (by decide) _ e1, fun p w hp hw => ?_, fun k hk => absurd hk (Nat.not_lt_zero _)⟩, ⟨N (by decide) _ f1, N (by decide) _ f2⟩, ⟨N (by decide) _ f3, by omega⟩, fun i hi => absurd hi (Nat.not_lt_zero _), fun t ht => ?_, ⟨N (by decide) _ f4, by omega, fun i hi => absurd hi (Nat.not_lt_zero _)⟩, ?_⟩
  · have := allR9 a hp
    simp only [Bool.and_eq_true] at this
    exact ⟨N (by decide) _ this.1, N (by decide) _ this.2.1, N (by decide) _ this.2.2.1, N (by decide) _ this.2.2.2⟩
  · have := allR9 b hp
    simp only [Bool.and_eq_true] at this
    exact ⟨N (by decide) _ this.1, N (by decide) _ this.2⟩
  · have := allR9 (allR9 c hi) hk
    simp only [Bool.and_eq_true] at this
    exact ⟨N (by decide) _ this.1, N (by decide) _ this.2.1, N (by decide) _ this.2.2⟩
  · have := allR9 d hi
    simp only [Bool.and_eq_true] at this
    exact ⟨N (by decide) _ this.1, N (by decide) _ this.2⟩
  · rw [show tlM offM p w = -1 from if_pos rfl, Int.zero_add]
    refine N (by decide) _ ?_
    have := allR9 e2 (i := 4 * p + w) (by omega)
    rw [show 1 + (4 * p + w) = 1 + 4 * p + w by omega] at this
    exact this
  · have e0 : Iz9 s 526 (t : Int) = 0 ∧ Iz9 s 608 (t : Int) = 0 := by
      match t, ht with
      | 0, _ => exact ⟨N (by decide) _ k2, N (by decide) _ f5⟩
      | 1, _ => exact ⟨N (by decide) _ k3, N (by decide) _ f6⟩
    dsimp only
    rw [e0.1, e0.2]
    exact ⟨rfl, Or.inl rfl, fun g => by omega⟩
  · rw [N (by decide) 56 f7]; decide
theorem JB9 {s : S9} (h : fin9 s = true) : JB (Iz9 s) (Lz9 s) 8 8 offM (fun _ => offM) 0 (fun _ => offM) 0 (fun _ => 0) := by
  obtain ⟨h1, h2, h3⟩ := fin9_s h
  exact ⟨CB9 h1 h2, MB9 h2 h3⟩
