/-! THE LAW ITSELF, 2: the places outside -/
theorem sV_len : ∀ i, i < 9 → (sV.getD i []).length < 2 ^ 31 := by decide
theorem lenS_lt : ∀ i, i < 15 → lenS.getD i 0 < 2 ^ 31 := by decide
theorem txt_inj : ∀ i, i < 15 → ∀ j, j < 15 → Int32.ofNat (lenS.getD i 0) = Int32.ofNat (lenS.getD j 0) → (∀ p, p < lenS.getD i 0 → (bytS.getD i []).getD p 0 = (bytS.getD j []).getD p 0) → i = j := by decide +kernel
section
variable {s : State} {args : Array Value} {A : Nat → Prop}
theorem inF_of {w : Cond} {i j : Nat} (hs : ∀ w ∈ fl, w.before args s = true) (h : inF i j w = true) : w.before args s = true := hs w (inF_mem h)
theorem inT_of {w : Cond} {q : Nat} (hts : ∀ w ∈ lw_tbl, w.before args s = true) (h : inT q w = true) : w.before args s = true := hts w (inT_mem h)
theorem lw_sta (hs : ∀ w ∈ fl, w.before args s = true) (hts : ∀ w ∈ lw_tbl, w.before args s = true) (hA : ∀ a : Nat, a < s.heap.size → ¬ A a) : ∃ fa : Nat → Nat, ∀ i, i < 9 → va_T .int (fa i) (sV.getD i []).length (fun j => .int ((sV.getD i []).getD j 0)) A s s.heap ∧ va_Z (sC i) (sF9 i) "[I" (.ref (fa i)) A s s.heap := by
  have h0 : ∀ i, ∃ a : Nat, i < 9 → va_T .int a (sV.getD i []).length (fun j => .int ((sV.getD i []).getD j 0)) A s s.heap ∧ va_Z (sC i) (sF9 i) "[I" (.ref a) A s s.heap := by
    intro i
    by_cases hi : i < 9
    · have hw := List.all_eq_true.mp w_sta i (List.mem_range.mpr hi)
      simp only [Bool.and_eq_true] at hw
      obtain ⟨⟨⟨⟨w1, w2⟩, w3⟩, w4⟩, w5⟩ := hw
      obtain ⟨t, ht, hT⟩ := va_Tof (A := A) (f := fun j => .int ((sV.getD i []).getD j 0)) (sV_len i hi) (inF_of hs w1) (va_eqt (inF_of hs w2)) (fun j hj => va_eqt (inF_of hs (List.all_eq_true.mp w3 j (List.mem_range.mpr hj)))) hA
      exact ⟨t, fun _ => ⟨hT, va_Zref (inT_of hts w4) (inT_of hts w5) ht hA⟩⟩
    · exact ⟨0, fun h => absurd h hi⟩
  exact ⟨fun i => Classical.choose (h0 i), fun i hi => Classical.choose_spec (h0 i) hi⟩
theorem lw_txt (hs : ∀ w ∈ fl, w.before args s = true) (hA : ∀ a : Nat, a < s.heap.size → ¬ A a) : ∃ adK adV : Nat → Nat, vk_S 15 lenS bytS adK adV A s s.heap ∧ ∀ i, i < 15 → (txT i).eval args s none [] s = some (.ref (adK i)) := by
  have h0 : ∀ i, ∃ q : Nat × Nat, i < 15 → (txT i).eval args s none [] s = some (.ref q.1) ∧ va_O "java/lang/String" q.1 A s s.heap ∧ va_OF "java/lang/String" "coder" "B" (.int 0) q.1 A s s.heap ∧ va_OF "java/lang/String" "value" "[B" (.ref q.2) q.1 A s s.heap ∧ va_T .byte q.2 (lenS.getD i 0) (fun j => .int ((bytS.getD i []).getD j 0)) A s s.heap := by
    intro i
    by_cases hi : i < 15
    · have hw := List.all_eq_true.mp w_txt i (List.mem_range.mpr hi)
      simp only [Bool.and_eq_true] at hw
      obtain ⟨⟨⟨⟨w1, w2⟩, w3⟩, w4⟩, w5⟩ := hw
      obtain ⟨a, c, cA, kA, q1, q2, q3, q4, q5, q6, -⟩ := Cond.exactly_spec (args := args) (first := s) (o := none) (s := s) (idx := []) (t := txT i) (cls := "java/lang/String") (inF_of hs w1)
      obtain ⟨t, ht, hT⟩ := va_Tof (A := A) (f := fun j => .int ((bytS.getD i []).getD j 0)) (lenS_lt i hi) (inF_of hs w3) (va_eqt (inF_of hs w4)) (fun j hj => va_eqt (inF_of hs (List.all_eq_true.mp w5 j (List.mem_range.mpr hj)))) hA
      exact ⟨(a, t), fun _ => ⟨q1, va_Oof (inF_of hs w1) q1 hA, vk_OFof q1 (va_eqt (inF_of hs w2)) hA, vk_OFof q1 ht hA, hT⟩⟩
    · exact ⟨(0, 0), fun h => absurd h hi⟩
  refine ⟨fun i => (Classical.choose (h0 i)).1, fun i => (Classical.choose (h0 i)).2, ⟨fun i hi => (Classical.choose_spec (h0 i) hi).2, fun i j hi hj he => ?_⟩, fun i hi => (Classical.choose_spec (h0 i) hi).1⟩
  have he : (Classical.choose (h0 i)).1 = (Classical.choose (h0 j)).1 := he
  obtain ⟨-, -, -, ⟨cf, k, x, f, cell, e1, e2, e3, e4, e5, -⟩, ⟨c2, g1, g2, g3, g4, g5, g6, -⟩⟩ := Classical.choose_spec (h0 i) hi
  obtain ⟨-, -, -, ⟨cf', k', x', f', cell', e1', e2', e3', e4', e5', -⟩, ⟨c2', g1', g2', g3', g4', g5', g6', -⟩⟩ := Classical.choose_spec (h0 j) hj
  cases e1.symm.trans e1'
  rw [← he, e3] at e3'
  cases e3'
  have hv : (Value.ref (Classical.choose (h0 i)).2) = .ref (Classical.choose (h0 j)).2 := Option.some.inj (e5.symm.trans e5')
  have hv : (Classical.choose (h0 i)).2 = (Classical.choose (h0 j)).2 := by injection hv
  rw [← hv, g1] at g1'
  cases g1'
  have hl : Int32.ofNat (lenS.getD i 0) = Int32.ofNat (lenS.getD j 0) := g5.symm.trans g5'
  have hn : lenS.getD i 0 = lenS.getD j 0 := by
    have h1 := lenS_lt i hi
    have h2 := lenS_lt j hj
    have h3 : (Int32.ofNat (lenS.getD i 0)).toInt = (Int32.ofNat (lenS.getD j 0)).toInt := by rw [hl]
    rw [Int32.toInt_ofNat_of_lt h1, Int32.toInt_ofNat_of_lt h2] at h3
    omega
  refine txt_inj i hi j hj hl (fun p hp => ?_)
  have h1 := g6 p hp
  rw [g6' p (by rw [← hn]; exact hp)] at h1
  have h1 := Option.some.inj h1
  injection h1 with h1
  exact h1.symm
theorem ne_ref {t u : Term} {a : Nat} (h : (Cond.not (Cond.eq t u)).before args s = true) (h2 : u.eval args s none [] s = some (.ref a)) (h3 : t.eval args s none [] s = some (.ref a)) : False := by
  simp [Cond.before, Cond.holds, Cond.value, h2, h3] at h
theorem lw_tok (hs : ∀ w ∈ fl, w.before args s = true) (hts : ∀ w ∈ lw_tbl, w.before args s = true) (hA : ∀ a : Nat, a < s.heap.size → ¬ A a) {adK : Nat → Nat} (hK : ∀ i, i < 15 → (txT i).eval args s none [] s = some (.ref (adK i))) :
    ∃ ft : Nat → Nat, (∀ i, i < 18 → (tkT i).eval args s none [] s = some (.ref (ft i)) ∧ va_OF RX9 "direction" "I" (.int (tkD.getD i 0)) (ft i) A s s.heap ∧ va_OF RX9 "text" "Ljava/lang/String;" (.ref (adK (tkX.getD i 0))) (ft i) A s s.heap ∧ va_O RX9 (ft i) A s s.heap ∧ va_Z RX9 (tkN.getD i "") "LTangramBoard$Token;" (.ref (ft i)) A s s.heap) ∧
      (∀ i j, i < 18 → j < 18 → ft i = ft j → i = j) ∧ ∃ a, va_T (.object RX9) a 18 (fun j => .ref (ft j)) A s s.heap ∧ va_Z "TangramBoard" "TOKENS" "[LTangramBoard$Token;" (.ref a) A s s.heap := by
  have hx : ∀ i, i < 18 → tkX.getD i 0 < 15 := by decide
  have h0 : ∀ i, ∃ a : Nat, i < 18 → (tkT i).eval args s none [] s = some (.ref a) ∧ va_OF RX9 "direction" "I" (.int (tkD.getD i 0)) a A s s.heap ∧ va_OF RX9 "text" "Ljava/lang/String;" (.ref (adK (tkX.getD i 0))) a A s s.heap ∧ va_O RX9 a A s s.heap ∧ va_Z RX9 (tkN.getD i "") "LTangramBoard$Token;" (.ref a) A s s.heap := by
    intro i
    by_cases hi : i < 18
    · have hw := List.all_eq_true.mp w_tok i (List.mem_range.mpr hi)
      simp only [Bool.and_eq_true] at hw
      obtain ⟨⟨⟨⟨⟨w1, w2⟩, w3⟩, w4⟩, w5⟩, w6⟩ := hw
      obtain ⟨a, c, cA, kA, q1, -⟩ := Cond.exactly_spec (args := args) (first := s) (o := none) (s := s) (idx := []) (t := tkT i) (cls := RX9) (inF_of hs w1)
      exact ⟨a, fun _ => ⟨q1, vk_OFof q1 (va_eqt (inF_of hs w2)) hA, vk_OFof q1 (va_eqv (inF_of hs w3) (hK _ (hx i hi))) hA, va_Oof (inF_of hs w1) q1 hA, va_Zref (inT_of hts w4) (hts _ (mt9 9 rfl)) q1 hA⟩⟩
    · exact ⟨0, fun h => absurd h hi⟩
  have hne : ∀ i j, i < 18 → j < i → ¬ Classical.choose (h0 j) = Classical.choose (h0 i) := by
    intro i j hi hj he
    have hw := List.all_eq_true.mp w_tok i (List.mem_range.mpr hi)
    simp only [Bool.and_eq_true] at hw
    have h1 := inF_of hs (List.all_eq_true.mp hw.2 j (List.mem_range.mpr hj))
    have h2 := (Classical.choose_spec (h0 i) hi).1
    have h3 := (Classical.choose_spec (h0 j) (by omega)).1
    rw [he] at h3
    exact ne_ref h1 h2 h3
  refine ⟨fun i => Classical.choose (h0 i), fun i hi => Classical.choose_spec (h0 i) hi, fun i j hi hj he => ?_, ?_⟩
  · rcases Nat.lt_trichotomy i j with h | h | h
    · exact absurd he (hne j i hj h)
    · exact h
    · exact absurd he.symm (hne i j hi h)
  · obtain ⟨t, ht, hT⟩ := va_Tof (A := A) (N := 18) (f := fun j => .ref (Classical.choose (h0 j))) (by decide) (hs _ (mi9 4 rfl)) (va_eqt (hs _ (mi9 5 rfl))) (fun j hj => by
      have hw := List.all_eq_true.mp w_tok j (List.mem_range.mpr hj)
      simp only [Bool.and_eq_true] at hw
      exact va_eqv (inF_of hs hw.1.2) (Classical.choose_spec (h0 j) hj).1) hA
    exact ⟨t, hT, va_Zref (hts _ (mt9 7 rfl)) (hts _ (mt9 8 rfl)) ht hA⟩
end
