/-! THE LAW ITSELF, 3: the world at the start -/
theorem T_congr {ty : FieldType} {t N : Nat} {f g : Nat → Value} {A : Nat → Prop} {U : State} {H : Heap} (h : va_T ty t N f A U H) (e : ∀ j, j < N → f j = g j) : va_T ty t N g A U H := by
  obtain ⟨c, h1, h2, h3, h4, h5, h6, h7⟩ := h
  exact ⟨c, h1, h2, h3, h4, h5, fun j hj => by rw [h6 j hj, e j hj], h7⟩
/-- where the places outside lie -/
def adF (b : Nat) (fa : Nat → Nat) (ta : Nat) (ft adK adV : Nat → Nat) (r : Nat) : Nat := if r = 10100 then b else if r < 10009 then fa (r - 10000) else if r = 10009 then ta else if r < 10050 then ft (r - 10020) else if r < 10070 then adK (r - 10050) else adV (r - 10070)
section
variable {b : Nat} {fa : Nat → Nat} {ta : Nat} {ft adK adV : Nat → Nat}
theorem adF_b : adF b fa ta ft adK adV 10100 = b := by unfold adF; rw [if_pos rfl]
theorem adF_a {i : Nat} (h : i < 9) : adF b fa ta ft adK adV (10000 + i) = fa i := by unfold adF; rw [if_neg (by omega), if_pos (by omega), Nat.add_sub_cancel_left]
theorem adF_t : adF b fa ta ft adK adV 10009 = ta := by unfold adF; rw [if_neg (by omega), if_neg (by omega), if_pos rfl]
theorem adF_k {i : Nat} (h : i < 18) : adF b fa ta ft adK adV (10020 + i) = ft i := by unfold adF; rw [if_neg (by omega), if_neg (by omega), if_neg (by omega), if_pos (by omega), Nat.add_sub_cancel_left]
theorem adF_x {i : Nat} (h : i < 15) : adF b fa ta ft adK adV (10050 + i) = adK i := by unfold adF; rw [if_neg (by omega), if_neg (by omega), if_neg (by omega), if_neg (by omega), if_pos (by omega), Nat.add_sub_cancel_left]
theorem adF_v {i : Nat} (h : i < 15) : adF b fa ta ft adK adV (10070 + i) = adV i := by unfold adF; rw [if_neg (by omega), if_neg (by omega), if_neg (by omega), if_neg (by omega), if_neg (by omega), Nat.add_sub_cancel_left]
end
theorem stL_c : stL.all (fun q => (List.range 9).any (fun i => decide (q.1 = sC i) && decide (q.2.1 = sF9 i) && decide (q.2.2.1 = "[I") && Nat.beq q.2.2.2.1 (10000 + i)) || (decide (q.1 = "TangramBoard") && decide (q.2.1 = "TOKENS") && decide (q.2.2.1 = "[LTangramBoard$Token;") && Nat.beq q.2.2.2.1 10009) ||
  (List.range 18).any (fun i => decide (q.1 = RX9) && decide (q.2.1 = tkN.getD i "") && decide (q.2.2.1 = "LTangramBoard$Token;") && Nat.beq q.2.2.2.1 (10020 + i))) = true := by decide +kernel
theorem statL_c : statL.all (fun q => !Nat.beq (kSort q.2) 6 || (List.range 9).any (fun i => Nat.beq q.1 (10000 + i) && Nat.beq (kLen q.2) (sV.getD i []).length)) = true := by decide +kernel
theorem XX_s {L : Nat} {xs : Nat → Int32} {i : Nat} (h : i < 9) (j : Nat) : (XX L xs).1 (10000 + i) j = (sV.getD i []).getD j 0 := by
  show (bif Nat.beq (10000 + i) 10100 then xs j else (sV.getD (10000 + i - 10000) []).getD j 0) = _
  rw [beq_f (by omega), Nat.add_sub_cancel_left]; rfl
theorem XX_d {L : Nat} {xs : Nat → Int32} (i : Nat) : (XX L xs).2.1 (10020 + i) = tkD.getD i 0 := by
  simp only [XX, Nat.add_sub_cancel_left]
theorem XX_l {L : Nat} {xs : Nat → Int32} (k : Nat) : (XX L xs).2.2.2.1 (10050 + k) = lenS.getD k 0 := by
  simp only [XX, Nat.add_sub_cancel_left]
theorem XX_b {L : Nat} {xs : Nat → Int32} (k j : Nat) : (XX L xs).2.2.2.2.1 (10050 + k) j = (bytS.getD k []).getD j 0 := by
  simp only [XX, Nat.add_sub_cancel_left]
theorem XX_x {L : Nat} {xs : Nat → Int32} (i : Nat) : (XX L xs).2.2.1 (10020 + i) = 10050 + tkX.getD i 0 := by
  simp only [XX, Nat.add_sub_cancel_left]
theorem tkX_lt : ∀ i, i < 18 → tkX.getD i 0 < 15 := by decide
theorem arr_p {s : State} {args : Array Value} {t : FieldType} (h : (Cond.arrayClass t).before args s = true) (ht : ∀ C, t ≠ .object C) : ∃ c, ArrOfT s c t ∧ va_RA s c t := by
  obtain ⟨c, k, comp, h1, h2, h3⟩ := Cond.arrayClass_spec h
  refine ⟨c, fun n z => ⟨fun k h => (by cases h), k, h2, comp, h3⟩, ?_⟩
  cases t with
  | object C => exact absurd rfl (ht C)
  | _ => exact h1
theorem arr_o {s : State} {args : Array Value} {C : String} (h : (Cond.arrayOver (.object C)).before args s = true) : ∃ c, ArrOfT s c (.object C) ∧ va_RA s c (.object C) := by
  obtain ⟨comp, c, k, f1, f2, f3, f4, f5⟩ := Cond.arrayOver_spec h
  exact ⟨c, fun n z => ⟨fun k h => (by cases h), k, f3, comp, f4⟩, k, comp, f3, f4, f1, f5⟩
section
variable {s : State} {args : Array Value}
theorem lw_cls (hts : ∀ w ∈ lw_tbl, w.before args s = true) : ∃ D : va_G, ∀ (c : Nat) (q : vw_C), amCl[c]? = some q → u_Kn s q.1 q.2.1 q.2.2 (D.1 c) (D.2 c) := by
  have h0 : ∀ c : Nat, ∃ x : ClassId × (Nat → Nat), ∀ q, amCl[c]? = some q → u_Kn s q.1 q.2.1 q.2.2 x.1 x.2 := by
    intro c
    cases hq : amCl[c]? with
    | none => exact ⟨(0, fun _ => 0), fun q h => by cases h⟩
    | some q =>
      have hw := List.all_eq_true.mp w_cl c (List.mem_range.mpr (List.getElem?_eq_some_iff.mp hq).1)
      rw [nth_eq, hq] at hw
      cases hr : nth clP c with
      | none => rw [hr] at hw; cases hw
      | some r =>
      rw [hr] at hw
      have hw : (allT (u_ws q.1 q.2.1 q.2.2) r.1 && inT r.2 (.instantiable q.1 q.2.2)) = true := hw
      rw [Bool.and_eq_true] at hw
      obtain ⟨cC, iS, hk⟩ := u_known (C := q.1) (T := q.2.1) (N := q.2.2) (n := q.2.2) hts (allT_mem _ _ hw.1) (inT_of hts hw.2)
      exact ⟨(cC, iS), fun q' h => by cases h; exact hk⟩
  exact ⟨(fun c => (Classical.choose (h0 c)).1, fun c => (Classical.choose (h0 c)).2), fun c q hq => Classical.choose_spec (h0 c) q hq⟩
theorem lw_arr (hts : ∀ w ∈ lw_tbl, w.before args s = true) : ∃ ca : Nat → ClassId, ∀ (n : Nat) (ad kd : Nat → Nat), ∀ q ∈ tysL (n, ca, ad, kd), ArrOfT s q.1 q.2 ∧ va_RA s q.1 q.2 := by
  have p : ∀ t, t ∈ [FieldType.int, .boolean, .byte, .long] → ∃ c, ArrOfT s c t ∧ va_RA s c t := fun t ht => arr_p (hts _ (allT_mem _ _ w_ar _ (by simp only [List.mem_cons, List.not_mem_nil, or_false] at ht ⊢; rcases ht with rfl | rfl | rfl | rfl <;> simp))) (fun C e => by subst e; simp at ht)
  have o : ∀ C, C ∈ [RX1, RX6, RX8, RX9] → ∃ c, ArrOfT s c (.object C) ∧ va_RA s c (.object C) := fun C hC => arr_o (hts _ (allT_mem _ _ w_ao _ (by simp only [List.mem_cons, List.not_mem_nil, or_false] at hC ⊢; rcases hC with rfl | rfl | rfl | rfl <;> simp)))
  obtain ⟨c1, h1⟩ := p .int (by simp)
  obtain ⟨c2, h2⟩ := p .boolean (by simp)
  obtain ⟨c3, h3⟩ := p .byte (by simp)
  obtain ⟨c4, h4⟩ := p .long (by simp)
  obtain ⟨d1, g1⟩ := o RX1 (by simp)
  obtain ⟨d6, g6⟩ := o RX6 (by simp)
  obtain ⟨d8, g8⟩ := o RX8 (by simp)
  obtain ⟨d9, g9⟩ := o RX9 (by simp)
  refine ⟨fun k => if k = 1 then c1 else if k = 2 then c2 else if k = 3 then c3 else if k = 4 then c4 else if k = 11 then d1 else if k = 16 then d6 else if k = 18 then d8 else d9, fun n ad kd q hq => ?_⟩
  simp only [tysL, List.mem_cons, List.not_mem_nil, or_false] at hq
  rcases hq with rfl | rfl | rfl | rfl | rfl | rfl | rfl | rfl | rfl | rfl | rfl | rfl | rfl | rfl | rfl | rfl | rfl <;> first | exact h1 | exact h2 | exact h3 | exact h4 | exact g1 | exact g6 | exact g8 | exact g9
end
theorem lw_world {s : State} {b L : Nat} {xs : Nat → Int32} (hts : ∀ w ∈ lw_tbl, w.before #[Value.ref b] s = true) (hs : ∀ w ∈ fl, w.before #[Value.ref b] s = true) (hX : va_X b L xs s s.heap) (hb : b < s.heap.size) (hL : L ≤ 3072) (kd : Nat → Nat) (hkd : ∀ r r', kd r = 0 → r ≤ r' → kd r' = 0) :
    ∃ (G : GE) (D : va_G), G.1 = s.heap.size ∧ G.2.2.2 = kd ∧ G.2.2.1 10100 = b ∧ Gd G (XX L xs) ∧ Wd G D (XX L xs) s := by
  obtain ⟨D, hD⟩ := lw_cls hts
  obtain ⟨ca, hca⟩ := lw_arr hts
  have hA : ∀ a : Nat, a < s.heap.size → ¬ (fun q : Nat => s.heap.size ≤ q) a := fun a h => Nat.not_le.mpr h
  obtain ⟨fa, hfa⟩ := lw_sta hs hts hA
  obtain ⟨adK, adV, hSx, hKx⟩ := lw_txt hs hA
  obtain ⟨ft, hft, hfi, ta, hta, htz⟩ := lw_tok hs hts hA hKx
  generalize had : adF b fa ta ft adK adV = ad
  have eb : ad 10100 = b := by rw [← had]; exact adF_b
  have ea : ∀ i, i < 9 → ad (10000 + i) = fa i := fun i hi => by rw [← had]; exact adF_a hi
  have et : ad 10009 = ta := by rw [← had]; exact adF_t
  have ek : ∀ i, i < 18 → ad (10020 + i) = ft i := fun i hi => by rw [← had]; exact adF_k hi
  have ex : ∀ i, i < 15 → ad (10050 + i) = adK i := fun i hi => by rw [← had]; exact adF_x hi
  have ev : ∀ i, i < 15 → ad (10070 + i) = adV i := fun i hi => by rw [← had]; exact adF_v hi
  refine ⟨(s.heap.size, ca, ad, kd), D, rfl, rfl, eb, ⟨fun i hi => ⟨_, tkX_lt i hi, XX_x i⟩, fun i j hi hj he => ?_, fun k hk => ⟨?_, fun j hj => ?_⟩, ?_, hkd, ?_⟩, ⟨hD, fun k q hq => hca _ _ _ q (List.mem_of_getElem? hq)⟩, fun q hq => ?_, fun q hq hk => ?_, ?_, fun i hi => ⟨?_, ?_, ?_⟩, fun q hq => ?_, ?_, ?_, ?_, ?_, ?_, ?_, fun q hq => ?_, fun w hw => ?_, fun C hC => ?_, fun i j hi hj hn => ?_, Nat.le_refl _⟩
  · have he : ad (10020 + i) = ad (10020 + j) := he
    rw [ek i hi, ek j hj] at he
    exact hfi i j hi hj he
  · exact XX_l k
  · exact XX_b k j
  · show ad 10100 < s.heap.size
    rw [eb]; exact hb
  · show L < 2 ^ 31
    omega
  · have h := List.all_eq_true.mp stL_c q hq
    simp only [Bool.or_eq_true] at h
    show va_Z q.1 q.2.1 q.2.2.1 (.ref (ad q.2.2.2.1)) _ s s.heap
    rcases h with (h | h) | h
    · obtain ⟨i, hi, h⟩ := List.any_eq_true.mp h
      have hi := List.mem_range.mp hi
      simp only [Bool.and_eq_true, decide_eq_true_eq] at h
      obtain ⟨⟨⟨h1, h2⟩, h3⟩, h4⟩ := h
      rw [h1, h2, h3, Nat.eq_of_beq_eq_true h4, ea i hi]
      exact (hfa i hi).2
    · simp only [Bool.and_eq_true, decide_eq_true_eq] at h
      obtain ⟨⟨⟨h1, h2⟩, h3⟩, h4⟩ := h
      rw [h1, h2, h3, Nat.eq_of_beq_eq_true h4, et]
      exact htz
    · obtain ⟨i, hi, h⟩ := List.any_eq_true.mp h
      have hi := List.mem_range.mp hi
      simp only [Bool.and_eq_true, decide_eq_true_eq] at h
      obtain ⟨⟨⟨h1, h2⟩, h3⟩, h4⟩ := h
      rw [h1, h2, h3, Nat.eq_of_beq_eq_true h4, ek i hi]
      exact (hft i hi).2.2.2.2
  · have h := List.all_eq_true.mp statL_c q hq
    rw [beq_t hk] at h
    have h : (List.range 9).any (fun i => Nat.beq q.1 (10000 + i) && Nat.beq (kLen q.2) (sV.getD i []).length) = true := h
    obtain ⟨i, hi, h⟩ := List.any_eq_true.mp h
    have hi := List.mem_range.mp hi
    rw [Bool.and_eq_true] at h
    show va_T .int (ad q.1) (kLen q.2) (fun j => .int ((XX L xs).1 q.1 j)) _ s s.heap
    rw [Nat.eq_of_beq_eq_true h.1, Nat.eq_of_beq_eq_true h.2, ea i hi]
    exact T_congr (hfa i hi).1 (fun j _ => by rw [XX_s hi])
  · show va_T (.object RX9) (ad 10009) 18 (fun j => .ref (ad (10020 + j))) _ s s.heap
    rw [et]
    exact T_congr hta (fun j hj => by rw [ek j hj])
  · show va_OF RX9 "direction" "I" (.int ((XX L xs).2.1 (10020 + i))) (ad (10020 + i)) _ s s.heap
    rw [XX_d, ek i hi]
    exact (hft i hi).2.1
  · show va_OF RX9 "text" "Ljava/lang/String;" (.ref (ad ((XX L xs).2.2.1 (10020 + i)))) (ad (10020 + i)) _ s s.heap
    rw [XX_x, ek i hi, ex _ (tkX_lt i hi)]
    exact (hft i hi).2.2.1
  · show va_O RX9 (ad (10020 + i)) _ s s.heap
    rw [ek i hi]
    exact (hft i hi).2.2.2.1
  · obtain ⟨k, hk⟩ := List.getElem?_of_mem hq
    have h := List.all_eq_true.mp w_ld k (List.mem_range.mpr (List.getElem?_eq_some_iff.mp hk).1)
    rw [nth_eq, hk] at h
    simp only [Bool.and_eq_true] at h
    obtain ⟨⟨⟨h1, h2⟩, h3⟩, h4⟩ := h
    have h3 := Nat.le_of_ble_eq_true h3
    have h4 := blt_lt h4
    have h5 := va_eqv (inF_of hs h2) (hKx _ (show q.2.2.2 - 10050 < 15 by omega))
    have e9 := inT_of hts h1
    refine ⟨e9, ?_⟩
    show (Term.string q.1 q.2.1).eval #[] s none [] s = some (.ref (ad q.2.2.2))
    rw [show q.2.2.2 = 10050 + (q.2.2.2 - 10050) by omega, ex _ (by omega)]
    exact h5
  · refine ⟨fun i hi => ?_, fun i j hi hj he => ?_⟩
    · show va_O "java/lang/String" (ad (10050 + i)) _ s s.heap ∧ va_OF "java/lang/String" "coder" "B" (.int 0) (ad (10050 + i)) _ s s.heap ∧ va_OF "java/lang/String" "value" "[B" (.ref (ad (10070 + i))) (ad (10050 + i)) _ s s.heap ∧ va_T .byte (ad (10070 + i)) (lenS.getD i 0) _ _ s s.heap
      rw [ex i hi, ev i hi]
      exact hSx.1 i hi
    · have he : ad (10050 + i) = ad (10050 + j) := he
      rw [ex i hi, ex j hj] at he
      exact hSx.2 i j hi hj he
  · exact va_Zof (hts _ (mt9 0 rfl)) (hts _ (mt9 1 rfl)) (va_eqi (hs _ (mi9 0 rfl))) hA
  · exact va_Zqof (hts _ (mt9 2 rfl)) (hts _ (mt9 3 rfl)) (hs _ (mi9 1 rfl)) hA
  · show va_X (ad 10100) L ((XX L xs).1 10100) s s.heap
    rw [eb, show (XX L xs).1 10100 = xs from rfl]
    exact hX
  · exact vx_Zqof (hts _ (mt9 4 rfl)) (hts _ (mt9 5 rfl)) (hs _ (mi9 2 rfl)) hA
  · exact vx_Zqof (hts _ (mt9 6 rfl)) (hts _ (mt9 5 rfl)) (hs _ (mi9 3 rfl)) hA
  · obtain ⟨k, hk⟩ := List.getElem?_of_mem hq
    have h := List.all_eq_true.mp w_ms k (List.mem_range.mpr (List.getElem?_eq_some_iff.mp hk).1)
    rw [nth_eq, hk] at h
    simp only [Bool.and_eq_true] at h
    obtain ⟨a, c, cA, kA, q1, -⟩ := Cond.exactly_spec (args := #[Value.ref b]) (first := s) (o := none) (s := s) (idx := []) (t := .string q.1 q.2.1) (cls := "java/lang/String") (inF_of hs h.2)
    have e9 := inT_of hts h.1
    exact ⟨a, e9, q1⟩
  · obtain ⟨h1, h2⟩ := List.mem_filter.mp hw
    refine va_Nw.of ?_ (hts w h1)
    cases w <;> first | rfl | cases h2
  · exact va_AO.of (hts _ (allT_mem _ _ w_ao _ (by simp only [List.mem_cons, List.not_mem_nil, or_false] at hC ⊢; rcases hC with rfl | rfl | rfl | rfl <;> simp)))
  · have h := List.all_eq_true.mp (List.all_eq_true.mp w_ex i (List.mem_range.mpr hi)) j (List.mem_range.mpr hj)
    rw [beq_f hn] at h
    exact va_Nc.of (inF_of hs h)
