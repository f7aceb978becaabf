/-! THE START, 10: from the first instruction to the loop -/
set_option maxRecDepth 100000 in
theorem xx_ok (Ln : Nat) (xs : Nat → Int32) : XOk (XX Ln xs) := by
  intro r i h
  have e : (XX Ln xs).1 = fun r j => bif Nat.beq r 10100 then xs j else sv9 r j := rfl
  rw [e]
  dsimp only
  rw [h]
  rfl
theorem hz9 {α : Type} (z : α) : hpG z (.leaf : Hp α) = fun _ _ => z := by
  funext a b
  by_cases c : a < 2000 ∧ b < 30000
  · rw [hpG_in c, trG_e, trG_e]
  · exact hpG_out c
theorem start9 {X : Ext} (hX : XOk X) {Q0 : AQ} (h : Mn9 X Q0 s9S_27.p (dC9 s9S_27)) : Mn9 X Q0 s9S_0.p (dC9 s9S_0) := chk9_s hX s9c_0 (chk9_s hX s9c_1 (chk9_s hX s9c_2 (chk9_s hX s9c_3 (chk9_s hX s9c_4 (chk9_s hX s9c_5 (chk9_s hX s9c_6 (chk9_s hX s9c_7 (chk9_s hX s9c_8 (chk9_s hX s9c_9 (chk9_s hX s9c_10 (chk9_s hX s9c_11 (chk9_s hX s9c_12 (chk9_s hX s9c_13 (chk9_s hX s9c_14 (chk9_s hX s9c_15 (chk9_s hX s9c_16 (chk9_s hX s9c_17 (chk9_s hX s9c_18 (chk9_s hX s9c_19 (chk9_s hX s9c_20 (chk9_s hX s9c_21 (chk9_s hX s9c_22 (chk9_s hX s9c_23 (chk9_s hX s9c_24 (chk9_s hX s9c_25 (chk9_s hX s9c_26 (h)))))))))))))))))))))))))))
set_option maxRecDepth 100000 in
theorem fin9_27 : fin9 s9S_27 = true := by decide +kernel
/-- the references -/
def rwAll (t : List (List Nat)) : Bool := (Nat.blt t.length 673 && (List.range 672).all fun r => Nat.beq r 304 || (Nat.beq r 578 || (rwB (t.getD r []) (zaRw r) && Nat.blt (t.getD r []).length 30000)))
set_option maxRecDepth 100000 in
theorem rwAll_27 : rwAll s9A_27 = true := by decide +kernel
theorem nth_none {α : Type} : ∀ (l : List α) (i : Nat), l.length ≤ i → nth l i = none
  | [], _, _ => rfl
  | _ :: l, 0, h => absurd h (Nat.not_succ_le_zero _)
  | _ :: l, i + 1, h => nth_none l i (Nat.le_of_succ_le_succ h)
theorem getD_out {α : Type} (l : List α) (i : Nat) (d : α) (h : l.length ≤ i) : l.getD i d = d := by
  rw [List.getD_eq_getElem?_getD, List.getElem?_eq_none h]
  rfl
theorem zaT_len : zaT.length ≤ 21 := by decide +kernel
theorem rwAll_s {t : List (List Nat)} (h : rwAll t = true) {a b : Nat} (h1 : a ≠ 304) (h2 : a ≠ 578) : hpG 0 (hA9 t) a b = za a b := by
  unfold rwAll at h
  rw [Bool.and_eq_true, blt_d, decide_eq_true_iff] at h
  rw [za_rw]
  have key : rwV (t.getD a []) b = (match nth (zaRw a) b with | some x => x | none => 0) ∧ ((t.getD a []).length < 30000) := by
    by_cases c : a < 672
    · have h3 := allR9 h.2 c
      rw [Bool.or_eq_true, Bool.or_eq_true, Bool.and_eq_true, blt_d, decide_eq_true_iff] at h3
      rcases h3 with e | e | e
      · exact absurd (Nat.eq_of_beq_eq_true e) h1
      · exact absurd (Nat.eq_of_beq_eq_true e) h2
      · exact ⟨rwB_s _ _ e.1 b, e.2⟩
    · have e : t.getD a [] = [] := by
        by_cases g : t.length ≤ a
        · exact getD_out _ _ _ g
        · exfalso; omega
      have e2 : zaRw a = [] := by
        unfold zaRw
        rw [nth_none zaT (a / 32) (Nat.le_trans zaT_len (by omega))]
      rw [e, e2]
      exact ⟨rfl, by decide⟩
  refine Eq.trans ?_ key.1
  by_cases c : a < 2000 ∧ b < 30000
  · exact hpG_row t (by omega) c.1 c.2 (Nat.lt_trans key.2 (by decide))
  · rw [hpG_out c]
    unfold rwV
    by_cases c2 : a < 2000
    · rw [getD_out _ _ _ (show (t.getD a []).length ≤ b by omega)]
    · rw [getD_out t a [] (by omega)]
      rfl
theorem zrel9 {s : S9} (hf : fin9 s = true) (hr : rwAll s.A = true) : zrel (Iz9 s) (Lz9 s) (dHI (hI9 s.I)) (dHL (hL9 s.L)) (dHA (hA9 s.A)) := by
  obtain ⟨_, h2, _⟩ := fin9_s hf
  unfold chO9 at h2
  simp only [Bool.and_eq_true] at h2
  obtain ⟨_, _, _, _, _, _, g, k, _⟩ := h2
  refine ⟨fun a b h1 h2 => ?_, fun a b => rfl, fun a b h1 h2 => rwAll_s hr h1 h2, fun b hb => ?_, fun b hb => ?_⟩
  · unfold Iz9
    rw [if_neg (by omega)]
    exact (i3_of _).symm
  · have e := Nat.eq_of_beq_eq_true (allR9 g hb)
    show hpG 0 (hA9 s.A) 304 b = (if 304 = 304 ∨ 304 = 578 then ((hpG 0 (hA9 s.A) 304 b : Nat) : Int) - 1 else _).toNat + 1
    rw [if_pos (Or.inl rfl)]
    omega
  · have e := Nat.le_of_ble_eq_true (allR9 k hb)
    show hpG 0 (hA9 s.A) 578 b = (if 578 = 304 ∨ 578 = 578 then ((hpG 0 (hA9 s.A) 578 b : Nat) : Int) - 1 else _).toNat + 1
    rw [if_pos (Or.inr rfl)]
    omega
theorem Mn9_of {X : Ext} {Q0 : AQ} {p : P9} {c : C9} {d k rc rs n pc : Nat} {I : Hp Int32} {L : Hp Int64} {A : Hp Nat} {ls st : List AV} (hp : p = (pc, ls, st)) (hc : c = (d, k, rc, rs, n, I, L, A, [])) (h : RnD X kdF (CnD X kdF d) (tbm k).1 Q0 pc ls st rc rs n (dHI I) (dHL L) (dHA A)) : Mn9 X Q0 p c := by
  subst hp hc
  exact h
theorem dC9_27 : dC9 s9S_27 = (1669, 301, 600380, 4803040, 644, hI9 s9S_27.I, hL9 s9S_27.L, hA9 s9S_27.A, []) := rfl
theorem loop9 {L : Nat} {xs : Nat → Int32} (T : ZTh (XX L xs) (zCn (XX L xs)) (zRn (XX L xs))) (hL : L ≤ 3072) : Mn9 (XX L xs) lwQ s9S_27.p (dC9 s9S_27) := by
  have h := l_law T (d := 1636) (Q := fun o _ _ => o = .inl (some (.inl 1))) (fun _ _ => rfl) hL 4000 0 600380 8 8 0 0 offM (fun _ => offM) (fun _ => offM) (fun _ => 0) (Iz9 s9S_27) (Lz9 s9S_27) ⟨by omega, by omega⟩ (by omega) (JB9 fin9_27) (by omega)
  have h2 : RnD (XX L xs) kdF (CnD (XX L xs) kdF 1669) (tbm 301).1 (zlq (fun o _ _ => o = .inl (some (.inl 1)))) 23 s9P_27.ls [] 600380 4803040 644 (dHI (hI9 s9S_27.I)) (dHL (hL9 s9S_27.L)) (dHA (hA9 s9S_27.A)) := h s9P_27.ls 644 _ _ _ ⟨Or.inr rfl, Or.inr rfl, Or.inr rfl, Or.inr rfl, Or.inr rfl, Or.inl rfl, Or.inl rfl, Or.inl rfl, Or.inl rfl, trivial⟩ (Nat.le_refl _) (zrel9 fin9_27 rwAll_27)
  have h3 : RnD (XX L xs) kdF (CnD (XX L xs) kdF 1669) (tbm 301).1 lwQ 23 s9P_27.ls [] 600380 4803040 644 (dHI (hI9 s9S_27.I)) (dHL (hL9 s9S_27.L)) (dHA (hA9 s9S_27.A)) := RnD_mono (CnD_mono 1669) (fun o n I L A hq => by
    obtain ⟨oz, Iz, Lz, e, _, _, e2⟩ := hq
    rw [e2] at e
    exact e.symm) h2
  exact Mn9_of (p := s9S_27.p) rfl dC9_27 h3
theorem mainOk : MainOk := by
  refine ⟨kdF, kdF_up, kdF_sort, fun L xs hL => ?_⟩
  have h := start9 (xx_ok L xs) (loop9 (ZThD (XX L xs)) hL)
  have h' : RnD (XX L xs) kdF (CnD (XX L xs) kdF 1669) (tbm 301).1 lwQ 0 (entL [(.ref 10100, 80000)] 9) [] 601024 7293034 0 (hpG 0 (.leaf : Hp Int32)) (hpG 0 (.leaf : Hp Int64)) (hpG 0 (.leaf : Hp Nat)) := h
  rw [hz9, hz9, hz9] at h'
  exact h'
