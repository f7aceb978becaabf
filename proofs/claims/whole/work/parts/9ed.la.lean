/-! THE LAW, 9: its loop -/
section
variable {Ln : Nat} {xs : Nat → Int32} {CZ : Nat → ZC} {RZ : Nat → Nat → ZQ → ZP}
theorem l_hd (T : ZTh (XX Ln xs) CZ RZ) {d b : Nat} {Q : ZQ} {i : Int} {I : ZI} {L : ZL} (hi : 0 ≤ i ∧ i ≤ (Ln : Int) ∧ Ln ≤ 3072) (h : Q (.inl (some (.inl 1))) I L) (hk : i + 6 ≤ (Ln : Int) → ∀ pc, (pc = 2061 ∨ pc ∈ [200, 273, 329, 385, 453, 478, 598, 654, 750, 763, 776, 844, 924, 965, 1008, 1021, 1034, 1102, 1177, 1233, 1246, 1259, 1315, 1371, 1451, 1571, 1634, 1690, 1746, 1783, 1796, 1852, 1915, 1928, 1991, 2047]) → RZ (d + 33) k_L_law Q pc [.inr (.ref 10100, 80000), .inr (.ref 0, 12), .inr (.ref 603, 13), .inr (.ref 643, 40001), .inl i, zj, zj, zj, zj] [] b I L) : RZ (d + 33) k_L_law Q 23 [.inr (.ref 10100, 80000), .inr (.ref 0, 12), .inr (.ref 603, 13), .inr (.ref 643, 40001), .inl i, zj, zj, zj, zj] [] b I L := by
  refine T.go [200, 273, 329, 385, 453, 478, 598, 654, 750, 763, 776, 844, 924, 965, 1008, 1021, 1034, 1102, 1177, 1233, 1246, 1259, 1315, 1371, 1451, 1571, 1634, 1690, 1746, 1783, 1796, 1852, 1915, 1928, 1991, 2047, 2061] 60 ?_
  conv => whnf
  refine ⟨by exact ⟨⟨by omega, by omega⟩, ⟨by show _ ≤ ((Ln : Nat) : Int) - 6; omega, by show ((Ln : Nat) : Int) - 6 ≤ _; omega⟩⟩, fun c30 => ?_, fun c30 => ?_⟩
  · conv => whnf
    refine ⟨by omega, ?_⟩
    exact h
  · conv => whnf
    have c9 : i ≤ ((Ln : Nat) : Int) - 6 := c30
    refine ⟨by exact ⟨by omega, by show _ < ((Ln : Nat) : Int); omega, by omega⟩, ?_⟩
    conv => whnf
    refine ⟨by exact zR_of _, fun c40 => ?_, ?_⟩
    · conv => whnf
      exact hk (by omega) _ (Or.inl rfl)
    refine ⟨fun c40 => ?_, ?_⟩
    · conv => whnf
      exact hk (by omega) _ (by decide)
    refine ⟨fun c40 => ?_, ?_⟩
    · conv => whnf
      exact hk (by omega) _ (by decide)
    refine ⟨fun c40 => ?_, ?_⟩
    · conv => whnf
      exact hk (by omega) _ (by decide)
    refine ⟨fun c40 => ?_, ?_⟩
    · conv => whnf
      exact hk (by omega) _ (by decide)
    refine ⟨fun c40 => ?_, ?_⟩
    · conv => whnf
      exact hk (by omega) _ (by decide)
    refine ⟨fun c40 => ?_, ?_⟩
    · conv => whnf
      exact hk (by omega) _ (by decide)
    refine ⟨fun c40 => ?_, ?_⟩
    · conv => whnf
      exact hk (by omega) _ (by decide)
    refine ⟨fun c40 => ?_, ?_⟩
    · conv => whnf
      exact hk (by omega) _ (by decide)
    refine ⟨fun c40 => ?_, ?_⟩
    · conv => whnf
      exact hk (by omega) _ (by decide)
    refine ⟨fun c40 => ?_, ?_⟩
    · conv => whnf
      exact hk (by omega) _ (by decide)
    refine ⟨fun c40 => ?_, ?_⟩
    · conv => whnf
      exact hk (by omega) _ (by decide)
    refine ⟨fun c40 => ?_, ?_⟩
    · conv => whnf
      exact hk (by omega) _ (by decide)
    refine ⟨fun c40 => ?_, ?_⟩
    · conv => whnf
      exact hk (by omega) _ (by decide)
    refine ⟨fun c40 => ?_, ?_⟩
    · conv => whnf
      exact hk (by omega) _ (by decide)
    refine ⟨fun c40 => ?_, ?_⟩
    · conv => whnf
      exact hk (by omega) _ (by decide)
    refine ⟨fun c40 => ?_, ?_⟩
    · conv => whnf
      exact hk (by omega) _ (by decide)
    refine ⟨fun c40 => ?_, ?_⟩
    · conv => whnf
      exact hk (by omega) _ (by decide)
    refine ⟨fun c40 => ?_, ?_⟩
    · conv => whnf
      exact hk (by omega) _ (by decide)
    refine ⟨fun c40 => ?_, ?_⟩
    · conv => whnf
      exact hk (by omega) _ (by decide)
    refine ⟨fun c40 => ?_, ?_⟩
    · conv => whnf
      exact hk (by omega) _ (by decide)
    refine ⟨fun c40 => ?_, ?_⟩
    · conv => whnf
      exact hk (by omega) _ (by decide)
    refine ⟨fun c40 => ?_, ?_⟩
    · conv => whnf
      exact hk (by omega) _ (by decide)
    refine ⟨fun c40 => ?_, ?_⟩
    · conv => whnf
      exact hk (by omega) _ (by decide)
    refine ⟨fun c40 => ?_, ?_⟩
    · conv => whnf
      exact hk (by omega) _ (by decide)
    refine ⟨fun c40 => ?_, ?_⟩
    · conv => whnf
      exact hk (by omega) _ (by decide)
    refine ⟨fun c40 => ?_, ?_⟩
    · conv => whnf
      exact hk (by omega) _ (by decide)
    refine ⟨fun c40 => ?_, ?_⟩
    · conv => whnf
      exact hk (by omega) _ (by decide)
    refine ⟨fun c40 => ?_, ?_⟩
    · conv => whnf
      exact hk (by omega) _ (by decide)
    refine ⟨fun c40 => ?_, ?_⟩
    · conv => whnf
      exact hk (by omega) _ (by decide)
    refine ⟨fun c40 => ?_, ?_⟩
    · conv => whnf
      exact hk (by omega) _ (by decide)
    refine ⟨fun c40 => ?_, ?_⟩
    · conv => whnf
      exact hk (by omega) _ (by decide)
    refine ⟨fun c40 => ?_, ?_⟩
    · conv => whnf
      exact hk (by omega) _ (by decide)
    refine ⟨fun c40 => ?_, ?_⟩
    · conv => whnf
      exact hk (by omega) _ (by decide)
    refine ⟨fun c40 => ?_, ?_⟩
    · conv => whnf
      exact hk (by omega) _ (by decide)
    refine ⟨fun c40 => ?_, ?_⟩
    · conv => whnf
      exact hk (by omega) _ (by decide)
    refine ⟨fun c40 => ?_, ?_⟩
    · conv => whnf
      exact hk (by omega) _ (by decide)
    exact trivial
theorem l_tl (T : ZTh (XX Ln xs) CZ RZ) {d b : Nat} {Q : ZQ} {i : Int} {I : ZI} {L : ZL}  (h : RZ (d + 33) k_L_law Q 23 [.inr (.ref 10100, 80000), .inr (.ref 0, 12), .inr (.ref 603, 13), .inr (.ref 643, 40001), .inl (i + 6), zj, zj, zj, zj] [] b I L) : RZ (d + 33) k_L_law Q 2061 [.inr (.ref 10100, 80000), .inr (.ref 0, 12), .inr (.ref 603, 13), .inr (.ref 643, 40001), .inl i, zj, zj, zj, zj] [] b I L := by
  refine T.go [23] 90 ?_
  conv => whnf
  exact h
theorem l_law (T : ZTh (XX Ln xs) CZ RZ) {d : Nat} {Q : ZQ} (h : ∀ I L, Q (.inl (some (.inl 1))) I L) (hL : Ln ≤ 3072) (m : Nat) : ∀ (i : Int) (b W H n bl : Nat) (M : Mo) (P SL : Nat → Mo) (u : Nat → Int) (I : ZI) (L : ZL), 0 ≤ i ∧ i ≤ (Ln : Int) → (Ln : Int) - i ≤ 2 * (b : Int) → JB I L W H M P n SL bl u → (Ln : Int) - i < (m : Int) → RZ (d + 33) k_L_law Q 23 [.inr (.ref 10100, 80000), .inr (.ref 0, 12), .inr (.ref 603, 13), .inr (.ref 643, 40001), .inl i, zj, zj, zj, zj] [] b I L := by
  induction m with
  | zero =>
    intro i b W H n bl M P SL u I L hi hb hJ hm
    omega
  | succ m ih =>
    intro i b W H n bl M P SL u I L hi hb hJ hm
    refine l_hd T ⟨hi.1, hi.2, hL⟩ (h I L) (fun hi6 pc hpc => ?_)
    have hk : ∀ (I' : ZI) (L' : ZL) (W' H' : Nat) (M' : Mo) (P' : Nat → Mo) (n' : Nat) (SL' : Nat → Mo) (bl' : Nat) (u' : Nat → Int) (b' : Nat), b ≤ b' + 3 → JB I' L' W' H' M' P' n' SL' bl' u' → RZ (d + 33) k_L_law Q 2061 [.inr (.ref 10100, 80000), .inr (.ref 0, 12), .inr (.ref 603, 13), .inr (.ref 643, 40001), .inl i, zj, zj, zj, zj] [] b' I' L' := fun I' L' W' H' M' P' n' SL' bl' u' b' hb' hJ' =>
      l_tl T (ih (i + 6) b' W' H' n' bl' M' P' SL' u' I' L' (by omega) (by omega) hJ' (by omega))
    have hi9 : 0 ≤ i ∧ i + 6 ≤ (Ln : Int) ∧ Ln ≤ 3072 := ⟨hi.1, hi6, hL⟩
    have hb3 : 3 ≤ b := by omega
    rcases hpc with e | e
    · subst e
      exact hk I L W H M P n SL bl u b (by omega) hJ
    · simp only [List.mem_cons, List.not_mem_nil, or_false] at e
      rcases e with e | e | e | e | e | e | e | e | e | e | e | e | e | e | e | e | e | e | e | e | e | e | e | e | e | e | e | e | e | e | e | e | e | e | e | e
      · subst e; exact l_op_append T hJ hi9 hb3 hk
      · subst e; exact l_op_parse T hJ hi9 hb3 hk
      · subst e; exact l_op_size T hJ hi9 hb3 hk
      · subst e; exact l_op_piece T hJ hi9 hb3 hk
      · subst e; exact l_op_pieceAt T hJ hi9 hb3 hk
      · subst e; exact l_op_whyNot T hJ hi9 hb3 hk
      · subst e; exact l_op_places T hJ hi9 hb3 hk
      · subst e; exact l_op_seams T hJ hi9 hb3 hk
      · subst e; exact l_op_matches T hJ hi9 hb3 hk
      · subst e; exact l_op_inner T hJ hi9 hb3 hk
      · subst e; exact l_op_loop T hJ hi9 hb3 hk
      · subst e; exact l_op_edge T hJ hi9 hb3 hk
      · subst e; exact l_op_perimeter T hJ hi9 hb3 hk
      · subst e; exact l_op_fullness T hJ hi9 hb3 hk
      · subst e; exact l_op_looks T hJ hi9 hb3 hk
      · subst e; exact l_op_isSimple T hJ hi9 hb3 hk
      · subst e; exact l_op_shape T hJ hi9 hb3 hk
      · subst e; exact l_op_hasQuarter T hJ hi9 hb3 hk
      · subst e; exact l_op_alike T hJ hi9 hb3 hk
      · subst e; exact l_op_find T hJ hi9 hb3 hk
      · subst e; exact l_op_kinds T hJ hi9 hb3 hk
      · subst e; exact l_op_missing T hJ hi9 hb3 hk
      · subst e; exact l_op_ways T hJ hi9 hb3 hk
      · subst e; exact l_op_firstWay T hJ hi9 hb3 hk
      · subst e; exact l_op_place T hJ hi9 hb3 hk
      · subst e; exact l_op_takeOff T hJ hi9 hb3 hk
      · subst e; exact l_op_turn T hJ hi9 hb3 hk
      · subst e; exact l_op_flip T hJ hi9 hb3 hk
      · subst e; exact l_op_shift T hJ hi9 hb3 hk
      · subst e; exact l_op_keep T hJ hi9 hb3 hk
      · subst e; exact l_op_remove T hJ hi9 hb3 hk
      · subst e; exact l_op_solve T hJ hi9 hb3 hk
      · subst e; exact l_op_undo T hJ hi9 hb3 hk
      · subst e; exact l_op_saveSnapshot T hJ hi9 hb3 hk
      · subst e; exact l_op_restoreSnapshot T hJ hi9 hb3 hk
      · subst e; exact l_op_checksum T hJ hi9 hb3 hk
end
