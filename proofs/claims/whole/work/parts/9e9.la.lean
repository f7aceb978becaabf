/-! THE LAW, 5: calls -/
section
variable {Ln : Nat} {xs : Nat → Int32} {CZ : Nat → ZC} {RZ : Nat → Nat → ZQ → ZP}
theorem l_op_perimeter (T : ZTh (XX Ln xs) CZ RZ) {d b : Nat} {Q : ZQ} {W H n bl : Nat} {M : Mo} {P SL : Nat → Mo} {u : Nat → Int} {i : Int} {I : ZI} {L : ZL} (hJ : JB I L W H M P n SL bl u) (hi : 0 ≤ i ∧ i + 6 ≤ (Ln : Int) ∧ Ln ≤ 3072) (hb3 : 3 ≤ b) (hk : ∀ (I' : ZI) (L' : ZL) (W' H' : Nat) (M' : Mo) (P' : Nat → Mo) (n' : Nat) (SL' : Nat → Mo) (bl' : Nat) (u' : Nat → Int) (b' : Nat), b ≤ b' + 3 → JB I' L' W' H' M' P' n' SL' bl' u' → RZ (d + 33) k_L_law Q 2061 [.inr (.ref 10100, 80000), .inr (.ref 0, 12), .inr (.ref 603, 13), .inr (.ref 643, 40001), .inl i, zj, zj, zj, zj] [] b' I' L') : RZ (d + 33) k_L_law Q 924 [.inr (.ref 10100, 80000), .inr (.ref 0, 12), .inr (.ref 603, 13), .inr (.ref 643, 40001), .inl i, zj, zj, zj, zj] [] b I L := by
  have hC := hJ.1
  have hA9 := hJ.1.wfa
  refine T.go [2061] 200 ?_
  conv => whnf
  refine zinv0 (s_X11_perimeter T  (by first | exact hJ.1 | assumption | decide | omega) ?_)
  have hM9 := hJ.2
  conv => whnf
  refine zinv0 (s_X12_perimeter T  (by first | exact hM9 | exact hA9 | assumption | decide | omega) (by first | exact hM9 | exact hA9 | assumption | decide | omega) ?_)
  intro Ir_931 hfr_931 htr_931 hCr_931
  conv => whnf
  refine ⟨by exact zR_of _, fun c941 => ?_, fun c941 => ?_⟩
  · conv => whnf
    refine T.fg [5, 7] ?_
    exact hk _ _ _ _ _ _ _ _ _ _ _ (by omega) (JB.mk hC hCr_931 (fun a b g => hfr_931 a b (fun c => by unfold PSc at c; omega)) (fun a b g => rfl) (fun t ht => rfl))
  · conv => whnf
    refine ⟨by exact zR_of _, fun c949 => ?_, fun c949 => ?_⟩
    · conv => whnf
      refine ⟨by omega, ?_⟩
      exact absurd c949 c941
    · conv => whnf
      refine ⟨by exact zR_of _, fun c957 => ?_, fun c957 => ?_⟩
      · conv => whnf
        refine T.fg [5, 7] ?_
        exact hk _ _ _ _ _ _ _ _ _ _ _ (by omega) (JB.mk hC hCr_931 (fun a b g => hfr_931 a b (fun c => by unfold PSc at c; omega)) (fun a b g => rfl) (fun t ht => rfl))
      · conv => whnf
        refine ⟨by omega, ?_⟩
        exact absurd c957 c941
theorem l_op_fullness (T : ZTh (XX Ln xs) CZ RZ) {d b : Nat} {Q : ZQ} {W H n bl : Nat} {M : Mo} {P SL : Nat → Mo} {u : Nat → Int} {i : Int} {I : ZI} {L : ZL} (hJ : JB I L W H M P n SL bl u) (hi : 0 ≤ i ∧ i + 6 ≤ (Ln : Int) ∧ Ln ≤ 3072) (hb3 : 3 ≤ b) (hk : ∀ (I' : ZI) (L' : ZL) (W' H' : Nat) (M' : Mo) (P' : Nat → Mo) (n' : Nat) (SL' : Nat → Mo) (bl' : Nat) (u' : Nat → Int) (b' : Nat), b ≤ b' + 3 → JB I' L' W' H' M' P' n' SL' bl' u' → RZ (d + 33) k_L_law Q 2061 [.inr (.ref 10100, 80000), .inr (.ref 0, 12), .inr (.ref 603, 13), .inr (.ref 643, 40001), .inl i, zj, zj, zj, zj] [] b' I' L') : RZ (d + 33) k_L_law Q 965 [.inr (.ref 10100, 80000), .inr (.ref 0, 12), .inr (.ref 603, 13), .inr (.ref 643, 40001), .inl i, zj, zj, zj, zj] [] b I L := by
  have hC := hJ.1
  have hA9 := hJ.1.wfa
  refine T.go [2061] 200 ?_
  conv => whnf
  refine zinv0 (s_X11_fullness T  (by first | exact hJ.1 | assumption | decide | omega) ?_)
  have hM9 := hJ.2
  conv => whnf
  refine ⟨?_, ?_⟩
  · exact z_full hC.2.2.1.1
  conv => whnf
  refine zinv0 (s_X12_fullness T  (by first | exact hM9 | exact hA9 | assumption | decide | omega) (by first | exact hM9 | exact hA9 | assumption | decide | omega) ?_)
  intro Ir_973 hfr_973 htr_973 hCr_973
  conv => whnf
  refine ⟨?_, ?_⟩
  · exact z_full hC.2.2.1.1
  conv => whnf
  refine ⟨by exact zR_of _, fun c984 => ?_, fun c984 => ?_⟩
  · conv => whnf
    refine T.fg [5, 7] ?_
    exact hk _ _ _ _ _ _ _ _ _ _ _ (by omega) (JB.mk hC hCr_973 (fun a b g => hfr_973 a b (fun c => by unfold PSc at c; omega)) (fun a b g => rfl) (fun t ht => rfl))
  · conv => whnf
    refine ⟨by exact zR_of _, fun c992 => ?_, fun c992 => ?_⟩
    · conv => whnf
      refine ⟨by omega, ?_⟩
      exact absurd c992 c984
    · conv => whnf
      refine ⟨by exact zR_of _, fun c1000 => ?_, fun c1000 => ?_⟩
      · conv => whnf
        refine T.fg [5, 7] ?_
        exact hk _ _ _ _ _ _ _ _ _ _ _ (by omega) (JB.mk hC hCr_973 (fun a b g => hfr_973 a b (fun c => by unfold PSc at c; omega)) (fun a b g => rfl) (fun t ht => rfl))
      · conv => whnf
        refine ⟨by omega, ?_⟩
        exact absurd c1000 c984
theorem l_op_looks (T : ZTh (XX Ln xs) CZ RZ) {d b : Nat} {Q : ZQ} {W H n bl : Nat} {M : Mo} {P SL : Nat → Mo} {u : Nat → Int} {i : Int} {I : ZI} {L : ZL} (hJ : JB I L W H M P n SL bl u) (hi : 0 ≤ i ∧ i + 6 ≤ (Ln : Int) ∧ Ln ≤ 3072) (hb3 : 3 ≤ b) (hk : ∀ (I' : ZI) (L' : ZL) (W' H' : Nat) (M' : Mo) (P' : Nat → Mo) (n' : Nat) (SL' : Nat → Mo) (bl' : Nat) (u' : Nat → Int) (b' : Nat), b ≤ b' + 3 → JB I' L' W' H' M' P' n' SL' bl' u' → RZ (d + 33) k_L_law Q 2061 [.inr (.ref 10100, 80000), .inr (.ref 0, 12), .inr (.ref 603, 13), .inr (.ref 643, 40001), .inl i, zj, zj, zj, zj] [] b' I' L') : RZ (d + 33) k_L_law Q 1008 [.inr (.ref 10100, 80000), .inr (.ref 0, 12), .inr (.ref 603, 13), .inr (.ref 643, 40001), .inl i, zj, zj, zj, zj] [] b I L := by
  have hC := hJ.1
  have hA9 := hJ.1.wfa
  refine T.go [2061] 200 ?_
  conv => whnf
  refine zinv0 (s_X11_looks T  (by first | exact hJ.1 | assumption | decide | omega) ?_)
  intro I_1009 L_1009 hf_1009 hg_1009 hC_1009
  have hM9 := hJ.2.near hA9 (fun a b g => hf_1009 a b (fun c => by unfold PQ at c; omega))
  have hzv : zR (looksA M) := by
    exact z_looks _
  conv => whnf
  refine zinv0 (s_X12_looks T  (by first | exact hM9 | exact hA9 | assumption | decide | omega) (by first | exact hM9 | exact hA9 | assumption | decide | omega) ?_)
  intro Ir_1013 hfr_1013 htr_1013 hCr_1013
  conv => whnf
  refine ⟨by first | exact ⟨hzv, hzv⟩ | omega, fun c1016 => ?_, fun c1016 => by exfalso; exact c1016 rfl⟩
  conv => whnf
  exact hk _ _ _ _ _ _ _ _ _ _ _ (by omega) (JB.mk hC_1009 hCr_1013 (fun a b g => hfr_1013 a b (fun c => by unfold PSc at c; omega)) (fun a b g => rfl) (fun t ht => hf_1009 _ _ (fun c => by unfold PQ at c; omega)))
theorem l_op_isSimple (T : ZTh (XX Ln xs) CZ RZ) {d b : Nat} {Q : ZQ} {W H n bl : Nat} {M : Mo} {P SL : Nat → Mo} {u : Nat → Int} {i : Int} {I : ZI} {L : ZL} (hJ : JB I L W H M P n SL bl u) (hi : 0 ≤ i ∧ i + 6 ≤ (Ln : Int) ∧ Ln ≤ 3072) (hb3 : 3 ≤ b) (hk : ∀ (I' : ZI) (L' : ZL) (W' H' : Nat) (M' : Mo) (P' : Nat → Mo) (n' : Nat) (SL' : Nat → Mo) (bl' : Nat) (u' : Nat → Int) (b' : Nat), b ≤ b' + 3 → JB I' L' W' H' M' P' n' SL' bl' u' → RZ (d + 33) k_L_law Q 2061 [.inr (.ref 10100, 80000), .inr (.ref 0, 12), .inr (.ref 603, 13), .inr (.ref 643, 40001), .inl i, zj, zj, zj, zj] [] b' I' L') : RZ (d + 33) k_L_law Q 1021 [.inr (.ref 10100, 80000), .inr (.ref 0, 12), .inr (.ref 603, 13), .inr (.ref 643, 40001), .inl i, zj, zj, zj, zj] [] b I L := by
  have hC := hJ.1
  have hA9 := hJ.1.wfa
  refine T.go [2061] 200 ?_
  conv => whnf
  refine zinv0 (s_X11_isSimple T  (by first | exact hJ.1 | assumption | decide | omega) ?_ ?_)
  · intro cha_1022 chb_1022 chc_1022
    have hM9 := hJ.2
    conv => whnf
    refine zinv0 (s_X12_isSimple T  (by first | exact hM9 | exact hA9 | assumption | decide | omega) (by first | exact hM9 | exact hA9 | assumption | decide | omega) ?_ ?_)
    · intro rcha_1026 rchb_1026 rchc_1026 Ir_1026 hfr_1026 htr_1026 hCr_1026
      conv => whnf
      refine ⟨by decide, fun _ => ?_, fun c => absurd c (by decide)⟩
      conv => whnf
      exact hk _ _ _ _ _ _ _ _ _ _ _ (by omega) (JB.mk hC hCr_1026 (fun a b g => hfr_1026 a b (fun c => by unfold PSc at c; omega)) (fun a b g => rfl) (fun t ht => rfl))
    · intro rch2a_1026 Ir_1026 hfr_1026 htr_1026 hCr_1026
      exact (rch2a_1026 ⟨cha_1022, chb_1022, chc_1022⟩).elim
  · intro ch2a_1022
    have hM9 := hJ.2
    conv => whnf
    refine zinv0 (s_X12_isSimple T  (by first | exact hM9 | exact hA9 | assumption | decide | omega) (by first | exact hM9 | exact hA9 | assumption | decide | omega) ?_ ?_)
    · intro rcha_1026 rchb_1026 rchc_1026 Ir_1026 hfr_1026 htr_1026 hCr_1026
      exact (ch2a_1022 ⟨rcha_1026, rchb_1026, rchc_1026⟩).elim
    · intro rch2a_1026 Ir_1026 hfr_1026 htr_1026 hCr_1026
      conv => whnf
      refine ⟨by decide, fun _ => ?_, fun c => absurd c (by decide)⟩
      conv => whnf
      exact hk _ _ _ _ _ _ _ _ _ _ _ (by omega) (JB.mk hC hCr_1026 (fun a b g => hfr_1026 a b (fun c => by unfold PSc at c; omega)) (fun a b g => rfl) (fun t ht => rfl))
theorem l_op_shape (T : ZTh (XX Ln xs) CZ RZ) {d b : Nat} {Q : ZQ} {W H n bl : Nat} {M : Mo} {P SL : Nat → Mo} {u : Nat → Int} {i : Int} {I : ZI} {L : ZL} (hJ : JB I L W H M P n SL bl u) (hi : 0 ≤ i ∧ i + 6 ≤ (Ln : Int) ∧ Ln ≤ 3072) (hb3 : 3 ≤ b) (hk : ∀ (I' : ZI) (L' : ZL) (W' H' : Nat) (M' : Mo) (P' : Nat → Mo) (n' : Nat) (SL' : Nat → Mo) (bl' : Nat) (u' : Nat → Int) (b' : Nat), b ≤ b' + 3 → JB I' L' W' H' M' P' n' SL' bl' u' → RZ (d + 33) k_L_law Q 2061 [.inr (.ref 10100, 80000), .inr (.ref 0, 12), .inr (.ref 603, 13), .inr (.ref 643, 40001), .inl i, zj, zj, zj, zj] [] b' I' L') : RZ (d + 33) k_L_law Q 1034 [.inr (.ref 10100, 80000), .inr (.ref 0, 12), .inr (.ref 603, 13), .inr (.ref 643, 40001), .inl i, zj, zj, zj, zj] [] b I L := by
  have hC := hJ.1
  have hA9 := hJ.1.wfa
  obtain ⟨k, hk9⟩ : ∃ z : Int, z = zs (XX Ln xs) 10100 (i + 1) := ⟨_, rfl⟩
  have zk9 : zR k := by rw [hk9]; exact zs_z _ _ _
  obtain ⟨w, hw9⟩ : ∃ z : Int, z = zs (XX Ln xs) 10100 (i + 2) := ⟨_, rfl⟩
  have zw9 : zR w := by rw [hw9]; exact zs_z _ _ _
  refine T.go [2061] 200 ?_
  conv => whnf
  refine ⟨by exact ⟨by omega, by show _ < ((Ln : Nat) : Int); omega, by omega⟩, ?_⟩
  conv => whnf
  refine ⟨by exact ⟨by omega, by show _ < ((Ln : Nat) : Int); omega, by omega⟩, ?_⟩
  conv => whnf
  rw [← hk9]
  rw [← hw9]
  refine ⟨2, by omega, s_L_shape T  (by first | assumption | omega | rfl | decide) (by first | exact hJ.1 | assumption | decide | omega) (by first | exact hJ.1 | assumption | decide | omega) (by first | exact hJ.1 | assumption | decide | omega) ?_ ?_ ?_⟩
  · intro cha_1048 chb_1048 chc_1048 chd_1048
    have hM9 := hJ.2
    conv => whnf
    refine ⟨by exact ⟨by omega, by show _ < ((Ln : Nat) : Int); omega, by omega⟩, ?_⟩
    conv => whnf
    refine ⟨by exact ⟨by omega, by show _ < ((Ln : Nat) : Int); omega, by omega⟩, ?_⟩
    conv => whnf
    rw [← hk9]
    rw [← hw9]
    refine zinv0 (s_X12_shape T  (by first | exact hM9 | exact hA9 | assumption | decide | omega) (by first | exact hM9 | exact hA9 | assumption | decide | omega) (by first | exact hM9 | exact hA9 | assumption | decide | omega) (by first | exact hM9 | exact hA9 | assumption | decide | omega) ?_ ?_ ?_)
    · intro rcha_1066 rchb_1066 Ir_1066 hfr_1066 htr_1066 hCr_1066
      have hzr : zR (aShape (mS M k.toNat) w) := by
        exact z_shape _ (by omega) (by omega)
      conv => whnf
      refine zinv0 (s_X12_thrown T   ?_)
      conv => whnf
      refine ⟨by rw [htr_1066]; decide, fun c1077 => ?_, fun c1077 => by exfalso; exact c1077 htr_1066⟩
      conv => whnf
      refine ⟨by decide, fun c => absurd c (by decide), fun _ => ?_⟩
      conv => whnf
      refine ⟨by omega, ?_⟩
      conv => whnf
      refine ⟨by first | exact hzr | decide | omega, ?_⟩
      conv => whnf
      refine ⟨fun c1093 => ?_, fun c1093 => ?_, fun c1093 => ?_⟩
      · conv => whnf
        refine ⟨by decide, fun c => absurd c (by decide), fun _ => ?_⟩
        conv => whnf
        refine ⟨by omega, ?_⟩
        exact absurd c1093 (lt_w rfl)
      · conv => whnf
        refine ⟨by decide, fun _ => ?_, fun c => absurd c (by decide)⟩
        conv => whnf
        refine T.fg [5, 6] ?_
        exact hk _ _ _ _ _ _ _ _ _ _ _ (by omega) (JB.mk hC hCr_1066 (fun a b g => hfr_1066 a b (fun c => by unfold PSc at c; omega)) (fun a b g => w2_ne (by omega)) (fun t ht => rfl))
      · conv => whnf
        refine ⟨by decide, fun c => absurd c (by decide), fun _ => ?_⟩
        conv => whnf
        refine ⟨by omega, ?_⟩
        exact absurd c1093 (gt_w rfl)
    · intro rch2a_1066 Ir_1066 hfr_1066 htr_1066 hCr_1066
      exfalso; omega
    · intro rch3a_1066 rch3b_1066 Ir_1066 hfr_1066 htr_1066 hCr_1066
      exfalso; omega
  · intro ch2a_1048
    have hM9 := hJ.2
    conv => whnf
    refine ⟨by exact ⟨by omega, by show _ < ((Ln : Nat) : Int); omega, by omega⟩, ?_⟩
    conv => whnf
    refine ⟨by exact ⟨by omega, by show _ < ((Ln : Nat) : Int); omega, by omega⟩, ?_⟩
    conv => whnf
    rw [← hk9]
    rw [← hw9]
    refine zinv0 (s_X12_shape T  (by first | exact hM9 | exact hA9 | assumption | decide | omega) (by first | exact hM9 | exact hA9 | assumption | decide | omega) (by first | exact hM9 | exact hA9 | assumption | decide | omega) (by first | exact hM9 | exact hA9 | assumption | decide | omega) ?_ ?_ ?_)
    · intro rcha_1066 rchb_1066 Ir_1066 hfr_1066 htr_1066 hCr_1066
      exfalso; omega
    · intro rch2a_1066 Ir_1066 hfr_1066 htr_1066 hCr_1066
      conv => whnf
      refine zinv0 (s_X12_thrown T   ?_)
      conv => whnf
      refine ⟨by rw [htr_1066]; decide, fun c1077 => ?_, fun c1077 => by exfalso; exact c1077 htr_1066⟩
      conv => whnf
      refine ⟨by decide, fun _ => ?_, fun c => absurd c (by decide)⟩
      conv => whnf
      refine T.fg [5, 6] ?_
      exact hk _ _ _ _ _ _ _ _ _ _ _ (by omega) (JB.mk hC hCr_1066 (fun a b g => hfr_1066 a b (fun c => by unfold PSc at c; omega)) (fun a b g => rfl) (fun t ht => rfl))
    · intro rch3a_1066 rch3b_1066 Ir_1066 hfr_1066 htr_1066 hCr_1066
      exfalso; omega
  · intro ch3a_1048 ch3b_1048 ch3c_1048
    have hM9 := hJ.2
    conv => whnf
    refine ⟨by exact ⟨by omega, by show _ < ((Ln : Nat) : Int); omega, by omega⟩, ?_⟩
    conv => whnf
    refine ⟨by exact ⟨by omega, by show _ < ((Ln : Nat) : Int); omega, by omega⟩, ?_⟩
    conv => whnf
    rw [← hk9]
    rw [← hw9]
    refine zinv0 (s_X12_shape T  (by first | exact hM9 | exact hA9 | assumption | decide | omega) (by first | exact hM9 | exact hA9 | assumption | decide | omega) (by first | exact hM9 | exact hA9 | assumption | decide | omega) (by first | exact hM9 | exact hA9 | assumption | decide | omega) ?_ ?_ ?_)
    · intro rcha_1066 rchb_1066 Ir_1066 hfr_1066 htr_1066 hCr_1066
      exfalso; omega
    · intro rch2a_1066 Ir_1066 hfr_1066 htr_1066 hCr_1066
      exfalso; omega
    · intro rch3a_1066 rch3b_1066 Ir_1066 hfr_1066 htr_1066 hCr_1066
      conv => whnf
      refine zinv0 (s_X12_thrown T   ?_)
      conv => whnf
      refine ⟨by rw [htr_1066]; decide, fun c1077 => ?_, fun c1077 => by exfalso; exact c1077 htr_1066⟩
      conv => whnf
      refine ⟨by decide, fun _ => ?_, fun c => absurd c (by decide)⟩
      conv => whnf
      refine T.fg [5, 6] ?_
      exact hk _ _ _ _ _ _ _ _ _ _ _ (by omega) (JB.mk hC hCr_1066 (fun a b g => hfr_1066 a b (fun c => by unfold PSc at c; omega)) (fun a b g => rfl) (fun t ht => rfl))
theorem l_op_hasQuarter (T : ZTh (XX Ln xs) CZ RZ) {d b : Nat} {Q : ZQ} {W H n bl : Nat} {M : Mo} {P SL : Nat → Mo} {u : Nat → Int} {i : Int} {I : ZI} {L : ZL} (hJ : JB I L W H M P n SL bl u) (hi : 0 ≤ i ∧ i + 6 ≤ (Ln : Int) ∧ Ln ≤ 3072) (hb3 : 3 ≤ b) (hk : ∀ (I' : ZI) (L' : ZL) (W' H' : Nat) (M' : Mo) (P' : Nat → Mo) (n' : Nat) (SL' : Nat → Mo) (bl' : Nat) (u' : Nat → Int) (b' : Nat), b ≤ b' + 3 → JB I' L' W' H' M' P' n' SL' bl' u' → RZ (d + 33) k_L_law Q 2061 [.inr (.ref 10100, 80000), .inr (.ref 0, 12), .inr (.ref 603, 13), .inr (.ref 643, 40001), .inl i, zj, zj, zj, zj] [] b' I' L') : RZ (d + 33) k_L_law Q 1102 [.inr (.ref 10100, 80000), .inr (.ref 0, 12), .inr (.ref 603, 13), .inr (.ref 643, 40001), .inl i, zj, zj, zj, zj] [] b I L := by
  have hC := hJ.1
  have hA9 := hJ.1.wfa
  obtain ⟨k, hk9⟩ : ∃ z : Int, z = zs (XX Ln xs) 10100 (i + 1) := ⟨_, rfl⟩
  have zk9 : zR k := by rw [hk9]; exact zs_z _ _ _
  obtain ⟨q, hq9⟩ : ∃ z : Int, z = zs (XX Ln xs) 10100 (i + 2) := ⟨_, rfl⟩
  have zq9 : zR q := by rw [hq9]; exact zs_z _ _ _
  refine T.go [2061] 200 ?_
  conv => whnf
  refine ⟨by exact ⟨by omega, by show _ < ((Ln : Nat) : Int); omega, by omega⟩, ?_⟩
  conv => whnf
  refine ⟨by exact ⟨by omega, by show _ < ((Ln : Nat) : Int); omega, by omega⟩, ?_⟩
  conv => whnf
  rw [← hk9]
  rw [← hq9]
  refine ⟨1, by omega, s_L_hasQuarter T  (by first | assumption | omega | rfl | decide) (by first | exact hJ.1 | assumption | decide | omega) (by first | exact hJ.1 | assumption | decide | omega) (by first | exact hJ.1 | assumption | decide | omega) ?_ ?_⟩
  · intro cha_1116 chb_1116
    have hM9 := hJ.2
    conv => whnf
    refine ⟨by exact ⟨by omega, by show _ < ((Ln : Nat) : Int); omega, by omega⟩, ?_⟩
    conv => whnf
    refine ⟨by exact ⟨by omega, by show _ < ((Ln : Nat) : Int); omega, by omega⟩, ?_⟩
    conv => whnf
    rw [← hk9]
    rw [← hq9]
    refine zinv0 (s_X12_hasQuarter T  (by first | exact hM9 | exact hA9 | assumption | decide | omega) (by first | exact hM9 | exact hA9 | assumption | decide | omega) (by first | exact hM9 | exact hA9 | assumption | decide | omega) (by first | exact hM9 | exact hA9 | assumption | decide | omega) ?_ ?_)
    · intro rcha_1134 Ir_1134 hfr_1134 htr_1134 hCr_1134
      have hzr : zR (bi (decide (0 ≤ q ∧ q < 576) && mS M k.toNat q.toNat)) := by
        have := bi_b (decide (0 ≤ q ∧ q < 576) && mS M k.toNat q.toNat)
        exact ⟨by omega, by omega⟩
      conv => whnf
      refine zinv0 (s_X12_thrown T   ?_)
      conv => whnf
      refine ⟨by rw [htr_1134]; decide, fun c1145 => ?_, fun c1145 => by exfalso; exact c1145 htr_1134⟩
      conv => whnf
      refine ⟨by decide, fun c => absurd c (by decide), fun _ => ?_⟩
      conv => whnf
      refine ⟨by omega, ?_⟩
      conv => whnf
      refine ⟨by first | exact hzr | decide | omega, fun c1160 => ?_, fun c1160 => ?_⟩
      · conv => whnf
        refine ⟨fun c1168 => ?_, fun c1168 => ?_, fun c1168 => ?_⟩
        · conv => whnf
          refine ⟨by decide, fun c => absurd c (by decide), fun _ => ?_⟩
          conv => whnf
          refine ⟨by omega, ?_⟩
          refine absurd c1168 (lt_w ?_)
          show l6 (bi (decide (0 ≤ q ∧ q < 576) && mS M k.toNat q.toNat)) = l6 0
          have := bi_b (decide (0 ≤ q ∧ q < 576) && mS M k.toNat q.toNat)
          rw [show (bi (decide (0 ≤ q ∧ q < 576) && mS M k.toNat q.toNat)) = 0 by omega]
        · conv => whnf
          refine ⟨by decide, fun _ => ?_, fun c => absurd c (by decide)⟩
          conv => whnf
          refine T.fg [5, 6] ?_
          exact hk _ _ _ _ _ _ _ _ _ _ _ (by omega) (JB.mk hC hCr_1134 (fun a b g => hfr_1134 a b (fun c => by unfold PSc at c; omega)) (fun a b g => w2_ne (by omega)) (fun t ht => rfl))
        · conv => whnf
          refine ⟨by decide, fun c => absurd c (by decide), fun _ => ?_⟩
          conv => whnf
          refine ⟨by omega, ?_⟩
          refine absurd c1168 (gt_w ?_)
          show l6 (bi (decide (0 ≤ q ∧ q < 576) && mS M k.toNat q.toNat)) = l6 0
          have := bi_b (decide (0 ≤ q ∧ q < 576) && mS M k.toNat q.toNat)
          rw [show (bi (decide (0 ≤ q ∧ q < 576) && mS M k.toNat q.toNat)) = 0 by omega]
      · conv => whnf
        refine ⟨fun c1168 => ?_, fun c1168 => ?_, fun c1168 => ?_⟩
        · conv => whnf
          refine ⟨by decide, fun c => absurd c (by decide), fun _ => ?_⟩
          conv => whnf
          refine ⟨by omega, ?_⟩
          refine absurd c1168 (lt_w ?_)
          show l6 (bi (decide (0 ≤ q ∧ q < 576) && mS M k.toNat q.toNat)) = l6 1
          have := bi_b (decide (0 ≤ q ∧ q < 576) && mS M k.toNat q.toNat)
          rw [show (bi (decide (0 ≤ q ∧ q < 576) && mS M k.toNat q.toNat)) = 1 by omega]
        · conv => whnf
          refine ⟨by decide, fun _ => ?_, fun c => absurd c (by decide)⟩
          conv => whnf
          refine T.fg [5, 6] ?_
          exact hk _ _ _ _ _ _ _ _ _ _ _ (by omega) (JB.mk hC hCr_1134 (fun a b g => hfr_1134 a b (fun c => by unfold PSc at c; omega)) (fun a b g => w2_ne (by omega)) (fun t ht => rfl))
        · conv => whnf
          refine ⟨by decide, fun c => absurd c (by decide), fun _ => ?_⟩
          conv => whnf
          refine ⟨by omega, ?_⟩
          refine absurd c1168 (gt_w ?_)
          show l6 (bi (decide (0 ≤ q ∧ q < 576) && mS M k.toNat q.toNat)) = l6 1
          have := bi_b (decide (0 ≤ q ∧ q < 576) && mS M k.toNat q.toNat)
          rw [show (bi (decide (0 ≤ q ∧ q < 576) && mS M k.toNat q.toNat)) = 1 by omega]
    · intro rch2a_1134 Ir_1134 hfr_1134 htr_1134 hCr_1134
      exfalso; omega
  · intro ch2a_1116
    have hM9 := hJ.2
    conv => whnf
    refine ⟨by exact ⟨by omega, by show _ < ((Ln : Nat) : Int); omega, by omega⟩, ?_⟩
    conv => whnf
    refine ⟨by exact ⟨by omega, by show _ < ((Ln : Nat) : Int); omega, by omega⟩, ?_⟩
    conv => whnf
    rw [← hk9]
    rw [← hq9]
    refine zinv0 (s_X12_hasQuarter T  (by first | exact hM9 | exact hA9 | assumption | decide | omega) (by first | exact hM9 | exact hA9 | assumption | decide | omega) (by first | exact hM9 | exact hA9 | assumption | decide | omega) (by first | exact hM9 | exact hA9 | assumption | decide | omega) ?_ ?_)
    · intro rcha_1134 Ir_1134 hfr_1134 htr_1134 hCr_1134
      exfalso; omega
    · intro rch2a_1134 Ir_1134 hfr_1134 htr_1134 hCr_1134
      conv => whnf
      refine zinv0 (s_X12_thrown T   ?_)
      conv => whnf
      refine ⟨by rw [htr_1134]; decide, fun c1145 => ?_, fun c1145 => by exfalso; exact c1145 htr_1134⟩
      conv => whnf
      refine ⟨by decide, fun _ => ?_, fun c => absurd c (by decide)⟩
      conv => whnf
      refine T.fg [5, 6] ?_
      exact hk _ _ _ _ _ _ _ _ _ _ _ (by omega) (JB.mk hC hCr_1134 (fun a b g => hfr_1134 a b (fun c => by unfold PSc at c; omega)) (fun a b g => rfl) (fun t ht => rfl))
end
