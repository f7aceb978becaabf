/-! THE LAW, 7: calls -/
section
variable {Ln : Nat} {xs : Nat → Int32} {CZ : Nat → ZC} {RZ : Nat → Nat → ZQ → ZP}
theorem l_op_place (T : ZTh (XX Ln xs) CZ RZ) {d b : Nat} {Q : ZQ} {W H n bl : Nat} {M : Mo} {P SL : Nat → Mo} {u : Nat → Int} {i : Int} {I : ZI} {L : ZL} (hJ : JB I L W H M P n SL bl u) (hi : 0 ≤ i ∧ i + 6 ≤ (Ln : Int) ∧ Ln ≤ 3072) (hb3 : 3 ≤ b) (hk : ∀ (I' : ZI) (L' : ZL) (W' H' : Nat) (M' : Mo) (P' : Nat → Mo) (n' : Nat) (SL' : Nat → Mo) (bl' : Nat) (u' : Nat → Int) (b' : Nat), b ≤ b' + 3 → JB I' L' W' H' M' P' n' SL' bl' u' → RZ (d + 33) k_L_law Q 2061 [.inr (.ref 10100, 80000), .inr (.ref 0, 12), .inr (.ref 603, 13), .inr (.ref 643, 40001), .inl i, zj, zj, zj, zj] [] b' I' L') : RZ (d + 33) k_L_law Q 1451 [.inr (.ref 10100, 80000), .inr (.ref 0, 12), .inr (.ref 603, 13), .inr (.ref 643, 40001), .inl i, zj, zj, zj, zj] [] b I L := by
  have hC := hJ.1
  have hA9 := hJ.1.wfa
  obtain ⟨p, hp9⟩ : ∃ z : Int, z = zs (XX Ln xs) 10100 (i + 1) := ⟨_, rfl⟩
  have zp9 : zR p := by rw [hp9]; exact zs_z _ _ _
  obtain ⟨x, hx9⟩ : ∃ z : Int, z = zs (XX Ln xs) 10100 (i + 2) := ⟨_, rfl⟩
  have zx9 : zR x := by rw [hx9]; exact zs_z _ _ _
  obtain ⟨y, hy9⟩ : ∃ z : Int, z = zs (XX Ln xs) 10100 (i + 3) := ⟨_, rfl⟩
  have zy9 : zR y := by rw [hy9]; exact zs_z _ _ _
  obtain ⟨t, ht9⟩ : ∃ z : Int, z = zs (XX Ln xs) 10100 (i + 4) := ⟨_, rfl⟩
  have zt9 : zR t := by rw [ht9]; exact zs_z _ _ _
  refine T.go [2061] 200 ?_
  conv => whnf
  refine ⟨by exact ⟨by omega, by show _ < ((Ln : Nat) : Int); omega, by omega⟩, ?_⟩
  conv => whnf
  refine ⟨by exact ⟨by omega, by show _ < ((Ln : Nat) : Int); omega, by omega⟩, ?_⟩
  conv => whnf
  refine ⟨by exact ⟨by omega, by show _ < ((Ln : Nat) : Int); omega, by omega⟩, ?_⟩
  conv => whnf
  refine ⟨by exact ⟨by omega, by show _ < ((Ln : Nat) : Int); omega, by omega⟩, ?_⟩
  conv => whnf
  refine ⟨by exact ⟨by omega, by show _ < ((Ln : Nat) : Int); omega, by omega⟩, ?_⟩
  conv => whnf
  refine ⟨by exact zs_z _ _ _, fun c1482 => ?_, fun c1482 => ?_⟩
  · conv => whnf
    rw [← hp9]
    rw [← hx9]
    rw [← hy9]
    rw [← ht9]
    refine ⟨2, by omega, s_L_place T  (by first | assumption | omega | rfl | decide) (by first | exact hJ.1 | assumption | decide | omega) (by first | exact hJ.1 | assumption | decide | omega) (by first | exact hJ.1 | assumption | decide | omega) (by first | exact hJ.1 | assumption | decide | omega) (by first | exact hJ.1 | assumption | decide | omega) (by first | exact hJ.1 | assumption | decide | omega) ?_ ?_ ?_ ?_⟩
    · intro cha_1491 chb_1491 chc_1491 I_1491 L_1491 hf_1491 hg_1491 hC_1491
      have hM9 := hJ.2.near hA9 (fun a b g => hf_1491 a b (fun c => by unfold PCh at c; omega))
      conv => whnf
      refine ⟨by exact ⟨by omega, by show _ < ((Ln : Nat) : Int); omega, by omega⟩, ?_⟩
      conv => whnf
      refine ⟨by exact ⟨by omega, by show _ < ((Ln : Nat) : Int); omega, by omega⟩, ?_⟩
      conv => whnf
      refine ⟨by exact ⟨by omega, by show _ < ((Ln : Nat) : Int); omega, by omega⟩, ?_⟩
      conv => whnf
      refine ⟨by exact ⟨by omega, by show _ < ((Ln : Nat) : Int); omega, by omega⟩, ?_⟩
      conv => whnf
      refine ⟨by exact ⟨by omega, by show _ < ((Ln : Nat) : Int); omega, by omega⟩, ?_⟩
      conv => whnf
      refine ⟨by exact zs_z _ _ _, fun c1527 => ?_, fun c1527 => by exfalso; exact c1527 c1482⟩
      conv => whnf
      rw [← hp9]
      rw [← hx9]
      rw [← hy9]
      rw [← ht9]
      refine zinv0 (s_X12_place T  (by first | exact hM9 | exact hA9 | assumption | decide | omega) (by first | exact hM9 | exact hA9 | assumption | decide | omega) (by first | exact hM9 | exact hA9 | assumption | decide | omega) (by first | exact hM9 | exact hA9 | assumption | decide | omega) (by first | exact hM9 | exact hA9 | assumption | decide | omega) (by first | exact hM9 | exact hA9 | assumption | decide | omega) (by first | exact hM9 | exact hA9 | assumption | decide | omega) ?_ ?_ ?_ ?_)
      · intro rcha_1535 rchb_1535 rchc_1535 Ir_1535 hfr_1535 htr_1535 hCr_1535
        have hzr : zR (cn (sil (putM M p.toNat x y (2 * t + 0))) 576) := by
          exact z_cn _ _ (by omega)
        conv => whnf
        refine zinv0 (s_X12_thrown T   ?_)
        conv => whnf
        refine ⟨by rw [htr_1535]; decide, fun c1546 => ?_, fun c1546 => by exfalso; exact c1546 htr_1535⟩
        conv => whnf
        refine ⟨by decide, fun c => absurd c (by decide), fun _ => ?_⟩
        conv => whnf
        refine ⟨by omega, ?_⟩
        conv => whnf
        refine ⟨by first | exact hzr | decide | omega, ?_⟩
        conv => whnf
        refine ⟨fun c1562 => ?_, fun c1562 => ?_, fun c1562 => ?_⟩
        · conv => whnf
          refine ⟨by decide, fun c => absurd c (by decide), fun _ => ?_⟩
          conv => whnf
          refine ⟨by omega, ?_⟩
          exact absurd c1562 (lt_w rfl)
        · conv => whnf
          refine ⟨by decide, fun _ => ?_, fun c => absurd c (by decide)⟩
          conv => whnf
          refine T.fg [5, 6] ?_
          exact hk _ _ _ _ _ _ _ _ _ _ _ (by omega) (JB.mk hC_1491 hCr_1535 (fun a b g => hfr_1535 a b (fun c => by unfold PMd at c; omega)) (fun a b g => w2_ne (by omega)) (fun t ht => hf_1491 _ _ (fun c => by unfold PCh at c; omega)))
        · conv => whnf
          refine ⟨by decide, fun c => absurd c (by decide), fun _ => ?_⟩
          conv => whnf
          refine ⟨by omega, ?_⟩
          exact absurd c1562 (gt_w rfl)
      · intro rch4a_1535 rch4b_1535 rch4c_1535 Ir_1535 hfr_1535 htr_1535 hCr_1535
        exfalso; omega
      · intro rch2a_1535 Ir_1535 hfr_1535 htr_1535 hCr_1535
        exfalso; omega
      · intro rch3a_1535 rch3b_1535 Ir_1535 hfr_1535 htr_1535 hCr_1535
        exfalso; omega
    · intro ch4a_1491 ch4b_1491 ch4c_1491
      have hM9 := hJ.2
      conv => whnf
      refine ⟨by exact ⟨by omega, by show _ < ((Ln : Nat) : Int); omega, by omega⟩, ?_⟩
      conv => whnf
      refine ⟨by exact ⟨by omega, by show _ < ((Ln : Nat) : Int); omega, by omega⟩, ?_⟩
      conv => whnf
      refine ⟨by exact ⟨by omega, by show _ < ((Ln : Nat) : Int); omega, by omega⟩, ?_⟩
      conv => whnf
      refine ⟨by exact ⟨by omega, by show _ < ((Ln : Nat) : Int); omega, by omega⟩, ?_⟩
      conv => whnf
      refine ⟨by exact ⟨by omega, by show _ < ((Ln : Nat) : Int); omega, by omega⟩, ?_⟩
      conv => whnf
      refine ⟨by exact zs_z _ _ _, fun c1527 => ?_, fun c1527 => by exfalso; exact c1527 c1482⟩
      conv => whnf
      rw [← hp9]
      rw [← hx9]
      rw [← hy9]
      rw [← ht9]
      refine zinv0 (s_X12_place T  (by first | exact hM9 | exact hA9 | assumption | decide | omega) (by first | exact hM9 | exact hA9 | assumption | decide | omega) (by first | exact hM9 | exact hA9 | assumption | decide | omega) (by first | exact hM9 | exact hA9 | assumption | decide | omega) (by first | exact hM9 | exact hA9 | assumption | decide | omega) (by first | exact hM9 | exact hA9 | assumption | decide | omega) (by first | exact hM9 | exact hA9 | assumption | decide | omega) ?_ ?_ ?_ ?_)
      · intro rcha_1535 rchb_1535 rchc_1535 Ir_1535 hfr_1535 htr_1535 hCr_1535
        exfalso; omega
      · intro rch4a_1535 rch4b_1535 rch4c_1535 Ir_1535 hfr_1535 htr_1535 hCr_1535
        have hzr : zR (-aWhy W H M p x y t 0) := by
          exact (z_why _ _ _ _ _ _ _ _).2
        conv => whnf
        refine zinv0 (s_X12_thrown T   ?_)
        conv => whnf
        refine ⟨by rw [htr_1535]; decide, fun c1546 => ?_, fun c1546 => by exfalso; exact c1546 htr_1535⟩
        conv => whnf
        refine ⟨by decide, fun c => absurd c (by decide), fun _ => ?_⟩
        conv => whnf
        refine ⟨by omega, ?_⟩
        conv => whnf
        refine ⟨by first | exact hzr | decide | omega, ?_⟩
        conv => whnf
        refine ⟨fun c1562 => ?_, fun c1562 => ?_, fun c1562 => ?_⟩
        · conv => whnf
          refine ⟨by decide, fun c => absurd c (by decide), fun _ => ?_⟩
          conv => whnf
          refine ⟨by omega, ?_⟩
          exact absurd c1562 (lt_w rfl)
        · conv => whnf
          refine ⟨by decide, fun _ => ?_, fun c => absurd c (by decide)⟩
          conv => whnf
          refine T.fg [5, 6] ?_
          exact hk _ _ _ _ _ _ _ _ _ _ _ (by omega) (JB.mk hC hCr_1535 (fun a b g => hfr_1535 a b (fun c => by unfold PSc at c; omega)) (fun a b g => w2_ne (by omega)) (fun t ht => rfl))
        · conv => whnf
          refine ⟨by decide, fun c => absurd c (by decide), fun _ => ?_⟩
          conv => whnf
          refine ⟨by omega, ?_⟩
          exact absurd c1562 (gt_w rfl)
      · intro rch2a_1535 Ir_1535 hfr_1535 htr_1535 hCr_1535
        exfalso; omega
      · intro rch3a_1535 rch3b_1535 Ir_1535 hfr_1535 htr_1535 hCr_1535
        exfalso; omega
    · intro ch2a_1491
      have hM9 := hJ.2
      conv => whnf
      refine ⟨by exact ⟨by omega, by show _ < ((Ln : Nat) : Int); omega, by omega⟩, ?_⟩
      conv => whnf
      refine ⟨by exact ⟨by omega, by show _ < ((Ln : Nat) : Int); omega, by omega⟩, ?_⟩
      conv => whnf
      refine ⟨by exact ⟨by omega, by show _ < ((Ln : Nat) : Int); omega, by omega⟩, ?_⟩
      conv => whnf
      refine ⟨by exact ⟨by omega, by show _ < ((Ln : Nat) : Int); omega, by omega⟩, ?_⟩
      conv => whnf
      refine ⟨by exact ⟨by omega, by show _ < ((Ln : Nat) : Int); omega, by omega⟩, ?_⟩
      conv => whnf
      refine ⟨by exact zs_z _ _ _, fun c1527 => ?_, fun c1527 => by exfalso; exact c1527 c1482⟩
      conv => whnf
      rw [← hp9]
      rw [← hx9]
      rw [← hy9]
      rw [← ht9]
      refine zinv0 (s_X12_place T  (by first | exact hM9 | exact hA9 | assumption | decide | omega) (by first | exact hM9 | exact hA9 | assumption | decide | omega) (by first | exact hM9 | exact hA9 | assumption | decide | omega) (by first | exact hM9 | exact hA9 | assumption | decide | omega) (by first | exact hM9 | exact hA9 | assumption | decide | omega) (by first | exact hM9 | exact hA9 | assumption | decide | omega) (by first | exact hM9 | exact hA9 | assumption | decide | omega) ?_ ?_ ?_ ?_)
      · intro rcha_1535 rchb_1535 rchc_1535 Ir_1535 hfr_1535 htr_1535 hCr_1535
        exfalso; omega
      · intro rch4a_1535 rch4b_1535 rch4c_1535 Ir_1535 hfr_1535 htr_1535 hCr_1535
        exfalso; omega
      · intro rch2a_1535 Ir_1535 hfr_1535 htr_1535 hCr_1535
        conv => whnf
        refine zinv0 (s_X12_thrown T   ?_)
        conv => whnf
        refine ⟨by rw [htr_1535]; decide, fun c1546 => ?_, fun c1546 => by exfalso; exact c1546 htr_1535⟩
        conv => whnf
        refine ⟨by decide, fun _ => ?_, fun c => absurd c (by decide)⟩
        conv => whnf
        refine T.fg [5, 6] ?_
        exact hk _ _ _ _ _ _ _ _ _ _ _ (by omega) (JB.mk hC hCr_1535 (fun a b g => hfr_1535 a b (fun c => by unfold PSc at c; omega)) (fun a b g => rfl) (fun t ht => rfl))
      · intro rch3a_1535 rch3b_1535 Ir_1535 hfr_1535 htr_1535 hCr_1535
        exfalso; omega
    · intro ch3a_1491 ch3b_1491
      have hM9 := hJ.2
      conv => whnf
      refine ⟨by exact ⟨by omega, by show _ < ((Ln : Nat) : Int); omega, by omega⟩, ?_⟩
      conv => whnf
      refine ⟨by exact ⟨by omega, by show _ < ((Ln : Nat) : Int); omega, by omega⟩, ?_⟩
      conv => whnf
      refine ⟨by exact ⟨by omega, by show _ < ((Ln : Nat) : Int); omega, by omega⟩, ?_⟩
      conv => whnf
      refine ⟨by exact ⟨by omega, by show _ < ((Ln : Nat) : Int); omega, by omega⟩, ?_⟩
      conv => whnf
      refine ⟨by exact ⟨by omega, by show _ < ((Ln : Nat) : Int); omega, by omega⟩, ?_⟩
      conv => whnf
      refine ⟨by exact zs_z _ _ _, fun c1527 => ?_, fun c1527 => by exfalso; exact c1527 c1482⟩
      conv => whnf
      rw [← hp9]
      rw [← hx9]
      rw [← hy9]
      rw [← ht9]
      refine zinv0 (s_X12_place T  (by first | exact hM9 | exact hA9 | assumption | decide | omega) (by first | exact hM9 | exact hA9 | assumption | decide | omega) (by first | exact hM9 | exact hA9 | assumption | decide | omega) (by first | exact hM9 | exact hA9 | assumption | decide | omega) (by first | exact hM9 | exact hA9 | assumption | decide | omega) (by first | exact hM9 | exact hA9 | assumption | decide | omega) (by first | exact hM9 | exact hA9 | assumption | decide | omega) ?_ ?_ ?_ ?_)
      · intro rcha_1535 rchb_1535 rchc_1535 Ir_1535 hfr_1535 htr_1535 hCr_1535
        exfalso; omega
      · intro rch4a_1535 rch4b_1535 rch4c_1535 Ir_1535 hfr_1535 htr_1535 hCr_1535
        exfalso; omega
      · intro rch2a_1535 Ir_1535 hfr_1535 htr_1535 hCr_1535
        exfalso; omega
      · intro rch3a_1535 rch3b_1535 Ir_1535 hfr_1535 htr_1535 hCr_1535
        conv => whnf
        refine zinv0 (s_X12_thrown T   ?_)
        conv => whnf
        refine ⟨by rw [htr_1535]; decide, fun c1546 => ?_, fun c1546 => by exfalso; exact c1546 htr_1535⟩
        conv => whnf
        refine ⟨by decide, fun _ => ?_, fun c => absurd c (by decide)⟩
        conv => whnf
        refine T.fg [5, 6] ?_
        exact hk _ _ _ _ _ _ _ _ _ _ _ (by omega) (JB.mk hC hCr_1535 (fun a b g => hfr_1535 a b (fun c => by unfold PSc at c; omega)) (fun a b g => rfl) (fun t ht => rfl))
  · conv => whnf
    rw [← hp9]
    rw [← hx9]
    rw [← hy9]
    rw [← ht9]
    refine ⟨2, by omega, s_L_place T  (by first | assumption | omega | rfl | decide) (by first | exact hJ.1 | assumption | decide | omega) (by first | exact hJ.1 | assumption | decide | omega) (by first | exact hJ.1 | assumption | decide | omega) (by first | exact hJ.1 | assumption | decide | omega) (by first | exact hJ.1 | assumption | decide | omega) (by first | exact hJ.1 | assumption | decide | omega) ?_ ?_ ?_ ?_⟩
    · intro cha_1491 chb_1491 chc_1491 I_1491 L_1491 hf_1491 hg_1491 hC_1491
      have hM9 := hJ.2.near hA9 (fun a b g => hf_1491 a b (fun c => by unfold PCh at c; omega))
      conv => whnf
      refine ⟨by exact ⟨by omega, by show _ < ((Ln : Nat) : Int); omega, by omega⟩, ?_⟩
      conv => whnf
      refine ⟨by exact ⟨by omega, by show _ < ((Ln : Nat) : Int); omega, by omega⟩, ?_⟩
      conv => whnf
      refine ⟨by exact ⟨by omega, by show _ < ((Ln : Nat) : Int); omega, by omega⟩, ?_⟩
      conv => whnf
      refine ⟨by exact ⟨by omega, by show _ < ((Ln : Nat) : Int); omega, by omega⟩, ?_⟩
      conv => whnf
      refine ⟨by exact ⟨by omega, by show _ < ((Ln : Nat) : Int); omega, by omega⟩, ?_⟩
      conv => whnf
      refine ⟨by exact zs_z _ _ _, fun c1527 => by exfalso; exact c1482 c1527, fun c1527 => ?_⟩
      conv => whnf
      rw [← hp9]
      rw [← hx9]
      rw [← hy9]
      rw [← ht9]
      refine zinv0 (s_X12_place T  (by first | exact hM9 | exact hA9 | assumption | decide | omega) (by first | exact hM9 | exact hA9 | assumption | decide | omega) (by first | exact hM9 | exact hA9 | assumption | decide | omega) (by first | exact hM9 | exact hA9 | assumption | decide | omega) (by first | exact hM9 | exact hA9 | assumption | decide | omega) (by first | exact hM9 | exact hA9 | assumption | decide | omega) (by first | exact hM9 | exact hA9 | assumption | decide | omega) ?_ ?_ ?_ ?_)
      · intro rcha_1535 rchb_1535 rchc_1535 Ir_1535 hfr_1535 htr_1535 hCr_1535
        have hzr : zR (cn (sil (putM M p.toNat x y (2 * t + 1))) 576) := by
          exact z_cn _ _ (by omega)
        conv => whnf
        refine zinv0 (s_X12_thrown T   ?_)
        conv => whnf
        refine ⟨by rw [htr_1535]; decide, fun c1546 => ?_, fun c1546 => by exfalso; exact c1546 htr_1535⟩
        conv => whnf
        refine ⟨by decide, fun c => absurd c (by decide), fun _ => ?_⟩
        conv => whnf
        refine ⟨by omega, ?_⟩
        conv => whnf
        refine ⟨by first | exact hzr | decide | omega, ?_⟩
        conv => whnf
        refine ⟨fun c1562 => ?_, fun c1562 => ?_, fun c1562 => ?_⟩
        · conv => whnf
          refine ⟨by decide, fun c => absurd c (by decide), fun _ => ?_⟩
          conv => whnf
          refine ⟨by omega, ?_⟩
          exact absurd c1562 (lt_w rfl)
        · conv => whnf
          refine ⟨by decide, fun _ => ?_, fun c => absurd c (by decide)⟩
          conv => whnf
          refine T.fg [5, 6] ?_
          exact hk _ _ _ _ _ _ _ _ _ _ _ (by omega) (JB.mk hC_1491 hCr_1535 (fun a b g => hfr_1535 a b (fun c => by unfold PMd at c; omega)) (fun a b g => w2_ne (by omega)) (fun t ht => hf_1491 _ _ (fun c => by unfold PCh at c; omega)))
        · conv => whnf
          refine ⟨by decide, fun c => absurd c (by decide), fun _ => ?_⟩
          conv => whnf
          refine ⟨by omega, ?_⟩
          exact absurd c1562 (gt_w rfl)
      · intro rch4a_1535 rch4b_1535 rch4c_1535 Ir_1535 hfr_1535 htr_1535 hCr_1535
        exfalso; omega
      · intro rch2a_1535 Ir_1535 hfr_1535 htr_1535 hCr_1535
        exfalso; omega
      · intro rch3a_1535 rch3b_1535 Ir_1535 hfr_1535 htr_1535 hCr_1535
        exfalso; omega
    · intro ch4a_1491 ch4b_1491 ch4c_1491
      have hM9 := hJ.2
      conv => whnf
      refine ⟨by exact ⟨by omega, by show _ < ((Ln : Nat) : Int); omega, by omega⟩, ?_⟩
      conv => whnf
      refine ⟨by exact ⟨by omega, by show _ < ((Ln : Nat) : Int); omega, by omega⟩, ?_⟩
      conv => whnf
      refine ⟨by exact ⟨by omega, by show _ < ((Ln : Nat) : Int); omega, by omega⟩, ?_⟩
      conv => whnf
      refine ⟨by exact ⟨by omega, by show _ < ((Ln : Nat) : Int); omega, by omega⟩, ?_⟩
      conv => whnf
      refine ⟨by exact ⟨by omega, by show _ < ((Ln : Nat) : Int); omega, by omega⟩, ?_⟩
      conv => whnf
      refine ⟨by exact zs_z _ _ _, fun c1527 => by exfalso; exact c1482 c1527, fun c1527 => ?_⟩
      conv => whnf
      rw [← hp9]
      rw [← hx9]
      rw [← hy9]
      rw [← ht9]
      refine zinv0 (s_X12_place T  (by first | exact hM9 | exact hA9 | assumption | decide | omega) (by first | exact hM9 | exact hA9 | assumption | decide | omega) (by first | exact hM9 | exact hA9 | assumption | decide | omega) (by first | exact hM9 | exact hA9 | assumption | decide | omega) (by first | exact hM9 | exact hA9 | assumption | decide | omega) (by first | exact hM9 | exact hA9 | assumption | decide | omega) (by first | exact hM9 | exact hA9 | assumption | decide | omega) ?_ ?_ ?_ ?_)
      · intro rcha_1535 rchb_1535 rchc_1535 Ir_1535 hfr_1535 htr_1535 hCr_1535
        exfalso; omega
      · intro rch4a_1535 rch4b_1535 rch4c_1535 Ir_1535 hfr_1535 htr_1535 hCr_1535
        have hzr : zR (-aWhy W H M p x y t 1) := by
          exact (z_why _ _ _ _ _ _ _ _).2
        conv => whnf
        refine zinv0 (s_X12_thrown T   ?_)
        conv => whnf
        refine ⟨by rw [htr_1535]; decide, fun c1546 => ?_, fun c1546 => by exfalso; exact c1546 htr_1535⟩
        conv => whnf
        refine ⟨by decide, fun c => absurd c (by decide), fun _ => ?_⟩
        conv => whnf
        refine ⟨by omega, ?_⟩
        conv => whnf
        refine ⟨by first | exact hzr | decide | omega, ?_⟩
        conv => whnf
        refine ⟨fun c1562 => ?_, fun c1562 => ?_, fun c1562 => ?_⟩
        · conv => whnf
          refine ⟨by decide, fun c => absurd c (by decide), fun _ => ?_⟩
          conv => whnf
          refine ⟨by omega, ?_⟩
          exact absurd c1562 (lt_w rfl)
        · conv => whnf
          refine ⟨by decide, fun _ => ?_, fun c => absurd c (by decide)⟩
          conv => whnf
          refine T.fg [5, 6] ?_
          exact hk _ _ _ _ _ _ _ _ _ _ _ (by omega) (JB.mk hC hCr_1535 (fun a b g => hfr_1535 a b (fun c => by unfold PSc at c; omega)) (fun a b g => w2_ne (by omega)) (fun t ht => rfl))
        · conv => whnf
          refine ⟨by decide, fun c => absurd c (by decide), fun _ => ?_⟩
          conv => whnf
          refine ⟨by omega, ?_⟩
          exact absurd c1562 (gt_w rfl)
      · intro rch2a_1535 Ir_1535 hfr_1535 htr_1535 hCr_1535
        exfalso; omega
      · intro rch3a_1535 rch3b_1535 Ir_1535 hfr_1535 htr_1535 hCr_1535
        exfalso; omega
    · intro ch2a_1491
      have hM9 := hJ.2
      conv => whnf
      refine ⟨by exact ⟨by omega, by show _ < ((Ln : Nat) : Int); omega, by omega⟩, ?_⟩
      conv => whnf
      refine ⟨by exact ⟨by omega, by show _ < ((Ln : Nat) : Int); omega, by omega⟩, ?_⟩
      conv => whnf
      refine ⟨by exact ⟨by omega, by show _ < ((Ln : Nat) : Int); omega, by omega⟩, ?_⟩
      conv => whnf
      refine ⟨by exact ⟨by omega, by show _ < ((Ln : Nat) : Int); omega, by omega⟩, ?_⟩
      conv => whnf
      refine ⟨by exact ⟨by omega, by show _ < ((Ln : Nat) : Int); omega, by omega⟩, ?_⟩
      conv => whnf
      refine ⟨by exact zs_z _ _ _, fun c1527 => by exfalso; exact c1482 c1527, fun c1527 => ?_⟩
      conv => whnf
      rw [← hp9]
      rw [← hx9]
      rw [← hy9]
      rw [← ht9]
      refine zinv0 (s_X12_place T  (by first | exact hM9 | exact hA9 | assumption | decide | omega) (by first | exact hM9 | exact hA9 | assumption | decide | omega) (by first | exact hM9 | exact hA9 | assumption | decide | omega) (by first | exact hM9 | exact hA9 | assumption | decide | omega) (by first | exact hM9 | exact hA9 | assumption | decide | omega) (by first | exact hM9 | exact hA9 | assumption | decide | omega) (by first | exact hM9 | exact hA9 | assumption | decide | omega) ?_ ?_ ?_ ?_)
      · intro rcha_1535 rchb_1535 rchc_1535 Ir_1535 hfr_1535 htr_1535 hCr_1535
        exfalso; omega
      · intro rch4a_1535 rch4b_1535 rch4c_1535 Ir_1535 hfr_1535 htr_1535 hCr_1535
        exfalso; omega
      · intro rch2a_1535 Ir_1535 hfr_1535 htr_1535 hCr_1535
        conv => whnf
        refine zinv0 (s_X12_thrown T   ?_)
        conv => whnf
        refine ⟨by rw [htr_1535]; decide, fun c1546 => ?_, fun c1546 => by exfalso; exact c1546 htr_1535⟩
        conv => whnf
        refine ⟨by decide, fun _ => ?_, fun c => absurd c (by decide)⟩
        conv => whnf
        refine T.fg [5, 6] ?_
        exact hk _ _ _ _ _ _ _ _ _ _ _ (by omega) (JB.mk hC hCr_1535 (fun a b g => hfr_1535 a b (fun c => by unfold PSc at c; omega)) (fun a b g => rfl) (fun t ht => rfl))
      · intro rch3a_1535 rch3b_1535 Ir_1535 hfr_1535 htr_1535 hCr_1535
        exfalso; omega
    · intro ch3a_1491 ch3b_1491
      have hM9 := hJ.2
      conv => whnf
      refine ⟨by exact ⟨by omega, by show _ < ((Ln : Nat) : Int); omega, by omega⟩, ?_⟩
      conv => whnf
      refine ⟨by exact ⟨by omega, by show _ < ((Ln : Nat) : Int); omega, by omega⟩, ?_⟩
      conv => whnf
      refine ⟨by exact ⟨by omega, by show _ < ((Ln : Nat) : Int); omega, by omega⟩, ?_⟩
      conv => whnf
      refine ⟨by exact ⟨by omega, by show _ < ((Ln : Nat) : Int); omega, by omega⟩, ?_⟩
      conv => whnf
      refine ⟨by exact ⟨by omega, by show _ < ((Ln : Nat) : Int); omega, by omega⟩, ?_⟩
      conv => whnf
      refine ⟨by exact zs_z _ _ _, fun c1527 => by exfalso; exact c1482 c1527, fun c1527 => ?_⟩
      conv => whnf
      rw [← hp9]
      rw [← hx9]
      rw [← hy9]
      rw [← ht9]
      refine zinv0 (s_X12_place T  (by first | exact hM9 | exact hA9 | assumption | decide | omega) (by first | exact hM9 | exact hA9 | assumption | decide | omega) (by first | exact hM9 | exact hA9 | assumption | decide | omega) (by first | exact hM9 | exact hA9 | assumption | decide | omega) (by first | exact hM9 | exact hA9 | assumption | decide | omega) (by first | exact hM9 | exact hA9 | assumption | decide | omega) (by first | exact hM9 | exact hA9 | assumption | decide | omega) ?_ ?_ ?_ ?_)
      · intro rcha_1535 rchb_1535 rchc_1535 Ir_1535 hfr_1535 htr_1535 hCr_1535
        exfalso; omega
      · intro rch4a_1535 rch4b_1535 rch4c_1535 Ir_1535 hfr_1535 htr_1535 hCr_1535
        exfalso; omega
      · intro rch2a_1535 Ir_1535 hfr_1535 htr_1535 hCr_1535
        exfalso; omega
      · intro rch3a_1535 rch3b_1535 Ir_1535 hfr_1535 htr_1535 hCr_1535
        conv => whnf
        refine zinv0 (s_X12_thrown T   ?_)
        conv => whnf
        refine ⟨by rw [htr_1535]; decide, fun c1546 => ?_, fun c1546 => by exfalso; exact c1546 htr_1535⟩
        conv => whnf
        refine ⟨by decide, fun _ => ?_, fun c => absurd c (by decide)⟩
        conv => whnf
        refine T.fg [5, 6] ?_
        exact hk _ _ _ _ _ _ _ _ _ _ _ (by omega) (JB.mk hC hCr_1535 (fun a b g => hfr_1535 a b (fun c => by unfold PSc at c; omega)) (fun a b g => rfl) (fun t ht => rfl))
theorem l_op_takeOff (T : ZTh (XX Ln xs) CZ RZ) {d b : Nat} {Q : ZQ} {W H n bl : Nat} {M : Mo} {P SL : Nat → Mo} {u : Nat → Int} {i : Int} {I : ZI} {L : ZL} (hJ : JB I L W H M P n SL bl u) (hi : 0 ≤ i ∧ i + 6 ≤ (Ln : Int) ∧ Ln ≤ 3072) (hb3 : 3 ≤ b) (hk : ∀ (I' : ZI) (L' : ZL) (W' H' : Nat) (M' : Mo) (P' : Nat → Mo) (n' : Nat) (SL' : Nat → Mo) (bl' : Nat) (u' : Nat → Int) (b' : Nat), b ≤ b' + 3 → JB I' L' W' H' M' P' n' SL' bl' u' → RZ (d + 33) k_L_law Q 2061 [.inr (.ref 10100, 80000), .inr (.ref 0, 12), .inr (.ref 603, 13), .inr (.ref 643, 40001), .inl i, zj, zj, zj, zj] [] b' I' L') : RZ (d + 33) k_L_law Q 1571 [.inr (.ref 10100, 80000), .inr (.ref 0, 12), .inr (.ref 603, 13), .inr (.ref 643, 40001), .inl i, zj, zj, zj, zj] [] b I L := by
  have hC := hJ.1
  have hA9 := hJ.1.wfa
  obtain ⟨p, hp9⟩ : ∃ z : Int, z = zs (XX Ln xs) 10100 (i + 1) := ⟨_, rfl⟩
  have zp9 : zR p := by rw [hp9]; exact zs_z _ _ _
  refine T.go [2061] 200 ?_
  conv => whnf
  refine ⟨by exact ⟨by omega, by show _ < ((Ln : Nat) : Int); omega, by omega⟩, ?_⟩
  conv => whnf
  rw [← hp9]
  refine ⟨1, by omega, s_L_takeOff T  (by first | assumption | omega | rfl | decide) (by first | exact hJ.1 | assumption | decide | omega) (by first | exact hJ.1 | assumption | decide | omega) ?_ ?_⟩
  · intro cha_1579 I_1579 L_1579 hf_1579 hg_1579 hC_1579
    have hM9 := hJ.2.near hA9 (fun a b g => hf_1579 a b (fun c => by unfold PCh at c; omega))
    conv => whnf
    refine ⟨by exact ⟨by omega, by show _ < ((Ln : Nat) : Int); omega, by omega⟩, ?_⟩
    conv => whnf
    rw [← hp9]
    refine zinv0 (s_X12_takeOff T  (by first | exact hM9 | exact hA9 | assumption | decide | omega) (by first | exact hM9 | exact hA9 | assumption | decide | omega) (by first | exact hM9 | exact hA9 | assumption | decide | omega) ?_ ?_)
    · intro rcha_1591 Ir_1591 hfr_1591 htr_1591 hCr_1591
      have hzr : zR ((if mF M p = -1 then 0 else 1)) := by
        split <;> decide
      conv => whnf
      refine zinv0 (s_X12_thrown T   ?_)
      conv => whnf
      refine ⟨by rw [htr_1591]; decide, fun c1602 => ?_, fun c1602 => by exfalso; exact c1602 htr_1591⟩
      conv => whnf
      refine ⟨by decide, fun c => absurd c (by decide), fun _ => ?_⟩
      conv => whnf
      refine ⟨by omega, ?_⟩
      conv => whnf
      refine ⟨by first | exact hzr | decide | omega, fun c1617 => ?_, fun c1617 => ?_⟩
      · conv => whnf
        refine ⟨fun c1625 => ?_, fun c1625 => ?_, fun c1625 => ?_⟩
        · conv => whnf
          refine ⟨by decide, fun c => absurd c (by decide), fun _ => ?_⟩
          conv => whnf
          refine ⟨by omega, ?_⟩
          refine absurd c1625 (lt_w ?_)
          show l6 ((if mF M p = -1 then 0 else 1)) = l6 0
          rw [show (((if mF M p = -1 then 0 else 1)) : Int) = 0 from by
            revert c1617
            split <;> intro c <;> first | rfl | exact absurd rfl c | (exact absurd c (by decide))]
        · conv => whnf
          refine ⟨by decide, fun _ => ?_, fun c => absurd c (by decide)⟩
          conv => whnf
          refine T.fg [5, 6] ?_
          exact hk _ _ _ _ _ _ _ _ _ _ _ (by omega) (JB.mk hC_1579 hCr_1591 (fun a b g => hfr_1591 a b (fun c => by unfold PMd at c; omega)) (fun a b g => w2_ne (by omega)) (fun t ht => hf_1579 _ _ (fun c => by unfold PCh at c; omega)))
        · conv => whnf
          refine ⟨by decide, fun c => absurd c (by decide), fun _ => ?_⟩
          conv => whnf
          refine ⟨by omega, ?_⟩
          refine absurd c1625 (gt_w ?_)
          show l6 ((if mF M p = -1 then 0 else 1)) = l6 0
          rw [show (((if mF M p = -1 then 0 else 1)) : Int) = 0 from by
            revert c1617
            split <;> intro c <;> first | rfl | exact absurd rfl c | (exact absurd c (by decide))]
      · conv => whnf
        refine ⟨fun c1625 => ?_, fun c1625 => ?_, fun c1625 => ?_⟩
        · conv => whnf
          refine ⟨by decide, fun c => absurd c (by decide), fun _ => ?_⟩
          conv => whnf
          refine ⟨by omega, ?_⟩
          refine absurd c1625 (lt_w ?_)
          show l6 ((if mF M p = -1 then 0 else 1)) = l6 1
          rw [show (((if mF M p = -1 then 0 else 1)) : Int) = 1 from by
            revert c1617
            split <;> intro c <;> first | rfl | exact absurd rfl c | (exact absurd c (by decide))]
        · conv => whnf
          refine ⟨by decide, fun _ => ?_, fun c => absurd c (by decide)⟩
          conv => whnf
          refine T.fg [5, 6] ?_
          exact hk _ _ _ _ _ _ _ _ _ _ _ (by omega) (JB.mk hC_1579 hCr_1591 (fun a b g => hfr_1591 a b (fun c => by unfold PMd at c; omega)) (fun a b g => w2_ne (by omega)) (fun t ht => hf_1579 _ _ (fun c => by unfold PCh at c; omega)))
        · conv => whnf
          refine ⟨by decide, fun c => absurd c (by decide), fun _ => ?_⟩
          conv => whnf
          refine ⟨by omega, ?_⟩
          refine absurd c1625 (gt_w ?_)
          show l6 ((if mF M p = -1 then 0 else 1)) = l6 1
          rw [show (((if mF M p = -1 then 0 else 1)) : Int) = 1 from by
            revert c1617
            split <;> intro c <;> first | rfl | exact absurd rfl c | (exact absurd c (by decide))]
    · intro rch2a_1591 Ir_1591 hfr_1591 htr_1591 hCr_1591
      exfalso; omega
  · intro ch2a_1579
    have hM9 := hJ.2
    conv => whnf
    refine ⟨by exact ⟨by omega, by show _ < ((Ln : Nat) : Int); omega, by omega⟩, ?_⟩
    conv => whnf
    rw [← hp9]
    refine zinv0 (s_X12_takeOff T  (by first | exact hM9 | exact hA9 | assumption | decide | omega) (by first | exact hM9 | exact hA9 | assumption | decide | omega) (by first | exact hM9 | exact hA9 | assumption | decide | omega) ?_ ?_)
    · intro rcha_1591 Ir_1591 hfr_1591 htr_1591 hCr_1591
      exfalso; omega
    · intro rch2a_1591 Ir_1591 hfr_1591 htr_1591 hCr_1591
      conv => whnf
      refine zinv0 (s_X12_thrown T   ?_)
      conv => whnf
      refine ⟨by rw [htr_1591]; decide, fun c1602 => ?_, fun c1602 => by exfalso; exact c1602 htr_1591⟩
      conv => whnf
      refine ⟨by decide, fun _ => ?_, fun c => absurd c (by decide)⟩
      conv => whnf
      refine T.fg [5, 6] ?_
      exact hk _ _ _ _ _ _ _ _ _ _ _ (by omega) (JB.mk hC hCr_1591 (fun a b g => hfr_1591 a b (fun c => by unfold PSc at c; omega)) (fun a b g => rfl) (fun t ht => rfl))
theorem l_op_turn (T : ZTh (XX Ln xs) CZ RZ) {d b : Nat} {Q : ZQ} {W H n bl : Nat} {M : Mo} {P SL : Nat → Mo} {u : Nat → Int} {i : Int} {I : ZI} {L : ZL} (hJ : JB I L W H M P n SL bl u) (hi : 0 ≤ i ∧ i + 6 ≤ (Ln : Int) ∧ Ln ≤ 3072) (hb3 : 3 ≤ b) (hk : ∀ (I' : ZI) (L' : ZL) (W' H' : Nat) (M' : Mo) (P' : Nat → Mo) (n' : Nat) (SL' : Nat → Mo) (bl' : Nat) (u' : Nat → Int) (b' : Nat), b ≤ b' + 3 → JB I' L' W' H' M' P' n' SL' bl' u' → RZ (d + 33) k_L_law Q 2061 [.inr (.ref 10100, 80000), .inr (.ref 0, 12), .inr (.ref 603, 13), .inr (.ref 643, 40001), .inl i, zj, zj, zj, zj] [] b' I' L') : RZ (d + 33) k_L_law Q 1634 [.inr (.ref 10100, 80000), .inr (.ref 0, 12), .inr (.ref 603, 13), .inr (.ref 643, 40001), .inl i, zj, zj, zj, zj] [] b I L := by
  have hC := hJ.1
  have hA9 := hJ.1.wfa
  obtain ⟨p, hp9⟩ : ∃ z : Int, z = zs (XX Ln xs) 10100 (i + 1) := ⟨_, rfl⟩
  have zp9 : zR p := by rw [hp9]; exact zs_z _ _ _
  refine T.go [2061] 200 ?_
  conv => whnf
  refine ⟨by exact ⟨by omega, by show _ < ((Ln : Nat) : Int); omega, by omega⟩, ?_⟩
  conv => whnf
  rw [← hp9]
  refine ⟨1, by omega, s_L_turn T  (by first | assumption | omega | rfl | decide) (by first | exact hJ.1 | assumption | decide | omega) (by first | exact hJ.1 | assumption | decide | omega) ?_ ?_ ?_ ?_⟩
  · intro cha_1642 chb_1642 chc_1642 I_1642 L_1642 hf_1642 hg_1642 hC_1642
    have hM9 := hJ.2.near hA9 (fun a b g => hf_1642 a b (fun c => by unfold PCh at c; omega))
    conv => whnf
    refine ⟨by exact ⟨by omega, by show _ < ((Ln : Nat) : Int); omega, by omega⟩, ?_⟩
    conv => whnf
    rw [← hp9]
    refine zinv0 (s_X12_turn T  (by first | exact hM9 | exact hA9 | assumption | decide | omega) (by first | exact hM9 | exact hA9 | assumption | decide | omega) (by first | exact hM9 | exact hA9 | assumption | decide | omega) ?_ ?_ ?_ ?_)
    · intro rcha_1654 rchb_1654 rchc_1654 Ir_1654 hfr_1654 htr_1654 hCr_1654
      have hzr : zR ((mF M p + 2) % 8 / 2) := by
        exact ⟨by omega, by omega⟩
      conv => whnf
      refine zinv0 (s_X12_thrown T   ?_)
      conv => whnf
      refine ⟨by rw [htr_1654]; decide, fun c1665 => ?_, fun c1665 => by exfalso; exact c1665 htr_1654⟩
      conv => whnf
      refine ⟨by decide, fun c => absurd c (by decide), fun _ => ?_⟩
      conv => whnf
      refine ⟨by omega, ?_⟩
      conv => whnf
      refine ⟨by first | exact hzr | decide | omega, ?_⟩
      conv => whnf
      refine ⟨fun c1681 => ?_, fun c1681 => ?_, fun c1681 => ?_⟩
      · conv => whnf
        refine ⟨by decide, fun c => absurd c (by decide), fun _ => ?_⟩
        conv => whnf
        refine ⟨by omega, ?_⟩
        exact absurd c1681 (lt_w rfl)
      · conv => whnf
        refine ⟨by decide, fun _ => ?_, fun c => absurd c (by decide)⟩
        conv => whnf
        refine T.fg [5, 6] ?_
        exact hk _ _ _ _ _ _ _ _ _ _ _ (by omega) (JB.mk hC_1642 hCr_1654 (fun a b g => hfr_1654 a b (fun c => by unfold PMd at c; omega)) (fun a b g => w2_ne (by omega)) (fun t ht => hf_1642 _ _ (fun c => by unfold PCh at c; omega)))
      · conv => whnf
        refine ⟨by decide, fun c => absurd c (by decide), fun _ => ?_⟩
        conv => whnf
        refine ⟨by omega, ?_⟩
        exact absurd c1681 (gt_w rfl)
    · intro rch1a_1654 rch1b_1654 Ir_1654 hfr_1654 htr_1654 hCr_1654
      exfalso; omega
    · intro rch4a_1654 rch4b_1654 rch4c_1654 Ir_1654 hfr_1654 htr_1654 hCr_1654
      exfalso; omega
    · intro rch2a_1654 Ir_1654 hfr_1654 htr_1654 hCr_1654
      exfalso; omega
  · intro ch1a_1642 ch1b_1642
    have hM9 := hJ.2
    conv => whnf
    refine ⟨by exact ⟨by omega, by show _ < ((Ln : Nat) : Int); omega, by omega⟩, ?_⟩
    conv => whnf
    rw [← hp9]
    refine zinv0 (s_X12_turn T  (by first | exact hM9 | exact hA9 | assumption | decide | omega) (by first | exact hM9 | exact hA9 | assumption | decide | omega) (by first | exact hM9 | exact hA9 | assumption | decide | omega) ?_ ?_ ?_ ?_)
    · intro rcha_1654 rchb_1654 rchc_1654 Ir_1654 hfr_1654 htr_1654 hCr_1654
      exfalso; omega
    · intro rch1a_1654 rch1b_1654 Ir_1654 hfr_1654 htr_1654 hCr_1654
      conv => whnf
      refine zinv0 (s_X12_thrown T   ?_)
      conv => whnf
      refine ⟨by rw [htr_1654]; decide, fun c1665 => ?_, fun c1665 => by exfalso; exact c1665 htr_1654⟩
      conv => whnf
      refine ⟨by decide, fun c => absurd c (by decide), fun _ => ?_⟩
      conv => whnf
      refine ⟨by omega, ?_⟩
      conv => whnf
      refine ⟨by first | exact hzr | decide | omega, ?_⟩
      conv => whnf
      refine ⟨fun c1681 => ?_, fun c1681 => ?_, fun c1681 => ?_⟩
      · conv => whnf
        refine ⟨by decide, fun c => absurd c (by decide), fun _ => ?_⟩
        conv => whnf
        refine ⟨by omega, ?_⟩
        exact absurd c1681 (lt_w rfl)
      · conv => whnf
        refine ⟨by decide, fun _ => ?_, fun c => absurd c (by decide)⟩
        conv => whnf
        refine T.fg [5, 6] ?_
        exact hk _ _ _ _ _ _ _ _ _ _ _ (by omega) (JB.mk hC hCr_1654 (fun a b g => hfr_1654 a b (fun c => by unfold PSc at c; omega)) (fun a b g => w2_ne (by omega)) (fun t ht => rfl))
      · conv => whnf
        refine ⟨by decide, fun c => absurd c (by decide), fun _ => ?_⟩
        conv => whnf
        refine ⟨by omega, ?_⟩
        exact absurd c1681 (gt_w rfl)
    · intro rch4a_1654 rch4b_1654 rch4c_1654 Ir_1654 hfr_1654 htr_1654 hCr_1654
      exfalso; omega
    · intro rch2a_1654 Ir_1654 hfr_1654 htr_1654 hCr_1654
      exfalso; omega
  · intro ch4a_1642 ch4b_1642 ch4c_1642
    have hM9 := hJ.2
    conv => whnf
    refine ⟨by exact ⟨by omega, by show _ < ((Ln : Nat) : Int); omega, by omega⟩, ?_⟩
    conv => whnf
    rw [← hp9]
    refine zinv0 (s_X12_turn T  (by first | exact hM9 | exact hA9 | assumption | decide | omega) (by first | exact hM9 | exact hA9 | assumption | decide | omega) (by first | exact hM9 | exact hA9 | assumption | decide | omega) ?_ ?_ ?_ ?_)
    · intro rcha_1654 rchb_1654 rchc_1654 Ir_1654 hfr_1654 htr_1654 hCr_1654
      exfalso; omega
    · intro rch1a_1654 rch1b_1654 Ir_1654 hfr_1654 htr_1654 hCr_1654
      exfalso; omega
    · intro rch4a_1654 rch4b_1654 rch4c_1654 Ir_1654 hfr_1654 htr_1654 hCr_1654
      conv => whnf
      refine zinv0 (s_X12_thrown T   ?_)
      conv => whnf
      refine ⟨by rw [htr_1654]; decide, fun c1665 => ?_, fun c1665 => by exfalso; exact c1665 htr_1654⟩
      conv => whnf
      refine ⟨by decide, fun c => absurd c (by decide), fun _ => ?_⟩
      conv => whnf
      refine ⟨by omega, ?_⟩
      conv => whnf
      refine ⟨by first | exact hzr | decide | omega, ?_⟩
      conv => whnf
      refine ⟨fun c1681 => ?_, fun c1681 => ?_, fun c1681 => ?_⟩
      · conv => whnf
        refine ⟨by decide, fun c => absurd c (by decide), fun _ => ?_⟩
        conv => whnf
        refine ⟨by omega, ?_⟩
        exact absurd c1681 (lt_w rfl)
      · conv => whnf
        refine ⟨by decide, fun _ => ?_, fun c => absurd c (by decide)⟩
        conv => whnf
        refine T.fg [5, 6] ?_
        exact hk _ _ _ _ _ _ _ _ _ _ _ (by omega) (JB.mk hC hCr_1654 (fun a b g => hfr_1654 a b (fun c => by unfold PSc at c; omega)) (fun a b g => w2_ne (by omega)) (fun t ht => rfl))
      · conv => whnf
        refine ⟨by decide, fun c => absurd c (by decide), fun _ => ?_⟩
        conv => whnf
        refine ⟨by omega, ?_⟩
        exact absurd c1681 (gt_w rfl)
    · intro rch2a_1654 Ir_1654 hfr_1654 htr_1654 hCr_1654
      exfalso; omega
  · intro ch2a_1642
    have hM9 := hJ.2
    conv => whnf
    refine ⟨by exact ⟨by omega, by show _ < ((Ln : Nat) : Int); omega, by omega⟩, ?_⟩
    conv => whnf
    rw [← hp9]
    refine zinv0 (s_X12_turn T  (by first | exact hM9 | exact hA9 | assumption | decide | omega) (by first | exact hM9 | exact hA9 | assumption | decide | omega) (by first | exact hM9 | exact hA9 | assumption | decide | omega) ?_ ?_ ?_ ?_)
    · intro rcha_1654 rchb_1654 rchc_1654 Ir_1654 hfr_1654 htr_1654 hCr_1654
      exfalso; omega
    · intro rch1a_1654 rch1b_1654 Ir_1654 hfr_1654 htr_1654 hCr_1654
      exfalso; omega
    · intro rch4a_1654 rch4b_1654 rch4c_1654 Ir_1654 hfr_1654 htr_1654 hCr_1654
      exfalso; omega
    · intro rch2a_1654 Ir_1654 hfr_1654 htr_1654 hCr_1654
      conv => whnf
      refine zinv0 (s_X12_thrown T   ?_)
      conv => whnf
      refine ⟨by rw [htr_1654]; decide, fun c1665 => ?_, fun c1665 => by exfalso; exact c1665 htr_1654⟩
      conv => whnf
      refine ⟨by decide, fun _ => ?_, fun c => absurd c (by decide)⟩
      conv => whnf
      refine T.fg [5, 6] ?_
      exact hk _ _ _ _ _ _ _ _ _ _ _ (by omega) (JB.mk hC hCr_1654 (fun a b g => hfr_1654 a b (fun c => by unfold PSc at c; omega)) (fun a b g => rfl) (fun t ht => rfl))
theorem l_op_flip (T : ZTh (XX Ln xs) CZ RZ) {d b : Nat} {Q : ZQ} {W H n bl : Nat} {M : Mo} {P SL : Nat → Mo} {u : Nat → Int} {i : Int} {I : ZI} {L : ZL} (hJ : JB I L W H M P n SL bl u) (hi : 0 ≤ i ∧ i + 6 ≤ (Ln : Int) ∧ Ln ≤ 3072) (hb3 : 3 ≤ b) (hk : ∀ (I' : ZI) (L' : ZL) (W' H' : Nat) (M' : Mo) (P' : Nat → Mo) (n' : Nat) (SL' : Nat → Mo) (bl' : Nat) (u' : Nat → Int) (b' : Nat), b ≤ b' + 3 → JB I' L' W' H' M' P' n' SL' bl' u' → RZ (d + 33) k_L_law Q 2061 [.inr (.ref 10100, 80000), .inr (.ref 0, 12), .inr (.ref 603, 13), .inr (.ref 643, 40001), .inl i, zj, zj, zj, zj] [] b' I' L') : RZ (d + 33) k_L_law Q 1690 [.inr (.ref 10100, 80000), .inr (.ref 0, 12), .inr (.ref 603, 13), .inr (.ref 643, 40001), .inl i, zj, zj, zj, zj] [] b I L := by
  have hC := hJ.1
  have hA9 := hJ.1.wfa
  obtain ⟨p, hp9⟩ : ∃ z : Int, z = zs (XX Ln xs) 10100 (i + 1) := ⟨_, rfl⟩
  have zp9 : zR p := by rw [hp9]; exact zs_z _ _ _
  refine T.go [2061] 200 ?_
  conv => whnf
  refine ⟨by exact ⟨by omega, by show _ < ((Ln : Nat) : Int); omega, by omega⟩, ?_⟩
  conv => whnf
  rw [← hp9]
  refine ⟨1, by omega, s_L_flip T  (by first | assumption | omega | rfl | decide) (by first | exact hJ.1 | assumption | decide | omega) (by first | exact hJ.1 | assumption | decide | omega) ?_ ?_ ?_ ?_⟩
  · intro cha_1698 chb_1698 chc_1698 I_1698 L_1698 hf_1698 hg_1698 hC_1698
    have hM9 := hJ.2.near hA9 (fun a b g => hf_1698 a b (fun c => by unfold PCh at c; omega))
    conv => whnf
    refine ⟨by exact ⟨by omega, by show _ < ((Ln : Nat) : Int); omega, by omega⟩, ?_⟩
    conv => whnf
    rw [← hp9]
    refine zinv0 (s_X12_flip T  (by first | exact hM9 | exact hA9 | assumption | decide | omega) (by first | exact hM9 | exact hA9 | assumption | decide | omega) (by first | exact hM9 | exact hA9 | assumption | decide | omega) ?_ ?_ ?_ ?_)
    · intro rcha_1710 rchb_1710 rchc_1710 Ir_1710 hfr_1710 htr_1710 hCr_1710
      have hzr : zR ((mF M p + 1 - 2 * (mF M p % 2)) % 2) := by
        exact ⟨by omega, by omega⟩
      conv => whnf
      refine zinv0 (s_X12_thrown T   ?_)
      conv => whnf
      refine ⟨by rw [htr_1710]; decide, fun c1721 => ?_, fun c1721 => by exfalso; exact c1721 htr_1710⟩
      conv => whnf
      refine ⟨by decide, fun c => absurd c (by decide), fun _ => ?_⟩
      conv => whnf
      refine ⟨by omega, ?_⟩
      conv => whnf
      refine ⟨by first | exact hzr | decide | omega, ?_⟩
      conv => whnf
      refine ⟨fun c1737 => ?_, fun c1737 => ?_, fun c1737 => ?_⟩
      · conv => whnf
        refine ⟨by decide, fun c => absurd c (by decide), fun _ => ?_⟩
        conv => whnf
        refine ⟨by omega, ?_⟩
        exact absurd c1737 (lt_w rfl)
      · conv => whnf
        refine ⟨by decide, fun _ => ?_, fun c => absurd c (by decide)⟩
        conv => whnf
        refine T.fg [5, 6] ?_
        exact hk _ _ _ _ _ _ _ _ _ _ _ (by omega) (JB.mk hC_1698 hCr_1710 (fun a b g => hfr_1710 a b (fun c => by unfold PMd at c; omega)) (fun a b g => w2_ne (by omega)) (fun t ht => hf_1698 _ _ (fun c => by unfold PCh at c; omega)))
      · conv => whnf
        refine ⟨by decide, fun c => absurd c (by decide), fun _ => ?_⟩
        conv => whnf
        refine ⟨by omega, ?_⟩
        exact absurd c1737 (gt_w rfl)
    · intro rch1a_1710 rch1b_1710 Ir_1710 hfr_1710 htr_1710 hCr_1710
      exfalso; omega
    · intro rch4a_1710 rch4b_1710 rch4c_1710 Ir_1710 hfr_1710 htr_1710 hCr_1710
      exfalso; omega
    · intro rch2a_1710 Ir_1710 hfr_1710 htr_1710 hCr_1710
      exfalso; omega
  · intro ch1a_1698 ch1b_1698
    have hM9 := hJ.2
    conv => whnf
    refine ⟨by exact ⟨by omega, by show _ < ((Ln : Nat) : Int); omega, by omega⟩, ?_⟩
    conv => whnf
    rw [← hp9]
    refine zinv0 (s_X12_flip T  (by first | exact hM9 | exact hA9 | assumption | decide | omega) (by first | exact hM9 | exact hA9 | assumption | decide | omega) (by first | exact hM9 | exact hA9 | assumption | decide | omega) ?_ ?_ ?_ ?_)
    · intro rcha_1710 rchb_1710 rchc_1710 Ir_1710 hfr_1710 htr_1710 hCr_1710
      exfalso; omega
    · intro rch1a_1710 rch1b_1710 Ir_1710 hfr_1710 htr_1710 hCr_1710
      conv => whnf
      refine zinv0 (s_X12_thrown T   ?_)
      conv => whnf
      refine ⟨by rw [htr_1710]; decide, fun c1721 => ?_, fun c1721 => by exfalso; exact c1721 htr_1710⟩
      conv => whnf
      refine ⟨by decide, fun c => absurd c (by decide), fun _ => ?_⟩
      conv => whnf
      refine ⟨by omega, ?_⟩
      conv => whnf
      refine ⟨by first | exact hzr | decide | omega, ?_⟩
      conv => whnf
      refine ⟨fun c1737 => ?_, fun c1737 => ?_, fun c1737 => ?_⟩
      · conv => whnf
        refine ⟨by decide, fun c => absurd c (by decide), fun _ => ?_⟩
        conv => whnf
        refine ⟨by omega, ?_⟩
        exact absurd c1737 (lt_w rfl)
      · conv => whnf
        refine ⟨by decide, fun _ => ?_, fun c => absurd c (by decide)⟩
        conv => whnf
        refine T.fg [5, 6] ?_
        exact hk _ _ _ _ _ _ _ _ _ _ _ (by omega) (JB.mk hC hCr_1710 (fun a b g => hfr_1710 a b (fun c => by unfold PSc at c; omega)) (fun a b g => w2_ne (by omega)) (fun t ht => rfl))
      · conv => whnf
        refine ⟨by decide, fun c => absurd c (by decide), fun _ => ?_⟩
        conv => whnf
        refine ⟨by omega, ?_⟩
        exact absurd c1737 (gt_w rfl)
    · intro rch4a_1710 rch4b_1710 rch4c_1710 Ir_1710 hfr_1710 htr_1710 hCr_1710
      exfalso; omega
    · intro rch2a_1710 Ir_1710 hfr_1710 htr_1710 hCr_1710
      exfalso; omega
  · intro ch4a_1698 ch4b_1698 ch4c_1698
    have hM9 := hJ.2
    conv => whnf
    refine ⟨by exact ⟨by omega, by show _ < ((Ln : Nat) : Int); omega, by omega⟩, ?_⟩
    conv => whnf
    rw [← hp9]
    refine zinv0 (s_X12_flip T  (by first | exact hM9 | exact hA9 | assumption | decide | omega) (by first | exact hM9 | exact hA9 | assumption | decide | omega) (by first | exact hM9 | exact hA9 | assumption | decide | omega) ?_ ?_ ?_ ?_)
    · intro rcha_1710 rchb_1710 rchc_1710 Ir_1710 hfr_1710 htr_1710 hCr_1710
      exfalso; omega
    · intro rch1a_1710 rch1b_1710 Ir_1710 hfr_1710 htr_1710 hCr_1710
      exfalso; omega
    · intro rch4a_1710 rch4b_1710 rch4c_1710 Ir_1710 hfr_1710 htr_1710 hCr_1710
      conv => whnf
      refine zinv0 (s_X12_thrown T   ?_)
      conv => whnf
      refine ⟨by rw [htr_1710]; decide, fun c1721 => ?_, fun c1721 => by exfalso; exact c1721 htr_1710⟩
      conv => whnf
      refine ⟨by decide, fun c => absurd c (by decide), fun _ => ?_⟩
      conv => whnf
      refine ⟨by omega, ?_⟩
      conv => whnf
      refine ⟨by first | exact hzr | decide | omega, ?_⟩
      conv => whnf
      refine ⟨fun c1737 => ?_, fun c1737 => ?_, fun c1737 => ?_⟩
      · conv => whnf
        refine ⟨by decide, fun c => absurd c (by decide), fun _ => ?_⟩
        conv => whnf
        refine ⟨by omega, ?_⟩
        exact absurd c1737 (lt_w rfl)
      · conv => whnf
        refine ⟨by decide, fun _ => ?_, fun c => absurd c (by decide)⟩
        conv => whnf
        refine T.fg [5, 6] ?_
        exact hk _ _ _ _ _ _ _ _ _ _ _ (by omega) (JB.mk hC hCr_1710 (fun a b g => hfr_1710 a b (fun c => by unfold PSc at c; omega)) (fun a b g => w2_ne (by omega)) (fun t ht => rfl))
      · conv => whnf
        refine ⟨by decide, fun c => absurd c (by decide), fun _ => ?_⟩
        conv => whnf
        refine ⟨by omega, ?_⟩
        exact absurd c1737 (gt_w rfl)
    · intro rch2a_1710 Ir_1710 hfr_1710 htr_1710 hCr_1710
      exfalso; omega
  · intro ch2a_1698
    have hM9 := hJ.2
    conv => whnf
    refine ⟨by exact ⟨by omega, by show _ < ((Ln : Nat) : Int); omega, by omega⟩, ?_⟩
    conv => whnf
    rw [← hp9]
    refine zinv0 (s_X12_flip T  (by first | exact hM9 | exact hA9 | assumption | decide | omega) (by first | exact hM9 | exact hA9 | assumption | decide | omega) (by first | exact hM9 | exact hA9 | assumption | decide | omega) ?_ ?_ ?_ ?_)
    · intro rcha_1710 rchb_1710 rchc_1710 Ir_1710 hfr_1710 htr_1710 hCr_1710
      exfalso; omega
    · intro rch1a_1710 rch1b_1710 Ir_1710 hfr_1710 htr_1710 hCr_1710
      exfalso; omega
    · intro rch4a_1710 rch4b_1710 rch4c_1710 Ir_1710 hfr_1710 htr_1710 hCr_1710
      exfalso; omega
    · intro rch2a_1710 Ir_1710 hfr_1710 htr_1710 hCr_1710
      conv => whnf
      refine zinv0 (s_X12_thrown T   ?_)
      conv => whnf
      refine ⟨by rw [htr_1710]; decide, fun c1721 => ?_, fun c1721 => by exfalso; exact c1721 htr_1710⟩
      conv => whnf
      refine ⟨by decide, fun _ => ?_, fun c => absurd c (by decide)⟩
      conv => whnf
      refine T.fg [5, 6] ?_
      exact hk _ _ _ _ _ _ _ _ _ _ _ (by omega) (JB.mk hC hCr_1710 (fun a b g => hfr_1710 a b (fun c => by unfold PSc at c; omega)) (fun a b g => rfl) (fun t ht => rfl))
theorem l_op_shift (T : ZTh (XX Ln xs) CZ RZ) {d b : Nat} {Q : ZQ} {W H n bl : Nat} {M : Mo} {P SL : Nat → Mo} {u : Nat → Int} {i : Int} {I : ZI} {L : ZL} (hJ : JB I L W H M P n SL bl u) (hi : 0 ≤ i ∧ i + 6 ≤ (Ln : Int) ∧ Ln ≤ 3072) (hb3 : 3 ≤ b) (hk : ∀ (I' : ZI) (L' : ZL) (W' H' : Nat) (M' : Mo) (P' : Nat → Mo) (n' : Nat) (SL' : Nat → Mo) (bl' : Nat) (u' : Nat → Int) (b' : Nat), b ≤ b' + 3 → JB I' L' W' H' M' P' n' SL' bl' u' → RZ (d + 33) k_L_law Q 2061 [.inr (.ref 10100, 80000), .inr (.ref 0, 12), .inr (.ref 603, 13), .inr (.ref 643, 40001), .inl i, zj, zj, zj, zj] [] b' I' L') : RZ (d + 33) k_L_law Q 1746 [.inr (.ref 10100, 80000), .inr (.ref 0, 12), .inr (.ref 603, 13), .inr (.ref 643, 40001), .inl i, zj, zj, zj, zj] [] b I L := by
  have hC := hJ.1
  have hA9 := hJ.1.wfa
  obtain ⟨dx, hdx9⟩ : ∃ z : Int, z = zs (XX Ln xs) 10100 (i + 1) := ⟨_, rfl⟩
  have zdx9 : zR dx := by rw [hdx9]; exact zs_z _ _ _
  obtain ⟨dy, hdy9⟩ : ∃ z : Int, z = zs (XX Ln xs) 10100 (i + 2) := ⟨_, rfl⟩
  have zdy9 : zR dy := by rw [hdy9]; exact zs_z _ _ _
  refine T.go [2061] 200 ?_
  conv => whnf
  refine ⟨by exact ⟨by omega, by show _ < ((Ln : Nat) : Int); omega, by omega⟩, ?_⟩
  conv => whnf
  refine ⟨by exact ⟨by omega, by show _ < ((Ln : Nat) : Int); omega, by omega⟩, ?_⟩
  conv => whnf
  rw [← hdx9]
  rw [← hdy9]
  refine zinv0 (s_X11_shift T  (by first | exact hJ.1 | assumption | decide | omega) (by first | exact hJ.1 | assumption | decide | omega) (by first | exact hJ.1 | assumption | decide | omega) ?_ ?_)
  · intro cha_1759 I_1759 L_1759 hf_1759 hg_1759 hC_1759
    have hM9 := hJ.2.near hA9 (fun a b g => hf_1759 a b (fun c => by unfold PCh at c; omega))
    conv => whnf
    refine ⟨by exact ⟨by omega, by show _ < ((Ln : Nat) : Int); omega, by omega⟩, ?_⟩
    conv => whnf
    refine ⟨by exact ⟨by omega, by show _ < ((Ln : Nat) : Int); omega, by omega⟩, ?_⟩
    conv => whnf
    rw [← hdx9]
    rw [← hdy9]
    refine zinv0 (s_X12_shift T  (by first | exact hM9 | exact hA9 | assumption | decide | omega) (by first | exact hM9 | exact hA9 | assumption | decide | omega) (by first | exact hM9 | exact hA9 | assumption | decide | omega) (by first | exact hM9 | exact hA9 | assumption | decide | omega) ?_ ?_)
    · intro rcha_1775 Ir_1775 hfr_1775 htr_1775 hCr_1775
      conv => whnf
      refine ⟨by decide, fun _ => ?_, fun c => absurd c (by decide)⟩
      conv => whnf
      exact hk _ _ _ _ _ _ _ _ _ _ _ (by omega) (JB.mk hC_1759 hCr_1775 (fun a b g => hfr_1775 a b (fun c => by unfold PMd at c; omega)) (fun a b g => rfl) (fun t ht => hf_1759 _ _ (fun c => by unfold PCh at c; omega)))
    · intro rch2a_1775 Ir_1775 hfr_1775 htr_1775 hCr_1775
      exact absurd cha_1759 rch2a_1775
  · intro ch2a_1759
    have hM9 := hJ.2
    conv => whnf
    refine ⟨by exact ⟨by omega, by show _ < ((Ln : Nat) : Int); omega, by omega⟩, ?_⟩
    conv => whnf
    refine ⟨by exact ⟨by omega, by show _ < ((Ln : Nat) : Int); omega, by omega⟩, ?_⟩
    conv => whnf
    rw [← hdx9]
    rw [← hdy9]
    refine zinv0 (s_X12_shift T  (by first | exact hM9 | exact hA9 | assumption | decide | omega) (by first | exact hM9 | exact hA9 | assumption | decide | omega) (by first | exact hM9 | exact hA9 | assumption | decide | omega) (by first | exact hM9 | exact hA9 | assumption | decide | omega) ?_ ?_)
    · intro rcha_1775 Ir_1775 hfr_1775 htr_1775 hCr_1775
      exact absurd rcha_1775 ch2a_1759
    · intro rch2a_1775 Ir_1775 hfr_1775 htr_1775 hCr_1775
      conv => whnf
      refine ⟨by decide, fun _ => ?_, fun c => absurd c (by decide)⟩
      conv => whnf
      exact hk _ _ _ _ _ _ _ _ _ _ _ (by omega) (JB.mk hC hCr_1775 (fun a b g => hfr_1775 a b (fun c => by unfold PSc at c; omega)) (fun a b g => rfl) (fun t ht => rfl))
theorem l_op_keep (T : ZTh (XX Ln xs) CZ RZ) {d b : Nat} {Q : ZQ} {W H n bl : Nat} {M : Mo} {P SL : Nat → Mo} {u : Nat → Int} {i : Int} {I : ZI} {L : ZL} (hJ : JB I L W H M P n SL bl u) (hi : 0 ≤ i ∧ i + 6 ≤ (Ln : Int) ∧ Ln ≤ 3072) (hb3 : 3 ≤ b) (hk : ∀ (I' : ZI) (L' : ZL) (W' H' : Nat) (M' : Mo) (P' : Nat → Mo) (n' : Nat) (SL' : Nat → Mo) (bl' : Nat) (u' : Nat → Int) (b' : Nat), b ≤ b' + 3 → JB I' L' W' H' M' P' n' SL' bl' u' → RZ (d + 33) k_L_law Q 2061 [.inr (.ref 10100, 80000), .inr (.ref 0, 12), .inr (.ref 603, 13), .inr (.ref 643, 40001), .inl i, zj, zj, zj, zj] [] b' I' L') : RZ (d + 33) k_L_law Q 1783 [.inr (.ref 10100, 80000), .inr (.ref 0, 12), .inr (.ref 603, 13), .inr (.ref 643, 40001), .inl i, zj, zj, zj, zj] [] b I L := by
  have hC := hJ.1
  have hA9 := hJ.1.wfa
  refine T.go [2061] 200 ?_
  conv => whnf
  refine zinv0 (s_X11_keep T  (by first | exact hJ.1 | assumption | decide | omega) ?_ ?_)
  · intro cha_1784 chb_1784 I_1784 L_1784 hf_1784 hg_1784 hC_1784
    have hM9 := hJ.2.near hA9 (fun a b g => hf_1784 a b (fun c => by unfold PCh at c; omega))
    have hzv : zR ((mN M : Int)) := by
      have := hC.2.2.1.2.1
      exact ⟨by omega, by omega⟩
    conv => whnf
    refine zinv0 (s_X12_keep T  (by first | exact hM9 | exact hA9 | assumption | decide | omega) (by first | exact hM9 | exact hA9 | assumption | decide | omega) ?_ ?_)
    · intro rcha_1788 rchb_1788 Ir_1788 hfr_1788 htr_1788 hCr_1788
      conv => whnf
      refine ⟨by first | exact ⟨hzv, hzv⟩ | omega, fun c1791 => ?_, fun c1791 => by exfalso; exact c1791 rfl⟩
      conv => whnf
      exact hk _ _ _ _ _ _ _ _ _ _ _ (by omega) (JB.mk hC_1784 hCr_1788 (fun a b g => hfr_1788 a b (fun c => by unfold PMd at c; omega)) (fun a b g => rfl) (fun t ht => hf_1784 _ _ (fun c => by unfold PCh at c; omega)))
    · intro rch2a_1788 Ir_1788 hfr_1788 htr_1788 hCr_1788
      exfalso; omega
  · intro ch2a_1784
    have hM9 := hJ.2
    conv => whnf
    refine zinv0 (s_X12_keep T  (by first | exact hM9 | exact hA9 | assumption | decide | omega) (by first | exact hM9 | exact hA9 | assumption | decide | omega) ?_ ?_)
    · intro rcha_1788 rchb_1788 Ir_1788 hfr_1788 htr_1788 hCr_1788
      exfalso; omega
    · intro rch2a_1788 Ir_1788 hfr_1788 htr_1788 hCr_1788
      conv => whnf
      refine ⟨by first | exact ⟨hzv, hzv⟩ | omega, fun c1791 => ?_, fun c1791 => by exfalso; exact c1791 rfl⟩
      conv => whnf
      exact hk _ _ _ _ _ _ _ _ _ _ _ (by omega) (JB.mk hC hCr_1788 (fun a b g => hfr_1788 a b (fun c => by unfold PSc at c; omega)) (fun a b g => rfl) (fun t ht => rfl))
end
