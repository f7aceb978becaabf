/-! THE LAW, 4: calls -/
section
variable {Ln : Nat} {xs : Nat → Int32} {CZ : Nat → ZC} {RZ : Nat → Nat → ZQ → ZP}
theorem l_op_places (T : ZTh (XX Ln xs) CZ RZ) {d b : Nat} {Q : ZQ} {W H n bl : Nat} {M : Mo} {P SL : Nat → Mo} {u : Nat → Int} {i : Int} {I : ZI} {L : ZL} (hJ : JB I L W H M P n SL bl u) (hi : 0 ≤ i ∧ i + 6 ≤ (Ln : Int) ∧ Ln ≤ 3072) (hb3 : 3 ≤ b) (hk : ∀ (I' : ZI) (L' : ZL) (W' H' : Nat) (M' : Mo) (P' : Nat → Mo) (n' : Nat) (SL' : Nat → Mo) (bl' : Nat) (u' : Nat → Int) (b' : Nat), b ≤ b' + 3 → JB I' L' W' H' M' P' n' SL' bl' u' → RZ (d + 33) k_L_law Q 2061 [.inr (.ref 10100, 80000), .inr (.ref 0, 12), .inr (.ref 603, 13), .inr (.ref 643, 40001), .inl i, zj, zj, zj, zj] [] b' I' L') : RZ (d + 33) k_L_law Q 598 [.inr (.ref 10100, 80000), .inr (.ref 0, 12), .inr (.ref 603, 13), .inr (.ref 643, 40001), .inl i, zj, zj, zj, zj] [] b I L := by
  have hC := hJ.1
  have hA9 := hJ.1.wfa
  obtain ⟨p, hp9⟩ : ∃ z : Int, z = zs (XX Ln xs) 10100 (i + 1) := ⟨_, rfl⟩
  have zp9 : zR p := by rw [hp9]; exact zs_z _ _ _
  refine T.go [2061] 200 ?_
  conv => whnf
  refine ⟨by exact ⟨by omega, by show _ < ((Ln : Nat) : Int); omega, by omega⟩, ?_⟩
  conv => whnf
  rw [← hp9]
  refine ⟨1, by omega, s_L_places T  (by first | assumption | omega | rfl | decide) (by first | exact hJ.1 | assumption | decide | omega) (by first | exact hJ.1 | assumption | decide | omega) ?_ ?_⟩
  · intro cha_606
    have hM9 := hJ.2
    conv => whnf
    refine ⟨by exact ⟨by omega, by show _ < ((Ln : Nat) : Int); omega, by omega⟩, ?_⟩
    conv => whnf
    rw [← hp9]
    refine zinv0 (s_X12_places T  (by first | exact hM9 | exact hA9 | assumption | decide | omega) (by first | exact hM9 | exact hA9 | assumption | decide | omega) (by first | exact hM9 | exact hA9 | assumption | decide | omega) ?_ ?_)
    · intro rcha_618 Ir_618 hfr_618 htr_618 hCr_618
      have hzr : zR (placesA W H M p.toNat) := by
        exact z_places hC.2.2.1.1.1.2.1 hC.2.2.1.1.1.2.2.2 _
      conv => whnf
      refine zinv0 (s_X12_thrown T   ?_)
      conv => whnf
      refine ⟨by rw [htr_618]; decide, fun c629 => ?_, fun c629 => by exfalso; exact c629 htr_618⟩
      conv => whnf
      refine ⟨by decide, fun c => absurd c (by decide), fun _ => ?_⟩
      conv => whnf
      refine ⟨by omega, ?_⟩
      conv => whnf
      refine ⟨by first | exact hzr | decide | omega, ?_⟩
      conv => whnf
      refine ⟨fun c645 => ?_, fun c645 => ?_, fun c645 => ?_⟩
      · conv => whnf
        refine ⟨by decide, fun c => absurd c (by decide), fun _ => ?_⟩
        conv => whnf
        refine ⟨by omega, ?_⟩
        exact absurd c645 (lt_w rfl)
      · conv => whnf
        refine ⟨by decide, fun _ => ?_, fun c => absurd c (by decide)⟩
        conv => whnf
        refine T.fg [5, 6] ?_
        exact hk _ _ _ _ _ _ _ _ _ _ _ (by omega) (JB.mk hC hCr_618 (fun a b g => hfr_618 a b (fun c => by unfold PSc at c; omega)) (fun a b g => w2_ne (by omega)) (fun t ht => rfl))
      · conv => whnf
        refine ⟨by decide, fun c => absurd c (by decide), fun _ => ?_⟩
        conv => whnf
        refine ⟨by omega, ?_⟩
        exact absurd c645 (gt_w rfl)
    · intro rch2a_618 Ir_618 hfr_618 htr_618 hCr_618
      exfalso; omega
  · intro ch2a_606
    have hM9 := hJ.2
    conv => whnf
    refine ⟨by exact ⟨by omega, by show _ < ((Ln : Nat) : Int); omega, by omega⟩, ?_⟩
    conv => whnf
    rw [← hp9]
    refine zinv0 (s_X12_places T  (by first | exact hM9 | exact hA9 | assumption | decide | omega) (by first | exact hM9 | exact hA9 | assumption | decide | omega) (by first | exact hM9 | exact hA9 | assumption | decide | omega) ?_ ?_)
    · intro rcha_618 Ir_618 hfr_618 htr_618 hCr_618
      exfalso; omega
    · intro rch2a_618 Ir_618 hfr_618 htr_618 hCr_618
      conv => whnf
      refine zinv0 (s_X12_thrown T   ?_)
      conv => whnf
      refine ⟨by rw [htr_618]; decide, fun c629 => ?_, fun c629 => by exfalso; exact c629 htr_618⟩
      conv => whnf
      refine ⟨by decide, fun _ => ?_, fun c => absurd c (by decide)⟩
      conv => whnf
      refine T.fg [5, 6] ?_
      exact hk _ _ _ _ _ _ _ _ _ _ _ (by omega) (JB.mk hC hCr_618 (fun a b g => hfr_618 a b (fun c => by unfold PSc at c; omega)) (fun a b g => rfl) (fun t ht => rfl))
theorem l_op_seams (T : ZTh (XX Ln xs) CZ RZ) {d b : Nat} {Q : ZQ} {W H n bl : Nat} {M : Mo} {P SL : Nat → Mo} {u : Nat → Int} {i : Int} {I : ZI} {L : ZL} (hJ : JB I L W H M P n SL bl u) (hi : 0 ≤ i ∧ i + 6 ≤ (Ln : Int) ∧ Ln ≤ 3072) (hb3 : 3 ≤ b) (hk : ∀ (I' : ZI) (L' : ZL) (W' H' : Nat) (M' : Mo) (P' : Nat → Mo) (n' : Nat) (SL' : Nat → Mo) (bl' : Nat) (u' : Nat → Int) (b' : Nat), b ≤ b' + 3 → JB I' L' W' H' M' P' n' SL' bl' u' → RZ (d + 33) k_L_law Q 2061 [.inr (.ref 10100, 80000), .inr (.ref 0, 12), .inr (.ref 603, 13), .inr (.ref 643, 40001), .inl i, zj, zj, zj, zj] [] b' I' L') : RZ (d + 33) k_L_law Q 654 [.inr (.ref 10100, 80000), .inr (.ref 0, 12), .inr (.ref 603, 13), .inr (.ref 643, 40001), .inl i, zj, zj, zj, zj] [] b I L := by
  have hC := hJ.1
  have hA9 := hJ.1.wfa
  obtain ⟨p, hp9⟩ : ∃ z : Int, z = zs (XX Ln xs) 10100 (i + 1) := ⟨_, rfl⟩
  have zp9 : zR p := by rw [hp9]; exact zs_z _ _ _
  obtain ⟨o, ho9⟩ : ∃ z : Int, z = zs (XX Ln xs) 10100 (i + 2) := ⟨_, rfl⟩
  have zo9 : zR o := by rw [ho9]; exact zs_z _ _ _
  refine T.go [2061] 200 ?_
  conv => whnf
  refine ⟨by exact ⟨by omega, by show _ < ((Ln : Nat) : Int); omega, by omega⟩, ?_⟩
  conv => whnf
  refine ⟨by exact ⟨by omega, by show _ < ((Ln : Nat) : Int); omega, by omega⟩, ?_⟩
  conv => whnf
  refine ⟨by exact ⟨by omega, by show _ < ((Ln : Nat) : Int); omega, by omega⟩, ?_⟩
  conv => whnf
  refine ⟨by exact zs_z _ _ _, fun c673 => ?_, fun c673 => ?_⟩
  · conv => whnf
    rw [← hp9]
    rw [← ho9]
    refine ⟨2, by omega, s_L_seams T  (by first | assumption | omega | rfl | decide) (by first | exact hJ.1 | assumption | decide | omega) (by first | exact hJ.1 | assumption | decide | omega) (by first | exact hJ.1 | assumption | decide | omega) (by first | exact hJ.1 | assumption | decide | omega) ?_ ?_⟩
    · intro cha_682 chb_682
      have hM9 := hJ.2
      conv => whnf
      refine ⟨by exact ⟨by omega, by show _ < ((Ln : Nat) : Int); omega, by omega⟩, ?_⟩
      conv => whnf
      refine ⟨by exact ⟨by omega, by show _ < ((Ln : Nat) : Int); omega, by omega⟩, ?_⟩
      conv => whnf
      refine ⟨by exact ⟨by omega, by show _ < ((Ln : Nat) : Int); omega, by omega⟩, ?_⟩
      conv => whnf
      refine ⟨by exact zs_z _ _ _, fun c706 => ?_, fun c706 => by exfalso; exact c706 c673⟩
      conv => whnf
      rw [← hp9]
      rw [← ho9]
      refine zinv0 (s_X12_seams T  (by first | exact hM9 | exact hA9 | assumption | decide | omega) (by first | exact hM9 | exact hA9 | assumption | decide | omega) (by first | exact hM9 | exact hA9 | assumption | decide | omega) (by first | exact hM9 | exact hA9 | assumption | decide | omega) (by first | exact hM9 | exact hA9 | assumption | decide | omega) ?_ ?_)
      · intro rcha_714 Ir_714 hfr_714 htr_714 hCr_714
        have hzr : zR (aSeams M p o 0) := by
          exact z_seams _ _ _ _
        conv => whnf
        refine zinv0 (s_X12_thrown T   ?_)
        conv => whnf
        refine ⟨by rw [htr_714]; decide, fun c725 => ?_, fun c725 => by exfalso; exact c725 htr_714⟩
        conv => whnf
        refine ⟨by decide, fun c => absurd c (by decide), fun _ => ?_⟩
        conv => whnf
        refine ⟨by omega, ?_⟩
        conv => whnf
        refine ⟨by first | exact hzr | decide | omega, ?_⟩
        conv => whnf
        refine ⟨fun c741 => ?_, fun c741 => ?_, fun c741 => ?_⟩
        · conv => whnf
          refine ⟨by decide, fun c => absurd c (by decide), fun _ => ?_⟩
          conv => whnf
          refine ⟨by omega, ?_⟩
          exact absurd c741 (lt_w rfl)
        · conv => whnf
          refine ⟨by decide, fun _ => ?_, fun c => absurd c (by decide)⟩
          conv => whnf
          refine T.fg [5, 6] ?_
          exact hk _ _ _ _ _ _ _ _ _ _ _ (by omega) (JB.mk hC hCr_714 (fun a b g => hfr_714 a b (fun c => by unfold PSc at c; omega)) (fun a b g => w2_ne (by omega)) (fun t ht => rfl))
        · conv => whnf
          refine ⟨by decide, fun c => absurd c (by decide), fun _ => ?_⟩
          conv => whnf
          refine ⟨by omega, ?_⟩
          exact absurd c741 (gt_w rfl)
      · intro rch2a_714 Ir_714 hfr_714 htr_714 hCr_714
        exfalso; omega
    · intro ch2a_682
      have hM9 := hJ.2
      conv => whnf
      refine ⟨by exact ⟨by omega, by show _ < ((Ln : Nat) : Int); omega, by omega⟩, ?_⟩
      conv => whnf
      refine ⟨by exact ⟨by omega, by show _ < ((Ln : Nat) : Int); omega, by omega⟩, ?_⟩
      conv => whnf
      refine ⟨by exact ⟨by omega, by show _ < ((Ln : Nat) : Int); omega, by omega⟩, ?_⟩
      conv => whnf
      refine ⟨by exact zs_z _ _ _, fun c706 => ?_, fun c706 => by exfalso; exact c706 c673⟩
      conv => whnf
      rw [← hp9]
      rw [← ho9]
      refine zinv0 (s_X12_seams T  (by first | exact hM9 | exact hA9 | assumption | decide | omega) (by first | exact hM9 | exact hA9 | assumption | decide | omega) (by first | exact hM9 | exact hA9 | assumption | decide | omega) (by first | exact hM9 | exact hA9 | assumption | decide | omega) (by first | exact hM9 | exact hA9 | assumption | decide | omega) ?_ ?_)
      · intro rcha_714 Ir_714 hfr_714 htr_714 hCr_714
        exfalso; omega
      · intro rch2a_714 Ir_714 hfr_714 htr_714 hCr_714
        conv => whnf
        refine zinv0 (s_X12_thrown T   ?_)
        conv => whnf
        refine ⟨by rw [htr_714]; decide, fun c725 => ?_, fun c725 => by exfalso; exact c725 htr_714⟩
        conv => whnf
        refine ⟨by decide, fun _ => ?_, fun c => absurd c (by decide)⟩
        conv => whnf
        refine T.fg [5, 6] ?_
        exact hk _ _ _ _ _ _ _ _ _ _ _ (by omega) (JB.mk hC hCr_714 (fun a b g => hfr_714 a b (fun c => by unfold PSc at c; omega)) (fun a b g => rfl) (fun t ht => rfl))
  · conv => whnf
    rw [← hp9]
    rw [← ho9]
    refine ⟨2, by omega, s_L_seams T  (by first | assumption | omega | rfl | decide) (by first | exact hJ.1 | assumption | decide | omega) (by first | exact hJ.1 | assumption | decide | omega) (by first | exact hJ.1 | assumption | decide | omega) (by first | exact hJ.1 | assumption | decide | omega) ?_ ?_⟩
    · intro cha_682 chb_682
      have hM9 := hJ.2
      conv => whnf
      refine ⟨by exact ⟨by omega, by show _ < ((Ln : Nat) : Int); omega, by omega⟩, ?_⟩
      conv => whnf
      refine ⟨by exact ⟨by omega, by show _ < ((Ln : Nat) : Int); omega, by omega⟩, ?_⟩
      conv => whnf
      refine ⟨by exact ⟨by omega, by show _ < ((Ln : Nat) : Int); omega, by omega⟩, ?_⟩
      conv => whnf
      refine ⟨by exact zs_z _ _ _, fun c706 => by exfalso; exact c673 c706, fun c706 => ?_⟩
      conv => whnf
      rw [← hp9]
      rw [← ho9]
      refine zinv0 (s_X12_seams T  (by first | exact hM9 | exact hA9 | assumption | decide | omega) (by first | exact hM9 | exact hA9 | assumption | decide | omega) (by first | exact hM9 | exact hA9 | assumption | decide | omega) (by first | exact hM9 | exact hA9 | assumption | decide | omega) (by first | exact hM9 | exact hA9 | assumption | decide | omega) ?_ ?_)
      · intro rcha_714 Ir_714 hfr_714 htr_714 hCr_714
        have hzr : zR (aSeams M p o 1) := by
          exact z_seams _ _ _ _
        conv => whnf
        refine zinv0 (s_X12_thrown T   ?_)
        conv => whnf
        refine ⟨by rw [htr_714]; decide, fun c725 => ?_, fun c725 => by exfalso; exact c725 htr_714⟩
        conv => whnf
        refine ⟨by decide, fun c => absurd c (by decide), fun _ => ?_⟩
        conv => whnf
        refine ⟨by omega, ?_⟩
        conv => whnf
        refine ⟨by first | exact hzr | decide | omega, ?_⟩
        conv => whnf
        refine ⟨fun c741 => ?_, fun c741 => ?_, fun c741 => ?_⟩
        · conv => whnf
          refine ⟨by decide, fun c => absurd c (by decide), fun _ => ?_⟩
          conv => whnf
          refine ⟨by omega, ?_⟩
          exact absurd c741 (lt_w rfl)
        · conv => whnf
          refine ⟨by decide, fun _ => ?_, fun c => absurd c (by decide)⟩
          conv => whnf
          refine T.fg [5, 6] ?_
          exact hk _ _ _ _ _ _ _ _ _ _ _ (by omega) (JB.mk hC hCr_714 (fun a b g => hfr_714 a b (fun c => by unfold PSc at c; omega)) (fun a b g => w2_ne (by omega)) (fun t ht => rfl))
        · conv => whnf
          refine ⟨by decide, fun c => absurd c (by decide), fun _ => ?_⟩
          conv => whnf
          refine ⟨by omega, ?_⟩
          exact absurd c741 (gt_w rfl)
      · intro rch2a_714 Ir_714 hfr_714 htr_714 hCr_714
        exfalso; omega
    · intro ch2a_682
      have hM9 := hJ.2
      conv => whnf
      refine ⟨by exact ⟨by omega, by show _ < ((Ln : Nat) : Int); omega, by omega⟩, ?_⟩
      conv => whnf
      refine ⟨by exact ⟨by omega, by show _ < ((Ln : Nat) : Int); omega, by omega⟩, ?_⟩
      conv => whnf
      refine ⟨by exact ⟨by omega, by show _ < ((Ln : Nat) : Int); omega, by omega⟩, ?_⟩
      conv => whnf
      refine ⟨by exact zs_z _ _ _, fun c706 => by exfalso; exact c673 c706, fun c706 => ?_⟩
      conv => whnf
      rw [← hp9]
      rw [← ho9]
      refine zinv0 (s_X12_seams T  (by first | exact hM9 | exact hA9 | assumption | decide | omega) (by first | exact hM9 | exact hA9 | assumption | decide | omega) (by first | exact hM9 | exact hA9 | assumption | decide | omega) (by first | exact hM9 | exact hA9 | assumption | decide | omega) (by first | exact hM9 | exact hA9 | assumption | decide | omega) ?_ ?_)
      · intro rcha_714 Ir_714 hfr_714 htr_714 hCr_714
        exfalso; omega
      · intro rch2a_714 Ir_714 hfr_714 htr_714 hCr_714
        conv => whnf
        refine zinv0 (s_X12_thrown T   ?_)
        conv => whnf
        refine ⟨by rw [htr_714]; decide, fun c725 => ?_, fun c725 => by exfalso; exact c725 htr_714⟩
        conv => whnf
        refine ⟨by decide, fun _ => ?_, fun c => absurd c (by decide)⟩
        conv => whnf
        refine T.fg [5, 6] ?_
        exact hk _ _ _ _ _ _ _ _ _ _ _ (by omega) (JB.mk hC hCr_714 (fun a b g => hfr_714 a b (fun c => by unfold PSc at c; omega)) (fun a b g => rfl) (fun t ht => rfl))
theorem l_op_matches (T : ZTh (XX Ln xs) CZ RZ) {d b : Nat} {Q : ZQ} {W H n bl : Nat} {M : Mo} {P SL : Nat → Mo} {u : Nat → Int} {i : Int} {I : ZI} {L : ZL} (hJ : JB I L W H M P n SL bl u) (hi : 0 ≤ i ∧ i + 6 ≤ (Ln : Int) ∧ Ln ≤ 3072) (hb3 : 3 ≤ b) (hk : ∀ (I' : ZI) (L' : ZL) (W' H' : Nat) (M' : Mo) (P' : Nat → Mo) (n' : Nat) (SL' : Nat → Mo) (bl' : Nat) (u' : Nat → Int) (b' : Nat), b ≤ b' + 3 → JB I' L' W' H' M' P' n' SL' bl' u' → RZ (d + 33) k_L_law Q 2061 [.inr (.ref 10100, 80000), .inr (.ref 0, 12), .inr (.ref 603, 13), .inr (.ref 643, 40001), .inl i, zj, zj, zj, zj] [] b' I' L') : RZ (d + 33) k_L_law Q 750 [.inr (.ref 10100, 80000), .inr (.ref 0, 12), .inr (.ref 603, 13), .inr (.ref 643, 40001), .inl i, zj, zj, zj, zj] [] b I L := by
  have hC := hJ.1
  have hA9 := hJ.1.wfa
  refine T.go [2061] 200 ?_
  conv => whnf
  refine zinv0 (s_X11_matches T  (by first | exact hJ.1 | assumption | decide | omega) ?_)
  have hM9 := hJ.2
  have hzv : zR (matchesA M) := by
    exact z_matches hC.2.2.1.1
  conv => whnf
  refine zinv0 (s_X12_matches T  (by first | exact hM9 | exact hA9 | assumption | decide | omega) (by first | exact hM9 | exact hA9 | assumption | decide | omega) ?_)
  intro Ir_755 hfr_755 htr_755 hCr_755
  conv => whnf
  refine ⟨by first | exact ⟨hzv, hzv⟩ | omega, fun c758 => ?_, fun c758 => by exfalso; exact c758 rfl⟩
  conv => whnf
  exact hk _ _ _ _ _ _ _ _ _ _ _ (by omega) (JB.mk hC hCr_755 (fun a b g => hfr_755 a b (fun c => by unfold PSc at c; omega)) (fun a b g => rfl) (fun t ht => rfl))
theorem l_op_inner (T : ZTh (XX Ln xs) CZ RZ) {d b : Nat} {Q : ZQ} {W H n bl : Nat} {M : Mo} {P SL : Nat → Mo} {u : Nat → Int} {i : Int} {I : ZI} {L : ZL} (hJ : JB I L W H M P n SL bl u) (hi : 0 ≤ i ∧ i + 6 ≤ (Ln : Int) ∧ Ln ≤ 3072) (hb3 : 3 ≤ b) (hk : ∀ (I' : ZI) (L' : ZL) (W' H' : Nat) (M' : Mo) (P' : Nat → Mo) (n' : Nat) (SL' : Nat → Mo) (bl' : Nat) (u' : Nat → Int) (b' : Nat), b ≤ b' + 3 → JB I' L' W' H' M' P' n' SL' bl' u' → RZ (d + 33) k_L_law Q 2061 [.inr (.ref 10100, 80000), .inr (.ref 0, 12), .inr (.ref 603, 13), .inr (.ref 643, 40001), .inl i, zj, zj, zj, zj] [] b' I' L') : RZ (d + 33) k_L_law Q 763 [.inr (.ref 10100, 80000), .inr (.ref 0, 12), .inr (.ref 603, 13), .inr (.ref 643, 40001), .inl i, zj, zj, zj, zj] [] b I L := by
  have hC := hJ.1
  have hA9 := hJ.1.wfa
  refine T.go [2061] 200 ?_
  conv => whnf
  refine zinv0 (s_X11_inner T  (by first | exact hJ.1 | assumption | decide | omega) ?_)
  have hM9 := hJ.2
  have hzv : zR (innerA M) := by
    exact z_inner _
  conv => whnf
  refine zinv0 (s_X12_inner T  (by first | exact hM9 | exact hA9 | assumption | decide | omega) (by first | exact hM9 | exact hA9 | assumption | decide | omega) ?_)
  intro Ir_768 hfr_768 htr_768 hCr_768
  conv => whnf
  refine ⟨by first | exact ⟨hzv, hzv⟩ | omega, fun c771 => ?_, fun c771 => by exfalso; exact c771 rfl⟩
  conv => whnf
  exact hk _ _ _ _ _ _ _ _ _ _ _ (by omega) (JB.mk hC hCr_768 (fun a b g => hfr_768 a b (fun c => by unfold PSc at c; omega)) (fun a b g => rfl) (fun t ht => rfl))
theorem l_op_loop (T : ZTh (XX Ln xs) CZ RZ) {d b : Nat} {Q : ZQ} {W H n bl : Nat} {M : Mo} {P SL : Nat → Mo} {u : Nat → Int} {i : Int} {I : ZI} {L : ZL} (hJ : JB I L W H M P n SL bl u) (hi : 0 ≤ i ∧ i + 6 ≤ (Ln : Int) ∧ Ln ≤ 3072) (hb3 : 3 ≤ b) (hk : ∀ (I' : ZI) (L' : ZL) (W' H' : Nat) (M' : Mo) (P' : Nat → Mo) (n' : Nat) (SL' : Nat → Mo) (bl' : Nat) (u' : Nat → Int) (b' : Nat), b ≤ b' + 3 → JB I' L' W' H' M' P' n' SL' bl' u' → RZ (d + 33) k_L_law Q 2061 [.inr (.ref 10100, 80000), .inr (.ref 0, 12), .inr (.ref 603, 13), .inr (.ref 643, 40001), .inl i, zj, zj, zj, zj] [] b' I' L') : RZ (d + 33) k_L_law Q 776 [.inr (.ref 10100, 80000), .inr (.ref 0, 12), .inr (.ref 603, 13), .inr (.ref 643, 40001), .inl i, zj, zj, zj, zj] [] b I L := by
  have hC := hJ.1
  have hA9 := hJ.1.wfa
  obtain ⟨l, hl9⟩ : ∃ z : Int, z = zs (XX Ln xs) 10100 (i + 1) := ⟨_, rfl⟩
  have zl9 : zR l := by rw [hl9]; exact zs_z _ _ _
  obtain ⟨w, hw9⟩ : ∃ z : Int, z = zs (XX Ln xs) 10100 (i + 2) := ⟨_, rfl⟩
  have zw9 : zR w := by rw [hw9]; exact zs_z _ _ _
  refine T.go [2061] 200 ?_
  conv => whnf
  refine ⟨by exact ⟨by omega, by show _ < ((Ln : Nat) : Int); omega, by omega⟩, ?_⟩
  conv => whnf
  refine ⟨by exact ⟨by omega, by show _ < ((Ln : Nat) : Int); omega, by omega⟩, ?_⟩
  conv => whnf
  rw [← hl9]
  rw [← hw9]
  refine ⟨2, by omega, s_L_loop T  (by first | assumption | omega | rfl | decide) (by first | exact hJ.1 | assumption | decide | omega) (by first | exact hJ.1 | assumption | decide | omega) (by first | exact hJ.1 | assumption | decide | omega) ?_ ?_ ?_⟩
  · intro cha_790 chb_790 chc_790
    have hM9 := hJ.2
    conv => whnf
    refine ⟨by exact ⟨by omega, by show _ < ((Ln : Nat) : Int); omega, by omega⟩, ?_⟩
    conv => whnf
    refine ⟨by exact ⟨by omega, by show _ < ((Ln : Nat) : Int); omega, by omega⟩, ?_⟩
    conv => whnf
    rw [← hl9]
    rw [← hw9]
    refine zinv0 (s_X12_loop T  (by first | exact hM9 | exact hA9 | assumption | decide | omega) (by first | exact hM9 | exact hA9 | assumption | decide | omega) (by first | exact hM9 | exact hA9 | assumption | decide | omega) (by first | exact hM9 | exact hA9 | assumption | decide | omega) ?_ ?_ ?_)
    · intro rcha_808 rchb_808 rchc_808 Ir_808 hfr_808 htr_808 hCr_808
      have hzr : zR (aLoop (olM M) l.toNat w) := by
        exact z_loop hC (by omega) (by omega) (by omega)
      conv => whnf
      refine zinv0 (s_X12_thrown T   ?_)
      conv => whnf
      refine ⟨by rw [htr_808]; decide, fun c819 => ?_, fun c819 => by exfalso; exact c819 htr_808⟩
      conv => whnf
      refine ⟨by decide, fun c => absurd c (by decide), fun _ => ?_⟩
      conv => whnf
      refine ⟨by omega, ?_⟩
      conv => whnf
      refine ⟨by first | exact hzr | decide | omega, ?_⟩
      conv => whnf
      refine ⟨fun c835 => ?_, fun c835 => ?_, fun c835 => ?_⟩
      · conv => whnf
        refine ⟨by decide, fun c => absurd c (by decide), fun _ => ?_⟩
        conv => whnf
        refine ⟨by omega, ?_⟩
        exact absurd c835 (lt_w rfl)
      · conv => whnf
        refine ⟨by decide, fun _ => ?_, fun c => absurd c (by decide)⟩
        conv => whnf
        refine T.fg [5, 6] ?_
        exact hk _ _ _ _ _ _ _ _ _ _ _ (by omega) (JB.mk hC hCr_808 (fun a b g => hfr_808 a b (fun c => by unfold PSc at c; omega)) (fun a b g => w2_ne (by omega)) (fun t ht => rfl))
      · conv => whnf
        refine ⟨by decide, fun c => absurd c (by decide), fun _ => ?_⟩
        conv => whnf
        refine ⟨by omega, ?_⟩
        exact absurd c835 (gt_w rfl)
    · intro rch2a_808 Ir_808 hfr_808 htr_808 hCr_808
      exfalso; omega
    · intro rch3a_808 rch3b_808 Ir_808 hfr_808 htr_808 hCr_808
      exfalso; omega
  · intro ch2a_790
    have hM9 := hJ.2
    conv => whnf
    refine ⟨by exact ⟨by omega, by show _ < ((Ln : Nat) : Int); omega, by omega⟩, ?_⟩
    conv => whnf
    refine ⟨by exact ⟨by omega, by show _ < ((Ln : Nat) : Int); omega, by omega⟩, ?_⟩
    conv => whnf
    rw [← hl9]
    rw [← hw9]
    refine zinv0 (s_X12_loop T  (by first | exact hM9 | exact hA9 | assumption | decide | omega) (by first | exact hM9 | exact hA9 | assumption | decide | omega) (by first | exact hM9 | exact hA9 | assumption | decide | omega) (by first | exact hM9 | exact hA9 | assumption | decide | omega) ?_ ?_ ?_)
    · intro rcha_808 rchb_808 rchc_808 Ir_808 hfr_808 htr_808 hCr_808
      exfalso; omega
    · intro rch2a_808 Ir_808 hfr_808 htr_808 hCr_808
      conv => whnf
      refine zinv0 (s_X12_thrown T   ?_)
      conv => whnf
      refine ⟨by rw [htr_808]; decide, fun c819 => ?_, fun c819 => by exfalso; exact c819 htr_808⟩
      conv => whnf
      refine ⟨by decide, fun _ => ?_, fun c => absurd c (by decide)⟩
      conv => whnf
      refine T.fg [5, 6] ?_
      exact hk _ _ _ _ _ _ _ _ _ _ _ (by omega) (JB.mk hC hCr_808 (fun a b g => hfr_808 a b (fun c => by unfold PSc at c; omega)) (fun a b g => rfl) (fun t ht => rfl))
    · intro rch3a_808 rch3b_808 Ir_808 hfr_808 htr_808 hCr_808
      exfalso; omega
  · intro ch3a_790 ch3b_790
    have hM9 := hJ.2
    conv => whnf
    refine ⟨by exact ⟨by omega, by show _ < ((Ln : Nat) : Int); omega, by omega⟩, ?_⟩
    conv => whnf
    refine ⟨by exact ⟨by omega, by show _ < ((Ln : Nat) : Int); omega, by omega⟩, ?_⟩
    conv => whnf
    rw [← hl9]
    rw [← hw9]
    refine zinv0 (s_X12_loop T  (by first | exact hM9 | exact hA9 | assumption | decide | omega) (by first | exact hM9 | exact hA9 | assumption | decide | omega) (by first | exact hM9 | exact hA9 | assumption | decide | omega) (by first | exact hM9 | exact hA9 | assumption | decide | omega) ?_ ?_ ?_)
    · intro rcha_808 rchb_808 rchc_808 Ir_808 hfr_808 htr_808 hCr_808
      exfalso; omega
    · intro rch2a_808 Ir_808 hfr_808 htr_808 hCr_808
      exfalso; omega
    · intro rch3a_808 rch3b_808 Ir_808 hfr_808 htr_808 hCr_808
      conv => whnf
      refine zinv0 (s_X12_thrown T   ?_)
      conv => whnf
      refine ⟨by rw [htr_808]; decide, fun c819 => ?_, fun c819 => by exfalso; exact c819 htr_808⟩
      conv => whnf
      refine ⟨by decide, fun _ => ?_, fun c => absurd c (by decide)⟩
      conv => whnf
      refine T.fg [5, 6] ?_
      exact hk _ _ _ _ _ _ _ _ _ _ _ (by omega) (JB.mk hC hCr_808 (fun a b g => hfr_808 a b (fun c => by unfold PSc at c; omega)) (fun a b g => rfl) (fun t ht => rfl))
theorem l_op_edge (T : ZTh (XX Ln xs) CZ RZ) {d b : Nat} {Q : ZQ} {W H n bl : Nat} {M : Mo} {P SL : Nat → Mo} {u : Nat → Int} {i : Int} {I : ZI} {L : ZL} (hJ : JB I L W H M P n SL bl u) (hi : 0 ≤ i ∧ i + 6 ≤ (Ln : Int) ∧ Ln ≤ 3072) (hb3 : 3 ≤ b) (hk : ∀ (I' : ZI) (L' : ZL) (W' H' : Nat) (M' : Mo) (P' : Nat → Mo) (n' : Nat) (SL' : Nat → Mo) (bl' : Nat) (u' : Nat → Int) (b' : Nat), b ≤ b' + 3 → JB I' L' W' H' M' P' n' SL' bl' u' → RZ (d + 33) k_L_law Q 2061 [.inr (.ref 10100, 80000), .inr (.ref 0, 12), .inr (.ref 603, 13), .inr (.ref 643, 40001), .inl i, zj, zj, zj, zj] [] b' I' L') : RZ (d + 33) k_L_law Q 844 [.inr (.ref 10100, 80000), .inr (.ref 0, 12), .inr (.ref 603, 13), .inr (.ref 643, 40001), .inl i, zj, zj, zj, zj] [] b I L := by
  have hC := hJ.1
  have hA9 := hJ.1.wfa
  obtain ⟨l, hl9⟩ : ∃ z : Int, z = zs (XX Ln xs) 10100 (i + 1) := ⟨_, rfl⟩
  have zl9 : zR l := by rw [hl9]; exact zs_z _ _ _
  obtain ⟨e, he9⟩ : ∃ z : Int, z = zs (XX Ln xs) 10100 (i + 2) := ⟨_, rfl⟩
  have ze9 : zR e := by rw [he9]; exact zs_z _ _ _
  obtain ⟨w, hw9⟩ : ∃ z : Int, z = zs (XX Ln xs) 10100 (i + 3) := ⟨_, rfl⟩
  have zw9 : zR w := by rw [hw9]; exact zs_z _ _ _
  refine T.go [2061] 200 ?_
  conv => whnf
  refine ⟨by exact ⟨by omega, by show _ < ((Ln : Nat) : Int); omega, by omega⟩, ?_⟩
  conv => whnf
  refine ⟨by exact ⟨by omega, by show _ < ((Ln : Nat) : Int); omega, by omega⟩, ?_⟩
  conv => whnf
  refine ⟨by exact ⟨by omega, by show _ < ((Ln : Nat) : Int); omega, by omega⟩, ?_⟩
  conv => whnf
  rw [← hl9]
  rw [← he9]
  rw [← hw9]
  refine ⟨2, by omega, s_L_edge T  (by first | assumption | omega | rfl | decide) (by first | exact hJ.1 | assumption | decide | omega) (by first | exact hJ.1 | assumption | decide | omega) (by first | exact hJ.1 | assumption | decide | omega) (by first | exact hJ.1 | assumption | decide | omega) ?_ ?_ ?_⟩
  · intro cha_864 chb_864 chc_864 chd_864 che_864
    have hM9 := hJ.2
    conv => whnf
    refine ⟨by exact ⟨by omega, by show _ < ((Ln : Nat) : Int); omega, by omega⟩, ?_⟩
    conv => whnf
    refine ⟨by exact ⟨by omega, by show _ < ((Ln : Nat) : Int); omega, by omega⟩, ?_⟩
    conv => whnf
    refine ⟨by exact ⟨by omega, by show _ < ((Ln : Nat) : Int); omega, by omega⟩, ?_⟩
    conv => whnf
    rw [← hl9]
    rw [← he9]
    rw [← hw9]
    refine zinv0 (s_X12_edge T  (by first | exact hM9 | exact hA9 | assumption | decide | omega) (by first | exact hM9 | exact hA9 | assumption | decide | omega) (by first | exact hM9 | exact hA9 | assumption | decide | omega) (by first | exact hM9 | exact hA9 | assumption | decide | omega) (by first | exact hM9 | exact hA9 | assumption | decide | omega) ?_ ?_ ?_)
    · intro rcha_888 rchb_888 rchc_888 rchd_888 rche_888 Ir_888 hfr_888 htr_888 hCr_888
      have hzr : zR (aEdge (olM M) l.toNat e.toNat w) := by
        exact z_edge hC (by omega) (by omega) (by omega) (by omega) (by omega)
      conv => whnf
      refine zinv0 (s_X12_thrown T   ?_)
      conv => whnf
      refine ⟨by rw [htr_888]; decide, fun c899 => ?_, fun c899 => by exfalso; exact c899 htr_888⟩
      conv => whnf
      refine ⟨by decide, fun c => absurd c (by decide), fun _ => ?_⟩
      conv => whnf
      refine ⟨by omega, ?_⟩
      conv => whnf
      refine ⟨by first | exact hzr | decide | omega, ?_⟩
      conv => whnf
      refine ⟨fun c915 => ?_, fun c915 => ?_, fun c915 => ?_⟩
      · conv => whnf
        refine ⟨by decide, fun c => absurd c (by decide), fun _ => ?_⟩
        conv => whnf
        refine ⟨by omega, ?_⟩
        exact absurd c915 (lt_w rfl)
      · conv => whnf
        refine ⟨by decide, fun _ => ?_, fun c => absurd c (by decide)⟩
        conv => whnf
        refine T.fg [5, 6] ?_
        exact hk _ _ _ _ _ _ _ _ _ _ _ (by omega) (JB.mk hC hCr_888 (fun a b g => hfr_888 a b (fun c => by unfold PSc at c; omega)) (fun a b g => w2_ne (by omega)) (fun t ht => rfl))
      · conv => whnf
        refine ⟨by decide, fun c => absurd c (by decide), fun _ => ?_⟩
        conv => whnf
        refine ⟨by omega, ?_⟩
        exact absurd c915 (gt_w rfl)
    · intro rch2a_888 Ir_888 hfr_888 htr_888 hCr_888
      exfalso; omega
    · intro rch3a_888 rch3b_888 Ir_888 hfr_888 htr_888 hCr_888
      exfalso; omega
  · intro ch2a_864
    have hM9 := hJ.2
    conv => whnf
    refine ⟨by exact ⟨by omega, by show _ < ((Ln : Nat) : Int); omega, by omega⟩, ?_⟩
    conv => whnf
    refine ⟨by exact ⟨by omega, by show _ < ((Ln : Nat) : Int); omega, by omega⟩, ?_⟩
    conv => whnf
    refine ⟨by exact ⟨by omega, by show _ < ((Ln : Nat) : Int); omega, by omega⟩, ?_⟩
    conv => whnf
    rw [← hl9]
    rw [← he9]
    rw [← hw9]
    refine zinv0 (s_X12_edge T  (by first | exact hM9 | exact hA9 | assumption | decide | omega) (by first | exact hM9 | exact hA9 | assumption | decide | omega) (by first | exact hM9 | exact hA9 | assumption | decide | omega) (by first | exact hM9 | exact hA9 | assumption | decide | omega) (by first | exact hM9 | exact hA9 | assumption | decide | omega) ?_ ?_ ?_)
    · intro rcha_888 rchb_888 rchc_888 rchd_888 rche_888 Ir_888 hfr_888 htr_888 hCr_888
      exfalso; omega
    · intro rch2a_888 Ir_888 hfr_888 htr_888 hCr_888
      conv => whnf
      refine zinv0 (s_X12_thrown T   ?_)
      conv => whnf
      refine ⟨by rw [htr_888]; decide, fun c899 => ?_, fun c899 => by exfalso; exact c899 htr_888⟩
      conv => whnf
      refine ⟨by decide, fun _ => ?_, fun c => absurd c (by decide)⟩
      conv => whnf
      refine T.fg [5, 6] ?_
      exact hk _ _ _ _ _ _ _ _ _ _ _ (by omega) (JB.mk hC hCr_888 (fun a b g => hfr_888 a b (fun c => by unfold PSc at c; omega)) (fun a b g => rfl) (fun t ht => rfl))
    · intro rch3a_888 rch3b_888 Ir_888 hfr_888 htr_888 hCr_888
      exfalso; omega
  · intro ch3a_864 ch3b_864
    have hM9 := hJ.2
    conv => whnf
    refine ⟨by exact ⟨by omega, by show _ < ((Ln : Nat) : Int); omega, by omega⟩, ?_⟩
    conv => whnf
    refine ⟨by exact ⟨by omega, by show _ < ((Ln : Nat) : Int); omega, by omega⟩, ?_⟩
    conv => whnf
    refine ⟨by exact ⟨by omega, by show _ < ((Ln : Nat) : Int); omega, by omega⟩, ?_⟩
    conv => whnf
    rw [← hl9]
    rw [← he9]
    rw [← hw9]
    refine zinv0 (s_X12_edge T  (by first | exact hM9 | exact hA9 | assumption | decide | omega) (by first | exact hM9 | exact hA9 | assumption | decide | omega) (by first | exact hM9 | exact hA9 | assumption | decide | omega) (by first | exact hM9 | exact hA9 | assumption | decide | omega) (by first | exact hM9 | exact hA9 | assumption | decide | omega) ?_ ?_ ?_)
    · intro rcha_888 rchb_888 rchc_888 rchd_888 rche_888 Ir_888 hfr_888 htr_888 hCr_888
      exfalso; omega
    · intro rch2a_888 Ir_888 hfr_888 htr_888 hCr_888
      exfalso; omega
    · intro rch3a_888 rch3b_888 Ir_888 hfr_888 htr_888 hCr_888
      conv => whnf
      refine zinv0 (s_X12_thrown T   ?_)
      conv => whnf
      refine ⟨by rw [htr_888]; decide, fun c899 => ?_, fun c899 => by exfalso; exact c899 htr_888⟩
      conv => whnf
      refine ⟨by decide, fun _ => ?_, fun c => absurd c (by decide)⟩
      conv => whnf
      refine T.fg [5, 6] ?_
      exact hk _ _ _ _ _ _ _ _ _ _ _ (by omega) (JB.mk hC hCr_888 (fun a b g => hfr_888 a b (fun c => by unfold PSc at c; omega)) (fun a b g => rfl) (fun t ht => rfl))
end
