/-! THE LAW, 8: calls -/
section
variable {Ln : Nat} {xs : Nat → Int32} {CZ : Nat → ZC} {RZ : Nat → Nat → ZQ → ZP}
theorem l_op_remove (T : ZTh (XX Ln xs) CZ RZ) {d b : Nat} {Q : ZQ} {W H n bl : Nat} {M : Mo} {P SL : Nat → Mo} {u : Nat → Int} {i : Int} {I : ZI} {L : ZL} (hJ : JB I L W H M P n SL bl u) (hi : 0 ≤ i ∧ i + 6 ≤ (Ln : Int) ∧ Ln ≤ 3072) (hb3 : 3 ≤ b) (hk : ∀ (I' : ZI) (L' : ZL) (W' H' : Nat) (M' : Mo) (P' : Nat → Mo) (n' : Nat) (SL' : Nat → Mo) (bl' : Nat) (u' : Nat → Int) (b' : Nat), b ≤ b' + 3 → JB I' L' W' H' M' P' n' SL' bl' u' → RZ (d + 33) k_L_law Q 2061 [.inr (.ref 10100, 80000), .inr (.ref 0, 12), .inr (.ref 603, 13), .inr (.ref 643, 40001), .inl i, zj, zj, zj, zj] [] b' I' L') : RZ (d + 33) k_L_law Q 1796 [.inr (.ref 10100, 80000), .inr (.ref 0, 12), .inr (.ref 603, 13), .inr (.ref 643, 40001), .inl i, zj, zj, zj, zj] [] b I L := by
  have hC := hJ.1
  have hA9 := hJ.1.wfa
  obtain ⟨k, hk9⟩ : ∃ z : Int, z = zs (XX Ln xs) 10100 (i + 1) := ⟨_, rfl⟩
  have zk9 : zR k := by rw [hk9]; exact zs_z _ _ _
  refine T.go [2061] 200 ?_
  conv => whnf
  refine ⟨by exact ⟨by omega, by show _ < ((Ln : Nat) : Int); omega, by omega⟩, ?_⟩
  conv => whnf
  rw [← hk9]
  refine ⟨1, by omega, s_L_remove T  (by first | assumption | omega | rfl | decide) (by first | exact hJ.1 | assumption | decide | omega) (by first | exact hJ.1 | assumption | decide | omega) ?_ ?_⟩
  · intro cha_1804 chb_1804 I_1804 L_1804 hf_1804 hg_1804 hC_1804
    have hM9 := hJ.2.near hA9 (fun a b g => hf_1804 a b (fun c => by unfold PCh at c; omega))
    conv => whnf
    refine ⟨by exact ⟨by omega, by show _ < ((Ln : Nat) : Int); omega, by omega⟩, ?_⟩
    conv => whnf
    rw [← hk9]
    refine zinv0 (s_X12_remove T  (by first | exact hM9 | exact hA9 | assumption | decide | omega) (by first | exact hM9 | exact hA9 | assumption | decide | omega) (by first | exact hM9 | exact hA9 | assumption | decide | omega) ?_ ?_)
    · intro rcha_1816 rchb_1816 Ir_1816 hfr_1816 htr_1816 hCr_1816
      have hzr : zR (((mN M - 1 : Nat) : Int)) := by
        have := hC.2.2.1.2.1
        exact ⟨by omega, by omega⟩
      conv => whnf
      refine zinv0 (s_X12_thrown T   ?_)
      conv => whnf
      refine ⟨by rw [htr_1816]; decide, fun c1827 => ?_, fun c1827 => by exfalso; exact c1827 htr_1816⟩
      conv => whnf
      refine ⟨by decide, fun c => absurd c (by decide), fun _ => ?_⟩
      conv => whnf
      refine ⟨by omega, ?_⟩
      conv => whnf
      refine ⟨by first | exact hzr | decide | omega, ?_⟩
      conv => whnf
      refine ⟨fun c1843 => ?_, fun c1843 => ?_, fun c1843 => ?_⟩
      · conv => whnf
        refine ⟨by decide, fun c => absurd c (by decide), fun _ => ?_⟩
        conv => whnf
        refine ⟨by omega, ?_⟩
        exact absurd c1843 (lt_w rfl)
      · conv => whnf
        refine ⟨by decide, fun _ => ?_, fun c => absurd c (by decide)⟩
        conv => whnf
        refine T.fg [5, 6] ?_
        exact hk _ _ _ _ _ _ _ _ _ _ _ (by omega) (JB.mk hC_1804 hCr_1816 (fun a b g => hfr_1816 a b (fun c => by unfold PMd at c; omega)) (fun a b g => w2_ne (by omega)) (fun t ht => hf_1804 _ _ (fun c => by unfold PCh at c; omega)))
      · conv => whnf
        refine ⟨by decide, fun c => absurd c (by decide), fun _ => ?_⟩
        conv => whnf
        refine ⟨by omega, ?_⟩
        exact absurd c1843 (gt_w rfl)
    · intro rch2a_1816 Ir_1816 hfr_1816 htr_1816 hCr_1816
      exfalso; omega
  · intro ch2a_1804
    have hM9 := hJ.2
    conv => whnf
    refine ⟨by exact ⟨by omega, by show _ < ((Ln : Nat) : Int); omega, by omega⟩, ?_⟩
    conv => whnf
    rw [← hk9]
    refine zinv0 (s_X12_remove T  (by first | exact hM9 | exact hA9 | assumption | decide | omega) (by first | exact hM9 | exact hA9 | assumption | decide | omega) (by first | exact hM9 | exact hA9 | assumption | decide | omega) ?_ ?_)
    · intro rcha_1816 rchb_1816 Ir_1816 hfr_1816 htr_1816 hCr_1816
      exfalso; omega
    · intro rch2a_1816 Ir_1816 hfr_1816 htr_1816 hCr_1816
      conv => whnf
      refine zinv0 (s_X12_thrown T   ?_)
      conv => whnf
      refine ⟨by rw [htr_1816]; decide, fun c1827 => ?_, fun c1827 => by exfalso; exact c1827 htr_1816⟩
      conv => whnf
      refine ⟨by decide, fun _ => ?_, fun c => absurd c (by decide)⟩
      conv => whnf
      refine T.fg [5, 6] ?_
      exact hk _ _ _ _ _ _ _ _ _ _ _ (by omega) (JB.mk hC hCr_1816 (fun a b g => hfr_1816 a b (fun c => by unfold PSc at c; omega)) (fun a b g => rfl) (fun t ht => rfl))
theorem l_op_solve (T : ZTh (XX Ln xs) CZ RZ) {d b : Nat} {Q : ZQ} {W H n bl : Nat} {M : Mo} {P SL : Nat → Mo} {u : Nat → Int} {i : Int} {I : ZI} {L : ZL} (hJ : JB I L W H M P n SL bl u) (hi : 0 ≤ i ∧ i + 6 ≤ (Ln : Int) ∧ Ln ≤ 3072) (hb3 : 3 ≤ b) (hk : ∀ (I' : ZI) (L' : ZL) (W' H' : Nat) (M' : Mo) (P' : Nat → Mo) (n' : Nat) (SL' : Nat → Mo) (bl' : Nat) (u' : Nat → Int) (b' : Nat), b ≤ b' + 3 → JB I' L' W' H' M' P' n' SL' bl' u' → RZ (d + 33) k_L_law Q 2061 [.inr (.ref 10100, 80000), .inr (.ref 0, 12), .inr (.ref 603, 13), .inr (.ref 643, 40001), .inl i, zj, zj, zj, zj] [] b' I' L') : RZ (d + 33) k_L_law Q 1852 [.inr (.ref 10100, 80000), .inr (.ref 0, 12), .inr (.ref 603, 13), .inr (.ref 643, 40001), .inl i, zj, zj, zj, zj] [] b I L := by
  have hC := hJ.1
  have hA9 := hJ.1.wfa
  obtain ⟨k, hk9⟩ : ∃ z : Int, z = zs (XX Ln xs) 10100 (i + 1) := ⟨_, rfl⟩
  have zk9 : zR k := by rw [hk9]; exact zs_z _ _ _
  refine T.go [2061] 200 ?_
  conv => whnf
  refine ⟨by exact ⟨by omega, by show _ < ((Ln : Nat) : Int); omega, by omega⟩, ?_⟩
  conv => whnf
  rw [← hk9]
  refine ⟨1, by omega, s_L_solve T  (by first | assumption | omega | rfl | decide) (by first | exact hJ.1 | assumption | decide | omega) (by first | exact hJ.1 | assumption | decide | omega) ?_ ?_ ?_⟩
  · intro cha_1860 chb_1860 chc_1860 I_1860 L_1860 hf_1860 hg_1860 hC_1860
    have hM9 := hJ.2.near hA9 (fun a b g => hf_1860 a b (fun c => by unfold PCh at c; omega))
    conv => whnf
    refine ⟨by exact ⟨by omega, by show _ < ((Ln : Nat) : Int); omega, by omega⟩, ?_⟩
    conv => whnf
    rw [← hk9]
    refine zinv0 (s_X12_solve T  (by first | exact hM9 | exact hA9 | assumption | decide | omega) (by first | exact hM9 | exact hA9 | assumption | decide | omega) (by first | exact hM9 | exact hA9 | assumption | decide | omega) ?_ ?_ ?_)
    · intro rcha_1872 rchb_1872 rchc_1872 Ir_1872 hfr_1872 htr_1872 hCr_1872
      conv => whnf
      refine zinv0 (s_X12_thrown T   ?_)
      conv => whnf
      refine ⟨by rw [htr_1872]; decide, fun c1883 => ?_, fun c1883 => by exfalso; exact c1883 htr_1872⟩
      conv => whnf
      refine ⟨by decide, fun c => absurd c (by decide), fun _ => ?_⟩
      conv => whnf
      refine ⟨by omega, ?_⟩
      conv => whnf
      refine ⟨by decide, fun c => absurd c (by decide), fun _ => ?_⟩
      conv => whnf
      refine ⟨fun c1906 => ?_, fun c1906 => ?_, fun c1906 => ?_⟩
      · conv => whnf
        refine ⟨by decide, fun c => absurd c (by decide), fun _ => ?_⟩
        conv => whnf
        refine ⟨by omega, ?_⟩
        exact absurd c1906 (lt_w rfl)
      · conv => whnf
        refine ⟨by decide, fun _ => ?_, fun c => absurd c (by decide)⟩
        conv => whnf
        refine T.fg [5, 6] ?_
        exact hk _ _ _ _ _ _ _ _ _ _ _ (by omega) (JB.mk hC_1860 hCr_1872 (fun a b g => hfr_1872 a b (fun c => by unfold PMd at c; omega)) (fun a b g => w2_ne (by omega)) (fun t ht => hf_1860 _ _ (fun c => by unfold PCh at c; omega)))
      · conv => whnf
        refine ⟨by decide, fun c => absurd c (by decide), fun _ => ?_⟩
        conv => whnf
        refine ⟨by omega, ?_⟩
        exact absurd c1906 (gt_w rfl)
    · intro rch0a_1872 rch0b_1872 rch0c_1872 Ir_1872 hfr_1872 htr_1872 hCr_1872
      exfalso; omega
    · intro rch2a_1872 Ir_1872 hfr_1872 htr_1872 hCr_1872
      exfalso; omega
  · intro ch0a_1860 ch0b_1860 ch0c_1860 I_1860 L_1860 hf_1860 hg_1860 hC_1860
    have hM9 := hJ.2.near hA9 (fun a b g => hf_1860 a b (fun c => by unfold PQ at c; omega))
    conv => whnf
    refine ⟨by exact ⟨by omega, by show _ < ((Ln : Nat) : Int); omega, by omega⟩, ?_⟩
    conv => whnf
    rw [← hk9]
    refine zinv0 (s_X12_solve T  (by first | exact hM9 | exact hA9 | assumption | decide | omega) (by first | exact hM9 | exact hA9 | assumption | decide | omega) (by first | exact hM9 | exact hA9 | assumption | decide | omega) ?_ ?_ ?_)
    · intro rcha_1872 rchb_1872 rchc_1872 Ir_1872 hfr_1872 htr_1872 hCr_1872
      exfalso; omega
    · intro rch0a_1872 rch0b_1872 rch0c_1872 Ir_1872 hfr_1872 htr_1872 hCr_1872
      conv => whnf
      refine zinv0 (s_X12_thrown T   ?_)
      conv => whnf
      refine ⟨by rw [htr_1872]; decide, fun c1883 => ?_, fun c1883 => by exfalso; exact c1883 htr_1872⟩
      conv => whnf
      refine ⟨by decide, fun c => absurd c (by decide), fun _ => ?_⟩
      conv => whnf
      refine ⟨by omega, ?_⟩
      conv => whnf
      refine ⟨by decide, fun _ => ?_, fun c => absurd c (by decide)⟩
      conv => whnf
      refine ⟨fun c1906 => ?_, fun c1906 => ?_, fun c1906 => ?_⟩
      · conv => whnf
        refine ⟨by decide, fun c => absurd c (by decide), fun _ => ?_⟩
        conv => whnf
        refine ⟨by omega, ?_⟩
        exact absurd c1906 (lt_w rfl)
      · conv => whnf
        refine ⟨by decide, fun _ => ?_, fun c => absurd c (by decide)⟩
        conv => whnf
        refine T.fg [5, 6] ?_
        exact hk _ _ _ _ _ _ _ _ _ _ _ (by omega) (JB.mk hC_1860 hCr_1872 (fun a b g => hfr_1872 a b (fun c => by unfold PSc at c; omega)) (fun a b g => w2_ne (by omega)) (fun t ht => hf_1860 _ _ (fun c => by unfold PQ at c; omega)))
      · conv => whnf
        refine ⟨by decide, fun c => absurd c (by decide), fun _ => ?_⟩
        conv => whnf
        refine ⟨by omega, ?_⟩
        exact absurd c1906 (gt_w rfl)
    · intro rch2a_1872 Ir_1872 hfr_1872 htr_1872 hCr_1872
      exfalso; omega
  · intro ch2a_1860
    have hM9 := hJ.2
    conv => whnf
    refine ⟨by exact ⟨by omega, by show _ < ((Ln : Nat) : Int); omega, by omega⟩, ?_⟩
    conv => whnf
    rw [← hk9]
    refine zinv0 (s_X12_solve T  (by first | exact hM9 | exact hA9 | assumption | decide | omega) (by first | exact hM9 | exact hA9 | assumption | decide | omega) (by first | exact hM9 | exact hA9 | assumption | decide | omega) ?_ ?_ ?_)
    · intro rcha_1872 rchb_1872 rchc_1872 Ir_1872 hfr_1872 htr_1872 hCr_1872
      exfalso; omega
    · intro rch0a_1872 rch0b_1872 rch0c_1872 Ir_1872 hfr_1872 htr_1872 hCr_1872
      exfalso; omega
    · intro rch2a_1872 Ir_1872 hfr_1872 htr_1872 hCr_1872
      conv => whnf
      refine zinv0 (s_X12_thrown T   ?_)
      conv => whnf
      refine ⟨by rw [htr_1872]; decide, fun c1883 => ?_, fun c1883 => by exfalso; exact c1883 htr_1872⟩
      conv => whnf
      refine ⟨by decide, fun _ => ?_, fun c => absurd c (by decide)⟩
      conv => whnf
      refine T.fg [5, 6] ?_
      exact hk _ _ _ _ _ _ _ _ _ _ _ (by omega) (JB.mk hC hCr_1872 (fun a b g => hfr_1872 a b (fun c => by unfold PSc at c; omega)) (fun a b g => rfl) (fun t ht => rfl))
theorem l_op_undo (T : ZTh (XX Ln xs) CZ RZ) {d b : Nat} {Q : ZQ} {W H n bl : Nat} {M : Mo} {P SL : Nat → Mo} {u : Nat → Int} {i : Int} {I : ZI} {L : ZL} (hJ : JB I L W H M P n SL bl u) (hi : 0 ≤ i ∧ i + 6 ≤ (Ln : Int) ∧ Ln ≤ 3072) (hb3 : 3 ≤ b) (hk : ∀ (I' : ZI) (L' : ZL) (W' H' : Nat) (M' : Mo) (P' : Nat → Mo) (n' : Nat) (SL' : Nat → Mo) (bl' : Nat) (u' : Nat → Int) (b' : Nat), b ≤ b' + 3 → JB I' L' W' H' M' P' n' SL' bl' u' → RZ (d + 33) k_L_law Q 2061 [.inr (.ref 10100, 80000), .inr (.ref 0, 12), .inr (.ref 603, 13), .inr (.ref 643, 40001), .inl i, zj, zj, zj, zj] [] b' I' L') : RZ (d + 33) k_L_law Q 1915 [.inr (.ref 10100, 80000), .inr (.ref 0, 12), .inr (.ref 603, 13), .inr (.ref 643, 40001), .inl i, zj, zj, zj, zj] [] b I L := by
  have hC := hJ.1
  have hA9 := hJ.1.wfa
  refine T.go [2061] 200 ?_
  conv => whnf
  refine zinv0 (s_X11_undo T  (by first | exact hJ.1 | assumption | decide | omega) ?_ ?_)
  · intro cha_1916 I_1916 L_1916 hf_1916 hg_1916 hC_1916
    have hM9 := hJ.2.near hA9 (fun a b g => hf_1916 a b (fun c => by unfold PCh at c; omega))
    have hzv : zR (((n - 1 : Nat) : Int)) := by
      have : n ≤ 8 := hC.2.2.2.2.1.1
      exact ⟨by omega, by omega⟩
    conv => whnf
    refine zinv0 (s_X12_undo T  (by first | exact hM9 | exact hA9 | assumption | decide | omega) (by first | exact hM9 | exact hA9 | assumption | decide | omega) ?_ ?_)
    · intro rcha_1920 Ir_1920 hfr_1920 htr_1920 hCr_1920
      conv => whnf
      refine ⟨by first | exact ⟨hzv, hzv⟩ | omega, fun c1923 => ?_, fun c1923 => by exfalso; exact c1923 rfl⟩
      conv => whnf
      exact hk _ _ _ _ _ _ _ _ _ _ _ (by omega) (JB.mk hC_1916 hCr_1920 (fun a b g => hfr_1920 a b (fun c => by unfold PMd at c; omega)) (fun a b g => rfl) (fun t ht => hf_1916 _ _ (fun c => by unfold PCh at c; omega)))
    · intro rch2a_1920 Ir_1920 hfr_1920 htr_1920 hCr_1920
      exfalso; omega
  · intro ch2a_1916
    have hM9 := hJ.2
    conv => whnf
    refine zinv0 (s_X12_undo T  (by first | exact hM9 | exact hA9 | assumption | decide | omega) (by first | exact hM9 | exact hA9 | assumption | decide | omega) ?_ ?_)
    · intro rcha_1920 Ir_1920 hfr_1920 htr_1920 hCr_1920
      exfalso; omega
    · intro rch2a_1920 Ir_1920 hfr_1920 htr_1920 hCr_1920
      conv => whnf
      refine ⟨by first | exact ⟨hzv, hzv⟩ | omega, fun c1923 => ?_, fun c1923 => by exfalso; exact c1923 rfl⟩
      conv => whnf
      exact hk _ _ _ _ _ _ _ _ _ _ _ (by omega) (JB.mk hC hCr_1920 (fun a b g => hfr_1920 a b (fun c => by unfold PSc at c; omega)) (fun a b g => rfl) (fun t ht => rfl))
theorem l_op_saveSnapshot (T : ZTh (XX Ln xs) CZ RZ) {d b : Nat} {Q : ZQ} {W H n bl : Nat} {M : Mo} {P SL : Nat → Mo} {u : Nat → Int} {i : Int} {I : ZI} {L : ZL} (hJ : JB I L W H M P n SL bl u) (hi : 0 ≤ i ∧ i + 6 ≤ (Ln : Int) ∧ Ln ≤ 3072) (hb3 : 3 ≤ b) (hk : ∀ (I' : ZI) (L' : ZL) (W' H' : Nat) (M' : Mo) (P' : Nat → Mo) (n' : Nat) (SL' : Nat → Mo) (bl' : Nat) (u' : Nat → Int) (b' : Nat), b ≤ b' + 3 → JB I' L' W' H' M' P' n' SL' bl' u' → RZ (d + 33) k_L_law Q 2061 [.inr (.ref 10100, 80000), .inr (.ref 0, 12), .inr (.ref 603, 13), .inr (.ref 643, 40001), .inl i, zj, zj, zj, zj] [] b' I' L') : RZ (d + 33) k_L_law Q 1928 [.inr (.ref 10100, 80000), .inr (.ref 0, 12), .inr (.ref 603, 13), .inr (.ref 643, 40001), .inl i, zj, zj, zj, zj] [] b I L := by
  have hC := hJ.1
  have hA9 := hJ.1.wfa
  obtain ⟨k, hk9⟩ : ∃ z : Int, z = zs (XX Ln xs) 10100 (i + 1) := ⟨_, rfl⟩
  have zk9 : zR k := by rw [hk9]; exact zs_z _ _ _
  refine T.go [2061] 200 ?_
  conv => whnf
  refine ⟨by exact ⟨by omega, by show _ < ((Ln : Nat) : Int); omega, by omega⟩, ?_⟩
  conv => whnf
  rw [← hk9]
  refine ⟨1, by omega, s_L_saveSnapshot T  (by first | assumption | omega | rfl | decide) (by first | exact hJ.1 | assumption | decide | omega) (by first | exact hJ.1 | assumption | decide | omega) ?_ ?_⟩
  · intro cha_1936 I_1936 L_1936 hf_1936 hg_1936 hv_1936 hC_1936
    have hM9 := hJ.2.near hA9 (fun a b g => hf_1936 a b (fun c => by have c9 : a ≤ 574 := c; omega))
    conv => whnf
    refine ⟨by exact ⟨by omega, by show _ < ((Ln : Nat) : Int); omega, by omega⟩, ?_⟩
    conv => whnf
    rw [← hk9]
    refine zinv0 (s_X12_saveSnapshot T  (by first | exact hM9 | exact hA9 | assumption | decide | omega) (by first | exact hM9 | exact hA9 | assumption | decide | omega) (by first | exact hM9 | exact hA9 | assumption | decide | omega) ?_ ?_)
    · intro rcha_1948 Ir_1948 hfr_1948 htr_1948 hCr_1948
      have hzr : zR (I 526 ((k.toNat : Nat) : Int)) := by
        have := (hC.2.2.2.2.2.2.1 k.toNat (by omega)).1
        exact ⟨by omega, by omega⟩
      conv => whnf
      refine zinv0 (s_X12_thrown T   ?_)
      conv => whnf
      refine ⟨by rw [htr_1948]; decide, fun c1959 => ?_, fun c1959 => by exfalso; exact c1959 htr_1948⟩
      conv => whnf
      refine ⟨by decide, fun c => absurd c (by decide), fun _ => ?_⟩
      conv => whnf
      refine ⟨by omega, ?_⟩
      conv => whnf
      refine ⟨by first | exact hzr | decide | omega, fun c1974 => ?_, fun c1974 => ?_⟩
      · conv => whnf
        refine ⟨fun c1982 => ?_, fun c1982 => ?_, fun c1982 => ?_⟩
        · conv => whnf
          refine ⟨by decide, fun c => absurd c (by decide), fun _ => ?_⟩
          conv => whnf
          refine ⟨by omega, ?_⟩
          refine absurd c1982 (lt_w ?_)
          show l6 (I 526 k) = l6 0
          have e9 : I 526 ((k.toNat : Nat) : Int) = I 526 k := by rw [show ((k.toNat : Nat) : Int) = k by omega]
          have r9 : I 526 ((k.toNat : Nat) : Int) = 0 := c1974
          rw [e9] at r9
          have := (hC.2.2.2.2.2.2.1 k.toNat (by omega)).1
          rw [e9] at this
          rw [show I 526 k = 0 by omega]
        · conv => whnf
          refine ⟨by decide, fun _ => ?_, fun c => absurd c (by decide)⟩
          conv => whnf
          refine T.fg [5, 6] ?_
          exact hk _ _ _ _ _ _ _ _ _ _ _ (by omega) (JB.mk hC_1936 hCr_1948 (fun a b g => hfr_1948 a b (fun c => by unfold PMd at c; omega)) (fun a b g => w2_ne (by omega)) (fun t ht => hv_1936 t ht))
        · conv => whnf
          refine ⟨by decide, fun c => absurd c (by decide), fun _ => ?_⟩
          conv => whnf
          refine ⟨by omega, ?_⟩
          refine absurd c1982 (gt_w ?_)
          show l6 (I 526 k) = l6 0
          have e9 : I 526 ((k.toNat : Nat) : Int) = I 526 k := by rw [show ((k.toNat : Nat) : Int) = k by omega]
          have r9 : I 526 ((k.toNat : Nat) : Int) = 0 := c1974
          rw [e9] at r9
          have := (hC.2.2.2.2.2.2.1 k.toNat (by omega)).1
          rw [e9] at this
          rw [show I 526 k = 0 by omega]
      · conv => whnf
        refine ⟨fun c1982 => ?_, fun c1982 => ?_, fun c1982 => ?_⟩
        · conv => whnf
          refine ⟨by decide, fun c => absurd c (by decide), fun _ => ?_⟩
          conv => whnf
          refine ⟨by omega, ?_⟩
          refine absurd c1982 (lt_w ?_)
          show l6 (I 526 k) = l6 1
          have e9 : I 526 ((k.toNat : Nat) : Int) = I 526 k := by rw [show ((k.toNat : Nat) : Int) = k by omega]
          have r9 : ¬ I 526 ((k.toNat : Nat) : Int) = 0 := c1974
          rw [e9] at r9
          have := (hC.2.2.2.2.2.2.1 k.toNat (by omega)).1
          rw [e9] at this
          rw [show I 526 k = 1 by omega]
        · conv => whnf
          refine ⟨by decide, fun _ => ?_, fun c => absurd c (by decide)⟩
          conv => whnf
          refine T.fg [5, 6] ?_
          exact hk _ _ _ _ _ _ _ _ _ _ _ (by omega) (JB.mk hC_1936 hCr_1948 (fun a b g => hfr_1948 a b (fun c => by unfold PMd at c; omega)) (fun a b g => w2_ne (by omega)) (fun t ht => hv_1936 t ht))
        · conv => whnf
          refine ⟨by decide, fun c => absurd c (by decide), fun _ => ?_⟩
          conv => whnf
          refine ⟨by omega, ?_⟩
          refine absurd c1982 (gt_w ?_)
          show l6 (I 526 k) = l6 1
          have e9 : I 526 ((k.toNat : Nat) : Int) = I 526 k := by rw [show ((k.toNat : Nat) : Int) = k by omega]
          have r9 : ¬ I 526 ((k.toNat : Nat) : Int) = 0 := c1974
          rw [e9] at r9
          have := (hC.2.2.2.2.2.2.1 k.toNat (by omega)).1
          rw [e9] at this
          rw [show I 526 k = 1 by omega]
    · intro rch2a_1948 Ir_1948 hfr_1948 htr_1948 hCr_1948
      exfalso; omega
  · intro ch2a_1936
    have hM9 := hJ.2
    conv => whnf
    refine ⟨by exact ⟨by omega, by show _ < ((Ln : Nat) : Int); omega, by omega⟩, ?_⟩
    conv => whnf
    rw [← hk9]
    refine zinv0 (s_X12_saveSnapshot T  (by first | exact hM9 | exact hA9 | assumption | decide | omega) (by first | exact hM9 | exact hA9 | assumption | decide | omega) (by first | exact hM9 | exact hA9 | assumption | decide | omega) ?_ ?_)
    · intro rcha_1948 Ir_1948 hfr_1948 htr_1948 hCr_1948
      exfalso; omega
    · intro rch2a_1948 Ir_1948 hfr_1948 htr_1948 hCr_1948
      conv => whnf
      refine zinv0 (s_X12_thrown T   ?_)
      conv => whnf
      refine ⟨by rw [htr_1948]; decide, fun c1959 => ?_, fun c1959 => by exfalso; exact c1959 htr_1948⟩
      conv => whnf
      refine ⟨by decide, fun _ => ?_, fun c => absurd c (by decide)⟩
      conv => whnf
      refine T.fg [5, 6] ?_
      exact hk _ _ _ _ _ _ _ _ _ _ _ (by omega) (JB.mk hC hCr_1948 (fun a b g => hfr_1948 a b (fun c => by unfold PSc at c; omega)) (fun a b g => rfl) (fun t ht => rfl))
theorem l_op_restoreSnapshot (T : ZTh (XX Ln xs) CZ RZ) {d b : Nat} {Q : ZQ} {W H n bl : Nat} {M : Mo} {P SL : Nat → Mo} {u : Nat → Int} {i : Int} {I : ZI} {L : ZL} (hJ : JB I L W H M P n SL bl u) (hi : 0 ≤ i ∧ i + 6 ≤ (Ln : Int) ∧ Ln ≤ 3072) (hb3 : 3 ≤ b) (hk : ∀ (I' : ZI) (L' : ZL) (W' H' : Nat) (M' : Mo) (P' : Nat → Mo) (n' : Nat) (SL' : Nat → Mo) (bl' : Nat) (u' : Nat → Int) (b' : Nat), b ≤ b' + 3 → JB I' L' W' H' M' P' n' SL' bl' u' → RZ (d + 33) k_L_law Q 2061 [.inr (.ref 10100, 80000), .inr (.ref 0, 12), .inr (.ref 603, 13), .inr (.ref 643, 40001), .inl i, zj, zj, zj, zj] [] b' I' L') : RZ (d + 33) k_L_law Q 1991 [.inr (.ref 10100, 80000), .inr (.ref 0, 12), .inr (.ref 603, 13), .inr (.ref 643, 40001), .inl i, zj, zj, zj, zj] [] b I L := by
  have hC := hJ.1
  have hA9 := hJ.1.wfa
  obtain ⟨k, hk9⟩ : ∃ z : Int, z = zs (XX Ln xs) 10100 (i + 1) := ⟨_, rfl⟩
  have zk9 : zR k := by rw [hk9]; exact zs_z _ _ _
  refine T.go [2061] 200 ?_
  conv => whnf
  refine ⟨by exact ⟨by omega, by show _ < ((Ln : Nat) : Int); omega, by omega⟩, ?_⟩
  conv => whnf
  rw [← hk9]
  refine ⟨2, by omega, s_L_restoreSnapshot T  (by first | assumption | omega | rfl | decide) (by first | exact hJ.1 | assumption | decide | omega) (by first | exact hJ.1 | assumption | decide | omega) ?_ ?_ ?_⟩
  · intro cha_1999 chb_1999 I_1999 L_1999 hf_1999 hg_1999 hC_1999
    have hM9 := hJ.2.near hA9 (fun a b g => hf_1999 a b (fun c => by unfold PCh at c; omega))
    conv => whnf
    refine ⟨by exact ⟨by omega, by show _ < ((Ln : Nat) : Int); omega, by omega⟩, ?_⟩
    conv => whnf
    rw [← hk9]
    refine zinv0 (s_X12_restoreSnapshot T  (by first | exact hM9 | exact hA9 | assumption | decide | omega) (by first | exact hM9 | exact hA9 | assumption | decide | omega) (by first | exact hM9 | exact hA9 | assumption | decide | omega) ?_ ?_ ?_)
    · intro rcha_2011 rchb_2011 Ir_2011 hfr_2011 htr_2011 hCr_2011
      have hzr : zR (plN (SL k.toNat)) := by
        exact z_cn _ _ (by omega)
      conv => whnf
      refine zinv0 (s_X12_thrown T   ?_)
      conv => whnf
      refine ⟨by rw [htr_2011]; decide, fun c2022 => ?_, fun c2022 => by exfalso; exact c2022 htr_2011⟩
      conv => whnf
      refine ⟨by decide, fun c => absurd c (by decide), fun _ => ?_⟩
      conv => whnf
      refine ⟨by omega, ?_⟩
      conv => whnf
      refine ⟨by first | exact hzr | decide | omega, ?_⟩
      conv => whnf
      refine ⟨fun c2038 => ?_, fun c2038 => ?_, fun c2038 => ?_⟩
      · conv => whnf
        refine ⟨by decide, fun c => absurd c (by decide), fun _ => ?_⟩
        conv => whnf
        refine ⟨by omega, ?_⟩
        exact absurd c2038 (lt_w rfl)
      · conv => whnf
        refine ⟨by decide, fun _ => ?_, fun c => absurd c (by decide)⟩
        conv => whnf
        refine T.fg [5, 6] ?_
        exact hk _ _ _ _ _ _ _ _ _ _ _ (by omega) (JB.mk hC_1999 hCr_2011 (fun a b g => hfr_2011 a b (fun c => by unfold PMd at c; omega)) (fun a b g => w2_ne (by omega)) (fun t ht => hf_1999 _ _ (fun c => by unfold PCh at c; omega)))
      · conv => whnf
        refine ⟨by decide, fun c => absurd c (by decide), fun _ => ?_⟩
        conv => whnf
        refine ⟨by omega, ?_⟩
        exact absurd c2038 (gt_w rfl)
    · intro rch2a_2011 Ir_2011 hfr_2011 htr_2011 hCr_2011
      exfalso; omega
    · intro rch3a_2011 rch3b_2011 Ir_2011 hfr_2011 htr_2011 hCr_2011
      exfalso
      have e9 : I 526 ((k.toNat : Nat) : Int) = I 526 k := by rw [show ((k.toNat : Nat) : Int) = k by omega]
      have r9 : ¬ I 526 ((k.toNat : Nat) : Int) = 1 := rch3b_2011
      rw [e9] at r9
      exact r9 chb_1999
  · intro ch2a_1999
    have hM9 := hJ.2
    conv => whnf
    refine ⟨by exact ⟨by omega, by show _ < ((Ln : Nat) : Int); omega, by omega⟩, ?_⟩
    conv => whnf
    rw [← hk9]
    refine zinv0 (s_X12_restoreSnapshot T  (by first | exact hM9 | exact hA9 | assumption | decide | omega) (by first | exact hM9 | exact hA9 | assumption | decide | omega) (by first | exact hM9 | exact hA9 | assumption | decide | omega) ?_ ?_ ?_)
    · intro rcha_2011 rchb_2011 Ir_2011 hfr_2011 htr_2011 hCr_2011
      exfalso; omega
    · intro rch2a_2011 Ir_2011 hfr_2011 htr_2011 hCr_2011
      conv => whnf
      refine zinv0 (s_X12_thrown T   ?_)
      conv => whnf
      refine ⟨by rw [htr_2011]; decide, fun c2022 => ?_, fun c2022 => by exfalso; exact c2022 htr_2011⟩
      conv => whnf
      refine ⟨by decide, fun _ => ?_, fun c => absurd c (by decide)⟩
      conv => whnf
      refine T.fg [5, 6] ?_
      exact hk _ _ _ _ _ _ _ _ _ _ _ (by omega) (JB.mk hC hCr_2011 (fun a b g => hfr_2011 a b (fun c => by unfold PSc at c; omega)) (fun a b g => rfl) (fun t ht => rfl))
    · intro rch3a_2011 rch3b_2011 Ir_2011 hfr_2011 htr_2011 hCr_2011
      exfalso; omega
  · intro ch3a_1999 ch3b_1999
    have hM9 := hJ.2
    conv => whnf
    refine ⟨by exact ⟨by omega, by show _ < ((Ln : Nat) : Int); omega, by omega⟩, ?_⟩
    conv => whnf
    rw [← hk9]
    refine zinv0 (s_X12_restoreSnapshot T  (by first | exact hM9 | exact hA9 | assumption | decide | omega) (by first | exact hM9 | exact hA9 | assumption | decide | omega) (by first | exact hM9 | exact hA9 | assumption | decide | omega) ?_ ?_ ?_)
    · intro rcha_2011 rchb_2011 Ir_2011 hfr_2011 htr_2011 hCr_2011
      exfalso
      have e9 : I 526 ((k.toNat : Nat) : Int) = I 526 k := by rw [show ((k.toNat : Nat) : Int) = k by omega]
      have r9 : I 526 ((k.toNat : Nat) : Int) = 1 := rchb_2011
      rw [e9] at r9
      exact ch3b_1999 r9
    · intro rch2a_2011 Ir_2011 hfr_2011 htr_2011 hCr_2011
      exfalso; omega
    · intro rch3a_2011 rch3b_2011 Ir_2011 hfr_2011 htr_2011 hCr_2011
      conv => whnf
      refine zinv0 (s_X12_thrown T   ?_)
      conv => whnf
      refine ⟨by rw [htr_2011]; decide, fun c2022 => ?_, fun c2022 => by exfalso; exact c2022 htr_2011⟩
      conv => whnf
      refine ⟨by decide, fun _ => ?_, fun c => absurd c (by decide)⟩
      conv => whnf
      refine T.fg [5, 6] ?_
      exact hk _ _ _ _ _ _ _ _ _ _ _ (by omega) (JB.mk hC hCr_2011 (fun a b g => hfr_2011 a b (fun c => by unfold PSc at c; omega)) (fun a b g => rfl) (fun t ht => rfl))
theorem l_op_checksum (T : ZTh (XX Ln xs) CZ RZ) {d b : Nat} {Q : ZQ} {W H n bl : Nat} {M : Mo} {P SL : Nat → Mo} {u : Nat → Int} {i : Int} {I : ZI} {L : ZL} (hJ : JB I L W H M P n SL bl u) (hi : 0 ≤ i ∧ i + 6 ≤ (Ln : Int) ∧ Ln ≤ 3072) (hb3 : 3 ≤ b) (hk : ∀ (I' : ZI) (L' : ZL) (W' H' : Nat) (M' : Mo) (P' : Nat → Mo) (n' : Nat) (SL' : Nat → Mo) (bl' : Nat) (u' : Nat → Int) (b' : Nat), b ≤ b' + 3 → JB I' L' W' H' M' P' n' SL' bl' u' → RZ (d + 33) k_L_law Q 2061 [.inr (.ref 10100, 80000), .inr (.ref 0, 12), .inr (.ref 603, 13), .inr (.ref 643, 40001), .inl i, zj, zj, zj, zj] [] b' I' L') : RZ (d + 33) k_L_law Q 2047 [.inr (.ref 10100, 80000), .inr (.ref 0, 12), .inr (.ref 603, 13), .inr (.ref 643, 40001), .inl i, zj, zj, zj, zj] [] b I L := by
  have hC := hJ.1
  have hA9 := hJ.1.wfa
  refine T.go [2061] 200 ?_
  conv => whnf
  refine zinv0 (s_X11_checksum T  (by first | exact hJ.1 | assumption | decide | omega) ?_)
  have hM9 := hJ.2
  conv => whnf
  refine zinv0 (s_X12_checksum T  (by first | exact hM9 | exact hA9 | assumption | decide | omega) (by first | exact hM9 | exact hA9 | assumption | decide | omega) ?_)
  intro Ir_2052 hfr_2052 htr_2052 hCr_2052
  conv => whnf
  refine ⟨fun c2055 => ?_, fun c2055 => ?_, fun c2055 => ?_⟩
  · conv => whnf
    refine ⟨by decide, fun c => absurd c (by decide), fun _ => ?_⟩
    conv => whnf
    refine ⟨by omega, ?_⟩
    exact absurd c2055 (lt_no rfl)
  · conv => whnf
    refine ⟨by decide, fun _ => ?_, fun c => absurd c (by decide)⟩
    conv => whnf
    exact hk _ _ _ _ _ _ _ _ _ _ _ (by omega) (JB.mk hC hCr_2052 (fun a b g => hfr_2052 a b (fun c => by unfold PSc at c; omega)) (fun a b g => rfl) (fun t ht => rfl))
  · conv => whnf
    refine ⟨by decide, fun c => absurd c (by decide), fun _ => ?_⟩
    conv => whnf
    refine ⟨by omega, ?_⟩
    exact absurd c2055 (lt_no rfl)
end
