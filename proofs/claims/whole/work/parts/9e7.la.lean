/-! THE LAW, 3: calls -/
section
variable {Ln : Nat} {xs : Nat → Int32} {CZ : Nat → ZC} {RZ : Nat → Nat → ZQ → ZP}
theorem lt_no {a b : Int64} (h : a = b) : ¬ a < b := by
  rw [h]
  exact Int64.lt_irrefl
theorem lt_w {L : ZL} {r : Nat} {i : Int} {v b : Int64} (h : v = b) : ¬ w2 L r i v r i < b := lt_no ((w2_eq _ _ _ _).trans h)
theorem gt_w {L : ZL} {r : Nat} {i : Int} {v b : Int64} (h : v = b) : ¬ b < w2 L r i v r i := lt_no ((w2_eq _ _ _ _).trans h).symm
theorem bi_01 {v : Int} (h : v = 0 ∨ v = 1) (h0 : ¬ v = 0) : v = 1 := by omega
theorem l_op_append (T : ZTh (XX Ln xs) CZ RZ) {d b : Nat} {Q : ZQ} {W H n bl : Nat} {M : Mo} {P SL : Nat → Mo} {u : Nat → Int} {i : Int} {I : ZI} {L : ZL} (hJ : JB I L W H M P n SL bl u) (hi : 0 ≤ i ∧ i + 6 ≤ (Ln : Int) ∧ Ln ≤ 3072) (hb3 : 3 ≤ b) (hk : ∀ (I' : ZI) (L' : ZL) (W' H' : Nat) (M' : Mo) (P' : Nat → Mo) (n' : Nat) (SL' : Nat → Mo) (bl' : Nat) (u' : Nat → Int) (b' : Nat), b ≤ b' + 3 → JB I' L' W' H' M' P' n' SL' bl' u' → RZ (d + 33) k_L_law Q 2061 [.inr (.ref 10100, 80000), .inr (.ref 0, 12), .inr (.ref 603, 13), .inr (.ref 643, 40001), .inl i, zj, zj, zj, zj] [] b' I' L') : RZ (d + 33) k_L_law Q 200 [.inr (.ref 10100, 80000), .inr (.ref 0, 12), .inr (.ref 603, 13), .inr (.ref 643, 40001), .inl i, zj, zj, zj, zj] [] b I L := by
  have hC := hJ.1
  have hA9 := hJ.1.wfa
  obtain ⟨x1, hx19⟩ : ∃ z : Int, z = zs (XX Ln xs) 10100 (i + 1) := ⟨_, rfl⟩
  have zx19 : zR x1 := by rw [hx19]; exact zs_z _ _ _
  obtain ⟨x2, hx29⟩ : ∃ z : Int, z = zs (XX Ln xs) 10100 (i + 2) := ⟨_, rfl⟩
  have zx29 : zR x2 := by rw [hx29]; exact zs_z _ _ _
  obtain ⟨x3, hx39⟩ : ∃ z : Int, z = zs (XX Ln xs) 10100 (i + 3) := ⟨_, rfl⟩
  have zx39 : zR x3 := by rw [hx39]; exact zs_z _ _ _
  obtain ⟨x4, hx49⟩ : ∃ z : Int, z = zs (XX Ln xs) 10100 (i + 4) := ⟨_, rfl⟩
  have zx49 : zR x4 := by rw [hx49]; exact zs_z _ _ _
  obtain ⟨x5, hx59⟩ : ∃ z : Int, z = zs (XX Ln xs) 10100 (i + 5) := ⟨_, rfl⟩
  have zx59 : zR x5 := by rw [hx59]; exact zs_z _ _ _
  refine T.go [2061] 200 ?_
  conv => whnf
  refine ⟨by exact ⟨by omega, by show _ < ((Ln : Nat) : Int); omega, by omega⟩, ?_⟩
  conv => whnf
  refine ⟨by exact ⟨by omega, by show _ < ((Ln : Nat) : Int); omega, by omega⟩, ?_⟩
  conv => whnf
  refine ⟨by exact ⟨by omega, by show _ < ((Ln : Nat) : Int); omega, by omega⟩, ?_⟩
  conv => whnf
  refine ⟨by exact ⟨by omega, by show _ < ((Ln : Nat) : Int); omega, by omega⟩, ?_⟩
  conv => whnf
  refine ⟨by exact ⟨by omega, by show _ < ((Ln : Nat) : Int); omega, by omega⟩, ?_⟩
  conv => whnf
  rw [← hx19]
  rw [← hx29]
  rw [← hx39]
  rw [← hx49]
  rw [← hx59]
  refine zinv0 (s_X11_append T  (by first | exact hJ.1 | assumption | decide | omega) ?_ ?_)
  · intro cha_231 I_231 hf_231 hC_231
    have hM9 := hJ.2.near hA9 (fun a b g => hf_231 a b (fun c => by unfold PPar at c; omega))
    have hzv : zR (((bl + 20 : Nat) : Int)) := by
      have := hC.by.2.1
      exact ⟨by omega, by omega⟩
    conv => whnf
    refine ⟨by exact ⟨by omega, by show _ < ((Ln : Nat) : Int); omega, by omega⟩, ?_⟩
    conv => whnf
    refine ⟨by exact ⟨by omega, by show _ < ((Ln : Nat) : Int); omega, by omega⟩, ?_⟩
    conv => whnf
    refine ⟨by exact ⟨by omega, by show _ < ((Ln : Nat) : Int); omega, by omega⟩, ?_⟩
    conv => whnf
    refine ⟨by exact ⟨by omega, by show _ < ((Ln : Nat) : Int); omega, by omega⟩, ?_⟩
    conv => whnf
    refine ⟨by exact ⟨by omega, by show _ < ((Ln : Nat) : Int); omega, by omega⟩, ?_⟩
    conv => whnf
    rw [← hx19]
    rw [← hx29]
    rw [← hx39]
    rw [← hx49]
    rw [← hx59]
    refine zinv0 (s_X12_append T  (by first | exact hM9 | exact hA9 | assumption | decide | omega) (by first | exact hM9 | exact hA9 | assumption | decide | omega) (by first | exact hM9 | exact hA9 | assumption | decide | omega) (by first | exact hM9 | exact hA9 | assumption | decide | omega) (by first | exact hM9 | exact hA9 | assumption | decide | omega) (by first | exact hM9 | exact hA9 | assumption | decide | omega) (by first | exact hM9 | exact hA9 | assumption | decide | omega) ?_ ?_)
    · intro rcha_265 Ir_265 hfr_265 htr_265 hCr_265
      conv => whnf
      refine ⟨by first | exact ⟨hzv, hzv⟩ | omega, fun c268 => ?_, fun c268 => by exfalso; exact c268 rfl⟩
      conv => whnf
      exact hk _ _ _ _ _ _ _ _ _ _ _ (by omega) (JB.mk hC_231 hCr_265 (fun a b g => hfr_265 a b (fun c => by unfold PMd at c; omega)) (fun a b g => rfl) (fun t ht => hf_231 _ _ (fun c => by unfold PPar at c; omega)))
    · intro rch2a_265 Ir_265 hfr_265 htr_265 hCr_265
      exfalso; omega
  · intro ch2a_231
    have hM9 := hJ.2
    conv => whnf
    refine ⟨by exact ⟨by omega, by show _ < ((Ln : Nat) : Int); omega, by omega⟩, ?_⟩
    conv => whnf
    refine ⟨by exact ⟨by omega, by show _ < ((Ln : Nat) : Int); omega, by omega⟩, ?_⟩
    conv => whnf
    refine ⟨by exact ⟨by omega, by show _ < ((Ln : Nat) : Int); omega, by omega⟩, ?_⟩
    conv => whnf
    refine ⟨by exact ⟨by omega, by show _ < ((Ln : Nat) : Int); omega, by omega⟩, ?_⟩
    conv => whnf
    refine ⟨by exact ⟨by omega, by show _ < ((Ln : Nat) : Int); omega, by omega⟩, ?_⟩
    conv => whnf
    rw [← hx19]
    rw [← hx29]
    rw [← hx39]
    rw [← hx49]
    rw [← hx59]
    refine zinv0 (s_X12_append T  (by first | exact hM9 | exact hA9 | assumption | decide | omega) (by first | exact hM9 | exact hA9 | assumption | decide | omega) (by first | exact hM9 | exact hA9 | assumption | decide | omega) (by first | exact hM9 | exact hA9 | assumption | decide | omega) (by first | exact hM9 | exact hA9 | assumption | decide | omega) (by first | exact hM9 | exact hA9 | assumption | decide | omega) (by first | exact hM9 | exact hA9 | assumption | decide | omega) ?_ ?_)
    · intro rcha_265 Ir_265 hfr_265 htr_265 hCr_265
      exfalso; omega
    · intro rch2a_265 Ir_265 hfr_265 htr_265 hCr_265
      conv => whnf
      refine ⟨by first | exact ⟨hzv, hzv⟩ | omega, fun c268 => ?_, fun c268 => by exfalso; exact c268 rfl⟩
      conv => whnf
      exact hk _ _ _ _ _ _ _ _ _ _ _ (by omega) (JB.mk hC hCr_265 (fun a b g => hfr_265 a b (fun c => by unfold PSc at c; omega)) (fun a b g => rfl) (fun t ht => rfl))
theorem l_op_parse (T : ZTh (XX Ln xs) CZ RZ) {d b : Nat} {Q : ZQ} {W H n bl : Nat} {M : Mo} {P SL : Nat → Mo} {u : Nat → Int} {i : Int} {I : ZI} {L : ZL} (hJ : JB I L W H M P n SL bl u) (hi : 0 ≤ i ∧ i + 6 ≤ (Ln : Int) ∧ Ln ≤ 3072) (hb3 : 3 ≤ b) (hk : ∀ (I' : ZI) (L' : ZL) (W' H' : Nat) (M' : Mo) (P' : Nat → Mo) (n' : Nat) (SL' : Nat → Mo) (bl' : Nat) (u' : Nat → Int) (b' : Nat), b ≤ b' + 3 → JB I' L' W' H' M' P' n' SL' bl' u' → RZ (d + 33) k_L_law Q 2061 [.inr (.ref 10100, 80000), .inr (.ref 0, 12), .inr (.ref 603, 13), .inr (.ref 643, 40001), .inl i, zj, zj, zj, zj] [] b' I' L') : RZ (d + 33) k_L_law Q 273 [.inr (.ref 10100, 80000), .inr (.ref 0, 12), .inr (.ref 603, 13), .inr (.ref 643, 40001), .inl i, zj, zj, zj, zj] [] b I L := by
  have hC := hJ.1
  have hA9 := hJ.1.wfa
  obtain ⟨v, hv9⟩ : ∃ z : Int, z = zs (XX Ln xs) 10100 (i + 1) := ⟨_, rfl⟩
  have zv9 : zR v := by rw [hv9]; exact zs_z _ _ _
  refine T.go [2061] 200 ?_
  conv => whnf
  refine ⟨by exact ⟨by omega, by show _ < ((Ln : Nat) : Int); omega, by omega⟩, ?_⟩
  conv => whnf
  rw [← hv9]
  refine ⟨1, by omega, s_L_parse T  (by first | assumption | omega | rfl | decide) (by first | exact hJ.1 | assumption | decide | omega) (by first | exact hJ.1 | assumption | decide | omega) ?_ ?_ ?_⟩
  · intro cha_281 chb_281 I_281 L_281 hf_281 hg_281 hv_281 hC_281
    have hM9 := hJ.2.near hA9 (fun a b g => hf_281 a b (fun c => by have c9 : a ≤ 602 := c; omega))
    conv => whnf
    refine ⟨by exact ⟨by omega, by show _ < ((Ln : Nat) : Int); omega, by omega⟩, ?_⟩
    conv => whnf
    rw [← hv9]
    refine zinv0 (s_X12_parse T  (by first | exact hM9 | exact hA9 | assumption | decide | omega) (by first | exact hM9 | exact hA9 | assumption | decide | omega) (by first | exact hM9 | exact hA9 | assumption | decide | omega) ?_ ?_ ?_)
    · intro rcha_293 rchb_293 Ir_293 hfr_293 htr_293 hCr_293
      have hzr : zR ((mN (pTx u v.toNat).2 : Int)) := by
        have := hC_281.2.2.1.2.1
        exact ⟨by omega, by omega⟩
      conv => whnf
      refine zinv0 (s_X12_thrown T   ?_)
      conv => whnf
      refine ⟨by rw [htr_293]; decide, fun c304 => ?_, fun c304 => by exfalso; exact c304 htr_293⟩
      conv => whnf
      refine ⟨by decide, fun c => absurd c (by decide), fun _ => ?_⟩
      conv => whnf
      refine ⟨by omega, ?_⟩
      conv => whnf
      refine ⟨by first | exact hzr | decide | omega, ?_⟩
      conv => whnf
      refine ⟨fun c320 => ?_, fun c320 => ?_, fun c320 => ?_⟩
      · conv => whnf
        refine ⟨by decide, fun c => absurd c (by decide), fun _ => ?_⟩
        conv => whnf
        refine ⟨by omega, ?_⟩
        exact absurd c320 (lt_w rfl)
      · conv => whnf
        refine ⟨by decide, fun _ => ?_, fun c => absurd c (by decide)⟩
        conv => whnf
        refine T.fg [5, 6] ?_
        exact hk _ _ _ _ _ _ _ _ _ _ _ (by omega) (JB.mk hC_281 hCr_293 (fun a b g => hfr_293 a b (fun c => by unfold PMd at c; omega)) (fun a b g => w2_ne (by omega)) (fun t ht => hv_281 t ht))
      · conv => whnf
        refine ⟨by decide, fun c => absurd c (by decide), fun _ => ?_⟩
        conv => whnf
        refine ⟨by omega, ?_⟩
        exact absurd c320 (gt_w rfl)
    · intro rch1a_293 rch1b_293 Ir_293 hfr_293 htr_293 hCr_293
      exfalso; omega
    · intro rch2a_293 Ir_293 hfr_293 htr_293 hCr_293
      exfalso; omega
  · intro ch1a_281 ch1b_281 I_281 L_281 hf_281 hg_281 hC_281
    have hM9 := hJ.2.near hA9 (fun a b g => hf_281 a b (fun c => by unfold PPar at c; omega))
    conv => whnf
    refine ⟨by exact ⟨by omega, by show _ < ((Ln : Nat) : Int); omega, by omega⟩, ?_⟩
    conv => whnf
    rw [← hv9]
    refine zinv0 (s_X12_parse T  (by first | exact hM9 | exact hA9 | assumption | decide | omega) (by first | exact hM9 | exact hA9 | assumption | decide | omega) (by first | exact hM9 | exact hA9 | assumption | decide | omega) ?_ ?_ ?_)
    · intro rcha_293 rchb_293 Ir_293 hfr_293 htr_293 hCr_293
      exfalso; omega
    · intro rch1a_293 rch1b_293 Ir_293 hfr_293 htr_293 hCr_293
      have hzr : zR ((-2 - (8 * ((po (pTx u v.toNat).1 : Nat) : Int) + ((pc (pTx u v.toNat).1 : Nat) : Int)))) := by
        have := ok_tx u v.toNat
        have := hC.by.2.1
        unfold OK9 at *
        exact ⟨by omega, by omega⟩
      conv => whnf
      refine zinv0 (s_X12_thrown T   ?_)
      conv => whnf
      refine ⟨by rw [htr_293]; decide, fun c304 => ?_, fun c304 => by exfalso; exact c304 htr_293⟩
      conv => whnf
      refine ⟨by decide, fun c => absurd c (by decide), fun _ => ?_⟩
      conv => whnf
      refine ⟨by omega, ?_⟩
      conv => whnf
      refine ⟨by first | exact hzr | decide | omega, ?_⟩
      conv => whnf
      refine ⟨fun c320 => ?_, fun c320 => ?_, fun c320 => ?_⟩
      · conv => whnf
        refine ⟨by decide, fun c => absurd c (by decide), fun _ => ?_⟩
        conv => whnf
        refine ⟨by omega, ?_⟩
        exact absurd c320 (lt_w rfl)
      · conv => whnf
        refine ⟨by decide, fun _ => ?_, fun c => absurd c (by decide)⟩
        conv => whnf
        refine T.fg [5, 6] ?_
        exact hk _ _ _ _ _ _ _ _ _ _ _ (by omega) (JB.mk hC_281 hCr_293 (fun a b g => hfr_293 a b (fun c => by unfold PMd at c; omega)) (fun a b g => w2_ne (by omega)) (fun t ht => hf_281 _ _ (fun c => by unfold PPar at c; omega)))
      · conv => whnf
        refine ⟨by decide, fun c => absurd c (by decide), fun _ => ?_⟩
        conv => whnf
        refine ⟨by omega, ?_⟩
        exact absurd c320 (gt_w rfl)
    · intro rch2a_293 Ir_293 hfr_293 htr_293 hCr_293
      exfalso; omega
  · intro ch2a_281
    have hM9 := hJ.2
    conv => whnf
    refine ⟨by exact ⟨by omega, by show _ < ((Ln : Nat) : Int); omega, by omega⟩, ?_⟩
    conv => whnf
    rw [← hv9]
    refine zinv0 (s_X12_parse T  (by first | exact hM9 | exact hA9 | assumption | decide | omega) (by first | exact hM9 | exact hA9 | assumption | decide | omega) (by first | exact hM9 | exact hA9 | assumption | decide | omega) ?_ ?_ ?_)
    · intro rcha_293 rchb_293 Ir_293 hfr_293 htr_293 hCr_293
      exfalso; omega
    · intro rch1a_293 rch1b_293 Ir_293 hfr_293 htr_293 hCr_293
      exfalso; omega
    · intro rch2a_293 Ir_293 hfr_293 htr_293 hCr_293
      conv => whnf
      refine zinv0 (s_X12_thrown T   ?_)
      conv => whnf
      refine ⟨by rw [htr_293]; decide, fun c304 => ?_, fun c304 => by exfalso; exact c304 htr_293⟩
      conv => whnf
      refine ⟨by decide, fun _ => ?_, fun c => absurd c (by decide)⟩
      conv => whnf
      refine T.fg [5, 6] ?_
      exact hk _ _ _ _ _ _ _ _ _ _ _ (by omega) (JB.mk hC hCr_293 (fun a b g => hfr_293 a b (fun c => by unfold PSc at c; omega)) (fun a b g => rfl) (fun t ht => rfl))
theorem l_op_size (T : ZTh (XX Ln xs) CZ RZ) {d b : Nat} {Q : ZQ} {W H n bl : Nat} {M : Mo} {P SL : Nat → Mo} {u : Nat → Int} {i : Int} {I : ZI} {L : ZL} (hJ : JB I L W H M P n SL bl u) (hi : 0 ≤ i ∧ i + 6 ≤ (Ln : Int) ∧ Ln ≤ 3072) (hb3 : 3 ≤ b) (hk : ∀ (I' : ZI) (L' : ZL) (W' H' : Nat) (M' : Mo) (P' : Nat → Mo) (n' : Nat) (SL' : Nat → Mo) (bl' : Nat) (u' : Nat → Int) (b' : Nat), b ≤ b' + 3 → JB I' L' W' H' M' P' n' SL' bl' u' → RZ (d + 33) k_L_law Q 2061 [.inr (.ref 10100, 80000), .inr (.ref 0, 12), .inr (.ref 603, 13), .inr (.ref 643, 40001), .inl i, zj, zj, zj, zj] [] b' I' L') : RZ (d + 33) k_L_law Q 329 [.inr (.ref 10100, 80000), .inr (.ref 0, 12), .inr (.ref 603, 13), .inr (.ref 643, 40001), .inl i, zj, zj, zj, zj] [] b I L := by
  have hC := hJ.1
  have hA9 := hJ.1.wfa
  obtain ⟨w, hw9⟩ : ∃ z : Int, z = zs (XX Ln xs) 10100 (i + 1) := ⟨_, rfl⟩
  have zw9 : zR w := by rw [hw9]; exact zs_z _ _ _
  refine T.go [2061] 200 ?_
  conv => whnf
  refine ⟨by exact ⟨by omega, by show _ < ((Ln : Nat) : Int); omega, by omega⟩, ?_⟩
  conv => whnf
  rw [← hw9]
  refine ⟨1, by omega, s_L_size T  (by first | assumption | omega | rfl | decide) (by first | exact hJ.1 | assumption | decide | omega) (by first | exact hJ.1 | assumption | decide | omega) ?_ ?_⟩
  · intro cha_337 chb_337
    have hM9 := hJ.2
    conv => whnf
    refine ⟨by exact ⟨by omega, by show _ < ((Ln : Nat) : Int); omega, by omega⟩, ?_⟩
    conv => whnf
    rw [← hw9]
    refine zinv0 (s_X12_size T  (by first | exact hM9 | exact hA9 | assumption | decide | omega) (by first | exact hM9 | exact hA9 | assumption | decide | omega) (by first | exact hM9 | exact hA9 | assumption | decide | omega) ?_ ?_)
    · intro rcha_349 rchb_349 Ir_349 hfr_349 htr_349 hCr_349
      have hzr : zR (aSize W H M n bl w) := by
        exact z_size hC (by omega) (by omega)
      conv => whnf
      refine zinv0 (s_X12_thrown T   ?_)
      conv => whnf
      refine ⟨by rw [htr_349]; decide, fun c360 => ?_, fun c360 => by exfalso; exact c360 htr_349⟩
      conv => whnf
      refine ⟨by decide, fun c => absurd c (by decide), fun _ => ?_⟩
      conv => whnf
      refine ⟨by omega, ?_⟩
      conv => whnf
      refine ⟨by first | exact hzr | decide | omega, ?_⟩
      conv => whnf
      refine ⟨fun c376 => ?_, fun c376 => ?_, fun c376 => ?_⟩
      · conv => whnf
        refine ⟨by decide, fun c => absurd c (by decide), fun _ => ?_⟩
        conv => whnf
        refine ⟨by omega, ?_⟩
        exact absurd c376 (lt_w rfl)
      · conv => whnf
        refine ⟨by decide, fun _ => ?_, fun c => absurd c (by decide)⟩
        conv => whnf
        refine T.fg [5, 6] ?_
        exact hk _ _ _ _ _ _ _ _ _ _ _ (by omega) (JB.mk hC hCr_349 (fun a b g => hfr_349 a b (fun c => by unfold PSc at c; omega)) (fun a b g => w2_ne (by omega)) (fun t ht => rfl))
      · conv => whnf
        refine ⟨by decide, fun c => absurd c (by decide), fun _ => ?_⟩
        conv => whnf
        refine ⟨by omega, ?_⟩
        exact absurd c376 (gt_w rfl)
    · intro rch2a_349 Ir_349 hfr_349 htr_349 hCr_349
      exfalso; omega
  · intro ch2a_337
    have hM9 := hJ.2
    conv => whnf
    refine ⟨by exact ⟨by omega, by show _ < ((Ln : Nat) : Int); omega, by omega⟩, ?_⟩
    conv => whnf
    rw [← hw9]
    refine zinv0 (s_X12_size T  (by first | exact hM9 | exact hA9 | assumption | decide | omega) (by first | exact hM9 | exact hA9 | assumption | decide | omega) (by first | exact hM9 | exact hA9 | assumption | decide | omega) ?_ ?_)
    · intro rcha_349 rchb_349 Ir_349 hfr_349 htr_349 hCr_349
      exfalso; omega
    · intro rch2a_349 Ir_349 hfr_349 htr_349 hCr_349
      conv => whnf
      refine zinv0 (s_X12_thrown T   ?_)
      conv => whnf
      refine ⟨by rw [htr_349]; decide, fun c360 => ?_, fun c360 => by exfalso; exact c360 htr_349⟩
      conv => whnf
      refine ⟨by decide, fun _ => ?_, fun c => absurd c (by decide)⟩
      conv => whnf
      refine T.fg [5, 6] ?_
      exact hk _ _ _ _ _ _ _ _ _ _ _ (by omega) (JB.mk hC hCr_349 (fun a b g => hfr_349 a b (fun c => by unfold PSc at c; omega)) (fun a b g => rfl) (fun t ht => rfl))
theorem l_op_piece (T : ZTh (XX Ln xs) CZ RZ) {d b : Nat} {Q : ZQ} {W H n bl : Nat} {M : Mo} {P SL : Nat → Mo} {u : Nat → Int} {i : Int} {I : ZI} {L : ZL} (hJ : JB I L W H M P n SL bl u) (hi : 0 ≤ i ∧ i + 6 ≤ (Ln : Int) ∧ Ln ≤ 3072) (hb3 : 3 ≤ b) (hk : ∀ (I' : ZI) (L' : ZL) (W' H' : Nat) (M' : Mo) (P' : Nat → Mo) (n' : Nat) (SL' : Nat → Mo) (bl' : Nat) (u' : Nat → Int) (b' : Nat), b ≤ b' + 3 → JB I' L' W' H' M' P' n' SL' bl' u' → RZ (d + 33) k_L_law Q 2061 [.inr (.ref 10100, 80000), .inr (.ref 0, 12), .inr (.ref 603, 13), .inr (.ref 643, 40001), .inl i, zj, zj, zj, zj] [] b' I' L') : RZ (d + 33) k_L_law Q 385 [.inr (.ref 10100, 80000), .inr (.ref 0, 12), .inr (.ref 603, 13), .inr (.ref 643, 40001), .inl i, zj, zj, zj, zj] [] b I L := by
  have hC := hJ.1
  have hA9 := hJ.1.wfa
  obtain ⟨p, hp9⟩ : ∃ z : Int, z = zs (XX Ln xs) 10100 (i + 1) := ⟨_, rfl⟩
  have zp9 : zR p := by rw [hp9]; exact zs_z _ _ _
  obtain ⟨w, hw9⟩ : ∃ z : Int, z = zs (XX Ln xs) 10100 (i + 2) := ⟨_, rfl⟩
  have zw9 : zR w := by rw [hw9]; exact zs_z _ _ _
  refine T.go [2061] 200 ?_
  conv => whnf
  refine ⟨by exact ⟨by omega, by show _ < ((Ln : Nat) : Int); omega, by omega⟩, ?_⟩
  conv => whnf
  refine ⟨by exact ⟨by omega, by show _ < ((Ln : Nat) : Int); omega, by omega⟩, ?_⟩
  conv => whnf
  rw [← hp9]
  rw [← hw9]
  refine ⟨2, by omega, s_L_piece T  (by first | assumption | omega | rfl | decide) (by first | exact hJ.1 | assumption | decide | omega) (by first | exact hJ.1 | assumption | decide | omega) (by first | exact hJ.1 | assumption | decide | omega) ?_ ?_ ?_⟩
  · intro cha_399 chb_399 chc_399 chd_399
    have hM9 := hJ.2
    conv => whnf
    refine ⟨by exact ⟨by omega, by show _ < ((Ln : Nat) : Int); omega, by omega⟩, ?_⟩
    conv => whnf
    refine ⟨by exact ⟨by omega, by show _ < ((Ln : Nat) : Int); omega, by omega⟩, ?_⟩
    conv => whnf
    rw [← hp9]
    rw [← hw9]
    refine zinv0 (s_X12_piece T  (by first | exact hM9 | exact hA9 | assumption | decide | omega) (by first | exact hM9 | exact hA9 | assumption | decide | omega) (by first | exact hM9 | exact hA9 | assumption | decide | omega) (by first | exact hM9 | exact hA9 | assumption | decide | omega) ?_ ?_ ?_)
    · intro rcha_417 rchb_417 Ir_417 hfr_417 htr_417 hCr_417
      have hzr : zR (aPiece M p.toNat w) := by
        exact z_piece hC.2.2.1.1 (by omega) (by omega) (by omega)
      conv => whnf
      refine zinv0 (s_X12_thrown T   ?_)
      conv => whnf
      refine ⟨by rw [htr_417]; decide, fun c428 => ?_, fun c428 => by exfalso; exact c428 htr_417⟩
      conv => whnf
      refine ⟨by decide, fun c => absurd c (by decide), fun _ => ?_⟩
      conv => whnf
      refine ⟨by omega, ?_⟩
      conv => whnf
      refine ⟨by first | exact hzr | decide | omega, ?_⟩
      conv => whnf
      refine ⟨fun c444 => ?_, fun c444 => ?_, fun c444 => ?_⟩
      · conv => whnf
        refine ⟨by decide, fun c => absurd c (by decide), fun _ => ?_⟩
        conv => whnf
        refine ⟨by omega, ?_⟩
        exact absurd c444 (lt_w rfl)
      · conv => whnf
        refine ⟨by decide, fun _ => ?_, fun c => absurd c (by decide)⟩
        conv => whnf
        refine T.fg [5, 6] ?_
        exact hk _ _ _ _ _ _ _ _ _ _ _ (by omega) (JB.mk hC hCr_417 (fun a b g => hfr_417 a b (fun c => by unfold PSc at c; omega)) (fun a b g => w2_ne (by omega)) (fun t ht => rfl))
      · conv => whnf
        refine ⟨by decide, fun c => absurd c (by decide), fun _ => ?_⟩
        conv => whnf
        refine ⟨by omega, ?_⟩
        exact absurd c444 (gt_w rfl)
    · intro rch2a_417 Ir_417 hfr_417 htr_417 hCr_417
      exfalso; omega
    · intro rch3a_417 rch3b_417 Ir_417 hfr_417 htr_417 hCr_417
      exfalso; omega
  · intro ch2a_399
    have hM9 := hJ.2
    conv => whnf
    refine ⟨by exact ⟨by omega, by show _ < ((Ln : Nat) : Int); omega, by omega⟩, ?_⟩
    conv => whnf
    refine ⟨by exact ⟨by omega, by show _ < ((Ln : Nat) : Int); omega, by omega⟩, ?_⟩
    conv => whnf
    rw [← hp9]
    rw [← hw9]
    refine zinv0 (s_X12_piece T  (by first | exact hM9 | exact hA9 | assumption | decide | omega) (by first | exact hM9 | exact hA9 | assumption | decide | omega) (by first | exact hM9 | exact hA9 | assumption | decide | omega) (by first | exact hM9 | exact hA9 | assumption | decide | omega) ?_ ?_ ?_)
    · intro rcha_417 rchb_417 Ir_417 hfr_417 htr_417 hCr_417
      exfalso; omega
    · intro rch2a_417 Ir_417 hfr_417 htr_417 hCr_417
      conv => whnf
      refine zinv0 (s_X12_thrown T   ?_)
      conv => whnf
      refine ⟨by rw [htr_417]; decide, fun c428 => ?_, fun c428 => by exfalso; exact c428 htr_417⟩
      conv => whnf
      refine ⟨by decide, fun _ => ?_, fun c => absurd c (by decide)⟩
      conv => whnf
      refine T.fg [5, 6] ?_
      exact hk _ _ _ _ _ _ _ _ _ _ _ (by omega) (JB.mk hC hCr_417 (fun a b g => hfr_417 a b (fun c => by unfold PSc at c; omega)) (fun a b g => rfl) (fun t ht => rfl))
    · intro rch3a_417 rch3b_417 Ir_417 hfr_417 htr_417 hCr_417
      exfalso; omega
  · intro ch3a_399 ch3b_399 ch3c_399
    have hM9 := hJ.2
    conv => whnf
    refine ⟨by exact ⟨by omega, by show _ < ((Ln : Nat) : Int); omega, by omega⟩, ?_⟩
    conv => whnf
    refine ⟨by exact ⟨by omega, by show _ < ((Ln : Nat) : Int); omega, by omega⟩, ?_⟩
    conv => whnf
    rw [← hp9]
    rw [← hw9]
    refine zinv0 (s_X12_piece T  (by first | exact hM9 | exact hA9 | assumption | decide | omega) (by first | exact hM9 | exact hA9 | assumption | decide | omega) (by first | exact hM9 | exact hA9 | assumption | decide | omega) (by first | exact hM9 | exact hA9 | assumption | decide | omega) ?_ ?_ ?_)
    · intro rcha_417 rchb_417 Ir_417 hfr_417 htr_417 hCr_417
      exfalso; omega
    · intro rch2a_417 Ir_417 hfr_417 htr_417 hCr_417
      exfalso; omega
    · intro rch3a_417 rch3b_417 Ir_417 hfr_417 htr_417 hCr_417
      conv => whnf
      refine zinv0 (s_X12_thrown T   ?_)
      conv => whnf
      refine ⟨by rw [htr_417]; decide, fun c428 => ?_, fun c428 => by exfalso; exact c428 htr_417⟩
      conv => whnf
      refine ⟨by decide, fun _ => ?_, fun c => absurd c (by decide)⟩
      conv => whnf
      refine T.fg [5, 6] ?_
      exact hk _ _ _ _ _ _ _ _ _ _ _ (by omega) (JB.mk hC hCr_417 (fun a b g => hfr_417 a b (fun c => by unfold PSc at c; omega)) (fun a b g => rfl) (fun t ht => rfl))
theorem l_op_pieceAt (T : ZTh (XX Ln xs) CZ RZ) {d b : Nat} {Q : ZQ} {W H n bl : Nat} {M : Mo} {P SL : Nat → Mo} {u : Nat → Int} {i : Int} {I : ZI} {L : ZL} (hJ : JB I L W H M P n SL bl u) (hi : 0 ≤ i ∧ i + 6 ≤ (Ln : Int) ∧ Ln ≤ 3072) (hb3 : 3 ≤ b) (hk : ∀ (I' : ZI) (L' : ZL) (W' H' : Nat) (M' : Mo) (P' : Nat → Mo) (n' : Nat) (SL' : Nat → Mo) (bl' : Nat) (u' : Nat → Int) (b' : Nat), b ≤ b' + 3 → JB I' L' W' H' M' P' n' SL' bl' u' → RZ (d + 33) k_L_law Q 2061 [.inr (.ref 10100, 80000), .inr (.ref 0, 12), .inr (.ref 603, 13), .inr (.ref 643, 40001), .inl i, zj, zj, zj, zj] [] b' I' L') : RZ (d + 33) k_L_law Q 453 [.inr (.ref 10100, 80000), .inr (.ref 0, 12), .inr (.ref 603, 13), .inr (.ref 643, 40001), .inl i, zj, zj, zj, zj] [] b I L := by
  have hC := hJ.1
  have hA9 := hJ.1.wfa
  obtain ⟨q, hq9⟩ : ∃ z : Int, z = zs (XX Ln xs) 10100 (i + 1) := ⟨_, rfl⟩
  have zq9 : zR q := by rw [hq9]; exact zs_z _ _ _
  refine T.go [2061] 200 ?_
  conv => whnf
  refine ⟨by exact ⟨by omega, by show _ < ((Ln : Nat) : Int); omega, by omega⟩, ?_⟩
  conv => whnf
  rw [← hq9]
  refine zinv0 (s0_pieceAt T  (by first | exact hJ.1 | assumption | decide | omega) (by first | exact hJ.1 | assumption | decide | omega) ?_)
  have hM9 := hJ.2
  have hzv : zR (owAt M q) := by
    exact z_owAt _ _
  conv => whnf
  refine ⟨by exact ⟨by omega, by show _ < ((Ln : Nat) : Int); omega, by omega⟩, ?_⟩
  conv => whnf
  rw [← hq9]
  refine zinv0 (s_X12_pieceAt T  (by first | exact hM9 | exact hA9 | assumption | decide | omega) (by first | exact hM9 | exact hA9 | assumption | decide | omega) (by first | exact hM9 | exact hA9 | assumption | decide | omega) ?_)
  intro Ir_470 hfr_470 htr_470 hCr_470
  conv => whnf
  refine ⟨by first | exact ⟨hzv, hzv⟩ | omega, fun c473 => ?_, fun c473 => by exfalso; exact c473 rfl⟩
  conv => whnf
  exact hk _ _ _ _ _ _ _ _ _ _ _ (by omega) (JB.mk hC hCr_470 (fun a b g => hfr_470 a b (fun c => by unfold PSc at c; omega)) (fun a b g => rfl) (fun t ht => rfl))
theorem l_op_whyNot (T : ZTh (XX Ln xs) CZ RZ) {d b : Nat} {Q : ZQ} {W H n bl : Nat} {M : Mo} {P SL : Nat → Mo} {u : Nat → Int} {i : Int} {I : ZI} {L : ZL} (hJ : JB I L W H M P n SL bl u) (hi : 0 ≤ i ∧ i + 6 ≤ (Ln : Int) ∧ Ln ≤ 3072) (hb3 : 3 ≤ b) (hk : ∀ (I' : ZI) (L' : ZL) (W' H' : Nat) (M' : Mo) (P' : Nat → Mo) (n' : Nat) (SL' : Nat → Mo) (bl' : Nat) (u' : Nat → Int) (b' : Nat), b ≤ b' + 3 → JB I' L' W' H' M' P' n' SL' bl' u' → RZ (d + 33) k_L_law Q 2061 [.inr (.ref 10100, 80000), .inr (.ref 0, 12), .inr (.ref 603, 13), .inr (.ref 643, 40001), .inl i, zj, zj, zj, zj] [] b' I' L') : RZ (d + 33) k_L_law Q 478 [.inr (.ref 10100, 80000), .inr (.ref 0, 12), .inr (.ref 603, 13), .inr (.ref 643, 40001), .inl i, zj, zj, zj, zj] [] b I L := by
  have hC := hJ.1
  have hA9 := hJ.1.wfa
  obtain ⟨p, hp9⟩ : ∃ z : Int, z = zs (XX Ln xs) 10100 (i + 1) := ⟨_, rfl⟩
  have zp9 : zR p := by rw [hp9]; exact zs_z _ _ _
  obtain ⟨x, hx9⟩ : ∃ z : Int, z = zs (XX Ln xs) 10100 (i + 2) := ⟨_, rfl⟩
  have zx9 : zR x := by rw [hx9]; exact zs_z _ _ _
  obtain ⟨y, hy9⟩ : ∃ z : Int, z = zs (XX Ln xs) 10100 (i + 3) := ⟨_, rfl⟩
  have zy9 : zR y := by rw [hy9]; exact zs_z _ _ _
  obtain ⟨t, ht9⟩ : ∃ z : Int, z = zs (XX Ln xs) 10100 (i + 4) := ⟨_, rfl⟩
  have zt9 : zR t := by rw [ht9]; exact zs_z _ _ _
  refine T.go [2061] 200 ?_
  conv => whnf
  refine ⟨by exact ⟨by omega, by show _ < ((Ln : Nat) : Int); omega, by omega⟩, ?_⟩
  conv => whnf
  refine ⟨by exact ⟨by omega, by show _ < ((Ln : Nat) : Int); omega, by omega⟩, ?_⟩
  conv => whnf
  refine ⟨by exact ⟨by omega, by show _ < ((Ln : Nat) : Int); omega, by omega⟩, ?_⟩
  conv => whnf
  refine ⟨by exact ⟨by omega, by show _ < ((Ln : Nat) : Int); omega, by omega⟩, ?_⟩
  conv => whnf
  refine ⟨by exact ⟨by omega, by show _ < ((Ln : Nat) : Int); omega, by omega⟩, ?_⟩
  conv => whnf
  refine ⟨by exact zs_z _ _ _, fun c509 => ?_, fun c509 => ?_⟩
  · conv => whnf
    rw [← hp9]
    rw [← hx9]
    rw [← hy9]
    rw [← ht9]
    refine ⟨2, by omega, s_L_whyNot T  (by first | assumption | omega | rfl | decide) (by first | exact hJ.1 | assumption | decide | omega) (by first | exact hJ.1 | assumption | decide | omega) (by first | exact hJ.1 | assumption | decide | omega) (by first | exact hJ.1 | assumption | decide | omega) (by first | exact hJ.1 | assumption | decide | omega) (by first | exact hJ.1 | assumption | decide | omega) ?_ ?_ ?_⟩
    · intro cha_518 chb_518
      have hM9 := hJ.2
      conv => whnf
      refine ⟨by exact ⟨by omega, by show _ < ((Ln : Nat) : Int); omega, by omega⟩, ?_⟩
      conv => whnf
      refine ⟨by exact ⟨by omega, by show _ < ((Ln : Nat) : Int); omega, by omega⟩, ?_⟩
      conv => whnf
      refine ⟨by exact ⟨by omega, by show _ < ((Ln : Nat) : Int); omega, by omega⟩, ?_⟩
      conv => whnf
      refine ⟨by exact ⟨by omega, by show _ < ((Ln : Nat) : Int); omega, by omega⟩, ?_⟩
      conv => whnf
      refine ⟨by exact ⟨by omega, by show _ < ((Ln : Nat) : Int); omega, by omega⟩, ?_⟩
      conv => whnf
      refine ⟨by exact zs_z _ _ _, fun c554 => ?_, fun c554 => by exfalso; exact c554 c509⟩
      conv => whnf
      rw [← hp9]
      rw [← hx9]
      rw [← hy9]
      rw [← ht9]
      refine zinv0 (s_X12_whyNot T  (by first | exact hM9 | exact hA9 | assumption | decide | omega) (by first | exact hM9 | exact hA9 | assumption | decide | omega) (by first | exact hM9 | exact hA9 | assumption | decide | omega) (by first | exact hM9 | exact hA9 | assumption | decide | omega) (by first | exact hM9 | exact hA9 | assumption | decide | omega) (by first | exact hM9 | exact hA9 | assumption | decide | omega) (by first | exact hM9 | exact hA9 | assumption | decide | omega) ?_ ?_ ?_)
      · intro rcha_562 rchb_562 Ir_562 hfr_562 htr_562 hCr_562
        have hzr : zR (aWhy W H M p x y t 0) := by
          exact (z_why _ _ _ _ _ _ _ _).1
        conv => whnf
        refine zinv0 (s_X12_thrown T   ?_)
        conv => whnf
        refine ⟨by rw [htr_562]; decide, fun c573 => ?_, fun c573 => by exfalso; exact c573 htr_562⟩
        conv => whnf
        refine ⟨by decide, fun c => absurd c (by decide), fun _ => ?_⟩
        conv => whnf
        refine ⟨by omega, ?_⟩
        conv => whnf
        refine ⟨by first | exact hzr | decide | omega, ?_⟩
        conv => whnf
        refine ⟨fun c589 => ?_, fun c589 => ?_, fun c589 => ?_⟩
        · conv => whnf
          refine ⟨by decide, fun c => absurd c (by decide), fun _ => ?_⟩
          conv => whnf
          refine ⟨by omega, ?_⟩
          exact absurd c589 (lt_w rfl)
        · conv => whnf
          refine ⟨by decide, fun _ => ?_, fun c => absurd c (by decide)⟩
          conv => whnf
          refine T.fg [5, 6] ?_
          exact hk _ _ _ _ _ _ _ _ _ _ _ (by omega) (JB.mk hC hCr_562 (fun a b g => hfr_562 a b (fun c => by unfold PSc at c; omega)) (fun a b g => w2_ne (by omega)) (fun t ht => rfl))
        · conv => whnf
          refine ⟨by decide, fun c => absurd c (by decide), fun _ => ?_⟩
          conv => whnf
          refine ⟨by omega, ?_⟩
          exact absurd c589 (gt_w rfl)
      · intro rch2a_562 Ir_562 hfr_562 htr_562 hCr_562
        exfalso; omega
      · intro rch3a_562 rch3b_562 Ir_562 hfr_562 htr_562 hCr_562
        exfalso; omega
    · intro ch2a_518
      have hM9 := hJ.2
      conv => whnf
      refine ⟨by exact ⟨by omega, by show _ < ((Ln : Nat) : Int); omega, by omega⟩, ?_⟩
      conv => whnf
      refine ⟨by exact ⟨by omega, by show _ < ((Ln : Nat) : Int); omega, by omega⟩, ?_⟩
      conv => whnf
      refine ⟨by exact ⟨by omega, by show _ < ((Ln : Nat) : Int); omega, by omega⟩, ?_⟩
      conv => whnf
      refine ⟨by exact ⟨by omega, by show _ < ((Ln : Nat) : Int); omega, by omega⟩, ?_⟩
      conv => whnf
      refine ⟨by exact ⟨by omega, by show _ < ((Ln : Nat) : Int); omega, by omega⟩, ?_⟩
      conv => whnf
      refine ⟨by exact zs_z _ _ _, fun c554 => ?_, fun c554 => by exfalso; exact c554 c509⟩
      conv => whnf
      rw [← hp9]
      rw [← hx9]
      rw [← hy9]
      rw [← ht9]
      refine zinv0 (s_X12_whyNot T  (by first | exact hM9 | exact hA9 | assumption | decide | omega) (by first | exact hM9 | exact hA9 | assumption | decide | omega) (by first | exact hM9 | exact hA9 | assumption | decide | omega) (by first | exact hM9 | exact hA9 | assumption | decide | omega) (by first | exact hM9 | exact hA9 | assumption | decide | omega) (by first | exact hM9 | exact hA9 | assumption | decide | omega) (by first | exact hM9 | exact hA9 | assumption | decide | omega) ?_ ?_ ?_)
      · intro rcha_562 rchb_562 Ir_562 hfr_562 htr_562 hCr_562
        exfalso; omega
      · intro rch2a_562 Ir_562 hfr_562 htr_562 hCr_562
        conv => whnf
        refine zinv0 (s_X12_thrown T   ?_)
        conv => whnf
        refine ⟨by rw [htr_562]; decide, fun c573 => ?_, fun c573 => by exfalso; exact c573 htr_562⟩
        conv => whnf
        refine ⟨by decide, fun _ => ?_, fun c => absurd c (by decide)⟩
        conv => whnf
        refine T.fg [5, 6] ?_
        exact hk _ _ _ _ _ _ _ _ _ _ _ (by omega) (JB.mk hC hCr_562 (fun a b g => hfr_562 a b (fun c => by unfold PSc at c; omega)) (fun a b g => rfl) (fun t ht => rfl))
      · intro rch3a_562 rch3b_562 Ir_562 hfr_562 htr_562 hCr_562
        exfalso; omega
    · intro ch3a_518 ch3b_518
      have hM9 := hJ.2
      conv => whnf
      refine ⟨by exact ⟨by omega, by show _ < ((Ln : Nat) : Int); omega, by omega⟩, ?_⟩
      conv => whnf
      refine ⟨by exact ⟨by omega, by show _ < ((Ln : Nat) : Int); omega, by omega⟩, ?_⟩
      conv => whnf
      refine ⟨by exact ⟨by omega, by show _ < ((Ln : Nat) : Int); omega, by omega⟩, ?_⟩
      conv => whnf
      refine ⟨by exact ⟨by omega, by show _ < ((Ln : Nat) : Int); omega, by omega⟩, ?_⟩
      conv => whnf
      refine ⟨by exact ⟨by omega, by show _ < ((Ln : Nat) : Int); omega, by omega⟩, ?_⟩
      conv => whnf
      refine ⟨by exact zs_z _ _ _, fun c554 => ?_, fun c554 => by exfalso; exact c554 c509⟩
      conv => whnf
      rw [← hp9]
      rw [← hx9]
      rw [← hy9]
      rw [← ht9]
      refine zinv0 (s_X12_whyNot T  (by first | exact hM9 | exact hA9 | assumption | decide | omega) (by first | exact hM9 | exact hA9 | assumption | decide | omega) (by first | exact hM9 | exact hA9 | assumption | decide | omega) (by first | exact hM9 | exact hA9 | assumption | decide | omega) (by first | exact hM9 | exact hA9 | assumption | decide | omega) (by first | exact hM9 | exact hA9 | assumption | decide | omega) (by first | exact hM9 | exact hA9 | assumption | decide | omega) ?_ ?_ ?_)
      · intro rcha_562 rchb_562 Ir_562 hfr_562 htr_562 hCr_562
        exfalso; omega
      · intro rch2a_562 Ir_562 hfr_562 htr_562 hCr_562
        exfalso; omega
      · intro rch3a_562 rch3b_562 Ir_562 hfr_562 htr_562 hCr_562
        conv => whnf
        refine zinv0 (s_X12_thrown T   ?_)
        conv => whnf
        refine ⟨by rw [htr_562]; decide, fun c573 => ?_, fun c573 => by exfalso; exact c573 htr_562⟩
        conv => whnf
        refine ⟨by decide, fun _ => ?_, fun c => absurd c (by decide)⟩
        conv => whnf
        refine T.fg [5, 6] ?_
        exact hk _ _ _ _ _ _ _ _ _ _ _ (by omega) (JB.mk hC hCr_562 (fun a b g => hfr_562 a b (fun c => by unfold PSc at c; omega)) (fun a b g => rfl) (fun t ht => rfl))
  · conv => whnf
    rw [← hp9]
    rw [← hx9]
    rw [← hy9]
    rw [← ht9]
    refine ⟨2, by omega, s_L_whyNot T  (by first | assumption | omega | rfl | decide) (by first | exact hJ.1 | assumption | decide | omega) (by first | exact hJ.1 | assumption | decide | omega) (by first | exact hJ.1 | assumption | decide | omega) (by first | exact hJ.1 | assumption | decide | omega) (by first | exact hJ.1 | assumption | decide | omega) (by first | exact hJ.1 | assumption | decide | omega) ?_ ?_ ?_⟩
    · intro cha_518 chb_518
      have hM9 := hJ.2
      conv => whnf
      refine ⟨by exact ⟨by omega, by show _ < ((Ln : Nat) : Int); omega, by omega⟩, ?_⟩
      conv => whnf
      refine ⟨by exact ⟨by omega, by show _ < ((Ln : Nat) : Int); omega, by omega⟩, ?_⟩
      conv => whnf
      refine ⟨by exact ⟨by omega, by show _ < ((Ln : Nat) : Int); omega, by omega⟩, ?_⟩
      conv => whnf
      refine ⟨by exact ⟨by omega, by show _ < ((Ln : Nat) : Int); omega, by omega⟩, ?_⟩
      conv => whnf
      refine ⟨by exact ⟨by omega, by show _ < ((Ln : Nat) : Int); omega, by omega⟩, ?_⟩
      conv => whnf
      refine ⟨by exact zs_z _ _ _, fun c554 => by exfalso; exact c509 c554, fun c554 => ?_⟩
      conv => whnf
      rw [← hp9]
      rw [← hx9]
      rw [← hy9]
      rw [← ht9]
      refine zinv0 (s_X12_whyNot T  (by first | exact hM9 | exact hA9 | assumption | decide | omega) (by first | exact hM9 | exact hA9 | assumption | decide | omega) (by first | exact hM9 | exact hA9 | assumption | decide | omega) (by first | exact hM9 | exact hA9 | assumption | decide | omega) (by first | exact hM9 | exact hA9 | assumption | decide | omega) (by first | exact hM9 | exact hA9 | assumption | decide | omega) (by first | exact hM9 | exact hA9 | assumption | decide | omega) ?_ ?_ ?_)
      · intro rcha_562 rchb_562 Ir_562 hfr_562 htr_562 hCr_562
        have hzr : zR (aWhy W H M p x y t 1) := by
          exact (z_why _ _ _ _ _ _ _ _).1
        conv => whnf
        refine zinv0 (s_X12_thrown T   ?_)
        conv => whnf
        refine ⟨by rw [htr_562]; decide, fun c573 => ?_, fun c573 => by exfalso; exact c573 htr_562⟩
        conv => whnf
        refine ⟨by decide, fun c => absurd c (by decide), fun _ => ?_⟩
        conv => whnf
        refine ⟨by omega, ?_⟩
        conv => whnf
        refine ⟨by first | exact hzr | decide | omega, ?_⟩
        conv => whnf
        refine ⟨fun c589 => ?_, fun c589 => ?_, fun c589 => ?_⟩
        · conv => whnf
          refine ⟨by decide, fun c => absurd c (by decide), fun _ => ?_⟩
          conv => whnf
          refine ⟨by omega, ?_⟩
          exact absurd c589 (lt_w rfl)
        · conv => whnf
          refine ⟨by decide, fun _ => ?_, fun c => absurd c (by decide)⟩
          conv => whnf
          refine T.fg [5, 6] ?_
          exact hk _ _ _ _ _ _ _ _ _ _ _ (by omega) (JB.mk hC hCr_562 (fun a b g => hfr_562 a b (fun c => by unfold PSc at c; omega)) (fun a b g => w2_ne (by omega)) (fun t ht => rfl))
        · conv => whnf
          refine ⟨by decide, fun c => absurd c (by decide), fun _ => ?_⟩
          conv => whnf
          refine ⟨by omega, ?_⟩
          exact absurd c589 (gt_w rfl)
      · intro rch2a_562 Ir_562 hfr_562 htr_562 hCr_562
        exfalso; omega
      · intro rch3a_562 rch3b_562 Ir_562 hfr_562 htr_562 hCr_562
        exfalso; omega
    · intro ch2a_518
      have hM9 := hJ.2
      conv => whnf
      refine ⟨by exact ⟨by omega, by show _ < ((Ln : Nat) : Int); omega, by omega⟩, ?_⟩
      conv => whnf
      refine ⟨by exact ⟨by omega, by show _ < ((Ln : Nat) : Int); omega, by omega⟩, ?_⟩
      conv => whnf
      refine ⟨by exact ⟨by omega, by show _ < ((Ln : Nat) : Int); omega, by omega⟩, ?_⟩
      conv => whnf
      refine ⟨by exact ⟨by omega, by show _ < ((Ln : Nat) : Int); omega, by omega⟩, ?_⟩
      conv => whnf
      refine ⟨by exact ⟨by omega, by show _ < ((Ln : Nat) : Int); omega, by omega⟩, ?_⟩
      conv => whnf
      refine ⟨by exact zs_z _ _ _, fun c554 => by exfalso; exact c509 c554, fun c554 => ?_⟩
      conv => whnf
      rw [← hp9]
      rw [← hx9]
      rw [← hy9]
      rw [← ht9]
      refine zinv0 (s_X12_whyNot T  (by first | exact hM9 | exact hA9 | assumption | decide | omega) (by first | exact hM9 | exact hA9 | assumption | decide | omega) (by first | exact hM9 | exact hA9 | assumption | decide | omega) (by first | exact hM9 | exact hA9 | assumption | decide | omega) (by first | exact hM9 | exact hA9 | assumption | decide | omega) (by first | exact hM9 | exact hA9 | assumption | decide | omega) (by first | exact hM9 | exact hA9 | assumption | decide | omega) ?_ ?_ ?_)
      · intro rcha_562 rchb_562 Ir_562 hfr_562 htr_562 hCr_562
        exfalso; omega
      · intro rch2a_562 Ir_562 hfr_562 htr_562 hCr_562
        conv => whnf
        refine zinv0 (s_X12_thrown T   ?_)
        conv => whnf
        refine ⟨by rw [htr_562]; decide, fun c573 => ?_, fun c573 => by exfalso; exact c573 htr_562⟩
        conv => whnf
        refine ⟨by decide, fun _ => ?_, fun c => absurd c (by decide)⟩
        conv => whnf
        refine T.fg [5, 6] ?_
        exact hk _ _ _ _ _ _ _ _ _ _ _ (by omega) (JB.mk hC hCr_562 (fun a b g => hfr_562 a b (fun c => by unfold PSc at c; omega)) (fun a b g => rfl) (fun t ht => rfl))
      · intro rch3a_562 rch3b_562 Ir_562 hfr_562 htr_562 hCr_562
        exfalso; omega
    · intro ch3a_518 ch3b_518
      have hM9 := hJ.2
      conv => whnf
      refine ⟨by exact ⟨by omega, by show _ < ((Ln : Nat) : Int); omega, by omega⟩, ?_⟩
      conv => whnf
      refine ⟨by exact ⟨by omega, by show _ < ((Ln : Nat) : Int); omega, by omega⟩, ?_⟩
      conv => whnf
      refine ⟨by exact ⟨by omega, by show _ < ((Ln : Nat) : Int); omega, by omega⟩, ?_⟩
      conv => whnf
      refine ⟨by exact ⟨by omega, by show _ < ((Ln : Nat) : Int); omega, by omega⟩, ?_⟩
      conv => whnf
      refine ⟨by exact ⟨by omega, by show _ < ((Ln : Nat) : Int); omega, by omega⟩, ?_⟩
      conv => whnf
      refine ⟨by exact zs_z _ _ _, fun c554 => by exfalso; exact c509 c554, fun c554 => ?_⟩
      conv => whnf
      rw [← hp9]
      rw [← hx9]
      rw [← hy9]
      rw [← ht9]
      refine zinv0 (s_X12_whyNot T  (by first | exact hM9 | exact hA9 | assumption | decide | omega) (by first | exact hM9 | exact hA9 | assumption | decide | omega) (by first | exact hM9 | exact hA9 | assumption | decide | omega) (by first | exact hM9 | exact hA9 | assumption | decide | omega) (by first | exact hM9 | exact hA9 | assumption | decide | omega) (by first | exact hM9 | exact hA9 | assumption | decide | omega) (by first | exact hM9 | exact hA9 | assumption | decide | omega) ?_ ?_ ?_)
      · intro rcha_562 rchb_562 Ir_562 hfr_562 htr_562 hCr_562
        exfalso; omega
      · intro rch2a_562 Ir_562 hfr_562 htr_562 hCr_562
        exfalso; omega
      · intro rch3a_562 rch3b_562 Ir_562 hfr_562 htr_562 hCr_562
        conv => whnf
        refine zinv0 (s_X12_thrown T   ?_)
        conv => whnf
        refine ⟨by rw [htr_562]; decide, fun c573 => ?_, fun c573 => by exfalso; exact c573 htr_562⟩
        conv => whnf
        refine ⟨by decide, fun _ => ?_, fun c => absurd c (by decide)⟩
        conv => whnf
        refine T.fg [5, 6] ?_
        exact hk _ _ _ _ _ _ _ _ _ _ _ (by omega) (JB.mk hC hCr_562 (fun a b g => hfr_562 a b (fun c => by unfold PSc at c; omega)) (fun a b g => rfl) (fun t ht => rfl))
end
