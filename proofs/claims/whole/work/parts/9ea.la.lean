/-! THE LAW, 6: calls -/
section
variable {Ln : Nat} {xs : Nat → Int32} {CZ : Nat → ZC} {RZ : Nat → Nat → ZQ → ZP}
theorem l_op_alike (T : ZTh (XX Ln xs) CZ RZ) {d b : Nat} {Q : ZQ} {W H n bl : Nat} {M : Mo} {P SL : Nat → Mo} {u : Nat → Int} {i : Int} {I : ZI} {L : ZL} (hJ : JB I L W H M P n SL bl u) (hi : 0 ≤ i ∧ i + 6 ≤ (Ln : Int) ∧ Ln ≤ 3072) (hb3 : 3 ≤ b) (hk : ∀ (I' : ZI) (L' : ZL) (W' H' : Nat) (M' : Mo) (P' : Nat → Mo) (n' : Nat) (SL' : Nat → Mo) (bl' : Nat) (u' : Nat → Int) (b' : Nat), b ≤ b' + 3 → JB I' L' W' H' M' P' n' SL' bl' u' → RZ (d + 33) k_L_law Q 2061 [.inr (.ref 10100, 80000), .inr (.ref 0, 12), .inr (.ref 603, 13), .inr (.ref 643, 40001), .inl i, zj, zj, zj, zj] [] b' I' L') : RZ (d + 33) k_L_law Q 1177 [.inr (.ref 10100, 80000), .inr (.ref 0, 12), .inr (.ref 603, 13), .inr (.ref 643, 40001), .inl i, zj, zj, zj, zj] [] b I L := by
  have hC := hJ.1
  have hA9 := hJ.1.wfa
  obtain ⟨k, hk9⟩ : ∃ z : Int, z = zs (XX Ln xs) 10100 (i + 1) := ⟨_, rfl⟩
  have zk9 : zR k := by rw [hk9]; exact zs_z _ _ _
  refine T.go [2061] 200 ?_
  conv => whnf
  refine ⟨by exact ⟨by omega, by show _ < ((Ln : Nat) : Int); omega, by omega⟩, ?_⟩
  conv => whnf
  rw [← hk9]
  refine ⟨1, by omega, s_L_alike T  (by first | assumption | omega | rfl | decide) (by first | exact hJ.1 | assumption | decide | omega) (by first | exact hJ.1 | assumption | decide | omega) ?_ ?_⟩
  · intro cha_1185 chb_1185 I_1185 L_1185 hf_1185 hg_1185 hC_1185
    have hM9 := hJ.2.near hA9 (fun a b g => hf_1185 a b (fun c => by unfold PQ at c; omega))
    conv => whnf
    refine ⟨by exact ⟨by omega, by show _ < ((Ln : Nat) : Int); omega, by omega⟩, ?_⟩
    conv => whnf
    rw [← hk9]
    refine zinv0 (s_X12_alike T  (by first | exact hM9 | exact hA9 | assumption | decide | omega) (by first | exact hM9 | exact hA9 | assumption | decide | omega) (by first | exact hM9 | exact hA9 | assumption | decide | omega) ?_ ?_)
    · intro rcha_1197 Ir_1197 hfr_1197 htr_1197 hCr_1197
      have hzr : zR (alkR M k.toNat) := by
        exact alk_z _ _
      conv => whnf
      refine zinv0 (s_X12_thrown T   ?_)
      conv => whnf
      refine ⟨by rw [htr_1197]; decide, fun c1208 => ?_, fun c1208 => by exfalso; exact c1208 htr_1197⟩
      conv => whnf
      refine ⟨by decide, fun c => absurd c (by decide), fun _ => ?_⟩
      conv => whnf
      refine ⟨by omega, ?_⟩
      conv => whnf
      refine ⟨by first | exact hzr | decide | omega, ?_⟩
      conv => whnf
      refine ⟨fun c1224 => ?_, fun c1224 => ?_, fun c1224 => ?_⟩
      · conv => whnf
        refine ⟨by decide, fun c => absurd c (by decide), fun _ => ?_⟩
        conv => whnf
        refine ⟨by omega, ?_⟩
        refine absurd c1224 (lt_w ?_)
        rw [alk_eq]
      · conv => whnf
        refine ⟨by decide, fun _ => ?_, fun c => absurd c (by decide)⟩
        conv => whnf
        refine T.fg [5, 6] ?_
        exact hk _ _ _ _ _ _ _ _ _ _ _ (by omega) (JB.mk hC_1185 hCr_1197 (fun a b g => hfr_1197 a b (fun c => by unfold PSc at c; omega)) (fun a b g => w2_ne (by omega)) (fun t ht => hf_1185 _ _ (fun c => by unfold PQ at c; omega)))
      · conv => whnf
        refine ⟨by decide, fun c => absurd c (by decide), fun _ => ?_⟩
        conv => whnf
        refine ⟨by omega, ?_⟩
        refine absurd c1224 (gt_w ?_)
        rw [alk_eq]
    · intro rch2a_1197 Ir_1197 hfr_1197 htr_1197 hCr_1197
      exfalso; omega
  · intro ch2a_1185
    have hM9 := hJ.2
    conv => whnf
    refine ⟨by exact ⟨by omega, by show _ < ((Ln : Nat) : Int); omega, by omega⟩, ?_⟩
    conv => whnf
    rw [← hk9]
    refine zinv0 (s_X12_alike T  (by first | exact hM9 | exact hA9 | assumption | decide | omega) (by first | exact hM9 | exact hA9 | assumption | decide | omega) (by first | exact hM9 | exact hA9 | assumption | decide | omega) ?_ ?_)
    · intro rcha_1197 Ir_1197 hfr_1197 htr_1197 hCr_1197
      exfalso; omega
    · intro rch2a_1197 Ir_1197 hfr_1197 htr_1197 hCr_1197
      conv => whnf
      refine zinv0 (s_X12_thrown T   ?_)
      conv => whnf
      refine ⟨by rw [htr_1197]; decide, fun c1208 => ?_, fun c1208 => by exfalso; exact c1208 htr_1197⟩
      conv => whnf
      refine ⟨by decide, fun _ => ?_, fun c => absurd c (by decide)⟩
      conv => whnf
      refine T.fg [5, 6] ?_
      exact hk _ _ _ _ _ _ _ _ _ _ _ (by omega) (JB.mk hC hCr_1197 (fun a b g => hfr_1197 a b (fun c => by unfold PSc at c; omega)) (fun a b g => rfl) (fun t ht => rfl))
theorem l_op_find (T : ZTh (XX Ln xs) CZ RZ) {d b : Nat} {Q : ZQ} {W H n bl : Nat} {M : Mo} {P SL : Nat → Mo} {u : Nat → Int} {i : Int} {I : ZI} {L : ZL} (hJ : JB I L W H M P n SL bl u) (hi : 0 ≤ i ∧ i + 6 ≤ (Ln : Int) ∧ Ln ≤ 3072) (hb3 : 3 ≤ b) (hk : ∀ (I' : ZI) (L' : ZL) (W' H' : Nat) (M' : Mo) (P' : Nat → Mo) (n' : Nat) (SL' : Nat → Mo) (bl' : Nat) (u' : Nat → Int) (b' : Nat), b ≤ b' + 3 → JB I' L' W' H' M' P' n' SL' bl' u' → RZ (d + 33) k_L_law Q 2061 [.inr (.ref 10100, 80000), .inr (.ref 0, 12), .inr (.ref 603, 13), .inr (.ref 643, 40001), .inl i, zj, zj, zj, zj] [] b' I' L') : RZ (d + 33) k_L_law Q 1233 [.inr (.ref 10100, 80000), .inr (.ref 0, 12), .inr (.ref 603, 13), .inr (.ref 643, 40001), .inl i, zj, zj, zj, zj] [] b I L := by
  have hC := hJ.1
  have hA9 := hJ.1.wfa
  refine T.go [2061] 200 ?_
  conv => whnf
  refine zinv0 (s_X11_find T  (by first | exact hJ.1 | assumption | decide | omega) ?_)
  intro I_1234 L_1234 hf_1234 hg_1234 hC_1234
  have hM9 := hJ.2.near hA9 (fun a b g => hf_1234 a b (fun c => by unfold PQ at c; omega))
  have hzv : zR (findA M) := by
    exact z_find hC.2.2.1.2.1
  conv => whnf
  refine zinv0 (s_X12_find T  (by first | exact hM9 | exact hA9 | assumption | decide | omega) (by first | exact hM9 | exact hA9 | assumption | decide | omega) ?_)
  intro Ir_1238 hfr_1238 htr_1238 hCr_1238
  conv => whnf
  refine ⟨by first | exact ⟨hzv, hzv⟩ | omega, fun c1241 => ?_, fun c1241 => by exfalso; exact c1241 rfl⟩
  conv => whnf
  exact hk _ _ _ _ _ _ _ _ _ _ _ (by omega) (JB.mk hC_1234 hCr_1238 (fun a b g => hfr_1238 a b (fun c => by unfold PSc at c; omega)) (fun a b g => rfl) (fun t ht => hf_1234 _ _ (fun c => by unfold PQ at c; omega)))
theorem l_op_kinds (T : ZTh (XX Ln xs) CZ RZ) {d b : Nat} {Q : ZQ} {W H n bl : Nat} {M : Mo} {P SL : Nat → Mo} {u : Nat → Int} {i : Int} {I : ZI} {L : ZL} (hJ : JB I L W H M P n SL bl u) (hi : 0 ≤ i ∧ i + 6 ≤ (Ln : Int) ∧ Ln ≤ 3072) (hb3 : 3 ≤ b) (hk : ∀ (I' : ZI) (L' : ZL) (W' H' : Nat) (M' : Mo) (P' : Nat → Mo) (n' : Nat) (SL' : Nat → Mo) (bl' : Nat) (u' : Nat → Int) (b' : Nat), b ≤ b' + 3 → JB I' L' W' H' M' P' n' SL' bl' u' → RZ (d + 33) k_L_law Q 2061 [.inr (.ref 10100, 80000), .inr (.ref 0, 12), .inr (.ref 603, 13), .inr (.ref 643, 40001), .inl i, zj, zj, zj, zj] [] b' I' L') : RZ (d + 33) k_L_law Q 1246 [.inr (.ref 10100, 80000), .inr (.ref 0, 12), .inr (.ref 603, 13), .inr (.ref 643, 40001), .inl i, zj, zj, zj, zj] [] b I L := by
  have hC := hJ.1
  have hA9 := hJ.1.wfa
  refine T.go [2061] 200 ?_
  conv => whnf
  refine zinv0 (s_X11_kinds T  (by first | exact hJ.1 | assumption | decide | omega) ?_)
  intro I_1247 L_1247 hf_1247 hg_1247 hC_1247
  have hM9 := hJ.2.near hA9 (fun a b g => hf_1247 a b (fun c => by unfold PQ at c; omega))
  have hzv : zR (kindsA M) := by
    exact z_kinds hC.2.2.1.2.1
  conv => whnf
  refine zinv0 (s_X12_kinds T  (by first | exact hM9 | exact hA9 | assumption | decide | omega) (by first | exact hM9 | exact hA9 | assumption | decide | omega) ?_)
  intro Ir_1251 hfr_1251 htr_1251 hCr_1251
  conv => whnf
  refine ⟨by first | exact ⟨hzv, hzv⟩ | omega, fun c1254 => ?_, fun c1254 => by exfalso; exact c1254 rfl⟩
  conv => whnf
  exact hk _ _ _ _ _ _ _ _ _ _ _ (by omega) (JB.mk hC_1247 hCr_1251 (fun a b g => hfr_1251 a b (fun c => by unfold PSc at c; omega)) (fun a b g => rfl) (fun t ht => hf_1247 _ _ (fun c => by unfold PQ at c; omega)))
theorem l_op_missing (T : ZTh (XX Ln xs) CZ RZ) {d b : Nat} {Q : ZQ} {W H n bl : Nat} {M : Mo} {P SL : Nat → Mo} {u : Nat → Int} {i : Int} {I : ZI} {L : ZL} (hJ : JB I L W H M P n SL bl u) (hi : 0 ≤ i ∧ i + 6 ≤ (Ln : Int) ∧ Ln ≤ 3072) (hb3 : 3 ≤ b) (hk : ∀ (I' : ZI) (L' : ZL) (W' H' : Nat) (M' : Mo) (P' : Nat → Mo) (n' : Nat) (SL' : Nat → Mo) (bl' : Nat) (u' : Nat → Int) (b' : Nat), b ≤ b' + 3 → JB I' L' W' H' M' P' n' SL' bl' u' → RZ (d + 33) k_L_law Q 2061 [.inr (.ref 10100, 80000), .inr (.ref 0, 12), .inr (.ref 603, 13), .inr (.ref 643, 40001), .inl i, zj, zj, zj, zj] [] b' I' L') : RZ (d + 33) k_L_law Q 1259 [.inr (.ref 10100, 80000), .inr (.ref 0, 12), .inr (.ref 603, 13), .inr (.ref 643, 40001), .inl i, zj, zj, zj, zj] [] b I L := by
  have hC := hJ.1
  have hA9 := hJ.1.wfa
  obtain ⟨k, hk9⟩ : ∃ z : Int, z = zs (XX Ln xs) 10100 (i + 1) := ⟨_, rfl⟩
  have zk9 : zR k := by rw [hk9]; exact zs_z _ _ _
  refine T.go [2061] 200 ?_
  conv => whnf
  refine ⟨by exact ⟨by omega, by show _ < ((Ln : Nat) : Int); omega, by omega⟩, ?_⟩
  conv => whnf
  rw [← hk9]
  refine ⟨1, by omega, s_L_missing T  (by first | assumption | omega | rfl | decide) (by first | exact hJ.1 | assumption | decide | omega) (by first | exact hJ.1 | assumption | decide | omega) ?_ ?_⟩
  · intro cha_1267 chb_1267
    have hM9 := hJ.2
    conv => whnf
    refine ⟨by exact ⟨by omega, by show _ < ((Ln : Nat) : Int); omega, by omega⟩, ?_⟩
    conv => whnf
    rw [← hk9]
    refine zinv0 (s_X12_missing T  (by first | exact hM9 | exact hA9 | assumption | decide | omega) (by first | exact hM9 | exact hA9 | assumption | decide | omega) (by first | exact hM9 | exact hA9 | assumption | decide | omega) ?_ ?_)
    · intro rcha_1279 Ir_1279 hfr_1279 htr_1279 hCr_1279
      have hzr : zR (cn (fun q => mS M k.toNat q ^^ sil M q) 576) := by
        exact z_cn _ _ (by omega)
      conv => whnf
      refine zinv0 (s_X12_thrown T   ?_)
      conv => whnf
      refine ⟨by rw [htr_1279]; decide, fun c1290 => ?_, fun c1290 => by exfalso; exact c1290 htr_1279⟩
      conv => whnf
      refine ⟨by decide, fun c => absurd c (by decide), fun _ => ?_⟩
      conv => whnf
      refine ⟨by omega, ?_⟩
      conv => whnf
      refine ⟨by first | exact hzr | decide | omega, ?_⟩
      conv => whnf
      refine ⟨fun c1306 => ?_, fun c1306 => ?_, fun c1306 => ?_⟩
      · conv => whnf
        refine ⟨by decide, fun c => absurd c (by decide), fun _ => ?_⟩
        conv => whnf
        refine ⟨by omega, ?_⟩
        exact absurd c1306 (lt_w rfl)
      · conv => whnf
        refine ⟨by decide, fun _ => ?_, fun c => absurd c (by decide)⟩
        conv => whnf
        refine T.fg [5, 6] ?_
        exact hk _ _ _ _ _ _ _ _ _ _ _ (by omega) (JB.mk hC hCr_1279 (fun a b g => hfr_1279 a b (fun c => by unfold PSc at c; omega)) (fun a b g => w2_ne (by omega)) (fun t ht => rfl))
      · conv => whnf
        refine ⟨by decide, fun c => absurd c (by decide), fun _ => ?_⟩
        conv => whnf
        refine ⟨by omega, ?_⟩
        exact absurd c1306 (gt_w rfl)
    · intro rch2a_1279 Ir_1279 hfr_1279 htr_1279 hCr_1279
      exfalso; omega
  · intro ch2a_1267
    have hM9 := hJ.2
    conv => whnf
    refine ⟨by exact ⟨by omega, by show _ < ((Ln : Nat) : Int); omega, by omega⟩, ?_⟩
    conv => whnf
    rw [← hk9]
    refine zinv0 (s_X12_missing T  (by first | exact hM9 | exact hA9 | assumption | decide | omega) (by first | exact hM9 | exact hA9 | assumption | decide | omega) (by first | exact hM9 | exact hA9 | assumption | decide | omega) ?_ ?_)
    · intro rcha_1279 Ir_1279 hfr_1279 htr_1279 hCr_1279
      exfalso; omega
    · intro rch2a_1279 Ir_1279 hfr_1279 htr_1279 hCr_1279
      conv => whnf
      refine zinv0 (s_X12_thrown T   ?_)
      conv => whnf
      refine ⟨by rw [htr_1279]; decide, fun c1290 => ?_, fun c1290 => by exfalso; exact c1290 htr_1279⟩
      conv => whnf
      refine ⟨by decide, fun _ => ?_, fun c => absurd c (by decide)⟩
      conv => whnf
      refine T.fg [5, 6] ?_
      exact hk _ _ _ _ _ _ _ _ _ _ _ (by omega) (JB.mk hC hCr_1279 (fun a b g => hfr_1279 a b (fun c => by unfold PSc at c; omega)) (fun a b g => rfl) (fun t ht => rfl))
theorem l_op_ways (T : ZTh (XX Ln xs) CZ RZ) {d b : Nat} {Q : ZQ} {W H n bl : Nat} {M : Mo} {P SL : Nat → Mo} {u : Nat → Int} {i : Int} {I : ZI} {L : ZL} (hJ : JB I L W H M P n SL bl u) (hi : 0 ≤ i ∧ i + 6 ≤ (Ln : Int) ∧ Ln ≤ 3072) (hb3 : 3 ≤ b) (hk : ∀ (I' : ZI) (L' : ZL) (W' H' : Nat) (M' : Mo) (P' : Nat → Mo) (n' : Nat) (SL' : Nat → Mo) (bl' : Nat) (u' : Nat → Int) (b' : Nat), b ≤ b' + 3 → JB I' L' W' H' M' P' n' SL' bl' u' → RZ (d + 33) k_L_law Q 2061 [.inr (.ref 10100, 80000), .inr (.ref 0, 12), .inr (.ref 603, 13), .inr (.ref 643, 40001), .inl i, zj, zj, zj, zj] [] b' I' L') : RZ (d + 33) k_L_law Q 1315 [.inr (.ref 10100, 80000), .inr (.ref 0, 12), .inr (.ref 603, 13), .inr (.ref 643, 40001), .inl i, zj, zj, zj, zj] [] b I L := by
  have hC := hJ.1
  have hA9 := hJ.1.wfa
  obtain ⟨k, hk9⟩ : ∃ z : Int, z = zs (XX Ln xs) 10100 (i + 1) := ⟨_, rfl⟩
  have zk9 : zR k := by rw [hk9]; exact zs_z _ _ _
  refine T.go [2061] 200 ?_
  conv => whnf
  refine ⟨by exact ⟨by omega, by show _ < ((Ln : Nat) : Int); omega, by omega⟩, ?_⟩
  conv => whnf
  rw [← hk9]
  refine ⟨1, by omega, s_L_ways T  (by first | assumption | omega | rfl | decide) (by first | exact hJ.1 | assumption | decide | omega) (by first | exact hJ.1 | assumption | decide | omega) ?_ ?_⟩
  · intro cha_1323 chb_1323 I_1323 L_1323 hf_1323 hg_1323 hC_1323
    have hM9 := hJ.2.near hA9 (fun a b g => hf_1323 a b (fun c => by unfold PQ at c; omega))
    conv => whnf
    refine ⟨by exact ⟨by omega, by show _ < ((Ln : Nat) : Int); omega, by omega⟩, ?_⟩
    conv => whnf
    rw [← hk9]
    refine zinv0 (s_X12_ways T  (by first | exact hM9 | exact hA9 | assumption | decide | omega) (by first | exact hM9 | exact hA9 | assumption | decide | omega) (by first | exact hM9 | exact hA9 | assumption | decide | omega) ?_ ?_)
    · intro rcha_1335 rchb_1335 Ir_1335 hfr_1335 htr_1335 hCr_1335
      have hzr : zR (waysA M k.toNat) := by
        exact z_ways _ _
      conv => whnf
      refine zinv0 (s_X12_thrown T   ?_)
      conv => whnf
      refine ⟨by rw [htr_1335]; decide, fun c1346 => ?_, fun c1346 => by exfalso; exact c1346 htr_1335⟩
      conv => whnf
      refine ⟨by decide, fun c => absurd c (by decide), fun _ => ?_⟩
      conv => whnf
      refine ⟨by omega, ?_⟩
      conv => whnf
      refine ⟨by first | exact hzr | decide | omega, ?_⟩
      conv => whnf
      refine ⟨fun c1362 => ?_, fun c1362 => ?_, fun c1362 => ?_⟩
      · conv => whnf
        refine ⟨by decide, fun c => absurd c (by decide), fun _ => ?_⟩
        conv => whnf
        refine ⟨by omega, ?_⟩
        exact absurd c1362 (lt_w rfl)
      · conv => whnf
        refine ⟨by decide, fun _ => ?_, fun c => absurd c (by decide)⟩
        conv => whnf
        refine T.fg [5, 6] ?_
        exact hk _ _ _ _ _ _ _ _ _ _ _ (by omega) (JB.mk hC_1323 hCr_1335 (fun a b g => hfr_1335 a b (fun c => by unfold PSc at c; omega)) (fun a b g => w2_ne (by omega)) (fun t ht => hf_1323 _ _ (fun c => by unfold PQ at c; omega)))
      · conv => whnf
        refine ⟨by decide, fun c => absurd c (by decide), fun _ => ?_⟩
        conv => whnf
        refine ⟨by omega, ?_⟩
        exact absurd c1362 (gt_w rfl)
    · intro rch2a_1335 Ir_1335 hfr_1335 htr_1335 hCr_1335
      exfalso; omega
  · intro ch2a_1323
    have hM9 := hJ.2
    conv => whnf
    refine ⟨by exact ⟨by omega, by show _ < ((Ln : Nat) : Int); omega, by omega⟩, ?_⟩
    conv => whnf
    rw [← hk9]
    refine zinv0 (s_X12_ways T  (by first | exact hM9 | exact hA9 | assumption | decide | omega) (by first | exact hM9 | exact hA9 | assumption | decide | omega) (by first | exact hM9 | exact hA9 | assumption | decide | omega) ?_ ?_)
    · intro rcha_1335 rchb_1335 Ir_1335 hfr_1335 htr_1335 hCr_1335
      exfalso; omega
    · intro rch2a_1335 Ir_1335 hfr_1335 htr_1335 hCr_1335
      conv => whnf
      refine zinv0 (s_X12_thrown T   ?_)
      conv => whnf
      refine ⟨by rw [htr_1335]; decide, fun c1346 => ?_, fun c1346 => by exfalso; exact c1346 htr_1335⟩
      conv => whnf
      refine ⟨by decide, fun _ => ?_, fun c => absurd c (by decide)⟩
      conv => whnf
      refine T.fg [5, 6] ?_
      exact hk _ _ _ _ _ _ _ _ _ _ _ (by omega) (JB.mk hC hCr_1335 (fun a b g => hfr_1335 a b (fun c => by unfold PSc at c; omega)) (fun a b g => rfl) (fun t ht => rfl))
theorem l_op_firstWay (T : ZTh (XX Ln xs) CZ RZ) {d b : Nat} {Q : ZQ} {W H n bl : Nat} {M : Mo} {P SL : Nat → Mo} {u : Nat → Int} {i : Int} {I : ZI} {L : ZL} (hJ : JB I L W H M P n SL bl u) (hi : 0 ≤ i ∧ i + 6 ≤ (Ln : Int) ∧ Ln ≤ 3072) (hb3 : 3 ≤ b) (hk : ∀ (I' : ZI) (L' : ZL) (W' H' : Nat) (M' : Mo) (P' : Nat → Mo) (n' : Nat) (SL' : Nat → Mo) (bl' : Nat) (u' : Nat → Int) (b' : Nat), b ≤ b' + 3 → JB I' L' W' H' M' P' n' SL' bl' u' → RZ (d + 33) k_L_law Q 2061 [.inr (.ref 10100, 80000), .inr (.ref 0, 12), .inr (.ref 603, 13), .inr (.ref 643, 40001), .inl i, zj, zj, zj, zj] [] b' I' L') : RZ (d + 33) k_L_law Q 1371 [.inr (.ref 10100, 80000), .inr (.ref 0, 12), .inr (.ref 603, 13), .inr (.ref 643, 40001), .inl i, zj, zj, zj, zj] [] b I L := by
  have hC := hJ.1
  have hA9 := hJ.1.wfa
  obtain ⟨k, hk9⟩ : ∃ z : Int, z = zs (XX Ln xs) 10100 (i + 1) := ⟨_, rfl⟩
  have zk9 : zR k := by rw [hk9]; exact zs_z _ _ _
  obtain ⟨p, hp9⟩ : ∃ z : Int, z = zs (XX Ln xs) 10100 (i + 2) := ⟨_, rfl⟩
  have zp9 : zR p := by rw [hp9]; exact zs_z _ _ _
  obtain ⟨w, hw9⟩ : ∃ z : Int, z = zs (XX Ln xs) 10100 (i + 3) := ⟨_, rfl⟩
  have zw9 : zR w := by rw [hw9]; exact zs_z _ _ _
  refine T.go [2061] 200 ?_
  conv => whnf
  refine ⟨by exact ⟨by omega, by show _ < ((Ln : Nat) : Int); omega, by omega⟩, ?_⟩
  conv => whnf
  refine ⟨by exact ⟨by omega, by show _ < ((Ln : Nat) : Int); omega, by omega⟩, ?_⟩
  conv => whnf
  refine ⟨by exact ⟨by omega, by show _ < ((Ln : Nat) : Int); omega, by omega⟩, ?_⟩
  conv => whnf
  rw [← hk9]
  rw [← hp9]
  rw [← hw9]
  refine ⟨3, by omega, s_L_firstWay T  (by first | assumption | omega | rfl | decide) (by first | exact hJ.1 | assumption | decide | omega) (by first | exact hJ.1 | assumption | decide | omega) (by first | exact hJ.1 | assumption | decide | omega) (by first | exact hJ.1 | assumption | decide | omega) ?_ ?_ ?_⟩
  · intro cha_1391 chb_1391 chc_1391 chd_1391 I_1391 L_1391 hf_1391 hg_1391 hC_1391
    have hM9 := hJ.2.near hA9 (fun a b g => hf_1391 a b (fun c => by unfold PQ at c; omega))
    conv => whnf
    refine ⟨by exact ⟨by omega, by show _ < ((Ln : Nat) : Int); omega, by omega⟩, ?_⟩
    conv => whnf
    refine ⟨by exact ⟨by omega, by show _ < ((Ln : Nat) : Int); omega, by omega⟩, ?_⟩
    conv => whnf
    refine ⟨by exact ⟨by omega, by show _ < ((Ln : Nat) : Int); omega, by omega⟩, ?_⟩
    conv => whnf
    rw [← hk9]
    rw [← hp9]
    rw [← hw9]
    refine zinv0 (s_X12_firstWay T  (by first | exact hM9 | exact hA9 | assumption | decide | omega) (by first | exact hM9 | exact hA9 | assumption | decide | omega) (by first | exact hM9 | exact hA9 | assumption | decide | omega) (by first | exact hM9 | exact hA9 | assumption | decide | omega) (by first | exact hM9 | exact hA9 | assumption | decide | omega) ?_ ?_ ?_)
    · intro rcha_1415 rchb_1415 rchc_1415 rchd_1415 Ir_1415 hfr_1415 htr_1415 hCr_1415
      have hzr : zR (firstA M k.toNat p.toNat w) := by
        exact z_first _ _ (by omega) _
      conv => whnf
      refine zinv0 (s_X12_thrown T   ?_)
      conv => whnf
      refine ⟨by rw [htr_1415]; decide, fun c1426 => ?_, fun c1426 => by exfalso; exact c1426 htr_1415⟩
      conv => whnf
      refine ⟨by decide, fun c => absurd c (by decide), fun _ => ?_⟩
      conv => whnf
      refine ⟨by omega, ?_⟩
      conv => whnf
      refine ⟨by first | exact hzr | decide | omega, ?_⟩
      conv => whnf
      refine ⟨fun c1442 => ?_, fun c1442 => ?_, fun c1442 => ?_⟩
      · conv => whnf
        refine ⟨by decide, fun c => absurd c (by decide), fun _ => ?_⟩
        conv => whnf
        refine ⟨by omega, ?_⟩
        exact absurd c1442 (lt_w rfl)
      · conv => whnf
        refine ⟨by decide, fun _ => ?_, fun c => absurd c (by decide)⟩
        conv => whnf
        refine T.fg [5, 6] ?_
        exact hk _ _ _ _ _ _ _ _ _ _ _ (by omega) (JB.mk hC_1391 hCr_1415 (fun a b g => hfr_1415 a b (fun c => by unfold PSc at c; omega)) (fun a b g => w2_ne (by omega)) (fun t ht => hf_1391 _ _ (fun c => by unfold PQ at c; omega)))
      · conv => whnf
        refine ⟨by decide, fun c => absurd c (by decide), fun _ => ?_⟩
        conv => whnf
        refine ⟨by omega, ?_⟩
        exact absurd c1442 (gt_w rfl)
    · intro rch2a_1415 Ir_1415 hfr_1415 htr_1415 hCr_1415
      exfalso; omega
    · intro rch3a_1415 rch3b_1415 Ir_1415 hfr_1415 htr_1415 hCr_1415
      exfalso; omega
  · intro ch2a_1391
    have hM9 := hJ.2
    conv => whnf
    refine ⟨by exact ⟨by omega, by show _ < ((Ln : Nat) : Int); omega, by omega⟩, ?_⟩
    conv => whnf
    refine ⟨by exact ⟨by omega, by show _ < ((Ln : Nat) : Int); omega, by omega⟩, ?_⟩
    conv => whnf
    refine ⟨by exact ⟨by omega, by show _ < ((Ln : Nat) : Int); omega, by omega⟩, ?_⟩
    conv => whnf
    rw [← hk9]
    rw [← hp9]
    rw [← hw9]
    refine zinv0 (s_X12_firstWay T  (by first | exact hM9 | exact hA9 | assumption | decide | omega) (by first | exact hM9 | exact hA9 | assumption | decide | omega) (by first | exact hM9 | exact hA9 | assumption | decide | omega) (by first | exact hM9 | exact hA9 | assumption | decide | omega) (by first | exact hM9 | exact hA9 | assumption | decide | omega) ?_ ?_ ?_)
    · intro rcha_1415 rchb_1415 rchc_1415 rchd_1415 Ir_1415 hfr_1415 htr_1415 hCr_1415
      exfalso; omega
    · intro rch2a_1415 Ir_1415 hfr_1415 htr_1415 hCr_1415
      conv => whnf
      refine zinv0 (s_X12_thrown T   ?_)
      conv => whnf
      refine ⟨by rw [htr_1415]; decide, fun c1426 => ?_, fun c1426 => by exfalso; exact c1426 htr_1415⟩
      conv => whnf
      refine ⟨by decide, fun _ => ?_, fun c => absurd c (by decide)⟩
      conv => whnf
      refine T.fg [5, 6] ?_
      exact hk _ _ _ _ _ _ _ _ _ _ _ (by omega) (JB.mk hC hCr_1415 (fun a b g => hfr_1415 a b (fun c => by unfold PSc at c; omega)) (fun a b g => rfl) (fun t ht => rfl))
    · intro rch3a_1415 rch3b_1415 Ir_1415 hfr_1415 htr_1415 hCr_1415
      exfalso; omega
  · intro ch3a_1391 ch3b_1391
    have hM9 := hJ.2
    conv => whnf
    refine ⟨by exact ⟨by omega, by show _ < ((Ln : Nat) : Int); omega, by omega⟩, ?_⟩
    conv => whnf
    refine ⟨by exact ⟨by omega, by show _ < ((Ln : Nat) : Int); omega, by omega⟩, ?_⟩
    conv => whnf
    refine ⟨by exact ⟨by omega, by show _ < ((Ln : Nat) : Int); omega, by omega⟩, ?_⟩
    conv => whnf
    rw [← hk9]
    rw [← hp9]
    rw [← hw9]
    refine zinv0 (s_X12_firstWay T  (by first | exact hM9 | exact hA9 | assumption | decide | omega) (by first | exact hM9 | exact hA9 | assumption | decide | omega) (by first | exact hM9 | exact hA9 | assumption | decide | omega) (by first | exact hM9 | exact hA9 | assumption | decide | omega) (by first | exact hM9 | exact hA9 | assumption | decide | omega) ?_ ?_ ?_)
    · intro rcha_1415 rchb_1415 rchc_1415 rchd_1415 Ir_1415 hfr_1415 htr_1415 hCr_1415
      exfalso; omega
    · intro rch2a_1415 Ir_1415 hfr_1415 htr_1415 hCr_1415
      exfalso; omega
    · intro rch3a_1415 rch3b_1415 Ir_1415 hfr_1415 htr_1415 hCr_1415
      conv => whnf
      refine zinv0 (s_X12_thrown T   ?_)
      conv => whnf
      refine ⟨by rw [htr_1415]; decide, fun c1426 => ?_, fun c1426 => by exfalso; exact c1426 htr_1415⟩
      conv => whnf
      refine ⟨by decide, fun _ => ?_, fun c => absurd c (by decide)⟩
      conv => whnf
      refine T.fg [5, 6] ?_
      exact hk _ _ _ _ _ _ _ _ _ _ _ (by omega) (JB.mk hC hCr_1415 (fun a b g => hfr_1415 a b (fun c => by unfold PSc at c; omega)) (fun a b g => rfl) (fun t ht => rfl))
end
