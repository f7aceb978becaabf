/-! CHECKSUM -/
section
variable {Ln : Nat} {xs : Nat → Int32} {CZ : Nat → ZC} {RZ : Nat → Nat → ZQ → ZP}
/-- one more number into a checksum; n of them; rows of c -/
def ckS (s : Int64) (n : Int) : Int64 := 31 * s + l6 n
def flS (f : Nat → Int) : Nat → Int64 → Int64
  | 0, s => s
  | n + 1, s => ckS (flS f n s) (f n)
def fl2S (g : Nat → Nat → Int) (c : Nat) : Nat → Int64 → Int64
  | 0, s => s
  | n + 1, s => flS (g n) c (fl2S g c n s)
noncomputable def chkA (W H : Nat) (M : Mo) (n bl : Nat) : Int64 :=
  fl2S (fun k w => aShape (mS M k) (w : Int)) 5 (mN M) (fl2S (fun l w => aLoop (olM M) l (w : Int)) 6 (oL (olM M)) (fl2S (fun y i => owAt M (48 * (y : Int) + (i : Int))) (4 * W) H (fl2S (fun p w => aPiece M p (w : Int)) 4 7 (flS (fun w => aSize W H M n bl (w : Int)) 9 0))))
theorem aPiece_z {W H : Nat} {M : Mo} (h : Wq W H M) {p w : Nat} (hp : p < 7) (hw : w < 4) : zR (aPiece M p (w : Int)) := by
  obtain ⟨⟨w1, w2, w3, w4⟩, -, -⟩ := id h
  by_cases hf : mF M p = -1
  · have e : aPiece M p (w : Int) = -1 := by
      rcases (show w = 0 ∨ w = 1 ∨ w = 2 ∨ w = 3 by omega) with e | e | e | e <;> subst e <;> exact if_pos hf
    rw [e]; decide
  · obtain ⟨b1, b2, b3, b4, b5, b6, b7, b8⟩ := h.form hp hf
    rcases (show w = 0 ∨ w = 1 ∨ w = 2 ∨ w = 3 by omega) with e | e | e | e <;> subst e
    · rw [show aPiece M p ((0 : Nat) : Int) = mX M p from if_neg hf]; exact ⟨by omega, by omega⟩
    · rw [show aPiece M p ((1 : Nat) : Int) = mY M p from if_neg hf]; exact ⟨by omega, by omega⟩
    · rw [show aPiece M p ((2 : Nat) : Int) = mF M p / 2 from if_neg hf]; exact ⟨by omega, by omega⟩
    · rw [show aPiece M p ((3 : Nat) : Int) = mF M p % 2 from if_neg hf]; exact ⟨by omega, by omega⟩
theorem aSize_z {I : ZI} {L : ZL} {W H : Nat} {M : Mo} {P : Nat → Mo} {n : Nat} {SL : Nat → Mo} {bl : Nat} {u : Nat → Int} (h : CB I L W H M P n SL bl u) {w : Nat} (hw : w < 9) : zR (aSize W H M n bl (w : Int)) := by
  obtain ⟨_, _, _, _, _, o6, o7⟩ := h.outl
  obtain ⟨⟨⟨w1, w2, w3, w4⟩, -⟩, w5, -⟩ := h.2.2.1
  rcases (show w = 0 ∨ w = 1 ∨ w = 2 ∨ w = 3 ∨ w = 4 ∨ w = 5 ∨ w = 6 ∨ w = 7 ∨ w = 8 by omega) with e | e | e | e | e | e | e | e | e <;> subst e
  · show zR (W : Int); exact ⟨by omega, by omega⟩
  · show zR (H : Int); exact ⟨by omega, by omega⟩
  · show zR (cn _ 7)
    have h1 := cn_nonneg (fun j => !decide (mF M (j : Int) = -1)) 7
    have h2 := cn_le (fun j => !decide (mF M (j : Int) = -1)) 7
    exact ⟨by omega, by omega⟩
  · show zR (cn (sil M) 576)
    have h1 := cn_nonneg (sil M) 576
    have h2 := cn_le (sil M) 576
    exact ⟨by omega, by omega⟩
  · show zR (cn (fun q => sil M q && dc (∀ p, p < q → sil M p = true → ¬ cc (sil M) p q)) 576)
    have h1 := cn_nonneg (fun q => sil M q && dc (∀ p, p < q → sil M p = true → ¬ cc (sil M) p q)) 576
    have h2 := cn_le (fun q => sil M q && dc (∀ p, p < q → sil M p = true → ¬ cc (sil M) p q)) 576
    exact ⟨by omega, by omega⟩
  · show zR ((oL (olM M) : Nat) : Int); exact ⟨by omega, by omega⟩
  · show zR (cn (fun j => decide (oAR (olM M) j < 0)) (oL (olM M)))
    have h1 := cn_nonneg (fun j => decide (oAR (olM M) j < 0)) (oL (olM M))
    have h2 := cn_le (fun j => decide (oAR (olM M) j < 0)) (oL (olM M))
    exact ⟨by omega, by omega⟩
  · show zR ((oE (olM M) : Nat) : Int); exact ⟨by omega, by omega⟩
  · show zR ((mN M : Nat) : Int); exact ⟨by omega, by omega⟩
theorem aLoop_z {I : ZI} {L : ZL} {W H : Nat} {M : Mo} {P : Nat → Mo} {n : Nat} {SL : Nat → Mo} {bl : Nat} {u : Nat → Int} (h : CB I L W H M P n SL bl u) {l w : Nat} (hl : l < oL (olM M)) (hw : w < 6) : zR (aLoop (olM M) l (w : Int)) := by
  obtain ⟨_, _, _, _, _, o6, o7⟩ := h.outl
  obtain ⟨f, c, q1, q2, q3, q4, q5, q6, q7, q8, q9, qa, qb, qc, qd⟩ := h.lo hl
  have hqf : (oFE (olM M) l).toNat = f := by rw [q1]; exact Int.toNat_natCast f
  obtain ⟨u1, u2, u3, u4, u5, u6, u7, u8, u9⟩ := h.ed (e := f) (by omega)
  rcases (show w = 0 ∨ w = 1 ∨ w = 2 ∨ w = 3 ∨ w = 4 ∨ w = 5 by omega) with e | e | e | e | e | e <;> subst e
  · show zR (oEC (olM M) l); rw [q2]; exact ⟨by omega, by omega⟩
  · show zR (oLG (olM M) l); exact ⟨by omega, by omega⟩
  · show zR (oSH (olM M) l); exact ⟨by omega, by omega⟩
  · show zR (if oAR (olM M) l < 0 then 1 else 0)
    split <;> decide
  · show zR (oK (olM M) (oFE (olM M) l).toNat % 25); rw [hqf]; exact ⟨by omega, by omega⟩
  · show zR (oK (olM M) (oFE (olM M) l).toNat / 25); rw [hqf]; exact ⟨by omega, by omega⟩
theorem aShape_z (S : Nat → Bool) {w : Nat} (hw : w < 5) : zR (aShape S (w : Int)) := by
  have hb := box_le S
  rcases (show w = 0 ∨ w = 1 ∨ w = 2 ∨ w = 3 ∨ w = 4 by omega) with e | e | e | e | e <;> subst e
  · show zR (cn S 576)
    have h1 := cn_nonneg S 576
    have h2 := cn_le S 576
    exact ⟨by omega, by omega⟩
  · show zR ((lt S : Nat) : Int); exact ⟨by omega, by omega⟩
  · show zR ((tp S : Nat) : Int); exact ⟨by omega, by omega⟩
  · show zR ((wd S : Nat) : Int); exact ⟨by omega, by omega⟩
  · show zR ((hg S : Nat) : Int); exact ⟨by omega, by omega⟩
theorem l_ck1 (T : ZTh (XX Ln xs) CZ RZ) {d b : Nat} {Q : ZQ} {W H n bl : Nat} {M : Mo} {P SL : Nat → Mo} {u : Nat → Int} {I : ZI} {L : ZL} (hC : CB I L W H M P n SL bl u) (hk : RZ (d + 3) k_X11_checksum Q 31 [.inr (.ref 0, 12), .inr (.long (flS (fun w => aSize W H M n bl (w : Int)) 9 0), 0), zj, .inl 0, zj] [] b I L) (m : Nat) : ∀ (w : Nat) (s : Int64), (w ≤ 9) → (s = flS (fun w => aSize W H M n bl (w : Int)) w 0) → 9 - (w : Int) < (m : Int) → RZ (d + 3) k_X11_checksum Q 4 [.inr (.ref 0, 12), .inr (.long (s), 0), zj, .inl ((w : Int)), zj] [] b I L := by
  induction m with
  | zero =>
    intro w s hw hs hm
    exfalso
    omega
  | succ m ih =>
    intro w s hw hs hm
    refine T.go [4, 31] 90 ?_
    conv => whnf
    refine ⟨by omega, fun c7 => ?_, fun c7 => ?_⟩
    · conv => whnf
      obtain rfl : w = 9 := by omega
      rw [hs]
      exact hk
    · conv => whnf
      refine zinv0 (s0_size T  (by exact hC) (by exact ⟨by omega, by omega⟩) (by omega) ?_)
      intro cha_17 chb_17
      conv => whnf
      refine ⟨by exact aSize_z hC (by omega), ?_⟩
      conv => whnf
      exact ih (w + 1) _ (by omega) (by rw [hs]; rfl) (by omega)
theorem l_ck2I (T : ZTh (XX Ln xs) CZ RZ) {d b : Nat} {Q : ZQ} {W H n bl : Nat} {M : Mo} {P SL : Nat → Mo} {u : Nat → Int} {a : Nat} {s0 : Int64} {I : ZI} {L : ZL} (hC : CB I L W H M P n SL bl u) (ha : a < 7) (hk : RZ (d + 3) k_X11_checksum Q 31 [.inr (.ref 0, 12), .inr (.long (flS (fun (i : Nat) => aPiece M a (i : Int)) (4) s0), 0), zj, .inl ((a : Int) + 1), zj] [] b I L) (m : Nat) : ∀ (i : Nat) (s : Int64), (i ≤ 4) → (s = flS (fun (i : Nat) => aPiece M a (i : Int)) i s0) → ((4 : Nat) : Int) - (i : Int) < (m : Int) → RZ (d + 3) k_X11_checksum Q 40 [.inr (.ref 0, 12), .inr (.long (s), 0), zj, .inl ((a : Int)), .inl ((i : Int))] [] b I L := by
  induction m with
  | zero =>
    intro i s hi hs hm
    exfalso
    omega
  | succ m ih =>
    intro i s hi hs hm
    obtain ⟨cF, cS, cW, cSil, cPa, cPw, cSl, cFi, cb1, cb2, cb3⟩ := id hC
    obtain ⟨t1, t2, t3, t4, t5⟩ := id cS
    obtain ⟨⟨⟨w1, w2, w3, w4⟩, -⟩, w5, w6⟩ := id cW
    refine T.go [31, 40] 90 ?_
    conv => whnf
    refine ⟨by omega, fun c43 => ?_, fun c43 => ?_⟩
    · conv => whnf
      refine T.fg [4] ?_
      obtain rfl : i = 4 := by omega
      rw [hs]
      exact hk
    · conv => whnf
      refine zinv0 (s0_piece T  (by exact hC) (by exact ⟨by omega, by omega⟩) (by exact ⟨by omega, by omega⟩) (by omega) (by omega) ?_)
      intro cha_55 chb_55 chc_55 chd_55
      conv => whnf
      refine ⟨by exact aPiece_z cW.1 ha (by omega), ?_⟩
      conv => whnf
      exact ih (i + 1) _ (by omega) (by rw [hs]; rfl) (by omega)
theorem l_ck2O (T : ZTh (XX Ln xs) CZ RZ) {d b : Nat} {Q : ZQ} {W H n bl : Nat} {M : Mo} {P SL : Nat → Mo} {u : Nat → Int} {s0 : Int64} {I : ZI} {L : ZL} (hC : CB I L W H M P n SL bl u) (hk : RZ (d + 3) k_X11_checksum Q 75 [.inr (.ref 0, 12), .inr (.long (fl2S (fun a i => aPiece M a (i : Int)) (4) (7) s0), 0), zj, .inl 0, zj] [] b I L) (m : Nat) : ∀ (a : Nat) (s : Int64), (a ≤ 7) → (s = fl2S (fun a i => aPiece M a (i : Int)) (4) a s0) → ((7 : Nat) : Int) - (a : Int) < (m : Int) → RZ (d + 3) k_X11_checksum Q 31 [.inr (.ref 0, 12), .inr (.long (s), 0), zj, .inl ((a : Int)), zj] [] b I L := by
  induction m with
  | zero =>
    intro a s ha hs hm
    exfalso
    omega
  | succ m ih =>
    intro a s ha hs hm
    obtain ⟨cF, cS, cW, cSil, cPa, cPw, cSl, cFi, cb1, cb2, cb3⟩ := id hC
    obtain ⟨t1, t2, t3, t4, t5⟩ := id cS
    obtain ⟨⟨⟨w1, w2, w3, w4⟩, -⟩, w5, w6⟩ := id cW
    refine T.go [40, 75] 90 ?_
    conv => whnf
    refine ⟨by omega, fun c34 => ?_, fun c34 => ?_⟩
    · conv => whnf
      obtain rfl : a = 7 := by omega
      rw [hs]
      exact hk
    · conv => whnf
      exact l_ck2I T hC (by omega) (ih (a + 1) _ (by omega) (by rw [hs]; rfl) (by omega)) (4 + 1) 0 _ (by omega) rfl (by omega)
theorem l_ck3I (T : ZTh (XX Ln xs) CZ RZ) {d b : Nat} {Q : ZQ} {W H n bl : Nat} {M : Mo} {P SL : Nat → Mo} {u : Nat → Int} {a : Nat} {s0 : Int64} {I : ZI} {L : ZL} (hC : CB I L W H M P n SL bl u) (ha : a < H) (hk : RZ (d + 3) k_X11_checksum Q 75 [.inr (.ref 0, 12), .inr (.long (flS (fun (i : Nat) => owAt M (48 * (a : Int) + (i : Int))) (4 * W) s0), 0), zj, .inl ((a : Int) + 1), zj] [] b I L) (m : Nat) : ∀ (i : Nat) (s : Int64), (i ≤ 4 * W) → (s = flS (fun (i : Nat) => owAt M (48 * (a : Int) + (i : Int))) i s0) → ((4 * W : Nat) : Int) - (i : Int) < (m : Int) → RZ (d + 3) k_X11_checksum Q 89 [.inr (.ref 0, 12), .inr (.long (s), 0), zj, .inl ((a : Int)), .inl ((i : Int))] [] b I L := by
  induction m with
  | zero =>
    intro i s hi hs hm
    exfalso
    omega
  | succ m ih =>
    intro i s hi hs hm
    obtain ⟨cF, cS, cW, cSil, cPa, cPw, cSl, cFi, cb1, cb2, cb3⟩ := id hC
    obtain ⟨t1, t2, t3, t4, t5⟩ := id cS
    obtain ⟨⟨⟨w1, w2, w3, w4⟩, -⟩, w5, w6⟩ := id cW
    refine T.go [75, 89] 90 ?_
    conv => whnf
    refine ⟨by decide, _, rfl, ?_⟩
    conv => whnf
    refine ⟨by decide, ?_⟩
    conv => whnf
    refine ⟨by omega, fun c100 => ?_, fun c100 => ?_⟩
    · conv => whnf
      refine T.fg [4] ?_
      obtain rfl : i = 4 * W := by omega
      rw [hs]
      exact hk
    · conv => whnf
      refine zinv0 (s0_pieceAt T  (by exact hC) (by exact ⟨by omega, by omega⟩) ?_)
      conv => whnf
      refine ⟨by have := owAt_b M (48 * (a : Int) + (i : Int)); exact ⟨by omega, by omega⟩, ?_⟩
      conv => whnf
      exact ih (i + 1) _ (by omega) (by rw [hs]; rfl) (by omega)
theorem l_ck3O (T : ZTh (XX Ln xs) CZ RZ) {d b : Nat} {Q : ZQ} {W H n bl : Nat} {M : Mo} {P SL : Nat → Mo} {u : Nat → Int} {s0 : Int64} {I : ZI} {L : ZL} (hC : CB I L W H M P n SL bl u) (hk : RZ (d + 3) k_X11_checksum Q 136 [.inr (.ref 0, 12), .inr (.long (fl2S (fun a i => owAt M (48 * (a : Int) + (i : Int))) (4 * W) (H) s0), 0), zj, .inl 0, zj] [] b I L) (m : Nat) : ∀ (a : Nat) (s : Int64), (a ≤ H) → (s = fl2S (fun a i => owAt M (48 * (a : Int) + (i : Int))) (4 * W) a s0) → ((H : Nat) : Int) - (a : Int) < (m : Int) → RZ (d + 3) k_X11_checksum Q 75 [.inr (.ref 0, 12), .inr (.long (s), 0), zj, .inl ((a : Int)), zj] [] b I L := by
  induction m with
  | zero =>
    intro a s ha hs hm
    exfalso
    omega
  | succ m ih =>
    intro a s ha hs hm
    obtain ⟨cF, cS, cW, cSil, cPa, cPw, cSl, cFi, cb1, cb2, cb3⟩ := id hC
    obtain ⟨t1, t2, t3, t4, t5⟩ := id cS
    obtain ⟨⟨⟨w1, w2, w3, w4⟩, -⟩, w5, w6⟩ := id cW
    refine T.go [89, 136] 90 ?_
    conv => whnf
    refine ⟨by decide, _, rfl, ?_⟩
    conv => whnf
    refine ⟨by decide, ?_⟩
    conv => whnf
    refine ⟨by omega, fun c83 => ?_, fun c83 => ?_⟩
    · conv => whnf
      obtain rfl : a = H := by omega
      rw [hs]
      exact hk
    · conv => whnf
      exact l_ck3I T hC (by omega) (ih (a + 1) _ (by omega) (by rw [hs]; rfl) (by omega)) (4 * W + 1) 0 _ (by omega) rfl (by omega)
theorem l_ck4I (T : ZTh (XX Ln xs) CZ RZ) {d b : Nat} {Q : ZQ} {W H n bl : Nat} {M : Mo} {P SL : Nat → Mo} {u : Nat → Int} {a : Nat} {s0 : Int64} {I : ZI} {L : ZL} (hC : CB I L W H M P n SL bl u) (ha : a < oL (olM M)) (hk : RZ (d + 3) k_X11_checksum Q 136 [.inr (.ref 0, 12), .inr (.long (flS (fun (i : Nat) => aLoop (olM M) a (i : Int)) (6) s0), 0), zj, .inl ((a : Int) + 1), zj] [] b I L) (m : Nat) : ∀ (i : Nat) (s : Int64), (i ≤ 6) → (s = flS (fun (i : Nat) => aLoop (olM M) a (i : Int)) i s0) → ((6 : Nat) : Int) - (i : Int) < (m : Int) → RZ (d + 3) k_X11_checksum Q 150 [.inr (.ref 0, 12), .inr (.long (s), 0), zj, .inl ((a : Int)), .inl ((i : Int))] [] b I L := by
  induction m with
  | zero =>
    intro i s hi hs hm
    exfalso
    omega
  | succ m ih =>
    intro i s hi hs hm
    obtain ⟨cF, cS, cW, cSil, cPa, cPw, cSl, cFi, cb1, cb2, cb3⟩ := id hC
    obtain ⟨t1, t2, t3, t4, t5⟩ := id cS
    obtain ⟨⟨⟨w1, w2, w3, w4⟩, -⟩, w5, w6⟩ := id cW
    obtain ⟨-, -, ⟨-, o3, o4, -⟩, -, -, o5, o6⟩ := hC.outl
    refine T.go [136, 150] 90 ?_
    conv => whnf
    refine ⟨by omega, fun c153 => ?_, fun c153 => ?_⟩
    · conv => whnf
      refine T.fg [4] ?_
      obtain rfl : i = 6 := by omega
      rw [hs]
      exact hk
    · conv => whnf
      refine zinv0 (s0_loop T  (by exact hC) (by exact ⟨by omega, by omega⟩) (by exact ⟨by omega, by omega⟩) (by omega) (by omega) ?_)
      intro cha_165 chb_165 chc_165
      conv => whnf
      refine ⟨by exact aLoop_z hC ha (by omega), ?_⟩
      conv => whnf
      exact ih (i + 1) _ (by omega) (by rw [hs]; rfl) (by omega)
theorem l_ck4O (T : ZTh (XX Ln xs) CZ RZ) {d b : Nat} {Q : ZQ} {W H n bl : Nat} {M : Mo} {P SL : Nat → Mo} {u : Nat → Int} {s0 : Int64} {I : ZI} {L : ZL} (hC : CB I L W H M P n SL bl u) (hk : RZ (d + 3) k_X11_checksum Q 185 [.inr (.ref 0, 12), .inr (.long (fl2S (fun a i => aLoop (olM M) a (i : Int)) (6) (oL (olM M)) s0), 0), zj, .inl 0, zj] [] b I L) (m : Nat) : ∀ (a : Nat) (s : Int64), (a ≤ oL (olM M)) → (s = fl2S (fun a i => aLoop (olM M) a (i : Int)) (6) a s0) → ((oL (olM M) : Nat) : Int) - (a : Int) < (m : Int) → RZ (d + 3) k_X11_checksum Q 136 [.inr (.ref 0, 12), .inr (.long (s), 0), zj, .inl ((a : Int)), zj] [] b I L := by
  induction m with
  | zero =>
    intro a s ha hs hm
    exfalso
    omega
  | succ m ih =>
    intro a s ha hs hm
    obtain ⟨cF, cS, cW, cSil, cPa, cPw, cSl, cFi, cb1, cb2, cb3⟩ := id hC
    obtain ⟨t1, t2, t3, t4, t5⟩ := id cS
    obtain ⟨⟨⟨w1, w2, w3, w4⟩, -⟩, w5, w6⟩ := id cW
    obtain ⟨-, -, ⟨-, o3, o4, -⟩, -, -, o5, o6⟩ := hC.outl
    refine T.go [150, 185] 90 ?_
    conv => whnf
    refine ⟨by decide, _, rfl, ?_⟩
    conv => whnf
    refine ⟨by decide, ?_⟩
    conv => whnf
    refine ⟨by omega, fun c144 => ?_, fun c144 => ?_⟩
    · conv => whnf
      obtain rfl : a = oL (olM M) := by omega
      rw [hs]
      exact hk
    · conv => whnf
      exact l_ck4I T hC (by omega) (ih (a + 1) _ (by omega) (by rw [hs]; rfl) (by omega)) (6 + 1) 0 _ (by omega) rfl (by omega)
theorem l_ck5I (T : ZTh (XX Ln xs) CZ RZ) {d b : Nat} {Q : ZQ} {W H n bl : Nat} {M : Mo} {P SL : Nat → Mo} {u : Nat → Int} {a : Nat} {s0 : Int64} {I : ZI} {L : ZL} (hC : CB I L W H M P n SL bl u) (ha : a < mN M) (hk : RZ (d + 3) k_X11_checksum Q 185 [.inr (.ref 0, 12), .inr (.long (flS (fun (i : Nat) => aShape (mS M a) (i : Int)) (5) s0), 0), zj, .inl ((a : Int) + 1), zj] [] b I L) (m : Nat) : ∀ (i : Nat) (s : Int64), (i ≤ 5) → (s = flS (fun (i : Nat) => aShape (mS M a) (i : Int)) i s0) → ((5 : Nat) : Int) - (i : Int) < (m : Int) → RZ (d + 3) k_X11_checksum Q 199 [.inr (.ref 0, 12), .inr (.long (s), 0), zj, .inl ((a : Int)), .inl ((i : Int))] [] b I L := by
  induction m with
  | zero =>
    intro i s hi hs hm
    exfalso
    omega
  | succ m ih =>
    intro i s hi hs hm
    obtain ⟨cF, cS, cW, cSil, cPa, cPw, cSl, cFi, cb1, cb2, cb3⟩ := id hC
    obtain ⟨t1, t2, t3, t4, t5⟩ := id cS
    obtain ⟨⟨⟨w1, w2, w3, w4⟩, -⟩, w5, w6⟩ := id cW
    refine T.go [185, 199] 90 ?_
    conv => whnf
    refine ⟨by omega, fun c202 => ?_, fun c202 => ?_⟩
    · conv => whnf
      refine T.fg [4] ?_
      obtain rfl : i = 5 := by omega
      rw [hs]
      exact hk
    · conv => whnf
      refine zinv0 (s0_shape T  (by exact hC) (by exact ⟨by omega, by omega⟩) (by exact ⟨by omega, by omega⟩) (by omega) (by omega) ?_)
      intro cha_214 chb_214 chc_214 chd_214
      conv => whnf
      refine ⟨by exact aShape_z _ (by omega), ?_⟩
      conv => whnf
      exact ih (i + 1) _ (by omega) (by rw [hs]; rfl) (by omega)
theorem l_ck5O (T : ZTh (XX Ln xs) CZ RZ) {d b : Nat} {Q : ZQ} {W H n bl : Nat} {M : Mo} {P SL : Nat → Mo} {u : Nat → Int} {s0 : Int64} {I : ZI} {L : ZL} (hC : CB I L W H M P n SL bl u) (hk : Q (.inl (some (.inr (.long (fl2S (fun a i => aShape (mS M a) (i : Int)) (5) (mN M) s0), 0)))) I L) (m : Nat) : ∀ (a : Nat) (s : Int64), (a ≤ mN M) → (s = fl2S (fun a i => aShape (mS M a) (i : Int)) (5) a s0) → ((mN M : Nat) : Int) - (a : Int) < (m : Int) → RZ (d + 3) k_X11_checksum Q 185 [.inr (.ref 0, 12), .inr (.long (s), 0), zj, .inl ((a : Int)), zj] [] b I L := by
  induction m with
  | zero =>
    intro a s ha hs hm
    exfalso
    omega
  | succ m ih =>
    intro a s ha hs hm
    obtain ⟨cF, cS, cW, cSil, cPa, cPw, cSl, cFi, cb1, cb2, cb3⟩ := id hC
    obtain ⟨t1, t2, t3, t4, t5⟩ := id cS
    obtain ⟨⟨⟨w1, w2, w3, w4⟩, -⟩, w5, w6⟩ := id cW
    refine T.go [199] 90 ?_
    conv => whnf
    refine ⟨by decide, _, rfl, ?_⟩
    conv => whnf
    refine ⟨by decide, ?_⟩
    conv => whnf
    refine ⟨by omega, fun c193 => ?_, fun c193 => ?_⟩
    · conv => whnf
      obtain rfl : a = mN M := by omega
      rw [hs]
      exact hk
    · conv => whnf
      exact l_ck5I T hC (by omega) (ih (a + 1) _ (by omega) (by rw [hs]; rfl) (by omega)) (5 + 1) 0 _ (by omega) rfl (by omega)
theorem s_X11_checksum (T : ZTh (XX Ln xs) CZ RZ) {d b : Nat} {W H n bl : Nat} {M : Mo} {P SL : Nat → Mo} {u : Nat → Int}  {I : ZI} {L : ZL} {Q : ZQ} (hC : CB I L W H M P n SL bl u) (h : Q (.inl (some (.inr (.long (chkA W H M n bl), 0)))) I L) : CZ (d + 4) k_X11_checksum [.inr (.ref 0, 12)] b I L Q := by
  refine T.call rfl ?_
  refine T.go [4] 90 ?_
  conv => whnf
  unfold chkA at h
  refine l_ck1 T hC ?_ 10 0 _ (by omega) rfl (by omega)
  generalize flS (fun w => aSize W H M n bl (w : Int)) 9 0 = s1 at h ⊢
  refine l_ck2O T (s0 := s1) hC ?_ 8 0 s1 (by omega) rfl (by omega)
  generalize fl2S (fun a i => aPiece M a (i : Int)) 4 7 s1 = s2 at h ⊢
  refine l_ck3O T (s0 := s2) hC ?_ (H + 1) 0 s2 (by omega) rfl (by omega)
  generalize fl2S (fun a i => owAt M (48 * (a : Int) + (i : Int))) (4 * W) H s2 = s3 at h ⊢
  refine l_ck4O T (s0 := s3) hC ?_ (oL (olM M) + 1) 0 s3 (by omega) rfl (by omega)
  generalize fl2S (fun a i => aLoop (olM M) a (i : Int)) 6 (oL (olM M)) s3 = s4 at h ⊢
  exact l_ck5O T (s0 := s4) hC h (mN M + 1) 0 s4 (by omega) rfl (by omega)
end
