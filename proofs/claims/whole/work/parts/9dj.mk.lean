/-! THE REFERENCE, CHECKSUM 1 -/
section
variable {Ln : Nat} {xs : Nat → Int32} {CZ : Nat → ZC} {RZ : Nat → Nat → ZQ → ZP}
/-- the quarters of a board one after another, of all quarters there are -/
def flQ (W H : Nat) (f : Nat → Int) : Nat → Int64 → Int64
  | 0, s => s
  | q + 1, s => if q % 48 / 4 < W ∧ q / 48 < H then ckS (flQ W H f q s) (f q) else flQ W H f q s
theorem flQ_s {W H : Nat} {f : Nat → Int} {q : Nat} {s : Int64} : flQ W H f (q + 1) s = if q % 48 / 4 < W ∧ q / 48 < H then ckS (flQ W H f q s) (f q) else flQ W H f q s := rfl
theorem flQ_row {W H : Nat} {f : Nat → Int} {y : Nat} {s : Int64} (hy : y < H) : ∀ i, i ≤ 48 → flQ W H f (48 * y + i) s = flS (fun i => f (48 * y + i)) (if i ≤ 4 * W then i else 4 * W) (flQ W H f (48 * y) s)
  | 0, _ => by rw [if_pos (Nat.zero_le _)]; rfl
  | i + 1, hi => by
    have ih := flQ_row (W := W) (f := f) (s := s) hy i (by omega)
    rw [← Nat.add_assoc, flQ_s, ih]
    by_cases c : i < 4 * W
    · rw [if_pos ⟨by omega, by omega⟩, if_pos (show i ≤ 4 * W by omega), if_pos (show i + 1 ≤ 4 * W by omega)]
      rfl
    · rw [if_neg (show ¬ ((48 * y + i) % 48 / 4 < W ∧ (48 * y + i) / 48 < H) by omega), if_neg (show ¬ i + 1 ≤ 4 * W by omega)]
      by_cases e : i ≤ 4 * W
      · rw [if_pos e, show i = 4 * W by omega]
      · rw [if_neg e]
theorem flQ_off {W H : Nat} {f : Nat → Int} {s : Int64} {a : Nat} (ha : 48 * H ≤ a) : ∀ i, flQ W H f (a + i) s = flQ W H f a s
  | 0 => rfl
  | i + 1 => by rw [← Nat.add_assoc, flQ_s, if_neg (by omega), flQ_off ha i]
theorem flQ_y {W H : Nat} {f : Nat → Int} {s : Int64} (hW : W ≤ 12) : ∀ y, y ≤ H → flQ W H f (48 * y) s = fl2S (fun y i => f (48 * y + i)) (4 * W) y s
  | 0, _ => rfl
  | y + 1, hy => by
    have ih := flQ_y (H := H) (f := f) (s := s) hW y (by omega)
    rw [show 48 * (y + 1) = 48 * y + 48 by omega, flQ_row (by omega) 48 (Nat.le_refl _), ih]
    show _ = flS (fun i => f (48 * y + i)) (4 * W) (fl2S (fun y i => f (48 * y + i)) (4 * W) y s)
    by_cases e : 48 ≤ 4 * W
    · rw [if_pos e, show 4 * W = 48 by omega]
    · rw [if_neg e]
theorem flQ_all {W H : Nat} {f : Nat → Int} {s : Int64} (hW : W ≤ 12) (hH : H ≤ 12) : flQ W H f 576 s = fl2S (fun y i => f (48 * y + i)) (4 * W) H s := by
  rw [← flQ_y hW H (Nat.le_refl _), show 576 = 48 * H + (576 - 48 * H) by omega, flQ_off (Nat.le_refl _)]
theorem l_mc2I (T : ZTh (XX Ln xs) CZ RZ) {d b : Nat} {Q : ZQ} {a W H : Nat} {M : Mo} {s0 : Int64} {I : ZI} {L : ZL} (hR : RowM I 604 0 M) (hw : Wq W H M) (ha : a < 7) (hk : RZ (d + 6) k_X12_checksum Q 36 [.inr (.ref 603, 13), .inr (.long (flS (fun (i : Nat) => aPiece M a (i : Int)) 4 s0), 0), zj, .inl ((a : Int) + 1), zj] [] b I L) (m : Nat) : ∀ (i : Nat) (s : Int64), (i ≤ 4) → (s = flS (fun (i : Nat) => aPiece M a (i : Int)) i s0) → 4 - (i : Int) < (m : Int) → RZ (d + 6) k_X12_checksum Q 45 [.inr (.ref 603, 13), .inr (.long (s), 0), zj, .inl ((a : Int)), .inl ((i : Int))] [] b I L := by
  induction m with
  | zero =>
    intro i s hi hs hm
    exfalso
    omega
  | succ m ih =>
    intro i s hi hs hm
    refine T.go [36, 45] 90 ?_
    conv => whnf
    refine ⟨by omega, fun c48 => ?_, fun c48 => ?_⟩
    · conv => whnf
      refine T.fg [4] ?_
      obtain rfl : i = 4 := by omega
      rw [hs]
      exact hk
    · conv => whnf
      refine zinv0 (s_X12_of T (p := a) (w := i) (M := M) (by exact hR) (by exact ha) (by omega) ?_)
      rw [← aPiece_tl (show i < 4 by omega)]
      conv => whnf
      refine ⟨by exact aPiece_z hw ha (by omega), ?_⟩
      conv => whnf
      exact ih (i + 1) _ (by omega) (by rw [hs]; rfl) (by omega)
theorem l_mc2O (T : ZTh (XX Ln xs) CZ RZ) {d b : Nat} {Q : ZQ} {W H : Nat} {M : Mo} {s0 : Int64} {I : ZI} {L : ZL} (hR : RowM I 604 0 M) (hw : Wq W H M) (hk : RZ (d + 6) k_X12_checksum Q 78 [.inr (.ref 603, 13), .inr (.long (fl2S (fun a i => aPiece M a (i : Int)) 4 7 s0), 0), zj, zj, zj] [] b I L) (m : Nat) : ∀ (a : Nat) (s : Int64), (a ≤ 7) → (s = fl2S (fun a i => aPiece M a (i : Int)) 4 a s0) → 7 - (a : Int) < (m : Int) → RZ (d + 6) k_X12_checksum Q 36 [.inr (.ref 603, 13), .inr (.long (s), 0), zj, .inl ((a : Int)), zj] [] b I L := by
  induction m with
  | zero =>
    intro a s ha hs hm
    exfalso
    omega
  | succ m ih =>
    intro a s ha hs hm
    refine T.go [45, 78] 90 ?_
    conv => whnf
    refine ⟨by omega, fun c39 => ?_, fun c39 => ?_⟩
    · conv => whnf
      refine T.fg [3] ?_
      obtain rfl : a = 7 := by omega
      rw [hs]
      exact hk
    · conv => whnf
      exact l_mc2I T hR hw (by omega) (ih (a + 1) _ (by omega) (by rw [hs]; rfl) (by omega)) 5 0 _ (by omega) rfl (by omega)
end
