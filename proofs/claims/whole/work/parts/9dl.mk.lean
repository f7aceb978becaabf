/-! THE REFERENCE, CHECKSUM 3 -/
section
variable {Ln : Nat} {xs : Nat → Int32} {CZ : Nat → ZC} {RZ : Nat → Nat → ZQ → ZP}
theorem OuM.lz {I : ZI} {W H : Nat} {M : Mo} (h : OuM I M) (hw : Wq W H M) {l w : Nat} (hl : l < oL (olM M)) (hw6 : w < 6) : zR (aLoop (olM M) l (w : Int)) := by
  obtain ⟨o1, o2, o3, o4, o5⟩ := ol_ok hw
  obtain ⟨f, c, q1, q2, q3, q4, -⟩ := h.lo hw hl
  have hqf : (oFE (olM M) l).toNat = f := by rw [q1]; exact Int.toNat_natCast f
  have hb := h.2.1.2 l hl
  have hk := h.2.1.1 f (by omega)
  generalize cn (oW (olM M)) 5000 = x at *
  rcases (show w = 0 ∨ w = 1 ∨ w = 2 ∨ w = 3 ∨ w = 4 ∨ w = 5 by omega) with e | e | e | e | e | e <;> subst e
  · show zR (oEC (olM M) l); rw [q2]; exact ⟨by omega, by omega⟩
  · show zR (oLG (olM M) l); exact ⟨by omega, by omega⟩
  · show zR (oSH (olM M) l); exact ⟨by omega, by omega⟩
  · show zR (if oAR (olM M) l < 0 then 1 else 0)
    split <;> decide
  · show zR (oK (olM M) (oFE (olM M) l).toNat % 25); rw [hqf]; exact ⟨by omega, by omega⟩
  · show zR (oK (olM M) (oFE (olM M) l).toNat / 25); rw [hqf]; exact ⟨by omega, by omega⟩
theorem l_mc4I (T : ZTh (XX Ln xs) CZ RZ) {d b : Nat} {Q : ZQ} {a W H : Nat} {M : Mo} {s0 : Int64} {I : ZI} {L : ZL} (hO : OuM I M) (hw : Wq W H M) (ha : a < oL (olM M)) (hk : RZ (d + 6) k_X12_checksum Q 125 [.inr (.ref 603, 13), .inr (.long (flS (fun (i : Nat) => aLoop (olM M) a (i : Int)) 6 s0), 0), zj, .inl ((a : Int) + 1), zj] [] b I L) (m : Nat) : ∀ (i : Nat) (s : Int64), (i ≤ 6) → (s = flS (fun (i : Nat) => aLoop (olM M) a (i : Int)) i s0) → 6 - (i : Int) < (m : Int) → RZ (d + 6) k_X12_checksum Q 136 [.inr (.ref 603, 13), .inr (.long (s), 0), zj, .inl ((a : Int)), .inl ((i : Int))] [] b I L := by
  induction m with
  | zero =>
    intro i s hi hs hm
    exfalso
    omega
  | succ m ih =>
    intro i s hi hs hm
    refine T.go [125, 136] 90 ?_
    conv => whnf
    refine ⟨by omega, fun c139 => ?_, fun c139 => ?_⟩
    · conv => whnf
      refine T.fg [4] ?_
      obtain rfl : i = 6 := by omega
      rw [hs]
      exact hk
    · conv => whnf
      refine zinv0 (s_X12_ofLoop T (l := a) (w := (i : Int)) (W := W) (H := H) M (by exact hO) (by exact hw) (by exact ha) (by omega) ?_)
      conv => whnf
      refine ⟨by exact hO.lz hw ha (by omega), ?_⟩
      conv => whnf
      exact ih (i + 1) _ (by omega) (by rw [hs]; rfl) (by omega)
theorem l_mc4O (T : ZTh (XX Ln xs) CZ RZ) {d b : Nat} {Q : ZQ} {W H : Nat} {M : Mo} {s0 : Int64} {I : ZI} {L : ZL} (hO : OuM I M) (hw : Wq W H M) (hk : RZ (d + 6) k_X12_checksum Q 171 [.inr (.ref 603, 13), .inr (.long (fl2S (fun a i => aLoop (olM M) a (i : Int)) 6 (oL (olM M)) s0), 0), zj, .inl 0, zj] [] b I L) (m : Nat) : ∀ (a : Nat) (s : Int64), (a ≤ oL (olM M)) → (s = fl2S (fun a i => aLoop (olM M) a (i : Int)) 6 a s0) → (oL (olM M) : Int) - (a : Int) < (m : Int) → RZ (d + 6) k_X12_checksum Q 125 [.inr (.ref 603, 13), .inr (.long (s), 0), zj, .inl ((a : Int)), zj] [] b I L := by
  induction m with
  | zero =>
    intro a s ha hs hm
    exfalso
    omega
  | succ m ih =>
    intro a s ha hs hm
    obtain ⟨o1, o2, o3, o4, o5⟩ := ol_ok hw
    have h34 := hO.1.2.1
    refine T.go [136, 171] 90 ?_
    conv => whnf
    refine ⟨by decide, ?_⟩
    conv => whnf
    refine ⟨by rw [h34]; exact ⟨⟨by omega, by omega⟩, ⟨by omega, by omega⟩⟩, fun c130 => ?_, fun c130 => ?_⟩
    · conv => whnf
      rw [h34] at c130
      obtain rfl : a = oL (olM M) := by omega
      rw [hs]
      exact hk
    · conv => whnf
      rw [h34] at c130
      exact l_mc4I T (W := W) (H := H) hO hw (by omega) (ih (a + 1) _ (by omega) (by rw [hs]; rfl) (by omega)) 7 0 _ (by omega) rfl (by omega)
end
