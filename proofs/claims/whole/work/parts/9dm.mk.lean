/-! THE REFERENCE, CHECKSUM 4 -/
section
variable {Ln : Nat} {xs : Nat → Int32} {CZ : Nat → ZC} {RZ : Nat → Nat → ZQ → ZP}
theorem l_mc5I (T : ZTh (XX Ln xs) CZ RZ) {d b : Nat} {Q : ZQ} {a : Nat} {W H n bl : Nat} {M : Mo} {P SL : Nat → Mo} {v u : Nat → Int} {s0 : Int64} {I0 : ZI} {L : ZL} (hA : WfA W H M P n SL v) (ha : a < mN M) (hk : ∀ I', Fr PAl I0 I' → MB I' W H M P n SL v bl u → RZ (d + 6) k_X12_checksum Q 171 [.inr (.ref 603, 13), .inr (.long (flS (fun (i : Nat) => aShape (mS M a) (i : Int)) 5 s0), 0), zj, .inl ((a : Int) + 1), zj] [] b I' L) (m : Nat) : ∀ (i : Nat) (s : Int64) (I : ZI), (i ≤ 5) → (s = flS (fun (i : Nat) => aShape (mS M a) (i : Int)) i s0) → (Fr PAl I0 I) → (MB I W H M P n SL v bl u) → 5 - (i : Int) < (m : Int) → RZ (d + 6) k_X12_checksum Q 184 [.inr (.ref 603, 13), .inr (.long (s), 0), zj, .inl ((a : Int)), .inl ((i : Int))] [] b I L := by
  induction m with
  | zero =>
    intro i s I hi hs hfr hC hm
    exfalso
    omega
  | succ m ih =>
    intro i s I hi hs hfr hC hm
    refine T.go [171, 184] 90 ?_
    conv => whnf
    refine ⟨by omega, fun c187 => ?_, fun c187 => ?_⟩
    · conv => whnf
      refine T.fg [4] ?_
      obtain rfl : i = 5 := by omega
      rw [hs]
      exact hk I hfr hC
    · conv => whnf
      refine zinv0 (s_X12_ofShape T (k := a) (w := (i : Int)) (W := W) (H := H) (M := M) (P := P) (SL := SL) (v := v) (u := u) (by exact hC) (by exact hA) (by exact ha) (by omega) ?_)
      intro I_199 hf_199 hC_199
      conv => whnf
      refine ⟨by exact aShape_z _ (by omega), ?_⟩
      conv => whnf
      exact ih (i + 1) _ I_199 (by omega) (by rw [hs]; rfl) (hfr.trans hf_199) hC_199 (by omega)
theorem l_mc5O (T : ZTh (XX Ln xs) CZ RZ) {d b : Nat} {Q : ZQ} {W H n bl : Nat} {M : Mo} {P SL : Nat → Mo} {v u : Nat → Int} {s0 : Int64} {I0 : ZI} {L : ZL} (hA : WfA W H M P n SL v) (h : ∀ I', Fr PAl I0 I' → MB I' W H M P n SL v bl u → Q (.inl (some (.inr (.long (fl2S (fun a i => aShape (mS M a) (i : Int)) 5 (mN M) s0), 0)))) I' L) (m : Nat) : ∀ (a : Nat) (s : Int64) (I : ZI), (a ≤ mN M) → (s = fl2S (fun a i => aShape (mS M a) (i : Int)) 5 a s0) → (Fr PAl I0 I) → (MB I W H M P n SL v bl u) → (mN M : Int) - (a : Int) < (m : Int) → RZ (d + 6) k_X12_checksum Q 171 [.inr (.ref 603, 13), .inr (.long (s), 0), zj, .inl ((a : Int)), zj] [] b I L := by
  induction m with
  | zero =>
    intro a s I ha hs hfr hC hm
    exfalso
    omega
  | succ m ih =>
    intro a s I ha hs hfr hC hm
    have hm8 := hA.1.2.1
    have h40 : I 604 0 = mN M := hC.2.1.1
    refine T.go [184] 90 ?_
    conv => whnf
    refine ⟨by decide, _, rfl, ?_⟩
    conv => whnf
    refine ⟨by omega, by decide, ?_⟩
    conv => whnf
    refine ⟨by rw [h40]; exact ⟨⟨by omega, by omega⟩, ⟨by omega, by omega⟩⟩, fun c178 => ?_, fun c178 => ?_⟩
    · conv => whnf
      rw [h40] at c178
      obtain rfl : a = mN M := by omega
      rw [hs]
      exact h I hfr hC
    · conv => whnf
      rw [h40] at c178
      exact l_mc5I T (I0 := I0) hA (by omega) (fun I2 f2 c2 => ih (a + 1) _ I2 (by omega) (by rw [hs]; rfl) f2 c2 (by omega)) 6 0 _ I (by omega) rfl hfr hC (by omega)
end
