/-! TEXTS, 13: a text; bytes -/
section
variable {Ln : Nat} {xs : Nat → Int32} {CZ : Nat → ZC} {RZ : Nat → Nat → ZQ → ZP}
/-- what the reading of a text may change -/
def PTx : Nat → Int → Prop := fun a b => a = 575 ∨ (a = 576 ∧ b = 5) ∨ (578 ≤ a ∧ a ≤ 602)
theorem PPs_x : ∀ a b, PPs a b → PTx a b := fun a b h => by unfold PPs at h; unfold PTx; omega
theorem PRd_x : ∀ a b, PRd a b → PTx a b := fun a b h => PPs_x a b (PRd_s a b h)
theorem s_X4_readText (T : ZTh (XX Ln xs) CZ RZ) {d b : Nat} {u : Nat → Int} {bl n : Nat} {I : ZI} {L : ZL} {Q : ZQ} (hF : FormOK I L) (hB : BY I u bl) (hn : n ≤ bl) (h : ∀ I' L', Fr PTx I I' → Fr PLs L L' → I' 575 2 = pc (pTx u n).1 → (pc (pTx u n).1 ≠ 0 → I' 575 3 = po (pTx u n).1) → pc (pTx u n).1 ≤ 4 → (pc (pTx u n).1 = 0 → pc (hw4 u n) = 0 ∧ StC I' L' 581 (txW u n) (txH u n) (pTx u n).2) → Q (.inl none) I' L') : CZ (d + 6) k_X4_readText [.inr (.ref 575, 5), .inr (.ref 1, 110056), .inl ((n : Int))] b I L Q := by
  refine T.call rfl ?_
  have hl := hB.1
  refine T.go [75] 120 ?_
  conv => whnf
  refine ⟨by decide, ?_⟩
  conv => whnf
  refine ⟨by decide, _, rfl, ?_⟩
  conv => whnf
  refine ⟨by decide, _, rfl, ?_⟩
  conv => whnf
  refine zinv0 (s_X5_clear T  (by rfl) (by rfl) (by rfl) (by first | assumption | omega | rfl | decide) ?_)
  intro I_12 hf_12 hv_12
  conv => whnf
  refine ⟨by decide, _, rfl, ?_⟩
  conv => whnf
  refine ⟨by decide, ?_⟩
  conv => whnf
  refine ⟨by decide, _, rfl, ?_⟩
  conv => whnf
  refine zinv0 (s_X10_scan T (u := u) (bl := bl) (n := n) (by exact hB.fr (fun b => by rw [v2_ne (by omega), hf_12 _ _ (by omega), v2_ne (by omega)])) (by exact hn) ?_)
  intro I_28 c_28 hf_28 hT_28
  have hS0 : PSt I_28 u n c_28 0 (0, 0, posA u n 0) := ⟨hT_28, by rw [hf_28 _ _ (by omega), v2_ne (by omega), hf_12 _ _ (by omega), v2_eq]; rfl, fun e => absurd rfl e, rfl, by show (0 : Nat) ≤ 4; omega, by omega⟩
  have fr0 : Fr PTx I I_28 := ((((Fr.refl I).v2 (Or.inl rfl)).trans (hf_12.mono (fun a b c => by unfold PTx; omega))).v2 (by unfold PTx; omega)).trans (hf_28.mono (fun a b c => by unfold PTx; omega))
  have e4 : I_28 581 4 = 0 := by rw [hf_28 _ _ (by omega), v2_eq]
  have e585 : ∀ j : Int, 0 ≤ j → j < 7 → I_28 585 j = -1 := fun j j0 j7 => by rw [hf_28 _ _ (by omega), v2_ne (by omega)]; exact hv_12 j j0 j7
  conv => whnf
  refine zinv0 (s_X4_skip T (w := 4) (u := u) (n := n) (c := c_28) (i := 0) (s := (0, 0, posA u n 0)) (by exact hS0) (by decide) ?_)
  intro I_35 i_35 hf_35 hS_35 hi_35 hi2_35
  conv => whnf
  refine ⟨by decide, _, rfl, ?_⟩
  conv => whnf
  refine zinv0 (s1_readNumber T (u := u) (n := n) (c := c_28) (i := i_35) (s := hw1 u n) (by exact hS_35) (by decide) (by decide) ?_)
  intro I_46 i_46 hf_46 hS_46 hi_46 hi2_46
  conv => whnf
  refine ⟨by decide, ?_⟩
  conv => whnf
  refine ⟨by decide, _, rfl, ?_⟩
  conv => whnf
  refine zinv0 (s1_readNumber T (u := u) (n := n) (c := c_28) (i := i_46) (s := hw2 u n) (by exact PSt.fr2 (s := hw2 u n) hS_46 (fun a b g => v2_ne (by omega))) (by decide) (by decide) ?_)
  intro I_60 i_60 hf_60 hS_60 hi_60 hi2_60
  conv => whnf
  refine ⟨by decide, ?_⟩
  conv => whnf
  refine zinv0 (s_X4_skip T (w := 3) (u := u) (n := n) (c := c_28) (i := i_60) (s := hw3 u n) (by exact PSt.fr2 (s := hw3 u n) hS_60 (fun a b g => v2_ne (by omega))) (by decide) ?_)
  intro I_70 i_70 hf_70 hS_70 hi_70 hi2_70
  conv => whnf
  refine T.fg [2] ?_
  have hS4 : PSt I_70 u n c_28 i_70 (hw4 u n) := hS_70
  have fr1 : Fr PTx I I_70 := (((((fr0.trans (hf_35.mono PRd_x)).trans (hf_46.mono PRd_x)).v2 (by unfold PTx; omega)).trans (hf_60.mono PRd_x)).v2 (by unfold PTx; omega)).trans (hf_70.mono PRd_x)
  by_cases g : pc (hw4 u n) = 0
  · obtain ⟨g1, g2, g3, g4, g5⟩ := hw4_g g
    have gA : ∀ (a : Nat) (b : Int), ¬ a = 575 → ¬ (a = 576 ∧ b = 5) → ¬ (a = 581 ∧ (b = 0 ∨ b = 1)) → I_70 a b = I_28 a b := fun a b a1 a2 a3 => by rw [PRd_o hf_70 a b a1 a2, v2_ne (by omega), PRd_o hf_60 a b a1 a2, v2_ne (by omega), PRd_o hf_46 a b a1 a2, PRd_o hf_35 a b a1 a2]
    have hM0 : StC I_70 L 581 (txW u n) (txH u n) offM := by
      refine ⟨?_, ?_, fun j j0 j7 => ⟨?_, fun c => absurd rfl c⟩, ?_, fun k hk => absurd hk (Nat.not_lt_zero k)⟩
      · rw [PRd_o hf_70 _ _ (by omega) (by omega), v2_ne (by omega), PRd_o hf_60 _ _ (by omega) (by omega), v2_eq]
        exact (if_pos g4).trans g1
      · rw [PRd_o hf_70 _ _ (by omega) (by omega), v2_eq]
        exact (if_pos g5).trans g2
      · rw [gA _ _ (by omega) (by omega) (by omega)]
        exact e585 j j0 j7
      · rw [gA _ _ (by omega) (by omega) (by omega), e4]
        rfl
    refine l_rtA T (u := u) (n := n) (c := c_28) (W := txW u n) (H := txH u n) (a0 := pTx u n) (I0 := I_70) (L0 := L) (fun I2 L2 i2 f1 f2 f3 f4 => h I2 L2 (fr1.trans (f1.mono PPs_x)) f2 f3.2.1 f3.2.2.1 f3.2.2.2.2.1 (fun _ => ⟨g, f4⟩)) 701 0 i_70 (hw4 u n, offM) I_70 L (by omega) hS4 hM0 (offM_wf g3) (hF.fr (fun a b a1 a2 => fr1 _ _ (by unfold PTx; omega)) (fun a b _ _ => rfl)) (Fr.refl _) (Fr.refl _) rfl (by omega)
  · have e9 : pTx u n = (hw4 u n, offM) := pSts_e (fun c => g c.1) _
    rw [e9] at h
    have k5 := hS4.2.2.2.2.1
    have k2 := hS4.2.1
    exact l_rtE T ⟨⟨by omega, by omega⟩, by omega⟩ (h I_70 L fr1 (Fr.refl L) hS4.2.1 hS4.2.2.1 hS4.2.2.2.2.1 (fun e => absurd e g))
/-- a number's bytes, the highest first -/
def byB (a : Int) (k : Nat) : Int := a / 2 ^ (24 - 8 * (k : Int)).toNat % 256
def apB (u : Nat → Int) (bl : Nat) (a : Int) (i : Nat) : Int := if bl ≤ i ∧ i < bl + 4 then byB a (i - bl) else u i
theorem byB_s {a : Int} {k : Nat} (hk : k < 4) : (a % 4294967296 / 2 ^ (24 - 8 * (k : Int)).toNat + 128) % 256 - 128 = sB (byB a k) ∧ 0 ≤ byB a k ∧ byB a k < 256 := by
  unfold sB byB
  rcases (show k = 0 ∨ k = 1 ∨ k = 2 ∨ k = 3 by omega) with e | e | e | e <;> subst e
  · have e : (2 : Int) ^ (24 - 8 * ((0 : Nat) : Int)).toNat = 16777216 := by decide
    rw [e]; omega
  · have e : (2 : Int) ^ (24 - 8 * ((1 : Nat) : Int)).toNat = 65536 := by decide
    rw [e]; omega
  · have e : (2 : Int) ^ (24 - 8 * ((2 : Nat) : Int)).toNat = 256 := by decide
    rw [e]; omega
  · have e : (2 : Int) ^ (24 - 8 * ((3 : Nat) : Int)).toNat = 1 := by decide
    rw [e]; omega
/-- the buffer's cells -/
def PBu : Nat → Int → Prop := fun a b => a = 577 ∨ (a = 576 ∧ b = 1)
theorem l_addB (T : ZTh (XX Ln xs) CZ RZ) {d b : Nat} {Q : ZQ} {u : Nat → Int} {bl : Nat} {a : Int} {I0 : ZI} {L : ZL} (hb : bl + 4 ≤ 700) (h : ∀ I', Fr PBu I0 I' → I' 576 1 = ((bl + 4 : Nat) : Int) → (∀ i : Nat, i < bl + 4 → I' 577 i = sB (apB u bl a i)) → Q (.inl none) I' L) (m : Nat) : ∀ (k : Nat) (I : ZI), (k ≤ 4) → (I 576 1 = ((bl + k : Nat) : Int)) → (Fr PBu I0 I) → (∀ i : Nat, i < bl + k → I 577 i = sB (apB u bl a i)) → 4 - (k : Int) < (m : Int) → RZ d k_X10_addBytes Q 3 [.inr (.ref 576, 11), .inl a, .inl ((24 - 8 * (k : Int)))] [] b I L := by
  induction m with
  | zero =>
    intro k I hk hl hfr hv hm
    exfalso
    omega
  | succ m ih =>
    intro k I hk hl hfr hv hm
    have hby := fun h : k < 4 => byB_s (a := a) h
    refine T.go [3] 90 ?_
    conv => whnf
    refine ⟨by omega, fun c4 => ?_, fun c4 => ?_⟩
    · conv => whnf
      obtain rfl : k = 4 := by omega
      exact h I hfr hl hv
    · conv => whnf
      refine ⟨by decide, ?_⟩
      conv => whnf
      refine ⟨by omega, fun c14 => by exfalso; omega, fun c14 => ?_⟩
      conv => whnf
      refine ⟨by decide, _, rfl, ?_⟩
      conv => whnf
      refine ⟨by decide, ?_⟩
      conv => whnf
      have hs9 := sB_z (hby (by omega)).2.1 (hby (by omega)).2.2
      rw [hl]
      refine ⟨by omega, ?_⟩
      conv => whnf
      rw [(hby (by omega)).1]
      refine ⟨by omega, ⟨by decide, by decide, by omega⟩, ?_⟩
      conv => whnf
      refine ⟨by decide, ?_⟩
      conv => whnf
      refine ⟨by decide, ?_⟩
      conv => whnf
      rw [show (24 : Int) - 8 * (k : Int) + -8 = 24 - 8 * ((k + 1 : Nat) : Int) by omega]
      refine ih (k + 1) _ (by omega) ?_ ((hfr.v2 (Or.inl rfl)).v2 (Or.inr ⟨rfl, rfl⟩)) (fun i hi => ?_) (by omega)
      · rw [v2_eq, v2_ne (by omega), hl]
        omega
      · rw [v2_ne (by omega)]
        by_cases e : i = bl + k
        · rw [e, v2_eq]
          unfold apB
          rw [if_pos ⟨by omega, by omega⟩, show bl + k - bl = k by omega]
        · rw [v2_ne (by omega)]
          exact hv i (by omega)
theorem s_X10_addBytes (T : ZTh (XX Ln xs) CZ RZ) {d b : Nat} {u : Nat → Int} {bl : Nat} {a : Int} {I : ZI} {L : ZL} {Q : ZQ} (hB : BY I u bl) (hl : I 576 1 = bl) (hb : bl + 4 ≤ 700) (h : ∀ I', Fr PBu I I' → BY I' (apB u bl a) (bl + 4) → I' 576 1 = ((bl + 4 : Nat) : Int) → Q (.inl none) I' L) : CZ (d + 1) k_X10_addBytes [.inr (.ref 576, 11), .inl a] b I L Q := by
  refine T.call rfl ?_
  refine T.go [3] 90 ?_
  conv => whnf
  rw [show (24 : Int) = 24 - 8 * ((0 : Nat) : Int) by omega]
  refine l_addB T (u := u) (bl := bl) (a := a) (I0 := I) hb (fun I2 f2 l2 v2' => h I2 f2 ⟨hb, fun i hi => ?_⟩ l2) 5 0 I (by omega) hl (Fr.refl I) (fun i hi => ?_) (by omega)
  · refine ⟨?_, ?_, v2' i hi⟩
    · unfold apB
      by_cases e : bl ≤ i ∧ i < bl + 4
      · rw [if_pos e]; exact (byB_s (by omega)).2.1
      · rw [if_neg e]; exact (hB.2 i (by omega)).1
    · unfold apB
      by_cases e : bl ≤ i ∧ i < bl + 4
      · rw [if_pos e]; exact (byB_s (by omega)).2.2
      · rw [if_neg e]; exact (hB.2 i (by omega)).2.1
  · unfold apB
    rw [if_neg (by omega)]
    exact (hB.2 i hi).2.2
end
