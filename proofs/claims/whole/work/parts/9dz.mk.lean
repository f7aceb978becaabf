/-! THE REFERENCE, TEXTS 12: a shape 1 -/
section
variable {Ln : Nat} {xs : Nat → Int32} {CZ : Nat → ZC} {RZ : Nat → Nat → ZQ → ZP}
/-- the draft holds M -/
def DrM (I : ZI) (M : Mo) : Prop := RowM I 605 0 M ∧ ∀ i : Nat, 29 + 18 * mN M ≤ i → i < 173 → I 605 (i : Int) = 0
theorem DrM.fr {I I' : ZI} {M : Mo} (h : DrM I M) (hm : mN M ≤ 8) (h1 : ∀ b, I' 605 b = I 605 b) : DrM I' M := ⟨h.1.fr hm (fun j _ _ => h1 _), fun i a b => by rw [h1]; exact h.2 i a b⟩
/-- the draft gets one shape more, its first q quarters so far -/
def KpD (I0 I : ZI) (M : Mo) (S : Nat → Bool) (q : Nat) : Prop := I 605 0 = mN M ∧ (∀ i : Nat, i < 29 + 18 * mN M → I 605 (i : Int) = I0 605 (i : Int)) ∧ (∀ i : Nat, 29 + 18 * mN M + 18 ≤ i → i < 173 → I 605 (i : Int) = 0) ∧ ∀ z : Nat, z < 576 → zR (I 605 ((29 + 18 * mN M + z / 32 : Nat) : Int)) ∧ bW1 (I 605 ((29 + 18 * mN M + z / 32 : Nat) : Int)) (z % 32) = (decide (z < q) && S z)
theorem KpD.no {I0 I : ZI} {M : Mo} {S : Nat → Bool} {q : Nat} (h : KpD I0 I M S q) (hq : S q = false) : KpD I0 I M S (q + 1) := by
  obtain ⟨a1, a2, a4, a3⟩ := h
  refine ⟨a1, a2, a4, fun z hz => ⟨(a3 z hz).1, ?_⟩⟩
  rw [(a3 z hz).2]
  by_cases e : z = q
  · rw [e, hq, Bool.and_false, Bool.and_false]
  · rw [decide_eq_decide.mpr (show z < q ↔ z < q + 1 by omega)]
theorem KpD.yes {I0 I : ZI} {M : Mo} {S : Nat → Bool} {q : Nat} (h : KpD I0 I M S q) (hq : S q = true) (hq5 : q < 576) : KpD I0 (v2 I 605 (29 + 18 * (mN M : Int) + (q : Int) / 32) (zor (I 605 (29 + 18 * (mN M : Int) + (q : Int) / 32)) (1 * 2 ^ ((q : Int) % 32).toNat))) M S (q + 1) := by
  obtain ⟨a1, a2, a4, a3⟩ := h
  have ex : 29 + 18 * (mN M : Int) + (q : Int) / 32 = ((29 + 18 * mN M + q / 32 : Nat) : Int) := by omega
  rw [ex]
  refine ⟨by rw [v2_ne (by omega)]; exact a1, fun i hi => by rw [v2_ne (by omega)]; exact a2 i hi, fun i h1 h2 => by rw [v2_ne (by omega)]; exact a4 i h1 h2, fun z hz => ?_⟩
  by_cases e : z / 32 = q / 32
  · rw [e, v2_eq]
    refine ⟨zor_R _ _, ?_⟩
    rw [bW1_or _ _ (Nat.mod_lt _ (by decide)), show ((q : Int) % 32).toNat = q % 32 by omega, bW1_p (Nat.mod_lt _ (by decide)) (Nat.mod_lt _ (by decide))]
    have := (a3 z hz).2
    rw [e] at this
    rw [this]
    by_cases c : z = q
    · rw [c, hq, decide_eq_true (rfl : q % 32 = q % 32), Bool.or_true, decide_eq_true (show q < q + 1 by omega)]
      rfl
    · rw [decide_eq_false (show ¬ z % 32 = q % 32 by omega), Bool.or_false, decide_eq_decide.mpr (show z < q ↔ z < q + 1 by omega)]
  · rw [v2_ne (by omega), (a3 z hz).2]
    refine ⟨(a3 z hz).1, ?_⟩
    rw [decide_eq_decide.mpr (show z < q ↔ z < q + 1 by omega)]
theorem KpD.fin {I0 I I' : ZI} {M : Mo} {S : Nat → Bool} (h : KpD I0 I M S 576) (hR : DrM I0 M) (h0 : I' 605 0 = (mN M : Int) + 1) (h1 : ∀ i : Nat, 1 ≤ i → I' 605 (i : Int) = I 605 (i : Int)) : DrM I' (shM M S) := by
  obtain ⟨a1, a2, a4, a3⟩ := h
  obtain ⟨⟨b1, b2, b3⟩, -⟩ := hR
  refine ⟨⟨by rw [h0]; show _ = ((mN M + 1 : Nat) : Int); omega, fun p w hp hw => ?_, fun k hk q hq => ?_⟩, fun i g1 g2 => ?_⟩
  · rw [Int.zero_add, h1 _ (by omega), a2 _ (by omega)]
    have := b2 p w hp hw
    rw [Int.zero_add] at this
    rw [this]
    rfl
  · have hd : mS (shM M S) k = if k = mN M then S else mS M k := rfl
    have hk2 : k < mN M + 1 := hk
    rw [hd, Int.zero_add, h1 _ (by omega)]
    by_cases c : k = mN M
    · rw [if_pos c, c]
      obtain ⟨g1, g2⟩ := a3 q hq
      refine ⟨g1, ?_⟩
      rw [g2, decide_eq_true hq]
      rfl
    · rw [if_neg c, a2 _ (by omega)]
      have := b3 k (by omega) q hq
      rw [Int.zero_add] at this
      exact this
  · have g3 : 29 + 18 * (mN M + 1) ≤ i := g1
    rw [h1 _ (by omega)]
    exact a4 i (by omega) g2
theorem KpD.start {I0 : ZI} {M : Mo} {S : Nat → Bool} (h : DrM I0 M) (hm : mN M < 8) : KpD I0 I0 M S 0 := by
  refine ⟨h.1.1, fun _ _ => rfl, fun i g1 g2 => h.2 i (by omega) g2, fun z hz => ?_⟩
  rw [h.2 _ (by omega) (by omega)]
  refine ⟨by decide, ?_⟩
  rw [decide_eq_false (by omega), Bool.false_and, bW1_n3 _ (Nat.mod_lt _ (by decide))]
  exact Nat.zero_testBit _
/-- a shape's cells -/
def PRs : Nat → Int → Prop := fun a b => a = 605 ∨ a = 637 ∨ (a = 603 ∧ 53 ≤ b ∧ b ≤ 60)
theorem PEm_s : ∀ a b, PEm a b → PRs a b := fun a b h => by unfold PEm at h; unfold PRs; omega
theorem PTm_s : ∀ a b, PTm a b → PRs a b := fun a b h => by unfold PTm at h; unfold PRs; omega
theorem P57_s : ∀ a b, P57 a b → PRs a b := fun a b h => by unfold P57 at h; unfold PRs; omega
theorem l_mr2 (T : ZTh (XX Ln xs) CZ RZ) {d b : Nat} {Q : ZQ} {M : Mo} {S : Nat → Bool} {u : Nat → Int} {n : Nat} {s : PE} {I0 : ZI} {L : ZL} (hn : mN M < 8) (hS0 : PSm I0 u n s) (hd : DrM I0 M) (hR : ArB I0 637 S) (h : ∀ I', Fr PRs I0 I' → PSm I' u n (pGo u n s) → DrM I' (shM M S) → Q (.inl none) I' L) (m : Nat) : ∀ (q : Nat) (I : ZI), (q ≤ 576) → (Fr (fun a _ => a = 605) I0 I) → (KpD I0 I M S q) → 576 - (q : Int) < (m : Int) → RZ (d + 5) k_X12_readsShape Q 174 [.inr (.ref 603, 13), zj, zj, .inl ((mN M : Int)), .inl ((q : Int))] [] b I L := by
  induction m with
  | zero =>
    intro q I hq hfr hK hm
    exfalso
    omega
  | succ m ih =>
    intro q I hq hfr hK hm
    have hvk := fun g : q < 576 => (hfr 637 (q : Int) (by show ¬ (637 : Nat) = 605; omega)).trans (hR q g)
    have hbS := bi_b (S q)
    refine T.go [174] 90 ?_
    conv => whnf
    refine ⟨by omega, fun c179 => ?_, fun c179 => ?_⟩
    · conv => whnf
      refine ⟨by decide, _, rfl, ?_⟩
      conv => whnf
      refine ⟨by omega, by decide, ?_⟩
      conv => whnf
      refine ⟨by omega, by decide, ?_⟩
      conv => whnf
      refine zinv0 (s_X12_goesOn T (u := u) (n := n) (s := s) (by exact hS0.fr (fun a b g => by rw [v2_ne (by omega)]; exact hfr _ _ (by omega))) ?_)
      intro I_219 hf_219 hS_219
      conv => whnf
      obtain rfl : q = 576 := by omega
      have hfin := hK.fin hd (I' := I_219) (by rw [hf_219 _ _ (by unfold PTm; omega), v2_eq, hK.1]) (fun i hi => by rw [hf_219 _ _ (by unfold PTm; omega)]; exact v2_ne (by omega))
      exact h I_219 ((((hfr.mono (fun a b c => Or.inl c)) : Fr PRs I0 I).v2 (Or.inl rfl)).trans (hf_219.mono PTm_s)) hS_219 hfin
    · conv => whnf
      refine ⟨by decide, _, rfl, ?_⟩
      conv => whnf
      refine ⟨by omega, by decide, ?_⟩
      conv => whnf
      refine ⟨by rw [hvk (by omega)]; exact ⟨by omega, by omega⟩, fun c189 => ?_, fun c189 => ?_⟩
      · conv => whnf
        rw [hvk (by omega), bi_1] at c189
        exact ih (q + 1) I (by omega) hfr (hK.no c189) (by omega)
      · conv => whnf
        refine ⟨by decide, _, rfl, ?_⟩
        conv => whnf
        refine zinv0 (s_X12_setsBit T (k := mN M) (q := q) (by decide) (by exact hn) (by omega) ?_)
        conv => whnf
        rw [hvk (by omega), bi_1] at c189
        have c2 : S q = true := by
          cases e : S q with
          | false => exact absurd e c189
          | true => rfl
        exact ih (q + 1) _ (by omega) (hfr.v2 rfl) (hK.yes c2 (by omega)) (by omega)
theorem l_mreS (T : ZTh (XX Ln xs) CZ RZ) {d b : Nat} {Q : ZQ} {M : Mo} {x y x9 y9 : Int} {S : Nat → Bool} {u : Nat → Int} {n : Nat} {s : PE} {I : ZI} {L : ZL} (hS : PSm I u n s) (hd : DrM I M) (hm8 : mN M ≤ 8) (hm7 : pc s = 0 → mN M < 8) (hR : ArB I 637 S) (hx : I 603 59 = x9) (hy : I 603 60 = y9) (hb : (0 ≤ x ∧ x ≤ 12) ∧ (0 ≤ y ∧ y ≤ 12) ∧ (0 ≤ x9 ∧ x9 ≤ 12) ∧ (0 ≤ y9 ∧ y9 ≤ 12)) (h : ¬ pc s = 0 → ∀ I', Fr PRs I I' → PSm I' u n s → DrM I' M → Q (.inl none) I' L) (h1 : pc s = 0 → ¬ tkU u n (pp s) = 3 → ∀ I', Fr PRs I I' → PSm I' u n (pFl 1 (pp s) s) → DrM I' M → Q (.inl none) I' L) (h2 : pc s = 0 → tkU u n (pp s) = 3 → ¬ (x9 = x ∧ y9 = y ∧ ¬ cn S 576 = 0) → ∀ I', Fr PRs I I' → PSm I' u n (pFl 3 (pp s) s) → DrM I' M → Q (.inl none) I' L) (h3 : pc s = 0 → tkU u n (pp s) = 3 → (x9 = x ∧ y9 = y ∧ ¬ cn S 576 = 0) → ∀ I', Fr PRs I I' → PSm I' u n (pGo u n s) → DrM I' (shM M S) → Q (.inl none) I' L) : RZ (d + 5) k_X12_readsShape Q 103 [.inr (.ref 603, 13), .inl x, .inl y, zj, zj] [] b I L := by
  obtain ⟨m1, ⟨m2, m3, m4⟩, m5, m6, m7, m8⟩ := id hS
  have hcn := cn_nonneg S 576
  have hcn2 := cn_le S 576
  refine T.go [174] 250 ?_
  conv => whnf
  refine ⟨by decide, ?_⟩
  conv => whnf
  refine ⟨by exact ⟨⟨by omega, by omega⟩, ⟨by omega, by omega⟩⟩, fun c109 => ?_, fun c109 => ?_⟩
  · conv => whnf
    refine zinv0 (s_X12_must T (w := 1) (f := 0) (u := u) (n := n) (s := s) (by exact hS) (by omega) (by omega) ?_)
    intro I_118 hf_118 hS_118
    have ex9 : I_118 603 59 = x9 := (hf_118 _ _ (by unfold P57; omega)).trans hx
    have ey9 : I_118 603 60 = y9 := (hf_118 _ _ (by unfold P57; omega)).trans hy
    conv => whnf
    refine ⟨by decide, ?_⟩
    conv => whnf
    refine ⟨by rw [ex9]; exact ⟨⟨by omega, by omega⟩, ⟨by omega, by omega⟩⟩, fun c127 => ?_, fun c127 => ?_⟩
    · conv => whnf
      refine zinv0 (s_X12_must T (w := 3) (f := 0) (u := u) (n := n) (s := pMu 0 1 s) (by exact hS_118) (by omega) (by omega) ?_)
      intro I_154 hf_154 hS_154
      have eA : ∀ (a : Nat) (b : Int), ¬ (a = 603 ∧ 53 ≤ b ∧ b ≤ 58) → I_154 a b = I a b := fun a b g => by rw [hf_154 _ _ (by unfold P57; omega), hf_118 _ _ (by unfold P57; omega)]
      conv => whnf
      refine zinv0 (s_X12_isGood T (u := u) (n := n) (s := pMu 0 3 (pMu 0 1 s)) (by exact hS_154) ?_ ?_)
      · intro cha_158
        exact absurd cha_158 (show ¬ pc (pMu 0 3 (pMu 0 1 s)) = 0 by rw [pMu_0]; exact pFl_c (by decide))
      · intro ch2a_158
        conv => whnf
        refine ⟨by decide, fun _ => ?_, fun c => absurd c (by decide)⟩
        conv => whnf
        refine zinv0 (s_X12_goesOn T (u := u) (n := n) (s := pMu 0 3 (pMu 0 1 s)) (by exact hS_154) ?_)
        intro I_219 hf_219 hS_219
        conv => whnf
        have eD : DrM I_219 M := hd.fr hm8 (fun b => by rw [hf_219 _ _ (by unfold PTm; omega), eA _ _ (by omega)])
        have fr9 : Fr PRs I I_219 := ((hf_118.mono P57_s).trans (hf_154.mono P57_s)).trans (hf_219.mono PTm_s)
        by_cases h0 : pc s = 0
        · obtain ⟨t1, t2, t3⟩ := m5 h0
          rw [t3.2.2.1, sort_3 t2] at c109
          rw [pMu_b (pMu_c (by decide)), pGo_1 (pMu_c (by decide)), pMu_0] at hS_219
          exact h1 h0 c109 I_219 fr9 hS_219 eD
        · rw [pMu_b h0, pMu_b h0, pGo_1 h0] at hS_219
          exact h h0 I_219 fr9 hS_219 eD
    · conv => whnf
      refine ⟨by decide, ?_⟩
      conv => whnf
      refine ⟨by rw [ey9]; exact ⟨⟨by omega, by omega⟩, ⟨by omega, by omega⟩⟩, fun c135 => ?_, fun c135 => ?_⟩
      · conv => whnf
        refine zinv0 (s_X12_must T (w := 3) (f := 0) (u := u) (n := n) (s := pMu 0 1 s) (by exact hS_118) (by omega) (by omega) ?_)
        intro I_154 hf_154 hS_154
        have eA : ∀ (a : Nat) (b : Int), ¬ (a = 603 ∧ 53 ≤ b ∧ b ≤ 58) → I_154 a b = I a b := fun a b g => by rw [hf_154 _ _ (by unfold P57; omega), hf_118 _ _ (by unfold P57; omega)]
        conv => whnf
        refine zinv0 (s_X12_isGood T (u := u) (n := n) (s := pMu 0 3 (pMu 0 1 s)) (by exact hS_154) ?_ ?_)
        · intro cha_158
          exact absurd cha_158 (show ¬ pc (pMu 0 3 (pMu 0 1 s)) = 0 by rw [pMu_0]; exact pFl_c (by decide))
        · intro ch2a_158
          conv => whnf
          refine ⟨by decide, fun _ => ?_, fun c => absurd c (by decide)⟩
          conv => whnf
          refine zinv0 (s_X12_goesOn T (u := u) (n := n) (s := pMu 0 3 (pMu 0 1 s)) (by exact hS_154) ?_)
          intro I_219 hf_219 hS_219
          conv => whnf
          have eD : DrM I_219 M := hd.fr hm8 (fun b => by rw [hf_219 _ _ (by unfold PTm; omega), eA _ _ (by omega)])
          have fr9 : Fr PRs I I_219 := ((hf_118.mono P57_s).trans (hf_154.mono P57_s)).trans (hf_219.mono PTm_s)
          by_cases h0 : pc s = 0
          · obtain ⟨t1, t2, t3⟩ := m5 h0
            rw [t3.2.2.1, sort_3 t2] at c109
            rw [pMu_b (pMu_c (by decide)), pGo_1 (pMu_c (by decide)), pMu_0] at hS_219
            exact h1 h0 c109 I_219 fr9 hS_219 eD
          · rw [pMu_b h0, pMu_b h0, pGo_1 h0] at hS_219
            exact h h0 I_219 fr9 hS_219 eD
      · conv => whnf
        refine ⟨by decide, _, rfl, ?_⟩
        conv => whnf
        refine zinv0 (s_X12_sizeOf T S (by decide) (by exact hR.fr (fun b => hf_118 _ _ (by unfold P57; omega))) ?_)
        conv => whnf
        refine ⟨by omega, fun c145 => ?_, fun c145 => ?_⟩
        · conv => whnf
          refine zinv0 (s_X12_must T (w := 3) (f := 0) (u := u) (n := n) (s := pMu 0 1 s) (by exact hS_118) (by omega) (by omega) ?_)
          intro I_154 hf_154 hS_154
          have eA : ∀ (a : Nat) (b : Int), ¬ (a = 603 ∧ 53 ≤ b ∧ b ≤ 58) → I_154 a b = I a b := fun a b g => by rw [hf_154 _ _ (by unfold P57; omega), hf_118 _ _ (by unfold P57; omega)]
          conv => whnf
          refine zinv0 (s_X12_isGood T (u := u) (n := n) (s := pMu 0 3 (pMu 0 1 s)) (by exact hS_154) ?_ ?_)
          · intro cha_158
            exact absurd cha_158 (show ¬ pc (pMu 0 3 (pMu 0 1 s)) = 0 by rw [pMu_0]; exact pFl_c (by decide))
          · intro ch2a_158
            conv => whnf
            refine ⟨by decide, fun _ => ?_, fun c => absurd c (by decide)⟩
            conv => whnf
            refine zinv0 (s_X12_goesOn T (u := u) (n := n) (s := pMu 0 3 (pMu 0 1 s)) (by exact hS_154) ?_)
            intro I_219 hf_219 hS_219
            conv => whnf
            have eD : DrM I_219 M := hd.fr hm8 (fun b => by rw [hf_219 _ _ (by unfold PTm; omega), eA _ _ (by omega)])
            have fr9 : Fr PRs I I_219 := ((hf_118.mono P57_s).trans (hf_154.mono P57_s)).trans (hf_219.mono PTm_s)
            by_cases h0 : pc s = 0
            · obtain ⟨t1, t2, t3⟩ := m5 h0
              rw [t3.2.2.1, sort_3 t2] at c109
              rw [pMu_b (pMu_c (by decide)), pGo_1 (pMu_c (by decide)), pMu_0] at hS_219
              exact h1 h0 c109 I_219 fr9 hS_219 eD
            · rw [pMu_b h0, pMu_b h0, pGo_1 h0] at hS_219
              exact h h0 I_219 fr9 hS_219 eD
        · conv => whnf
          refine zinv0 (s_X12_must T (w := 3) (f := 1) (u := u) (n := n) (s := pMu 0 1 s) (by exact hS_118) (by omega) (by omega) ?_)
          intro I_154 hf_154 hS_154
          have eA : ∀ (a : Nat) (b : Int), ¬ (a = 603 ∧ 53 ≤ b ∧ b ≤ 58) → I_154 a b = I a b := fun a b g => by rw [hf_154 _ _ (by unfold P57; omega), hf_118 _ _ (by unfold P57; omega)]
          conv => whnf
          refine zinv0 (s_X12_isGood T (u := u) (n := n) (s := pMu 1 3 (pMu 0 1 s)) (by exact hS_154) ?_ ?_)
          · intro cha_158
            exact absurd cha_158 (show ¬ pc (pMu 1 3 (pMu 0 1 s)) = 0 by rw [pMu_1, pMu_0]; exact pFl_c (by decide))
          · intro ch2a_158
            conv => whnf
            refine ⟨by decide, fun _ => ?_, fun c => absurd c (by decide)⟩
            conv => whnf
            refine zinv0 (s_X12_goesOn T (u := u) (n := n) (s := pMu 1 3 (pMu 0 1 s)) (by exact hS_154) ?_)
            intro I_219 hf_219 hS_219
            conv => whnf
            have eD : DrM I_219 M := hd.fr hm8 (fun b => by rw [hf_219 _ _ (by unfold PTm; omega), eA _ _ (by omega)])
            have fr9 : Fr PRs I I_219 := ((hf_118.mono P57_s).trans (hf_154.mono P57_s)).trans (hf_219.mono PTm_s)
            by_cases h0 : pc s = 0
            · obtain ⟨t1, t2, t3⟩ := m5 h0
              rw [t3.2.2.1, sort_3 t2] at c109
              rw [pMu_b (pMu_c (by decide)), pGo_1 (pMu_c (by decide)), pMu_0] at hS_219
              exact h1 h0 c109 I_219 fr9 hS_219 eD
            · rw [pMu_b h0, pMu_b h0, pGo_1 h0] at hS_219
              exact h h0 I_219 fr9 hS_219 eD
  · conv => whnf
    refine zinv0 (s_X12_must T (w := 1) (f := 1) (u := u) (n := n) (s := s) (by exact hS) (by omega) (by omega) ?_)
    intro I_118 hf_118 hS_118
    have ex9 : I_118 603 59 = x9 := (hf_118 _ _ (by unfold P57; omega)).trans hx
    have ey9 : I_118 603 60 = y9 := (hf_118 _ _ (by unfold P57; omega)).trans hy
    conv => whnf
    refine ⟨by decide, ?_⟩
    conv => whnf
    refine ⟨by rw [ex9]; exact ⟨⟨by omega, by omega⟩, ⟨by omega, by omega⟩⟩, fun c127 => ?_, fun c127 => ?_⟩
    · conv => whnf
      refine zinv0 (s_X12_must T (w := 3) (f := 0) (u := u) (n := n) (s := pMu 1 1 s) (by exact hS_118) (by omega) (by omega) ?_)
      intro I_154 hf_154 hS_154
      have eA : ∀ (a : Nat) (b : Int), ¬ (a = 603 ∧ 53 ≤ b ∧ b ≤ 58) → I_154 a b = I a b := fun a b g => by rw [hf_154 _ _ (by unfold P57; omega), hf_118 _ _ (by unfold P57; omega)]
      conv => whnf
      refine zinv0 (s_X12_isGood T (u := u) (n := n) (s := pMu 0 3 (pMu 1 1 s)) (by exact hS_154) ?_ ?_)
      · intro cha_158
        exact absurd cha_158 (show ¬ pc (pMu 0 3 (pMu 1 1 s)) = 0 by rw [pMu_0]; exact pFl_c (by decide))
      · intro ch2a_158
        conv => whnf
        refine ⟨by decide, fun _ => ?_, fun c => absurd c (by decide)⟩
        conv => whnf
        refine zinv0 (s_X12_goesOn T (u := u) (n := n) (s := pMu 0 3 (pMu 1 1 s)) (by exact hS_154) ?_)
        intro I_219 hf_219 hS_219
        conv => whnf
        have eD : DrM I_219 M := hd.fr hm8 (fun b => by rw [hf_219 _ _ (by unfold PTm; omega), eA _ _ (by omega)])
        have fr9 : Fr PRs I I_219 := ((hf_118.mono P57_s).trans (hf_154.mono P57_s)).trans (hf_219.mono PTm_s)
        by_cases h0 : pc s = 0
        · obtain ⟨t1, t2, t3⟩ := m5 h0
          rw [t3.2.2.1, sort_3 t2] at c109
          rw [pMu_1, pMu_0, pGo_1 (pFl_c (by decide))] at hS_219
          refine h2 h0 c109 (fun q => ?_) I_219 fr9 hS_219 eD
          exact c127 (ex9.trans q.1)
        · rw [pMu_b h0, pMu_b h0, pGo_1 h0] at hS_219
          exact h h0 I_219 fr9 hS_219 eD
    · conv => whnf
      refine ⟨by decide, ?_⟩
      conv => whnf
      refine ⟨by rw [ey9]; exact ⟨⟨by omega, by omega⟩, ⟨by omega, by omega⟩⟩, fun c135 => ?_, fun c135 => ?_⟩
      · conv => whnf
        refine zinv0 (s_X12_must T (w := 3) (f := 0) (u := u) (n := n) (s := pMu 1 1 s) (by exact hS_118) (by omega) (by omega) ?_)
        intro I_154 hf_154 hS_154
        have eA : ∀ (a : Nat) (b : Int), ¬ (a = 603 ∧ 53 ≤ b ∧ b ≤ 58) → I_154 a b = I a b := fun a b g => by rw [hf_154 _ _ (by unfold P57; omega), hf_118 _ _ (by unfold P57; omega)]
        conv => whnf
        refine zinv0 (s_X12_isGood T (u := u) (n := n) (s := pMu 0 3 (pMu 1 1 s)) (by exact hS_154) ?_ ?_)
        · intro cha_158
          exact absurd cha_158 (show ¬ pc (pMu 0 3 (pMu 1 1 s)) = 0 by rw [pMu_0]; exact pFl_c (by decide))
        · intro ch2a_158
          conv => whnf
          refine ⟨by decide, fun _ => ?_, fun c => absurd c (by decide)⟩
          conv => whnf
          refine zinv0 (s_X12_goesOn T (u := u) (n := n) (s := pMu 0 3 (pMu 1 1 s)) (by exact hS_154) ?_)
          intro I_219 hf_219 hS_219
          conv => whnf
          have eD : DrM I_219 M := hd.fr hm8 (fun b => by rw [hf_219 _ _ (by unfold PTm; omega), eA _ _ (by omega)])
          have fr9 : Fr PRs I I_219 := ((hf_118.mono P57_s).trans (hf_154.mono P57_s)).trans (hf_219.mono PTm_s)
          by_cases h0 : pc s = 0
          · obtain ⟨t1, t2, t3⟩ := m5 h0
            rw [t3.2.2.1, sort_3 t2] at c109
            rw [pMu_1, pMu_0, pGo_1 (pFl_c (by decide))] at hS_219
            refine h2 h0 c109 (fun q => ?_) I_219 fr9 hS_219 eD
            exact c135 (ey9.trans q.2.1)
          · rw [pMu_b h0, pMu_b h0, pGo_1 h0] at hS_219
            exact h h0 I_219 fr9 hS_219 eD
      · conv => whnf
        refine ⟨by decide, _, rfl, ?_⟩
        conv => whnf
        refine zinv0 (s_X12_sizeOf T S (by decide) (by exact hR.fr (fun b => hf_118 _ _ (by unfold P57; omega))) ?_)
        conv => whnf
        refine ⟨by omega, fun c145 => ?_, fun c145 => ?_⟩
        · conv => whnf
          refine zinv0 (s_X12_must T (w := 3) (f := 0) (u := u) (n := n) (s := pMu 1 1 s) (by exact hS_118) (by omega) (by omega) ?_)
          intro I_154 hf_154 hS_154
          have eA : ∀ (a : Nat) (b : Int), ¬ (a = 603 ∧ 53 ≤ b ∧ b ≤ 58) → I_154 a b = I a b := fun a b g => by rw [hf_154 _ _ (by unfold P57; omega), hf_118 _ _ (by unfold P57; omega)]
          conv => whnf
          refine zinv0 (s_X12_isGood T (u := u) (n := n) (s := pMu 0 3 (pMu 1 1 s)) (by exact hS_154) ?_ ?_)
          · intro cha_158
            exact absurd cha_158 (show ¬ pc (pMu 0 3 (pMu 1 1 s)) = 0 by rw [pMu_0]; exact pFl_c (by decide))
          · intro ch2a_158
            conv => whnf
            refine ⟨by decide, fun _ => ?_, fun c => absurd c (by decide)⟩
            conv => whnf
            refine zinv0 (s_X12_goesOn T (u := u) (n := n) (s := pMu 0 3 (pMu 1 1 s)) (by exact hS_154) ?_)
            intro I_219 hf_219 hS_219
            conv => whnf
            have eD : DrM I_219 M := hd.fr hm8 (fun b => by rw [hf_219 _ _ (by unfold PTm; omega), eA _ _ (by omega)])
            have fr9 : Fr PRs I I_219 := ((hf_118.mono P57_s).trans (hf_154.mono P57_s)).trans (hf_219.mono PTm_s)
            by_cases h0 : pc s = 0
            · obtain ⟨t1, t2, t3⟩ := m5 h0
              rw [t3.2.2.1, sort_3 t2] at c109
              rw [pMu_1, pMu_0, pGo_1 (pFl_c (by decide))] at hS_219
              refine h2 h0 c109 (fun q => ?_) I_219 fr9 hS_219 eD
              exact q.2.2 (by omega)
            · rw [pMu_b h0, pMu_b h0, pGo_1 h0] at hS_219
              exact h h0 I_219 fr9 hS_219 eD
        · conv => whnf
          refine zinv0 (s_X12_must T (w := 3) (f := 1) (u := u) (n := n) (s := pMu 1 1 s) (by exact hS_118) (by omega) (by omega) ?_)
          intro I_154 hf_154 hS_154
          have eA : ∀ (a : Nat) (b : Int), ¬ (a = 603 ∧ 53 ≤ b ∧ b ≤ 58) → I_154 a b = I a b := fun a b g => by rw [hf_154 _ _ (by unfold P57; omega), hf_118 _ _ (by unfold P57; omega)]
          conv => whnf
          refine zinv0 (s_X12_isGood T (u := u) (n := n) (s := pMu 1 3 (pMu 1 1 s)) (by exact hS_154) ?_ ?_)
          · intro cha_158
            conv => whnf
            refine ⟨by decide, fun c => absurd c (by decide), fun _ => ?_⟩
            conv => whnf
            refine ⟨by decide, _, rfl, ?_⟩
            conv => whnf
            refine ⟨by omega, by decide, ?_⟩
            conv => whnf
            refine T.fg [1, 2] ?_
            have h0 : pc s = 0 := by
              have q := cha_158
              rw [pMu_1, pMu_1] at q
              exact q
            obtain ⟨t1, t2, t3⟩ := m5 h0
            rw [t3.2.2.1, sort_3 t2] at c109
            rw [pMu_1, pMu_1] at hS_154
            have hd9 : DrM I_154 M := hd.fr hm8 (fun b => eA _ _ (by omega))
            have hn9 := hm7 h0
            rw [hd9.1.1]
            refine l_mr2 T (S := S) (I0 := I_154) hn9 hS_154 hd9 (hR.fr (fun b => eA _ _ (by omega))) (fun I2 f2 s2 d2 => h3 h0 c109 ⟨by omega, by omega, by omega⟩ I2 (((hf_118.mono P57_s).trans (hf_154.mono P57_s)).trans f2) s2 d2) 577 0 I_154 (Nat.zero_le _) (Fr.refl _) (KpD.start hd9 hn9) (by omega)
          · intro ch2a_158
            conv => whnf
            refine ⟨by decide, fun _ => ?_, fun c => absurd c (by decide)⟩
            conv => whnf
            refine zinv0 (s_X12_goesOn T (u := u) (n := n) (s := pMu 1 3 (pMu 1 1 s)) (by exact hS_154) ?_)
            intro I_219 hf_219 hS_219
            conv => whnf
            have eD : DrM I_219 M := hd.fr hm8 (fun b => by rw [hf_219 _ _ (by unfold PTm; omega), eA _ _ (by omega)])
            have fr9 : Fr PRs I I_219 := ((hf_118.mono P57_s).trans (hf_154.mono P57_s)).trans (hf_219.mono PTm_s)
            by_cases h0 : pc s = 0
            · obtain ⟨t1, t2, t3⟩ := m5 h0
              rw [t3.2.2.1, sort_3 t2] at c109
              exact absurd (show pc (pMu 1 3 (pMu 1 1 s)) = 0 by rw [pMu_1, pMu_1]; exact h0) ch2a_158
            · rw [pMu_b h0, pMu_b h0, pGo_1 h0] at hS_219
              exact h h0 I_219 fr9 hS_219 eD
end
