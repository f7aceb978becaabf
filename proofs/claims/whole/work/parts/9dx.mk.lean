/-! THE REFERENCE, TEXTS 10: sides, an edge 1 -/
section
variable {Ln : Nat} {xs : Nat → Int32} {CZ : Nat → ZC} {RZ : Nat → Nat → ZQ → ZP}
/-- the sides behind an edge -/
def tsS (S : Nat → Bool) (x y x2 y2 : Int) (q : Nat) : Bool := S q ^^ rfX (6 * ((q : Int) / 4 % 12) + mx6 ((q : Int) % 4)) (6 * ((q : Int) / 4 / 12) + my6 ((q : Int) % 4)) x y x2 y2
theorem m6_b {k : Int} (h0 : 0 ≤ k) (h : k < 4) : 1 ≤ mx6 k ∧ mx6 k ≤ 5 ∧ 1 ≤ my6 k ∧ my6 k ≤ 5 := by
  have := m6_4 h0 h
  omega
theorem bi_inj {a b : Bool} : bi a = bi b ↔ a = b := by cases a <;> cases b <;> decide
/-- an edge's cells -/
def PEm : Nat → Int → Prop := fun a b => a = 637 ∨ (a = 603 ∧ 53 ≤ b ∧ b ≤ 60)
theorem PTm_e : ∀ a b, PTm a b → PEm a b := fun a b h => by unfold PTm at h; unfold PEm; omega
theorem P57_e : ∀ a b, P57 a b → PEm a b := fun a b h => by unfold P57 at h; unfold PEm; omega
theorem ts_cr {S : Nat → Bool} {x y sx sy : Int} {n q : Nat} (hsx : sx = -1 ∨ sx = 0 ∨ sx = 1) (hsy : sy = -1 ∨ sy = 0 ∨ sy = 1) (hn : 1 ≤ n ∧ n ≤ 12) (hx : 0 ≤ x ∧ x ≤ 12) (hy : 0 ≤ y ∧ y ≤ 12) (hx2 : 0 ≤ x + sx * (n : Int) ∧ x + sx * (n : Int) ≤ 12) (hy2 : 0 ≤ y + sy * (n : Int) ∧ y + sy * (n : Int) ≤ 12) (hq : q < 576) : tsS S x y (x + sx * (n : Int)) (y + sy * (n : Int)) q = (S q ^^ (!decide (sy = 0) && crP x y sx sy n q)) := by
  unfold tsS
  by_cases e : sy = 0
  · rw [rf_no (by rw [e]; omega), decide_eq_true e]
    rfl
  · have h1 : (6 * ((q : Int) / 4 % 12) + mx6 ((q : Int) % 4)) = 6 * (((q % 48 / 4 : Nat)) : Int) + mx6 ((q % 4 : Nat) : Int) := by
      rw [show ((q : Int) / 4 % 12) = ((q % 48 / 4 : Nat) : Int) by omega, show ((q : Int) % 4) = ((q % 4 : Nat) : Int) by omega]
    have h2 : (6 * ((q : Int) / 4 / 12) + my6 ((q : Int) % 4)) = 6 * (((q / 48 : Nat)) : Int) + my6 ((q % 4 : Nat) : Int) := by
      rw [show ((q : Int) / 4 / 12) = ((q / 48 : Nat) : Int) by omega, show ((q : Int) % 4) = ((q % 4 : Nat) : Int) by omega]
    rw [h1, h2, rf_cr hsx (by omega) hn hx hy hx2 hy2 (by omega) (by omega) (by omega), decide_eq_false e, show 48 * (q / 48) + 4 * (q % 48 / 4) + q % 4 = q by omega]
    rfl
theorem l_mts (T : ZTh (XX Ln xs) CZ RZ) {d b : Nat} {Q : ZQ} {x y x2 y2 : Int} {S : Nat → Bool} {I0 : ZI} {L : ZL} (hb : (0 ≤ x ∧ x ≤ 12) ∧ (0 ≤ y ∧ y ≤ 12) ∧ (0 ≤ x2 ∧ x2 ≤ 12) ∧ (0 ≤ y2 ∧ y2 ≤ 12)) (hx : I0 603 59 = x) (hy : I0 603 60 = y) (h : ∀ I', Fr (fun a _ => a = 637) I0 I' → ArB I' 637 (tsS S x y x2 y2) → Q (.inl none) I' L) (m : Nat) : ∀ (k : Nat) (I : ZI), (k ≤ 576) → (Fr (fun a _ => a = 637) I0 I) → (∀ q : Nat, q < 576 → I 637 (q : Int) = bi (if q < k then tsS S x y x2 y2 q else S q)) → 576 - (k : Int) < (m : Int) → RZ (d + 2) k_X12_turnsSides Q 2 [.inr (.ref 603, 13), .inl x2, .inl y2, .inl ((k : Int)), zj] [] b I L := by
  induction m with
  | zero =>
    intro k I hk hfr hv hm
    exfalso
    omega
  | succ m ih =>
    intro k I hk hfr hv hm
    have e59 : I 603 59 = x := (hfr _ _ (by omega)).trans hx
    have e60 : I 603 60 = y := (hfr _ _ (by omega)).trans hy
    have hmb := m6_b (k := (k : Int) % 4) (by omega) (by omega)
    have hbS := bi_b (S k)
    refine T.go [2] 90 ?_
    conv => whnf
    refine ⟨by omega, fun c6 => ?_, fun c6 => ?_⟩
    · conv => whnf
      obtain rfl : k = 576 := by omega
      refine h I hfr (fun q hq => ?_)
      rw [hv q hq, if_pos hq]
    · conv => whnf
      refine ⟨by omega, Or.inl ⟨by omega, ?_⟩⟩
      conv => whnf
      refine ⟨by omega, ?_⟩
      conv => whnf
      refine ⟨by omega, ?_⟩
      conv => whnf
      refine zinv0 (s_X12_middleX T (x := (k : Int) / 4 % 12) (k := (k : Int) % 4) (by omega) ?_)
      conv => whnf
      refine ⟨by omega, Or.inl ⟨by omega, ?_⟩⟩
      conv => whnf
      refine ⟨by omega, Or.inl ⟨by omega, ?_⟩⟩
      conv => whnf
      refine ⟨by omega, ?_⟩
      conv => whnf
      refine zinv0 (s_X12_middleY T (x := (k : Int) / 4 / 12) (k := (k : Int) % 4) (by omega) ?_)
      conv => whnf
      refine ⟨by decide, ?_⟩
      conv => whnf
      refine ⟨by decide, ?_⟩
      conv => whnf
      rw [e59, e60]
      refine zinv0 (s_X12_crosses T (px := 6 * ((k : Int) / 4 % 12) + mx6 ((k : Int) % 4)) (py := 6 * ((k : Int) / 4 / 12) + my6 ((k : Int) % 4)) (a1 := x) (a2 := y) (b1 := x2) (b2 := y2) (by omega) ?_)
      have hvk : I 637 (k : Int) = bi (S k) := by rw [hv k (by omega), if_neg (Nat.lt_irrefl k)]
      have hbr := bi_b (rfX (6 * ((k : Int) / 4 % 12) + mx6 ((k : Int) % 4)) (6 * ((k : Int) / 4 / 12) + my6 ((k : Int) % 4)) x y x2 y2)
      conv => whnf
      refine ⟨by decide, _, rfl, ?_⟩
      conv => whnf
      refine ⟨by decide, _, rfl, ?_⟩
      conv => whnf
      refine ⟨by omega, by decide, ?_⟩
      conv => whnf
      refine ⟨by rw [hvk]; exact ⟨⟨by omega, by omega⟩, ⟨by omega, by omega⟩⟩, fun c61 => ?_, fun c61 => ?_⟩
      · conv => whnf
        refine ⟨by omega, ⟨by decide, by decide, by omega⟩, ?_⟩
        conv => whnf
        refine T.fg [4] ?_
        rw [hvk, bi_inj] at c61
        refine ih (k + 1) _ (by omega) (hfr.v2 rfl) (fun q hq => ?_) (by omega)
        by_cases e : q = k
        · rw [e, v2_eq, if_pos (by omega)]
          unfold tsS
          rw [c61, Bool.xor_self]
          rfl
        · rw [v2_ne (by omega), hv q hq]
          by_cases e2 : q < k
          · rw [if_pos e2, if_pos (by omega)]
          · rw [if_neg e2, if_neg (by omega)]
      · conv => whnf
        refine ⟨by omega, ⟨by decide, by decide, by omega⟩, ?_⟩
        conv => whnf
        refine T.fg [4] ?_
        rw [hvk, bi_inj] at c61
        refine ih (k + 1) _ (by omega) (hfr.v2 rfl) (fun q hq => ?_) (by omega)
        by_cases e : q = k
        · rw [e, v2_eq, if_pos (by omega)]
          unfold tsS
          rw [show (S k ^^ rfX (6 * ((k : Int) / 4 % 12) + mx6 ((k : Int) % 4)) (6 * ((k : Int) / 4 / 12) + my6 ((k : Int) % 4)) x y x2 y2) = true from by
            revert c61
            cases S k <;> cases rfX (6 * ((k : Int) / 4 % 12) + mx6 ((k : Int) % 4)) (6 * ((k : Int) / 4 / 12) + my6 ((k : Int) % 4)) x y x2 y2 <;> simp]
          rfl
        · rw [v2_ne (by omega), hv q hq]
          by_cases e2 : q < k
          · rw [if_pos e2, if_pos (by omega)]
          · rw [if_neg e2, if_neg (by omega)]
theorem s_X12_turnsSides (T : ZTh (XX Ln xs) CZ RZ) {d b : Nat} {x y x2 y2 : Int} (S : Nat → Bool) {I : ZI} {L : ZL} {Q : ZQ} (hb : (0 ≤ x ∧ x ≤ 12) ∧ (0 ≤ y ∧ y ≤ 12) ∧ (0 ≤ x2 ∧ x2 ≤ 12) ∧ (0 ≤ y2 ∧ y2 ≤ 12)) (hx : I 603 59 = x) (hy : I 603 60 = y) (hR : ArB I 637 S) (h : ∀ I', Fr (fun a _ => a = 637) I I' → ArB I' 637 (tsS S x y x2 y2) → Q (.inl none) I' L) : CZ (d + 3) k_X12_turnsSides [.inr (.ref 603, 13), .inl x2, .inl y2] b I L Q := by
  refine T.call rfl ?_
  refine T.go [2] 90 ?_
  conv => whnf
  exact l_mts T (S := S) (I0 := I) hb hx hy h 577 0 I (Nat.zero_le _) (Fr.refl I) (fun q hq => by rw [if_neg (Nat.not_lt_zero q)]; exact hR q hq) (by omega)
theorem l_re59 (T : ZTh (XX Ln xs) CZ RZ) {d b : Nat} {Q : ZQ} {W H : Nat} {x y z : Int} {S : Nat → Bool} {u : Nat → Int} {n : Nat} {s : PE} {I : ZI} {L : ZL} (hS : PSm I u n s) (hR : ArB I 637 S) (hx : I 603 59 = x) (hy : I 603 60 = y) (hxb : 0 ≤ x ∧ x ≤ 12) (hyb : 0 ≤ y ∧ y ≤ 12) (hW : I 603 5 = W ∧ W ≤ 12) (hH : I 603 6 = H ∧ H ≤ 12) (hg : pc s = 0 → (0 ≤ z ∧ z < 8) ∧ 1 ≤ I 603 56 ∧ I 603 56 ≤ 12) (h : ¬ pc s = 0 → ∀ I', Fr PEm I I' → PSm I' u n s → I' 603 59 = x → I' 603 60 = y → ArB I' 637 S → Q (.inl none) I' L) (h1 : pc s = 0 → ¬ (0 ≤ x + dX z * I 603 56 ∧ x + dX z * I 603 56 ≤ W ∧ 0 ≤ y + dY z * I 603 56 ∧ y + dY z * I 603 56 ≤ H) → ∀ I', Fr PEm I I' → PSm I' u n (pFl 2 (pp s) s) → I' 603 59 = x → I' 603 60 = y → ArB I' 637 S → Q (.inl none) I' L) (h2 : pc s = 0 → (0 ≤ x + dX z * I 603 56 ∧ x + dX z * I 603 56 ≤ W ∧ 0 ≤ y + dY z * I 603 56 ∧ y + dY z * I 603 56 ≤ H) → ∀ I', Fr PEm I I' → PSm I' u n (pGo u n s) → I' 603 59 = x + dX z * I 603 56 → I' 603 60 = y + dY z * I 603 56 → ArB I' 637 (fun q => S q ^^ (!decide (dY z = 0) && crP x y (dX z) (dY z) (I 603 56).toNat q)) → Q (.inl none) I' L) : RZ (d + 4) k_X12_readsEdge Q 59 [.inr (.ref 603, 13), .inl z, zj, zj] [] b I L := by
  obtain ⟨m1, ⟨m2, m3, m4⟩, m5, m6, m7, m8⟩ := id hS
  refine T.go [] 250 ?_
  conv => whnf
  refine ⟨by decide, ?_⟩
  conv => whnf
  refine zinv0 (s_X12_isGood T (u := u) (n := n) (s := s) (by exact hS) ?_ ?_)
  · intro cha_64
    have h0 : pc s = 0 := by assumption
    obtain ⟨⟨z0, z8⟩, n1, n12⟩ := hg h0
    have hdb := d_b (i := z) z0 z8
    have hd3 := dX_3 (z := z) z0 z8
    have hzs := zs_d (Ln := Ln) (xs := xs) (i := z) z0 z8
    have hmx := mul_len (a := dX z) (l := I 603 56) ⟨hdb.1, hdb.2.1⟩ ⟨by omega, by omega⟩
    have hmy := mul_len (a := dY z) (l := I 603 56) ⟨hdb.2.2.1, hdb.2.2.2⟩ ⟨by omega, by omega⟩
    conv => whnf
    refine ⟨by decide, fun c => absurd c (by decide), fun _ => ?_⟩
    conv => whnf
    refine ⟨by decide, ?_⟩
    conv => whnf
    refine ⟨by omega, ?_⟩
    conv => whnf
    refine ⟨by decide, ?_⟩
    conv => whnf
    refine zinv0 (s_X12_isGood T (u := u) (n := n) (s := s) (by exact hS) ?_ ?_)
    · intro cha_91
      conv => whnf
      refine ⟨by decide, fun c => absurd c (by decide), fun _ => ?_⟩
      conv => whnf
      refine ⟨by decide, ?_⟩
      conv => whnf
      refine ⟨by omega, ?_⟩
      conv => whnf
      refine ⟨by first | omega | (rw [hx, hzs.2.2.1, Int.mul_comm]; omega) | (rw [hx]; omega), ?_⟩
      conv => whnf
      refine ⟨by decide, ?_⟩
      conv => whnf
      refine ⟨by first | omega | (rw [hW.1]; omega), ?_⟩
      conv => whnf
      rw [hx, hy, hW.1, hzs.2.2.1, hzs.2.2.2, Int.mul_comm (I 603 56) (dX z), Int.mul_comm (I 603 56) (dY z)]
      refine zinv0 (s_X12_isIn T (v := x + dX z * I 603 56) (a := 0) (z := (W : Int)) (by omega) (by omega) (by omega) ?_ ?_)
      · intro cha_122
        conv => whnf
        refine ⟨by decide, fun c => absurd c (by decide), fun _ => ?_⟩
        conv => whnf
        refine ⟨by omega, ?_⟩
        conv => whnf
        refine ⟨by decide, ?_⟩
        conv => whnf
        refine ⟨by first | omega | (rw [hH.1]; omega), ?_⟩
        conv => whnf
        rw [hH.1]
        refine zinv0 (s_X12_isIn T (v := y + dY z * I 603 56) (a := 0) (z := (H : Int)) (by omega) (by omega) (by omega) ?_ ?_)
        · intro cha_136
          conv => whnf
          refine ⟨by decide, fun c => absurd c (by decide), fun _ => ?_⟩
          conv => whnf
          refine zinv0 (s_X12_must T (w := 2) (f := 1) (u := u) (n := n) (s := s) (by exact hS) (by omega) (by omega) ?_)
          intro I_148 hf_148 hS_148
          conv => whnf
          refine zinv0 (s_X12_goesOn T (u := u) (n := n) (s := pMu 1 2 s) (by exact hS_148) ?_)
          intro I_152 hf_152 hS_152
          conv => whnf
          refine zinv0 (s_X12_isGood T (u := u) (n := n) (s := pGo u n (pMu 1 2 s)) (by exact hS_152) ?_ ?_)
          · intro cha_156
            conv => whnf
            refine ⟨by decide, fun c => absurd c (by decide), fun _ => ?_⟩
            conv => whnf
            have eA : ∀ (a : Nat) (b : Int), ¬ a = 637 → ¬ (a = 603 ∧ 53 ≤ b ∧ b ≤ 58) → I_152 a b = I a b := fun a b g1 g2 => by rw [hf_152 _ _ (by unfold PTm; omega), hf_148 _ _ (by unfold P57; omega)]
            have fr9 : Fr PEm I I_152 := (hf_148.mono P57_e).trans (hf_152.mono PTm_e)
            have ex9 : I_152 603 59 = x := (eA _ _ (by omega) (by omega)).trans hx
            have ey9 : I_152 603 60 = y := (eA _ _ (by omega) (by omega)).trans hy
            have eR9 : ArB I_152 637 S := hR.fr (fun b => by rw [hf_152 _ _ (by unfold PTm; omega), hf_148 _ _ (by unfold P57; omega)])
            refine zinv0 (s_X12_turnsSides T (x := x) (y := y) (x2 := x + dX z * I 603 56) (y2 := y + dY z * I 603 56) S (by exact ⟨hxb, hyb, ⟨by omega, by omega⟩, by omega, by omega⟩) (by exact ex9) (by exact ey9) (by exact eR9) ?_)
            intro I_165 hf_165 hR_165
            conv => whnf
            refine ⟨by decide, ?_⟩
            conv => whnf
            refine ⟨by decide, ?_⟩
            conv => whnf
            rw [pMu_1] at hS_152
            refine h2 h0 ⟨by omega, by omega, by omega, by omega⟩ _ (((fr9.trans (hf_165.mono (fun a b c => Or.inl c))).v2 (Or.inr ⟨rfl, by omega, by omega⟩)).v2 (Or.inr ⟨rfl, by omega, by omega⟩)) (hS_152.fr (fun a b g => ?_)) ?_ ?_ ?_
            · rw [v2_ne (by omega), v2_ne (by omega)]
              exact hf_165 _ _ (by omega)
            · rw [v2_ne (by omega), v2_eq]
            · rw [v2_eq]
            · intro q hq
              rw [v2_ne (by omega), v2_ne (by omega), hR_165 q hq]
              have e3 : I 603 56 = (((I 603 56).toNat : Nat) : Int) := by omega
              have e4 := ts_cr (S := S) (x := x) (y := y) (sx := dX z) (sy := dY z) (n := (I 603 56).toNat) (q := q) hd3.1 hd3.2 ⟨by omega, by omega⟩ hxb hyb (by rw [← e3]; exact ⟨by omega, by omega⟩) (by rw [← e3]; exact ⟨by omega, by omega⟩) hq
              rw [← e3] at e4
              rw [e4]
          · intro ch2a_156
            exact absurd (show pc (pGo u n (pMu 1 2 s)) = 0 by rw [pMu_1, pGo_0 h0]; rfl) (by assumption)
        · intro ch2a_136
          conv => whnf
          refine ⟨by decide, fun _ => ?_, fun c => absurd c (by decide)⟩
          conv => whnf
          refine zinv0 (s_X12_must T (w := 2) (f := 0) (u := u) (n := n) (s := s) (by exact hS) (by omega) (by omega) ?_)
          intro I_148 hf_148 hS_148
          conv => whnf
          refine zinv0 (s_X12_goesOn T (u := u) (n := n) (s := pMu 0 2 s) (by exact hS_148) ?_)
          intro I_152 hf_152 hS_152
          conv => whnf
          refine zinv0 (s_X12_isGood T (u := u) (n := n) (s := pGo u n (pMu 0 2 s)) (by exact hS_152) ?_ ?_)
          · intro cha_156
            exact absurd (by assumption) (show ¬ pc (pGo u n (pMu 0 2 s)) = 0 by rw [pMu_0, pGo_1 (pFl_c (by decide))]; exact pFl_c (by decide))
          · intro ch2a_156
            conv => whnf
            refine ⟨by decide, fun _ => ?_, fun c => absurd c (by decide)⟩
            conv => whnf
            have eA : ∀ (a : Nat) (b : Int), ¬ a = 637 → ¬ (a = 603 ∧ 53 ≤ b ∧ b ≤ 58) → I_152 a b = I a b := fun a b g1 g2 => by rw [hf_152 _ _ (by unfold PTm; omega), hf_148 _ _ (by unfold P57; omega)]
            have fr9 : Fr PEm I I_152 := (hf_148.mono P57_e).trans (hf_152.mono PTm_e)
            have ex9 : I_152 603 59 = x := (eA _ _ (by omega) (by omega)).trans hx
            have ey9 : I_152 603 60 = y := (eA _ _ (by omega) (by omega)).trans hy
            have eR9 : ArB I_152 637 S := hR.fr (fun b => by rw [hf_152 _ _ (by unfold PTm; omega), hf_148 _ _ (by unfold P57; omega)])
            rw [pMu_0, pGo_1 (pFl_c (by decide))] at hS_152
            exact h1 h0 (fun g => ch2a_136 ⟨by omega, by omega⟩) I_152 fr9 hS_152 ex9 ey9 eR9
      · intro ch2a_122
        conv => whnf
        refine ⟨by decide, fun _ => ?_, fun c => absurd c (by decide)⟩
        conv => whnf
        refine zinv0 (s_X12_must T (w := 2) (f := 0) (u := u) (n := n) (s := s) (by exact hS) (by omega) (by omega) ?_)
        intro I_148 hf_148 hS_148
        conv => whnf
        refine zinv0 (s_X12_goesOn T (u := u) (n := n) (s := pMu 0 2 s) (by exact hS_148) ?_)
        intro I_152 hf_152 hS_152
        conv => whnf
        refine zinv0 (s_X12_isGood T (u := u) (n := n) (s := pGo u n (pMu 0 2 s)) (by exact hS_152) ?_ ?_)
        · intro cha_156
          exact absurd (by assumption) (show ¬ pc (pGo u n (pMu 0 2 s)) = 0 by rw [pMu_0, pGo_1 (pFl_c (by decide))]; exact pFl_c (by decide))
        · intro ch2a_156
          conv => whnf
          refine ⟨by decide, fun _ => ?_, fun c => absurd c (by decide)⟩
          conv => whnf
          have eA : ∀ (a : Nat) (b : Int), ¬ a = 637 → ¬ (a = 603 ∧ 53 ≤ b ∧ b ≤ 58) → I_152 a b = I a b := fun a b g1 g2 => by rw [hf_152 _ _ (by unfold PTm; omega), hf_148 _ _ (by unfold P57; omega)]
          have fr9 : Fr PEm I I_152 := (hf_148.mono P57_e).trans (hf_152.mono PTm_e)
          have ex9 : I_152 603 59 = x := (eA _ _ (by omega) (by omega)).trans hx
          have ey9 : I_152 603 60 = y := (eA _ _ (by omega) (by omega)).trans hy
          have eR9 : ArB I_152 637 S := hR.fr (fun b => by rw [hf_152 _ _ (by unfold PTm; omega), hf_148 _ _ (by unfold P57; omega)])
          rw [pMu_0, pGo_1 (pFl_c (by decide))] at hS_152
          exact h1 h0 (fun g => ch2a_122 ⟨by omega, by omega⟩) I_152 fr9 hS_152 ex9 ey9 eR9
    · intro ch2a_91
      exact absurd h0 (by assumption)
  · intro ch2a_64
    have h0 : ¬ pc s = 0 := by assumption
    conv => whnf
    refine ⟨by decide, fun _ => ?_, fun c => absurd c (by decide)⟩
    conv => whnf
    refine ⟨by decide, ?_⟩
    conv => whnf
    refine zinv0 (s_X12_isGood T (u := u) (n := n) (s := s) (by exact hS) ?_ ?_)
    · intro cha_91
      exact absurd (by assumption) h0
    · intro ch2a_91
      conv => whnf
      refine ⟨by decide, fun _ => ?_, fun c => absurd c (by decide)⟩
      conv => whnf
      refine ⟨by first | omega | (rw [hx, hzs.2.2.1, Int.mul_comm]; omega) | (rw [hx]; omega), ?_⟩
      conv => whnf
      refine ⟨by decide, ?_⟩
      conv => whnf
      refine ⟨by first | omega | (rw [hW.1]; omega), ?_⟩
      conv => whnf
      rw [hx, hy, hW.1, Int.add_zero, Int.add_zero]
      refine zinv0 (s_X12_isIn T (v := x) (a := 0) (z := (W : Int)) (by omega) (by omega) (by omega) ?_ ?_)
      · intro cha_122
        conv => whnf
        refine ⟨by decide, fun c => absurd c (by decide), fun _ => ?_⟩
        conv => whnf
        refine ⟨by omega, ?_⟩
        conv => whnf
        refine ⟨by decide, ?_⟩
        conv => whnf
        refine ⟨by first | omega | (rw [hH.1]; omega), ?_⟩
        conv => whnf
        rw [hH.1]
        refine zinv0 (s_X12_isIn T (v := y) (a := 0) (z := (H : Int)) (by omega) (by omega) (by omega) ?_ ?_)
        · intro cha_136
          conv => whnf
          refine ⟨by decide, fun c => absurd c (by decide), fun _ => ?_⟩
          conv => whnf
          refine zinv0 (s_X12_must T (w := 2) (f := 1) (u := u) (n := n) (s := s) (by exact hS) (by omega) (by omega) ?_)
          intro I_148 hf_148 hS_148
          conv => whnf
          refine zinv0 (s_X12_goesOn T (u := u) (n := n) (s := pMu 1 2 s) (by exact hS_148) ?_)
          intro I_152 hf_152 hS_152
          conv => whnf
          refine zinv0 (s_X12_isGood T (u := u) (n := n) (s := pGo u n (pMu 1 2 s)) (by exact hS_152) ?_ ?_)
          · intro cha_156
            exact absurd (by assumption) (show ¬ pc (pGo u n (pMu 1 2 s)) = 0 by rw [pMu_b h0, pGo_1 h0]; exact h0)
          · intro ch2a_156
            conv => whnf
            refine ⟨by decide, fun _ => ?_, fun c => absurd c (by decide)⟩
            conv => whnf
            have eA : ∀ (a : Nat) (b : Int), ¬ a = 637 → ¬ (a = 603 ∧ 53 ≤ b ∧ b ≤ 58) → I_152 a b = I a b := fun a b g1 g2 => by rw [hf_152 _ _ (by unfold PTm; omega), hf_148 _ _ (by unfold P57; omega)]
            have fr9 : Fr PEm I I_152 := (hf_148.mono P57_e).trans (hf_152.mono PTm_e)
            have ex9 : I_152 603 59 = x := (eA _ _ (by omega) (by omega)).trans hx
            have ey9 : I_152 603 60 = y := (eA _ _ (by omega) (by omega)).trans hy
            have eR9 : ArB I_152 637 S := hR.fr (fun b => by rw [hf_152 _ _ (by unfold PTm; omega), hf_148 _ _ (by unfold P57; omega)])
            rw [pMu_b h0, pGo_1 h0] at hS_152
            exact h h0 I_152 fr9 hS_152 ex9 ey9 eR9
        · intro ch2a_136
          conv => whnf
          refine ⟨by decide, fun _ => ?_, fun c => absurd c (by decide)⟩
          conv => whnf
          refine zinv0 (s_X12_must T (w := 2) (f := 0) (u := u) (n := n) (s := s) (by exact hS) (by omega) (by omega) ?_)
          intro I_148 hf_148 hS_148
          conv => whnf
          refine zinv0 (s_X12_goesOn T (u := u) (n := n) (s := pMu 0 2 s) (by exact hS_148) ?_)
          intro I_152 hf_152 hS_152
          conv => whnf
          refine zinv0 (s_X12_isGood T (u := u) (n := n) (s := pGo u n (pMu 0 2 s)) (by exact hS_152) ?_ ?_)
          · intro cha_156
            exact absurd (by assumption) (show ¬ pc (pGo u n (pMu 0 2 s)) = 0 by rw [pMu_b h0, pGo_1 h0]; exact h0)
          · intro ch2a_156
            conv => whnf
            refine ⟨by decide, fun _ => ?_, fun c => absurd c (by decide)⟩
            conv => whnf
            have eA : ∀ (a : Nat) (b : Int), ¬ a = 637 → ¬ (a = 603 ∧ 53 ≤ b ∧ b ≤ 58) → I_152 a b = I a b := fun a b g1 g2 => by rw [hf_152 _ _ (by unfold PTm; omega), hf_148 _ _ (by unfold P57; omega)]
            have fr9 : Fr PEm I I_152 := (hf_148.mono P57_e).trans (hf_152.mono PTm_e)
            have ex9 : I_152 603 59 = x := (eA _ _ (by omega) (by omega)).trans hx
            have ey9 : I_152 603 60 = y := (eA _ _ (by omega) (by omega)).trans hy
            have eR9 : ArB I_152 637 S := hR.fr (fun b => by rw [hf_152 _ _ (by unfold PTm; omega), hf_148 _ _ (by unfold P57; omega)])
            rw [pMu_b h0, pGo_1 h0] at hS_152
            exact h h0 I_152 fr9 hS_152 ex9 ey9 eR9
      · intro ch2a_122
        conv => whnf
        refine ⟨by decide, fun _ => ?_, fun c => absurd c (by decide)⟩
        conv => whnf
        refine zinv0 (s_X12_must T (w := 2) (f := 0) (u := u) (n := n) (s := s) (by exact hS) (by omega) (by omega) ?_)
        intro I_148 hf_148 hS_148
        conv => whnf
        refine zinv0 (s_X12_goesOn T (u := u) (n := n) (s := pMu 0 2 s) (by exact hS_148) ?_)
        intro I_152 hf_152 hS_152
        conv => whnf
        refine zinv0 (s_X12_isGood T (u := u) (n := n) (s := pGo u n (pMu 0 2 s)) (by exact hS_152) ?_ ?_)
        · intro cha_156
          exact absurd (by assumption) (show ¬ pc (pGo u n (pMu 0 2 s)) = 0 by rw [pMu_b h0, pGo_1 h0]; exact h0)
        · intro ch2a_156
          conv => whnf
          refine ⟨by decide, fun _ => ?_, fun c => absurd c (by decide)⟩
          conv => whnf
          have eA : ∀ (a : Nat) (b : Int), ¬ a = 637 → ¬ (a = 603 ∧ 53 ≤ b ∧ b ≤ 58) → I_152 a b = I a b := fun a b g1 g2 => by rw [hf_152 _ _ (by unfold PTm; omega), hf_148 _ _ (by unfold P57; omega)]
          have fr9 : Fr PEm I I_152 := (hf_148.mono P57_e).trans (hf_152.mono PTm_e)
          have ex9 : I_152 603 59 = x := (eA _ _ (by omega) (by omega)).trans hx
          have ey9 : I_152 603 60 = y := (eA _ _ (by omega) (by omega)).trans hy
          have eR9 : ArB I_152 637 S := hR.fr (fun b => by rw [hf_152 _ _ (by unfold PTm; omega), hf_148 _ _ (by unfold P57; omega)])
          rw [pMu_b h0, pGo_1 h0] at hS_152
          exact h h0 I_152 fr9 hS_152 ex9 ey9 eR9
end
