/-! THE REFERENCE, TEXTS 7: what must be, going on -/
section
variable {Ln : Nat} {xs : Nat → Int32} {CZ : Nat → ZC} {RZ : Nat → Nat → ZQ → ZP}
theorem txr_am : (List.range 14).all (fun j => decide (lenS.getD (j + 1) 0 = (wtx (j + 4)).length) && (List.range (wtx (j + 4)).length).all (fun k => decide (((bytS.getD (j + 1) []).getD k 0).toInt = (((wtx (j + 4)).getD k 0 : Nat) : Int)))) = true := by decide +kernel
/-- a text of the reference is the word i -/
theorem txr_ok {Ln : Nat} {xs : Nat → Int32} {r i : Nat} (hi : 4 ≤ i ∧ i < 18) (hr : r = 10047 + i) : (XX Ln xs).2.2.2.1 r = (wtx i).length ∧ ∀ k : Nat, k < (wtx i).length → ((XX Ln xs).2.2.2.2.1 r k).toInt = ((wtx i).getD k 0 : Nat) := by
  obtain ⟨j, rfl⟩ : ∃ j, i = j + 4 := ⟨i - 4, by omega⟩
  subst hr
  have h1 := List.all_eq_true.mp txr_am j (List.mem_range.mpr (by omega))
  rw [Bool.and_eq_true, decide_eq_true_iff] at h1
  rw [XX_len, show 10047 + (j + 4) - 10050 = j + 1 by omega]
  refine ⟨h1.1, fun k hk => ?_⟩
  rw [XX_ch, show 10047 + (j + 4) - 10050 = j + 1 by omega]
  exact of_decide_eq_true (List.all_eq_true.mp h1.2 k (List.mem_range.mpr hk))
theorem wtx_inj_am : (List.range 18).all (fun i => (List.range 18).all fun j => decide (i < 4) || (decide (j < 4) || (decide (i = j) || !decide (wtx i = wtx j)))) = true := by decide +kernel
theorem wtx_inj {i j : Nat} (hi : 4 ≤ i ∧ i < 18) (hj : 4 ≤ j ∧ j < 18) (h : wtx i = wtx j) : i = j := by
  have h1 := List.all_eq_true.mp (List.all_eq_true.mp wtx_inj_am i (List.mem_range.mpr hi.2)) j (List.mem_range.mpr hj.2)
  rw [decide_eq_false (show ¬ i < 4 by omega), decide_eq_false (show ¬ j < 4 by omega), decide_eq_true h, Bool.false_or, Bool.false_or, Bool.not_true, Bool.or_false] at h1
  exact of_decide_eq_true h1
theorem wmB_two {u : Nat → Int} {p e : Nat} {v w : List Nat} (h : wmB u p e v = true) (h2 : wmB u p e w = true) : v = w := by
  obtain ⟨a1, a2⟩ := wmB_iff.mp h
  obtain ⟨b1, b2⟩ := wmB_iff.mp h2
  refine List.ext_getElem (by omega) (fun i hi hj => ?_)
  have e1 := a2 i hi
  have e2 := b2 i hj
  rw [List.getD_eq_getElem?_getD, List.getElem?_eq_getElem hi] at e1
  rw [List.getD_eq_getElem?_getD, List.getElem?_eq_getElem hj] at e2
  have e3 : ((v[i] : Nat) : Int) = ((w[i] : Nat) : Int) := e1.symm.trans e2
  omega
theorem wI_fd {u : Nat → Int} {p e i : Nat} (h : wmB u p e (wtx i) = true) : ∀ m j, j ≤ i → i < j + m → wmB u p e (wtx (wI u p e m j)) = true ∧ j ≤ wI u p e m j ∧ wI u p e m j ≤ i
  | 0, j, h1, h2 => absurd h2 (by omega)
  | m + 1, j, h1, h2 => by
    by_cases c : wmB u p e (wtx j) = true
    · rw [wI_y c]
      exact ⟨c, Nat.le_refl j, h1⟩
    · rw [wI_n c]
      have hne : j ≠ i := fun e => c (e ▸ h)
      have := wI_fd h m (j + 1) (by omega) (by omega)
      exact ⟨this.1, by omega, this.2.2⟩
/-- which word it is -/
theorem wI_iff {u : Nat → Int} {p e i : Nat} (he : p < e) (hi : 4 ≤ i ∧ i < 18) : wI u p e 18 0 = i ↔ wmB u p e (wtx i) = true := by
  constructor
  · intro h
    rcases wI_ne2 (u := u) he 18 0 rfl with c | ⟨-, -, c⟩
    · omega
    · rw [h] at c; exact c
  · intro h
    obtain ⟨h1, -, h3⟩ := wI_fd h 18 0 (by omega) (by omega)
    have h4 := wmB_4 (by omega) he h1
    exact wtx_inj ⟨h4, by omega⟩ hi (wmB_two h1 h)
theorem tk_w {u : Nat → Int} {n p i : Nat} (hb : p < n → ¬ bS (u p) = 0) (hi : 4 ≤ i ∧ i < 18) : tkU u n p = i ↔ p < n ∧ bS (u p) = 1 ∧ wmB u p (tE u n p) (wtx i) = true := by
  by_cases h : p < n
  · have he := (tE_b h (hb h)).1
    rw [tkU_in h]
    by_cases h1 : bS (u p) = 1
    · rw [if_pos h1, wI_iff he hi]
      exact ⟨fun g => ⟨h, h1, g⟩, fun g => g.2.2⟩
    · rw [if_neg h1]
      refine ⟨fun g => ?_, fun g => absurd g.2.1 h1⟩
      exfalso
      revert g
      repeat' split
      all_goals omega
  · refine ⟨fun g => ?_, fun g => absurd g.1 h⟩
    have : tkU u n p = 0 := if_pos (by omega)
    omega
/-- sorts and tokens -/
theorem sort_2 {u : Nat → Int} {n p : Nat} (hb : p < n → ¬ bS (u p) = 0) : sortU u n p = 2 ↔ tkU u n p = 2 := by
  unfold sortU tkU
  by_cases h : n ≤ p
  · rw [if_pos h, if_pos h]; omega
  · rw [if_neg h, if_neg h]
    by_cases h1 : bS (u p) = 1
    · rw [if_pos h1, if_pos h1]
      have he := (tE_b (u := u) (n := n) (p := p) (by omega) (hb (by omega))).1
      rcases wI_ne2 (u := u) he 18 0 rfl with c | c <;> omega
    · rw [if_neg h1, if_neg h1]
      by_cases h2 : bS (u p) = 2
      · rw [if_pos h2, if_pos h2]
        by_cases h3 : 2 < tE u n p - p
        · rw [if_pos h3, if_pos h3]; omega
        · rw [if_neg h3, if_neg h3]; omega
      · rw [if_neg h2, if_neg h2]
        by_cases h3 : u p = 59
        · rw [if_pos h3, if_pos h3]; omega
        · rw [if_neg h3, if_neg h3]; omega
theorem sort_3 {u : Nat → Int} {n p : Nat} (hb : p < n → ¬ bS (u p) = 0) : sortU u n p = 3 ↔ tkU u n p = 3 := by
  unfold sortU tkU
  by_cases h : n ≤ p
  · rw [if_pos h, if_pos h]; omega
  · rw [if_neg h, if_neg h]
    by_cases h1 : bS (u p) = 1
    · rw [if_pos h1, if_pos h1]
      have he := (tE_b (u := u) (n := n) (p := p) (by omega) (hb (by omega))).1
      rcases wI_ne2 (u := u) he 18 0 rfl with c | c <;> omega
    · rw [if_neg h1, if_neg h1]
      by_cases h2 : bS (u p) = 2
      · rw [if_pos h2, if_pos h2]
        by_cases h3 : 2 < tE u n p - p
        · rw [if_pos h3, if_pos h3]; omega
        · rw [if_neg h3, if_neg h3]; omega
      · rw [if_neg h2, if_neg h2]
        by_cases h3 : u p = 59
        · rw [if_pos h3, if_pos h3]; omega
        · rw [if_neg h3, if_neg h3]; omega
theorem sort_1 {u : Nat → Int} {n p : Nat} : sortU u n p = 1 ↔ p < n ∧ bS (u p) = 1 := by
  unfold sortU
  by_cases h : n ≤ p
  · rw [if_pos h]; omega
  · rw [if_neg h]
    by_cases h1 : bS (u p) = 1
    · rw [if_pos h1]; omega
    · rw [if_neg h1]
      repeat' split
      all_goals omega
theorem sort_0 {u : Nat → Int} {n p : Nat} : sortU u n p = 0 ↔ tkU u n p = 0 := by
  unfold sortU tkU
  by_cases h : n ≤ p
  · rw [if_pos h, if_pos h]; omega
  · rw [if_neg h, if_neg h]
    by_cases h1 : bS (u p) = 1
    · rw [if_pos h1, if_pos h1]
      refine ⟨fun g => by omega, fun g => ?_⟩
      exfalso
      have hz : ∀ m i, i + m = 18 → 0 < m → wI u p (tE u n p) m i ≠ 0 ∨ (i = 0 ∧ wmB u p (tE u n p) (wtx 0) = true) := by
        intro m
        induction m with
        | zero => intro i _ h; omega
        | succ m ih =>
          intro i hi _
          by_cases c : wmB u p (tE u n p) (wtx i) = true
          · rw [wI_y c]
            by_cases e : i = 0
            · subst e; exact Or.inr ⟨rfl, c⟩
            · exact Or.inl e
          · rw [wI_n c]
            by_cases e : m = 0
            · subst e; exact Or.inl (by show (1 : Nat) ≠ 0; decide)
            · rcases ih (i + 1) (by omega) (by omega) with g | g
              · exact Or.inl g
              · omega
      rcases hz 18 0 rfl (by omega) with g2 | ⟨-, g2⟩
      · exact g2 g
      · have h3 := (wmB_iff.mp g2).1
        have h4 : p < tE u n p := (tE_b (by omega) (by omega)).1
        have h5 : (wtx 0).length = 0 := by decide
        omega
    · rw [if_neg h1, if_neg h1]
      repeat' split
      all_goals omega
theorem sort_b {u : Nat → Int} {n p : Nat} : 0 ≤ sortU u n p ∧ sortU u n p ≤ 4 := by
  unfold sortU
  repeat' split
  all_goals omega
/-- the reference reads, and stands where s says -/
def PSm (I : ZI) (u : Nat → Int) (n : Nat) (s : PE) : Prop := BYm I u n ∧ (pc s ≤ 4 ∧ I 603 57 = pc s ∧ (pc s ≠ 0 → I 603 58 = po s)) ∧ (pc s = 0 → pp s ≤ n ∧ (pp s < n → ¬ bS (u (pp s)) = 0) ∧ TkM I u n (pp s)) ∧ zR (I 603 56) ∧ 0 ≤ I 603 55 ∧ I 603 55 ≤ 4
/-- a reading's cells -/
def PTm : Nat → Int → Prop := fun a b => a = 603 ∧ 53 ≤ b ∧ b ≤ 58
def P57 : Nat → Int → Prop := fun a b => a = 603 ∧ (b = 57 ∨ b = 58)
theorem PSn_t : ∀ a b, PSn a b → PTm a b := fun a b h => by unfold PSn at h; unfold PTm; omega
theorem P57_t : ∀ a b, P57 a b → PTm a b := fun a b h => by unfold P57 at h; unfold PTm; omega
theorem TkM.fr {I I' : ZI} {u : Nat → Int} {n p : Nat} (h : TkM I u n p) (h1 : ∀ (a : Nat) (b : Int), a = 603 ∧ 53 ≤ b ∧ b ≤ 56 → I' a b = I a b) : TkM I' u n p := by
  obtain ⟨a1, a2, a3, a4⟩ := h
  exact ⟨by rw [h1 _ _ ⟨rfl, by omega, by omega⟩]; exact a1, by rw [h1 _ _ ⟨rfl, by omega, by omega⟩]; exact a2, by rw [h1 _ _ ⟨rfl, by omega, by omega⟩]; exact a3, fun e => by rw [h1 _ _ ⟨rfl, by omega, by omega⟩]; exact a4 e⟩
theorem PSm.fr {I I' : ZI} {u : Nat → Int} {n : Nat} {s : PE} (h : PSm I u n s) (h1 : ∀ (a : Nat) (b : Int), a = 641 ∨ (a = 603 ∧ 52 ≤ b ∧ b ≤ 58) → I' a b = I a b) : PSm I' u n s := by
  obtain ⟨a1, ⟨a2, a3, a4⟩, a5, a6, a7⟩ := h
  refine ⟨a1.fr (fun a b g => h1 a b (by omega)), ⟨a2, by rw [h1 _ _ (by omega)]; exact a3, fun e => by rw [h1 _ _ (by omega)]; exact a4 e⟩, fun e => ⟨(a5 e).1, (a5 e).2.1, (a5 e).2.2.fr (fun a b g => h1 a b (by omega))⟩, ?_, ?_⟩
  · rw [h1 _ _ (by omega)]; exact a6
  · rw [h1 _ _ (by omega)]; exact a7
/-- a bad state is told by its code and offset alone -/
theorem PSm.bad {I : ZI} {u : Nat → Int} {n : Nat} {s s' : PE} (h : PSm I u n s) (h0 : ¬ pc s = 0) (h1 : pc s' = pc s) (h2 : po s' = po s) : PSm I u n s' := by
  obtain ⟨a1, ⟨a2, a3, a4⟩, a5, a6, a7⟩ := h
  exact ⟨a1, ⟨by rw [h1]; exact a2, by rw [h1]; exact a3, fun e => by rw [h2]; exact a4 h0⟩, fun e => absurd (h1.symm.trans e) h0, a6, a7⟩
/-- what must be, going on -/
def pMu (f : Int) (w : Nat) (s : PE) : PE := if f = 0 then pFl w (pp s) s else s
def pGo (u : Nat → Int) (n : Nat) (s : PE) : PE := if pc s = 0 then (0, po s, nxT u n (pp s)) else s
theorem pMu_1 {w : Nat} {s : PE} : pMu 1 w s = s := if_neg (by decide)
theorem pMu_0 {w : Nat} {s : PE} : pMu 0 w s = pFl w (pp s) s := if_pos rfl
theorem pMu_b {f : Int} {w : Nat} {s : PE} (h : ¬ pc s = 0) : pMu f w s = s := by
  unfold pMu
  by_cases e : f = 0
  · rw [if_pos e, pFl_1 h]
  · rw [if_neg e]
theorem pGo_1 {u : Nat → Int} {n : Nat} {s : PE} (h : ¬ pc s = 0) : pGo u n s = s := if_neg h
theorem pGo_0 {u : Nat → Int} {n : Nat} {s : PE} (h : pc s = 0) : pGo u n s = (0, po s, nxT u n (pp s)) := if_pos h
theorem pFl_c {w o : Nat} {s : PE} (hw : w ≠ 0) : ¬ pc (pFl w o s) = 0 := by
  intro h
  exact pFl_g hw h
theorem pKw_go {u : Nat → Int} {n w : Nat} {s : PE} {f : Int} (hf : pc s = 0 → (f = 1 ∧ tkU u n (pp s) = w) ∨ (f = 0 ∧ ¬ tkU u n (pp s) = w)) : pGo u n (pMu f 1 s) = pKw u n w s := by
  by_cases h0 : pc s = 0
  · rcases hf h0 with ⟨e, e2⟩ | ⟨e, e2⟩
    · rw [e, pMu_1, pGo_0 h0, pKw_0 h0 e2]
    · rw [e, pMu_0, pGo_1 (pFl_c (by decide)), pFl_0 h0, pKw_1 h0 e2]
  · rw [pMu_b h0, pGo_1 h0, pKw_2 h0]
theorem s_X12_isGood (T : ZTh (XX Ln xs) CZ RZ) {d b : Nat} {u : Nat → Int} {n : Nat} {s : PE}  {I : ZI} {L : ZL} {Q : ZQ} (hS : PSm I u n s) (h : pc s = 0 → Q (.inl (some (.inl (1)))) I L) (h2 : ¬ pc s = 0 → Q (.inl (some (.inl (0)))) I L) : CZ (d + 1) k_X12_isGood [.inr (.ref 603, 13)] b I L Q := by
  refine T.call rfl ?_
  obtain ⟨m1, ⟨m2, m3, m4⟩, m5, m6, m7, m8⟩ := id hS
  refine T.go [] 90 ?_
  conv => whnf
  refine ⟨by decide, ?_⟩
  conv => whnf
  refine ⟨by exact ⟨by omega, by omega⟩, fun c4 => ?_, fun c4 => ?_⟩
  · conv => whnf
    refine ⟨by omega, ?_⟩
    exact h2 (by omega)
  · conv => whnf
    refine ⟨by omega, ?_⟩
    exact h (by omega)
theorem s_X12_must (T : ZTh (XX Ln xs) CZ RZ) {d b : Nat} {w : Nat} {f : Int} {u : Nat → Int} {n : Nat} {s : PE}  {I : ZI} {L : ZL} {Q : ZQ} (hS : PSm I u n s) (hf : f = 0 ∨ f = 1) (hw : 1 ≤ w ∧ w ≤ 4) (h : ∀ I', Fr P57 I I' → PSm I' u n (pMu f w s) → Q (.inl none) I' L) : CZ (d + 1) k_X12_must [.inr (.ref 603, 13), .inl f, .inl ((w : Int))] b I L Q := by
  refine T.call rfl ?_
  obtain ⟨m1, ⟨m2, m3, m4⟩, m5, m6, m7, m8⟩ := id hS
  refine T.go [] 90 ?_
  conv => whnf
  refine ⟨by omega, fun c1 => ?_, fun c1 => ?_⟩
  · conv => whnf
    obtain rfl : f = 1 := by omega
    refine h I (Fr.refl I) ?_
    rw [pMu_1]
    exact hS
  · conv => whnf
    refine ⟨by decide, ?_⟩
    conv => whnf
    refine ⟨by exact ⟨by omega, by omega⟩, fun c8 => ?_, fun c8 => ?_⟩
    · conv => whnf
      have h0 : ¬ pc s = 0 := by omega
      refine h I (Fr.refl I) ?_
      rw [pMu_b h0]
      exact hS
    · conv => whnf
      refine ⟨by decide, ?_⟩
      conv => whnf
      refine ⟨by decide, ?_⟩
      conv => whnf
      refine ⟨by decide, ?_⟩
      conv => whnf
      obtain rfl : f = 0 := by omega
      have h0 : pc s = 0 := by omega
      obtain ⟨g1, g2, g3⟩ := m5 h0
      refine h _ (((Fr.refl I).v2 ⟨rfl, Or.inl rfl⟩).v2 ⟨rfl, Or.inr rfl⟩) ?_
      rw [pMu_0, pFl_0 h0]
      refine ⟨m1.fr (fun a b g => by rw [v2_ne (by omega), v2_ne (by omega)]), ⟨by show w ≤ 4; omega, ?_, fun _ => ?_⟩, fun e => ?_, ?_, ?_⟩
      · rw [v2_ne (by omega), v2_eq]; rfl
      · rw [v2_eq, v2_ne (by omega), g3.1]; rfl
      · exact absurd (show w = 0 from e) (by omega)
      · rw [v2_ne (by omega), v2_ne (by omega)]; exact m6
      · rw [v2_ne (by omega), v2_ne (by omega)]; exact ⟨m7, m8⟩
theorem nx_sc {u : Nat → Int} {n p : Nat} (hp : p ≤ n) : eRn u n 0 (if n ≤ p then p else tE u n p) = nxT u n p := by
  unfold nxT
  by_cases h : n ≤ p
  · rw [if_pos h, if_pos h]
    exact eRn_n (fun g => by omega)
  · rw [if_neg h, if_neg h]
theorem nx_le {u : Nat → Int} {n p : Nat} (hp : p ≤ n) (hb : p < n → ¬ bS (u p) = 0) : (if n ≤ p then p else tE u n p) ≤ n ∧ nxT u n p ≤ n ∧ (nxT u n p < n → ¬ bS (u (nxT u n p)) = 0) := by
  by_cases h : p < n
  · have h1 := tE_b h (hb h)
    have h2 := nxT_b h (hb h)
    rw [if_neg (by omega)]
    exact ⟨h1.2, h2.2⟩
  · have e : nxT u n p = p := if_pos (by omega)
    rw [e, if_pos (by omega)]
    exact ⟨hp, hp, fun g => absurd g h⟩
theorem s_X12_goesOn (T : ZTh (XX Ln xs) CZ RZ) {d b : Nat} {u : Nat → Int} {n : Nat} {s : PE}  {I : ZI} {L : ZL} {Q : ZQ} (hS : PSm I u n s) (h : ∀ I', Fr PTm I I' → PSm I' u n (pGo u n s) → Q (.inl none) I' L) : CZ (d + 4) k_X12_goesOn [.inr (.ref 603, 13)] b I L Q := by
  refine T.call rfl ?_
  obtain ⟨m1, ⟨m2, m3, m4⟩, m5, m6, m7, m8⟩ := id hS
  refine T.go [] 90 ?_
  conv => whnf
  refine zinv0 (s_X12_isGood T (u := u) (n := n) (s := s) (by exact hS) ?_ ?_)
  · intro cha_1
    conv => whnf
    refine ⟨by decide, fun c => absurd c (by decide), fun _ => ?_⟩
    conv => whnf
    obtain ⟨g1, g2, g3⟩ := m5 (by assumption)
    obtain ⟨g4, g5, g6⟩ := nx_le g1 g2
    refine zinv0 (s_X12_scans T (q := if n ≤ pp s then pp s else tE u n (pp s)) (n := n) u (by exact m1) (by exact g4) (by exact g3.2.1) (by exact m6) ?_)
    intro I_8 hf_8 hz_8 hk_8
    conv => whnf
    rw [nx_sc g1] at hk_8
    have h0 : pc s = 0 := by assumption
    refine h I_8 (hf_8.mono PSn_t) ?_
    rw [pGo_0 h0]
    refine ⟨m1.sn hf_8, ⟨Nat.zero_le _, ?_, fun e => absurd rfl e⟩, fun _ => ⟨g5, g6, hk_8⟩, hz_8, ?_⟩
    · rw [hf_8 _ _ (by unfold PSn; omega), m3, h0]; rfl
    · rw [hk_8.2.2.1]; exact sort_b
  · intro ch2a_1
    conv => whnf
    refine ⟨by decide, fun _ => ?_, fun c => absurd c (by decide)⟩
    conv => whnf
    have h0 : ¬ pc s = 0 := by assumption
    refine h I (Fr.refl I) ?_
    rw [pGo_1 h0]
    exact hS
end
