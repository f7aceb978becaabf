/-! OUTLINES, 5: walks -/
section
variable {Ln : Nat} {xs : Nat → Int32} {CZ : Nat → ZC} {RZ : Nat → Nat → ZQ → ZP}
/-- bounds of what the arrays hold -/
def BI (s : OS) (n : Nat) : Prop := (∀ i, i < oE s → 0 ≤ oD s i ∧ oD s i < 8 ∧ 0 ≤ oK s i ∧ oK s i < 625 ∧ 0 ≤ oC s i ∧ oC s i ≤ cn (oW s) 5000) ∧
  (∀ i, i < n → 0 ≤ oLG s i ∧ oLG s i ≤ cn (oW s) 5000 ∧ 0 ≤ oSH s i ∧ oSH s i ≤ cn (oW s) 5000 ∧ -(1200 * cn (oW s) 5000) ≤ oAR s i ∧ oAR s i ≤ 1200 * cn (oW s) 5000)
theorem mul_b {x y : Int} (hx : 0 ≤ x ∧ x ≤ 24) (hy : 0 ≤ y ∧ y ≤ 24) : 0 ≤ x * y ∧ x * y ≤ 576 := by
  have h1 : 0 ≤ x * y := Int.mul_nonneg hx.1 hy.1
  have h2 : x * y ≤ 24 * 24 := Int.mul_le_mul hx.2 hy.2 hy.1 (by decide)
  omega
theorem arB_b {e : Nat} (he : e < 5000) (hn : enp e < 625) : -1200 ≤ arB e ∧ arB e ≤ 1200 := by
  unfold arB
  have h1 := mul_b (x := ((e / 8 : Nat) : Int) % 25) (y := ((enp e : Nat) : Int) / 25) (by omega) (by omega)
  have h2 := mul_b (x := ((enp e : Nat) : Int) % 25) (y := ((e / 8 : Nat) : Int) / 25) (by omega) (by omega)
  omega
theorem bi_ar {a b u : Int} (h : -(1200 * u) ≤ a ∧ a ≤ 1200 * u) (hb : -1200 ≤ b ∧ b ≤ 1200) : -(1200 * (u + 1)) ≤ a + b ∧ a + b ≤ 1200 * (u + 1) := by omega
theorem bi_ar0 {a u : Int} (h : -(1200 * u) ≤ a ∧ a ≤ 1200 * u) : -(1200 * (u + 1)) ≤ a ∧ a ≤ 1200 * (u + 1) := by omega
theorem BI.add {s : OS} {n c : Nat} (h : BI s n) (hL : oL s < n) (hc : c < 5000) (he : enp c < 625) (hw : oW s c = false) : BI (addB s c) n := by
  have hq := (cn_addB hc hw).1
  have h0 := cn_nonneg (oW s) 5000
  obtain ⟨a1, a2⟩ := h
  have hE := addB_E s c
  refine ⟨fun i hi => ?_, fun i hi => ?_⟩
  · rw [hq]
    cases ho : onE s c with
    | true =>
      rw [(hE.1 ho).1] at hi
      obtain ⟨b1, b2, b3, b4, b5, b6⟩ := a1 i hi
      have d1 : oD (addB s c) = oD s := by show (bif onE s c then _ else _) = _; rw [ho]; rfl
      have d2 : oC (addB s c) = up (oC s) (oE s - 1) (oC s (oE s - 1) + 1) := by show (bif onE s c then _ else _) = _; rw [ho]; rfl
      have d3 : oK (addB s c) = oK s := by show (bif onE s c then _ else _) = _; rw [ho]; rfl
      rw [d1, d2, d3]
      refine ⟨b1, b2, b3, b4, ?_⟩
      by_cases e : i = oE s - 1
      · rw [e] at b5 b6 ⊢
        rw [up_eq]
        exact ⟨Int.add_nonneg b5 (by decide), Int.add_le_add_right b6 1⟩
      · rw [up_ne e]
        exact ⟨b5, Int.le_trans b6 (Int.le_add_of_nonneg_right (by decide))⟩
    | false =>
      rw [(hE.2 ho).1] at hi
      have d1 : oD (addB s c) = up (oD s) (oE s) ((c % 8 : Nat) : Int) := by show (bif onE s c then _ else _) = _; rw [ho]; rfl
      have d2 : oC (addB s c) = up (oC s) (oE s) 1 := by show (bif onE s c then _ else _) = _; rw [ho]; rfl
      have d3 : oK (addB s c) = up (oK s) (oE s) ((c / 8 : Nat) : Int) := by show (bif onE s c then _ else _) = _; rw [ho]; rfl
      rw [d1, d2, d3]
      by_cases e : i = oE s
      · rw [e, up_eq, up_eq, up_eq]
        refine ⟨by omega, by omega, by omega, by omega, by decide, ?_⟩
        generalize cn (oW s) 5000 = u at *
        omega
      · rw [up_ne e, up_ne e, up_ne e]
        obtain ⟨b1, b2, b3, b4, b5, b6⟩ := a1 i (by omega)
        exact ⟨b1, b2, b3, b4, b5, Int.le_trans b6 (Int.le_add_of_nonneg_right (by decide))⟩
  · rw [hq]
    obtain ⟨b1, b2, b3, b4, b5, b6⟩ := a2 i hi
    have hb := arB_b hc he
    have hup : ∀ f : Nat → Int, 0 ≤ f i → f i ≤ cn (oW s) 5000 → 0 ≤ up f (oL s) (f (oL s) + 1) i ∧ up f (oL s) (f (oL s) + 1) i ≤ cn (oW s) 5000 + 1 := fun f f0 f1 => by
      by_cases e : i = oL s
      · rw [e] at f0 f1 ⊢
        rw [up_eq]
        exact ⟨Int.add_nonneg f0 (by decide), Int.add_le_add_right f1 1⟩
      · rw [up_ne e]
        exact ⟨f0, Int.le_trans f1 (Int.le_add_of_nonneg_right (by decide))⟩
    have hid : ∀ f : Nat → Int, 0 ≤ f i → f i ≤ cn (oW s) 5000 → 0 ≤ f i ∧ f i ≤ cn (oW s) 5000 + 1 := fun f f0 f1 => ⟨f0, Int.le_trans f1 (Int.le_add_of_nonneg_right (by decide))⟩
    have k1 : 0 ≤ oLG (addB s c) i ∧ oLG (addB s c) i ≤ cn (oW s) 5000 + 1 := by
      show 0 ≤ (bif c % 2 == 0 then _ else _ : Nat → Int) i ∧ (bif c % 2 == 0 then _ else _ : Nat → Int) i ≤ _
      cases c % 2 == 0
      · exact hid _ b1 b2
      · exact hup _ b1 b2
    have k2 : 0 ≤ oSH (addB s c) i ∧ oSH (addB s c) i ≤ cn (oW s) 5000 + 1 := by
      show 0 ≤ (bif c % 2 == 0 then _ else _ : Nat → Int) i ∧ (bif c % 2 == 0 then _ else _ : Nat → Int) i ≤ _
      cases c % 2 == 0
      · exact hup _ b3 b4
      · exact hid _ b3 b4
    have k3 : -(1200 * (cn (oW s) 5000 + 1)) ≤ oAR (addB s c) i ∧ oAR (addB s c) i ≤ 1200 * (cn (oW s) 5000 + 1) := by
      show _ ≤ up (oAR s) (oL s) (oAR s (oL s) + arB c) i ∧ up (oAR s) (oL s) (oAR s (oL s) + arB c) i ≤ _
      by_cases e : i = oL s
      · rw [e] at b5 b6 ⊢
        rw [up_eq]
        exact bi_ar ⟨b5, b6⟩ hb
      · rw [up_ne e]
        exact bi_ar0 ⟨b5, b6⟩
    exact ⟨k1.1, k1.2, k2.1, k2.2, k3.1, k3.2⟩
theorem bi_0 {u : Int} (h : 0 ≤ u) : (0 : Int) ≤ 0 ∧ 0 ≤ u ∧ (0 : Int) ≤ 0 ∧ 0 ≤ u ∧ -(1200 * u) ≤ 0 ∧ 0 ≤ 1200 * u := by omega
theorem BI.beg {s : OS} (h : BI s (oL s)) : BI (begL s) (oL s + 1) := by
  refine ⟨h.1, fun i hi => ?_⟩
  by_cases e : i = oL s
  · have e1 : oLG (begL s) i = 0 := by rw [e]; exact up_eq _ _ _
    have e2 : oSH (begL s) i = 0 := by rw [e]; exact up_eq _ _ _
    have e3 : oAR (begL s) i = 0 := by rw [e]; exact up_eq _ _ _
    rw [e1, e2, e3]
    exact bi_0 (cn_nonneg _ _)
  · have e1 : oLG (begL s) i = oLG s i := up_ne e
    have e2 : oSH (begL s) i = oSH s i := up_ne e
    have e3 : oAR (begL s) i = oAR s i := up_ne e
    rw [e1, e2, e3]
    exact h.2 i (by omega)
theorem wk_L (O : Nat → Bool) : ∀ (m : Nat) (s : OS) (f c : Nat), oL (wk O m s f c) = oL s
  | 0, _, _, _ => rfl
  | m + 1, s, f, c => by
    unfold wk
    split
    · rfl
    · rw [wk_L O m]; rfl
theorem endp_eq {O : Nat → Bool} {c : Nat} (h : bs O c = true) : ((c / 8 : Nat) : Int) + (if ((c % 8 : Nat) : Int) % 2 = 0 then 2 else 1) * (25 * dY ((c % 8 : Nat) : Int) + dX ((c % 8 : Nat) : Int)) = ((enp c : Nat) : Int) := by
  rw [(bs_end h).2.2.2]
  by_cases e : c % 2 = 0
  · rw [if_pos e, if_pos (by omega)]
  · rw [if_neg e, if_neg (by omega)]
theorem l_walk (T : ZTh (XX Ln xs) CZ RZ) {d b : Nat} {Q : ZQ} {O W0 : Nat → Bool} {f L0 : Nat} {I0 : ZI} {L : ZL} (hO : cn O 576 ≤ 64) (hB : Bits I0 534 (bs O)) (m : Nat) : ∀ (n c : Nat) (s : OS) (I : ZI), (GW O W0 f s n c) → (Fr PO I0 I) → (OSr I s (oL s + 1)) → (BI s (oL s + 1)) → (oL s = L0) → (∀ I', Fr PO I0 I' → OSr I' (endL (wk O (192 - n) s f c)) (L0 + 1) → BI (endL (wk O (192 - n) s f c)) (L0 + 1) → Q (.inl none) I' L) → 192 - (n : Int) < (m : Int) → RZ (d + 1) k_X3_walk Q 61 [.inr (.ref 533, 4), .inl (((f / 8 : Nat) : Int)), .inl (((f % 8 : Nat) : Int)), .inl (((c / 8 : Nat) : Int)), .inl (((c % 8 : Nat) : Int)), .inl ((n : Int)), zj] [] b I L := by
  induction m with
  | zero =>
    intro n c s I hG hfr hS hBI hL h hm
    have := hG.2.2.2.1
    exfalso
    omega
  | succ m ih =>
    intro n c s I hG hfr hS hBI hL h hm
    obtain ⟨g1, g2, g3⟩ := hG.fresh
    obtain ⟨e1, e2, e3, e4⟩ := bs_end g1
    obtain ⟨r1, r2⟩ := hG.room hO
    have hn9 := hG.2.2.2.1
    obtain ⟨n1, n2, n3⟩ := nxb_in g1
    have hec : 0 ≤ oEC s (oL s) ∧ oFE s (oL s) + oEC s (oL s) = oE s ∧ 0 ≤ oFE s (oL s) := ⟨hG.2.2.2.2.2.2.2.2.2.2.2.2.2.1, hG.2.2.2.2.2.2.2.2.2.2.2.2.2.2.2.2.1, hG.2.2.2.2.2.2.2.2.2.2.2.2.2.2.2.1⟩
    have hB2 : Bits I 534 (bs O) := hB.fr (fun b => hfr _ _ (by unfold PO; omega))
    refine T.go [61] 90 ?_
    conv => whnf
    refine ⟨by omega, fun c66 => by exfalso; omega, fun c66 => ?_⟩
    conv => whnf
    refine zinv0 (s_X3_endOf T  (by omega) ?_)
    rw [endp_eq g1]
    conv => whnf
    refine zinv0 (s_X3_addBorder T (c := c) s (by exact hS) (by exact ⟨g3, e1⟩) (by exact ⟨r1, r2⟩) (by omega) (by exact ⟨⟨by omega, by omega⟩, fun i hi => by have := hBI.1 i hi; exact ⟨by omega, by omega⟩⟩) ?_)
    intro I_83 hf_83 hO_83
    conv => whnf
    refine zinv0 (s_X3_nextWay T (bs O) (by exact hB2.fr (fun b => hf_83 _ _ (by unfold PO; omega))) (by exact e1) (by omega) ?_)
    rw [← n3, ← n2]
    conv => whnf
    have hlast : nxb O c = f ↔ (((nxb O c / 8 : Nat) : Int) = ((f / 8 : Nat) : Int) ∧ ((nxb O c % 8 : Nat) : Int) = ((f % 8 : Nat) : Int)) := by omega
    have hn8 := bs_lt n1
    have hf8 : f < 5000 := bs_lt hG.1
    refine ⟨by omega, fun c101 => ?_, fun c101 => ?_⟩
    · conv => whnf
      refine T.fg [6] ?_
      have hne : nxb O c ≠ f := by omega
      refine ih (n + 1) (nxb O c) (addB s c) _ (hG.add hO hne) (hfr.trans hf_83) hO_83 (hBI.add (by omega) g3 e1 g2) hL ?_ (by omega)
      intro I2 f2 o2 b2
      refine h I2 f2 ?_ ?_
      · rw [show 192 - n = (192 - (n + 1)) + 1 by omega]
        unfold wk
        rw [if_neg hne]
        exact o2
      · rw [show 192 - n = (192 - (n + 1)) + 1 by omega]
        unfold wk
        rw [if_neg hne]
        exact b2
    · conv => whnf
      refine ⟨by omega, fun c107 => ?_, fun c107 => ?_⟩
      · conv => whnf
        refine T.fg [6] ?_
        have hne : nxb O c ≠ f := by omega
        refine ih (n + 1) (nxb O c) (addB s c) _ (hG.add hO hne) (hfr.trans hf_83) hO_83 (hBI.add (by omega) g3 e1 g2) hL ?_ (by omega)
        intro I2 f2 o2 b2
        refine h I2 f2 ?_ ?_
        · rw [show 192 - n = (192 - (n + 1)) + 1 by omega]
          unfold wk
          rw [if_neg hne]
          exact o2
        · rw [show 192 - n = (192 - (n + 1)) + 1 by omega]
          unfold wk
          rw [if_neg hne]
          exact b2
      · conv => whnf
        refine ⟨by decide, ?_⟩
        conv => whnf
        refine ⟨by decide, ?_⟩
        conv => whnf
        have he9 : nxb O c = f := by omega
        have hwk : wk O (192 - n) s f c = addB s c := by
          rw [show 192 - n = (191 - n) + 1 by omega]
          unfold wk
          rw [if_pos he9]
        rw [hwk] at h
        obtain ⟨kb, k10, k11, ke, kl⟩ := hO_83
        refine h _ ((hfr.trans hf_83).v2 (by unfold PO; omega)) ⟨kb.fr (fun b => v2_ne (by omega)), ?_, ?_, fun i hi => ?_, fun i hi => ?_⟩ ?_
        · rw [v2_eq, k10]
          show _ = ((oL s + 1 : Nat) : Int)
          rw [show oL (addB s c) = oL s from rfl]
          omega
        · rw [v2_ne (by omega)]; exact k11
        · rw [v2_ne (by omega), v2_ne (a := 537) (by omega), v2_ne (a := 538) (by omega)]; exact ke i hi
        · rw [v2_ne (by omega), v2_ne (a := 540) (by omega), v2_ne (a := 541) (by omega), v2_ne (a := 542) (by omega), v2_ne (a := 543) (by omega)]; exact kl i (by omega)
        · rw [← hL]; exact hBI.add (by omega) g3 e1 g2
theorem s_X3_walk (T : ZTh (XX Ln xs) CZ RZ) {d b : Nat} {f : Nat} (O : Nat → Bool) (s : OS) {I : ZI} {L : ZL} {Q : ZQ} (hO : cn O 576 ≤ 64) (hB : Bits I 534 (bs O)) (hW : WI O s) (hS : OSr I s (oL s)) (hBI : BI s (oL s)) (hb : bs O f = true ∧ oW s f = false) (hr : oL s < 192) (h : ∀ I', Fr PO I I' → OSr I' (walk1 O s f) (oL s + 1) → BI (walk1 O s f) (oL s + 1) → Q (.inl none) I' L) : CZ (d + 2) k_X3_walk [.inr (.ref 533, 4), .inl (((f / 8 : Nat) : Int)), .inl (((f % 8 : Nat) : Int))] b I L Q := by
  refine T.call rfl ?_
  obtain ⟨kb, k10, k11, ke, kl⟩ := id hS
  refine T.go [61] 200 ?_
  conv => whnf
  refine ⟨by decide, _, rfl, ?_⟩
  conv => whnf
  refine ⟨by decide, ?_⟩
  conv => whnf
  refine ⟨by decide, ?_⟩
  conv => whnf
  refine ⟨by (try simp [v2_ap]) <;> omega, by decide, ?_⟩
  conv => whnf
  refine ⟨by decide, _, rfl, ?_⟩
  conv => whnf
  refine ⟨by decide, ?_⟩
  conv => whnf
  refine ⟨by (try simp [v2_ap]) <;> omega, by decide, ?_⟩
  conv => whnf
  refine ⟨by decide, _, rfl, ?_⟩
  conv => whnf
  refine ⟨by decide, ?_⟩
  conv => whnf
  refine ⟨by (try simp [v2_ap]) <;> omega, by decide, ?_⟩
  conv => whnf
  refine ⟨by decide, _, rfl, ?_⟩
  conv => whnf
  refine ⟨by decide, ?_⟩
  conv => whnf
  refine ⟨by (try simp [v2_ap]) <;> omega, by decide, ?_⟩
  conv => whnf
  refine ⟨by decide, _, rfl, ?_⟩
  conv => whnf
  refine ⟨by decide, ?_⟩
  conv => whnf
  refine ⟨by (try simp [v2_ap]) <;> omega, by decide, ?_⟩
  conv => whnf
  have hG := GW.beg hW hb.1 hb.2
  refine l_walk T (O := O) (W0 := oW s) (f := f) (L0 := oL s) (I0 := I) hO hB 193 0 f (begL s) _ hG (((((Fr.refl I).v2 (by simp [PO, v2_ap])).v2 (by simp [PO, v2_ap])).v2 (by simp [PO, v2_ap])).v2 (by simp [PO, v2_ap]) |>.v2 (by simp [PO, v2_ap])) ⟨kb.fr (fun b => by simp [v2_ap]), ?_, ?_, fun i hi => ?_, fun i hi => ?_⟩ (BI.beg hBI) rfl (fun I2 f2 o2 b2 => h I2 f2 o2 b2) (by omega)
  · simp [v2_ap, k10]
    rfl
  · simp [v2_ap, k11]
    rfl
  · have hi2 : i < oE s := hi
    obtain ⟨g1, g2, g3⟩ := ke i hi2
    simp [v2_ap]
    exact ⟨g1, g2, g3⟩
  · have w1 : oFE (begL s) = up (oFE s) (oL s) (oE s) := rfl
    have w2 : oEC (begL s) = up (oEC s) (oL s) 0 := rfl
    have w3 : oLG (begL s) = up (oLG s) (oL s) 0 := rfl
    have w4 : oSH (begL s) = up (oSH s) (oL s) 0 := rfl
    have w5 : oAR (begL s) = up (oAR s) (oL s) 0 := rfl
    have w6 : oL (begL s) = oL s := rfl
    rw [w6] at hi
    rw [w1, w2, w3, w4, w5]
    simp [v2_ap, k10, k11]
    by_cases e : i = oL s
    · subst e
      simp [up_eq]
    · have e2 : ¬ ((i : Int) = (oL s : Int)) := by omega
      obtain ⟨g1, g2, g3, g4, g5⟩ := kl i (by omega)
      simp [up_ne e, e, e2, g1, g2, g3, g4, g5]
end
