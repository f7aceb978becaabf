/-! OUTLINES, 4: a border is added -/
section
variable {Ln : Nat} {xs : Nat → Int32} {CZ : Nat → ZC} {RZ : Nat → Nat → ZQ → ZP}
/-- a border added, but for the edges; the edges -/
def addB1 (s : OS) (e : Nat) : OS :=
  (fun x => if x = e then true else oW s x, oL s, oE s, oD s, oC s, oK s, oFE s, oEC s,
   bif e % 2 == 0 then up (oLG s) (oL s) (oLG s (oL s) + 1) else oLG s,
   bif e % 2 == 0 then oSH s else up (oSH s) (oL s) (oSH s (oL s) + 1),
   up (oAR s) (oL s) (oAR s (oL s) + arB e))
def addE (s : OS) (e : Nat) : OS :=
  (oW s, oL s, bif onE s e then oE s else oE s + 1,
   bif onE s e then oD s else up (oD s) (oE s) ((e % 8 : Nat) : Int),
   bif onE s e then up (oC s) (oE s - 1) (oC s (oE s - 1) + 1) else up (oC s) (oE s) 1,
   bif onE s e then oK s else up (oK s) (oE s) ((e / 8 : Nat) : Int),
   oFE s, bif onE s e then oEC s else up (oEC s) (oL s) (oEC s (oL s) + 1), oLG s, oSH s, oAR s)
theorem addB_12 (s : OS) (e : Nat) : addB s e = addE (addB1 s e) e := rfl
theorem l_addE (T : ZTh (XX Ln xs) CZ RZ) {d b : Nat} {Q : ZQ} {c : Nat} (s : OS) {I0 I : ZI} {L : ZL} (hO : OSr I s (oL s + 1)) (hfr : Fr PO I0 I) (hr : oE s < 192 ∧ oL s < 192) (he : 0 ≤ oEC s (oL s) ∧ (0 < oEC s (oL s) → 1 ≤ oE s)) (hz : zR (oEC s (oL s)) ∧ ∀ i, i < oE s → zR (oD s i)) (h : ∀ I', Fr PO I0 I' → OSr I' (addE s c) (oL s + 1) → Q (.inl none) I' L) : RZ d k_X3_addBorder Q 89 [.inr (.ref 533, 4), .inl (((c / 8 : Nat) : Int)), .inl (((c % 8 : Nat) : Int)), zj, zj] [] b I L := by
  obtain ⟨kb, k10, k11, ke, kl⟩ := id hO
  obtain ⟨k539, k540, k541, k542, k543⟩ := kl (oL s) (by omega)
  have hzE : zR (I 540 (I 533 10)) := by rw [k10, k540]; exact hz.1
  have hzD : 0 < I 540 (I 533 10) → zR (I 536 (I 533 11 - 1)) := fun h1 => by
    rw [k10, k540] at h1
    have := he.2 h1
    rw [k11, show (oE s : Int) - 1 = ((oE s - 1 : Nat) : Int) by omega, (ke _ (by omega)).1]
    exact hz.2 _ (by omega)
  refine T.go [] 200 ?_
  conv => whnf
  refine ⟨by decide, ?_⟩
  conv => whnf
  refine ⟨by decide, _, rfl, ?_⟩
  conv => whnf
  refine ⟨by decide, ?_⟩
  conv => whnf
  refine ⟨by omega, by decide, ?_⟩
  conv => whnf
  refine ⟨by exact hzE, fun c106 => ?_, fun c106 => ?_⟩
  · conv => whnf
    refine ⟨by decide, ?_⟩
    conv => whnf
    refine ⟨by omega, fun c146 => by exfalso; omega, fun c146 => ?_⟩
    conv => whnf
    refine ⟨by decide, _, rfl, ?_⟩
    conv => whnf
    refine ⟨by decide, ?_⟩
    conv => whnf
    refine ⟨by (try simp [v2_ap]) <;> omega, by decide, ?_⟩
    conv => whnf
    refine ⟨by decide, _, rfl, ?_⟩
    conv => whnf
    refine ⟨by decide, ?_⟩
    conv => whnf
    refine ⟨by (try simp [v2_ap]) <;> omega, by decide, ?_⟩
    conv => whnf
    refine ⟨by decide, _, rfl, ?_⟩
    conv => whnf
    refine ⟨by decide, ?_⟩
    conv => whnf
    refine ⟨by (try simp [v2_ap]) <;> omega, by decide, ?_⟩
    conv => whnf
    refine ⟨by decide, ?_⟩
    conv => whnf
    refine ⟨by decide, ?_⟩
    conv => whnf
    refine ⟨by decide, _, rfl, ?_⟩
    conv => whnf
    refine ⟨by decide, ?_⟩
    conv => whnf
    refine ⟨by (try simp [v2_ap]) <;> omega, by decide, ?_⟩
    conv => whnf
    refine ⟨by (try simp [v2_ap]) <;> omega, by decide, ?_⟩
    conv => whnf
    rw [k10, k540] at c106
    have hon : onE s c = false := by
      unfold onE
      rw [Bool.and_eq_false_iff, decide_eq_false_iff_not, decide_eq_false_iff_not]
      left
      omega
    have d1 : oD (addE s c) = up (oD s) (oE s) ((c % 8 : Nat) : Int) := by show (bif onE s c then _ else _) = _; rw [hon]; rfl
    have d2 : oC (addE s c) = up (oC s) (oE s) 1 := by show (bif onE s c then _ else _) = _; rw [hon]; rfl
    have d3 : oK (addE s c) = up (oK s) (oE s) ((c / 8 : Nat) : Int) := by show (bif onE s c then _ else _) = _; rw [hon]; rfl
    have d4 : oE (addE s c) = oE s + 1 := by show (bif onE s c then _ else _) = _; rw [hon]; rfl
    have d5 : oEC (addE s c) = up (oEC s) (oL s) (oEC s (oL s) + 1) := by show (bif onE s c then _ else _) = _; rw [hon]; rfl
    refine h _ (((((hfr.v2 (by simp [PO])).v2 (by simp [PO])).v2 (by simp [PO])).v2 (by simp [PO])).v2 (by simp [PO])) ⟨kb.fr (fun b => by simp [v2_ap]), ?_, ?_, fun i hi => ?_, fun i hi => ?_⟩
    · simp [v2_ap, k10]
      rfl
    · simp [v2_ap, k11, d4]
    · rw [d4] at hi
      rw [d1, d2, d3]
      simp [v2_ap, k10, k11]
      by_cases e : i = oE s
      · subst e
        simp [up_eq]
      · obtain ⟨g1, g2, g3⟩ := ke i (by omega)
        have e2 : ¬ ((i : Int) = (oE s : Int)) := by omega
        simp [up_ne e, e, e2, g1, g2, g3]
    · obtain ⟨g1, g2, g3, g4, g5⟩ := kl i hi
      rw [d5]
      simp [v2_ap, k10, k11]
      have w1 : oFE (addE s c) = oFE s := rfl
      have w2 : oLG (addE s c) = oLG s := rfl
      have w3 : oSH (addE s c) = oSH s := rfl
      have w4 : oAR (addE s c) = oAR s := rfl
      rw [w1, w2, w3, w4]
      by_cases e : i = oL s
      · subst e
        simp [up_eq, g1, g3, g4, g5, k540]
      · have e2 : ¬ ((i : Int) = (oL s : Int)) := by omega
        simp [up_ne e, e, e2, g1, g2, g3, g4, g5]
  · conv => whnf
    refine ⟨by omega, fun c111 => ?_, fun c111 => ?_⟩
    · conv => whnf
      refine ⟨by decide, ?_⟩
      conv => whnf
      refine ⟨by omega, fun c146 => by exfalso; omega, fun c146 => ?_⟩
      conv => whnf
      refine ⟨by decide, _, rfl, ?_⟩
      conv => whnf
      refine ⟨by decide, ?_⟩
      conv => whnf
      refine ⟨by (try simp [v2_ap]) <;> omega, by decide, ?_⟩
      conv => whnf
      refine ⟨by decide, _, rfl, ?_⟩
      conv => whnf
      refine ⟨by decide, ?_⟩
      conv => whnf
      refine ⟨by (try simp [v2_ap]) <;> omega, by decide, ?_⟩
      conv => whnf
      refine ⟨by decide, _, rfl, ?_⟩
      conv => whnf
      refine ⟨by decide, ?_⟩
      conv => whnf
      refine ⟨by (try simp [v2_ap]) <;> omega, by decide, ?_⟩
      conv => whnf
      refine ⟨by decide, ?_⟩
      conv => whnf
      refine ⟨by decide, ?_⟩
      conv => whnf
      refine ⟨by decide, _, rfl, ?_⟩
      conv => whnf
      refine ⟨by decide, ?_⟩
      conv => whnf
      refine ⟨by (try simp [v2_ap]) <;> omega, by decide, ?_⟩
      conv => whnf
      refine ⟨by (try simp [v2_ap]) <;> omega, by decide, ?_⟩
      conv => whnf
      rw [k10, k540] at c106
      have hon : onE s c = false := by
        unfold onE
        rw [Bool.and_eq_false_iff, decide_eq_false_iff_not, decide_eq_false_iff_not]
        exfalso
        have := he.2 c106
        rw [k11] at c111
        omega
      have d1 : oD (addE s c) = up (oD s) (oE s) ((c % 8 : Nat) : Int) := by show (bif onE s c then _ else _) = _; rw [hon]; rfl
      have d2 : oC (addE s c) = up (oC s) (oE s) 1 := by show (bif onE s c then _ else _) = _; rw [hon]; rfl
      have d3 : oK (addE s c) = up (oK s) (oE s) ((c / 8 : Nat) : Int) := by show (bif onE s c then _ else _) = _; rw [hon]; rfl
      have d4 : oE (addE s c) = oE s + 1 := by show (bif onE s c then _ else _) = _; rw [hon]; rfl
      have d5 : oEC (addE s c) = up (oEC s) (oL s) (oEC s (oL s) + 1) := by show (bif onE s c then _ else _) = _; rw [hon]; rfl
      refine h _ (((((hfr.v2 (by simp [PO])).v2 (by simp [PO])).v2 (by simp [PO])).v2 (by simp [PO])).v2 (by simp [PO])) ⟨kb.fr (fun b => by simp [v2_ap]), ?_, ?_, fun i hi => ?_, fun i hi => ?_⟩
      · simp [v2_ap, k10]
        rfl
      · simp [v2_ap, k11, d4]
      · rw [d4] at hi
        rw [d1, d2, d3]
        simp [v2_ap, k10, k11]
        by_cases e : i = oE s
        · subst e
          simp [up_eq]
        · obtain ⟨g1, g2, g3⟩ := ke i (by omega)
          have e2 : ¬ ((i : Int) = (oE s : Int)) := by omega
          simp [up_ne e, e, e2, g1, g2, g3]
      · obtain ⟨g1, g2, g3, g4, g5⟩ := kl i hi
        rw [d5]
        simp [v2_ap, k10, k11]
        have w1 : oFE (addE s c) = oFE s := rfl
        have w2 : oLG (addE s c) = oLG s := rfl
        have w3 : oSH (addE s c) = oSH s := rfl
        have w4 : oAR (addE s c) = oAR s := rfl
        rw [w1, w2, w3, w4]
        by_cases e : i = oL s
        · subst e
          simp [up_eq, g1, g3, g4, g5, k540]
        · have e2 : ¬ ((i : Int) = (oL s : Int)) := by omega
          simp [up_ne e, e, e2, g1, g2, g3, g4, g5]
    · conv => whnf
      refine ⟨by decide, _, rfl, ?_⟩
      conv => whnf
      refine ⟨by omega, by decide, ?_⟩
      conv => whnf
      refine ⟨by have := hzD c106; omega, fun c122 => ?_, fun c122 => ?_⟩
      · conv => whnf
        refine ⟨by decide, ?_⟩
        conv => whnf
        refine ⟨by omega, fun c146 => by exfalso; omega, fun c146 => ?_⟩
        conv => whnf
        refine ⟨by decide, _, rfl, ?_⟩
        conv => whnf
        refine ⟨by decide, ?_⟩
        conv => whnf
        refine ⟨by (try simp [v2_ap]) <;> omega, by decide, ?_⟩
        conv => whnf
        refine ⟨by decide, _, rfl, ?_⟩
        conv => whnf
        refine ⟨by decide, ?_⟩
        conv => whnf
        refine ⟨by (try simp [v2_ap]) <;> omega, by decide, ?_⟩
        conv => whnf
        refine ⟨by decide, _, rfl, ?_⟩
        conv => whnf
        refine ⟨by decide, ?_⟩
        conv => whnf
        refine ⟨by (try simp [v2_ap]) <;> omega, by decide, ?_⟩
        conv => whnf
        refine ⟨by decide, ?_⟩
        conv => whnf
        refine ⟨by decide, ?_⟩
        conv => whnf
        refine ⟨by decide, _, rfl, ?_⟩
        conv => whnf
        refine ⟨by decide, ?_⟩
        conv => whnf
        refine ⟨by (try simp [v2_ap]) <;> omega, by decide, ?_⟩
        conv => whnf
        refine ⟨by (try simp [v2_ap]) <;> omega, by decide, ?_⟩
        conv => whnf
        rw [k10, k540] at c106
        have hon : onE s c = false := by
          unfold onE
          rw [Bool.and_eq_false_iff, decide_eq_false_iff_not, decide_eq_false_iff_not]
          right
          have hE1 := he.2 c106
          have e9 : I 533 11 - 1 = ((oE s - 1 : Nat) : Int) := by rw [k11]; omega
          rw [e9, (ke (oE s - 1) (by omega)).1] at c122
          exact c122
        have d1 : oD (addE s c) = up (oD s) (oE s) ((c % 8 : Nat) : Int) := by show (bif onE s c then _ else _) = _; rw [hon]; rfl
        have d2 : oC (addE s c) = up (oC s) (oE s) 1 := by show (bif onE s c then _ else _) = _; rw [hon]; rfl
        have d3 : oK (addE s c) = up (oK s) (oE s) ((c / 8 : Nat) : Int) := by show (bif onE s c then _ else _) = _; rw [hon]; rfl
        have d4 : oE (addE s c) = oE s + 1 := by show (bif onE s c then _ else _) = _; rw [hon]; rfl
        have d5 : oEC (addE s c) = up (oEC s) (oL s) (oEC s (oL s) + 1) := by show (bif onE s c then _ else _) = _; rw [hon]; rfl
        refine h _ (((((hfr.v2 (by simp [PO])).v2 (by simp [PO])).v2 (by simp [PO])).v2 (by simp [PO])).v2 (by simp [PO])) ⟨kb.fr (fun b => by simp [v2_ap]), ?_, ?_, fun i hi => ?_, fun i hi => ?_⟩
        · simp [v2_ap, k10]
          rfl
        · simp [v2_ap, k11, d4]
        · rw [d4] at hi
          rw [d1, d2, d3]
          simp [v2_ap, k10, k11]
          by_cases e : i = oE s
          · subst e
            simp [up_eq]
          · obtain ⟨g1, g2, g3⟩ := ke i (by omega)
            have e2 : ¬ ((i : Int) = (oE s : Int)) := by omega
            simp [up_ne e, e, e2, g1, g2, g3]
        · obtain ⟨g1, g2, g3, g4, g5⟩ := kl i hi
          rw [d5]
          simp [v2_ap, k10, k11]
          have w1 : oFE (addE s c) = oFE s := rfl
          have w2 : oLG (addE s c) = oLG s := rfl
          have w3 : oSH (addE s c) = oSH s := rfl
          have w4 : oAR (addE s c) = oAR s := rfl
          rw [w1, w2, w3, w4]
          by_cases e : i = oL s
          · subst e
            simp [up_eq, g1, g3, g4, g5, k540]
          · have e2 : ¬ ((i : Int) = (oL s : Int)) := by omega
            simp [up_ne e, e, e2, g1, g2, g3, g4, g5]
      · conv => whnf
        refine ⟨by decide, _, rfl, ?_⟩
        conv => whnf
        refine ⟨by omega, by decide, ?_⟩
        conv => whnf
        refine ⟨by omega, by decide, ?_⟩
        conv => whnf
        rw [k10, k540] at c106
        have hec : 0 < oEC s (oL s) := c106
        have hE1 := he.2 hec
        have e9 : I 533 11 - 1 = ((oE s - 1 : Nat) : Int) := by rw [k11]; omega
        rw [e9, (ke (oE s - 1) (by omega)).1] at c122
        have hon : onE s c = true := by
          unfold onE
          rw [Bool.and_eq_true, decide_eq_true_iff, decide_eq_true_iff]
          exact ⟨hec, c122⟩
        have d1 : oD (addE s c) = oD s := by show (bif onE s c then _ else _) = _; rw [hon]; rfl
        have d2 : oC (addE s c) = up (oC s) (oE s - 1) (oC s (oE s - 1) + 1) := by show (bif onE s c then _ else _) = _; rw [hon]; rfl
        have d3 : oK (addE s c) = oK s := by show (bif onE s c then _ else _) = _; rw [hon]; rfl
        have d4 : oE (addE s c) = oE s := by show (bif onE s c then _ else _) = _; rw [hon]; rfl
        have d5 : oEC (addE s c) = oEC s := by show (bif onE s c then _ else _) = _; rw [hon]; rfl
        have ge := (ke (oE s - 1) (by omega)).2.1
        rw [e9, ge]
        refine h _ (hfr.v2 (by unfold PO; omega)) ⟨kb.fr (fun b => v2_ne (by omega)), ?_, ?_, fun i hi => ?_, fun i hi => ?_⟩
        · rw [v2_ne (by omega)]; exact k10
        · rw [v2_ne (by omega), d4]; exact k11
        · rw [d4] at hi
          obtain ⟨g1, g2, g3⟩ := ke i hi
          rw [d1, d2, d3, v2_ne (by omega), v2_ne (a := 538) (by omega)]
          refine ⟨g1, ?_, g3⟩
          by_cases e : i = oE s - 1
          · rw [e, v2_eq, up_eq]
          · rw [v2_ne (by omega), up_ne e]; exact g2
        · obtain ⟨g1, g2, g3, g4, g5⟩ := kl i hi
          rw [d5, v2_ne (by omega), v2_ne (a := 540) (by omega), v2_ne (a := 541) (by omega), v2_ne (a := 542) (by omega), v2_ne (a := 543) (by omega)]
          exact ⟨g1, g2, g3, g4, g5⟩
theorem s_X3_addBorder (T : ZTh (XX Ln xs) CZ RZ) {d b : Nat} {c : Nat} (s : OS) {I : ZI} {L : ZL} {Q : ZQ} (hO : OSr I s (oL s + 1)) (hc : c < 5000 ∧ enp c < 625) (hr : oE s < 192 ∧ oL s < 192) (he : 0 ≤ oEC s (oL s) ∧ (0 < oEC s (oL s) → 1 ≤ oE s)) (hz : zR (oEC s (oL s)) ∧ ∀ i, i < oE s → zR (oD s i)) (h : ∀ I', Fr PO I I' → OSr I' (addB s c) (oL s + 1) → Q (.inl none) I' L) : CZ (d + 1) k_X3_addBorder [.inr (.ref 533, 4), .inl (((c / 8 : Nat) : Int)), .inl (((c % 8 : Nat) : Int)), .inl (((enp c : Nat) : Int))] b I L Q := by
  refine T.call rfl ?_
  obtain ⟨kb, k10, k11, ke, kl⟩ := id hO
  obtain ⟨k539, k540, k541, k542, k543⟩ := kl (oL s) (by omega)
  refine T.go [89] 200 ?_
  conv => whnf
  refine ⟨by omega, fun c1 => by exfalso; omega, fun c1 => ?_⟩
  conv => whnf
  refine ⟨by omega, fun c8 => by exfalso; omega, fun c8 => ?_⟩
  conv => whnf
  refine ⟨by decide, _, rfl, ?_⟩
  conv => whnf
  refine ⟨by omega, by decide, ?_⟩
  conv => whnf
  refine ⟨by omega, ?_⟩
  conv => whnf
  refine ⟨by (try simp [v2_ap]) <;> omega, by decide, ?_⟩
  conv => whnf
  refine ⟨by decide, _, rfl, ?_⟩
  conv => whnf
  refine ⟨by decide, ?_⟩
  conv => whnf
  refine ⟨by (try simp [v2_ap]) <;> omega, by decide, ?_⟩
  conv => whnf
  refine ⟨by omega, ?_⟩
  conv => whnf
  refine ⟨by omega, Or.inl ⟨by omega, ?_⟩⟩
  conv => whnf
  refine ⟨by omega, ?_⟩
  conv => whnf
  refine ⟨by omega, Or.inl ⟨by omega, ?_⟩⟩
  conv => whnf
  refine ⟨by (try simp [v2_ap]) <;> omega, by decide, ?_⟩
  conv => whnf
  refine ⟨by omega, ?_⟩
  conv => whnf
  refine ⟨by omega, fun c57 => ?_, fun c57 => ?_⟩
  · conv => whnf
    refine ⟨by decide, _, rfl, ?_⟩
    conv => whnf
    refine ⟨by decide, ?_⟩
    conv => whnf
    refine ⟨by (try simp [v2_ap]) <;> omega, by decide, ?_⟩
    conv => whnf
    refine ⟨by (try simp [v2_ap]) <;> omega, by decide, ?_⟩
    conv => whnf
    refine T.fg [3] ?_
    have hpar : (c % 2 == 0) = false := by
      have : c % 2 = 1 := by omega
      rw [this]; rfl
    have d3 : oLG (addB1 s c) = oLG s := by show (bif c % 2 == 0 then _ else _) = _; rw [hpar]; rfl
    have d4 : oSH (addB1 s c) = up (oSH s) (oL s) (oSH s (oL s) + 1) := by show (bif c % 2 == 0 then _ else _) = _; rw [hpar]; rfl
    have d5 : oAR (addB1 s c) = up (oAR s) (oL s) (oAR s (oL s) + arB c) := rfl
    have w1 : oFE (addB1 s c) = oFE s := rfl
    have w2 : oEC (addB1 s c) = oEC s := rfl
    refine l_addE T (addB1 s c) (I0 := I) ⟨?_, ?_, ?_, fun i hi => ?_, fun i hi => ?_⟩ ((((Fr.refl I).v2 (by simp [PO])).v2 (by simp [PO])).v2 (by simp [PO])) hr he hz h
    · refine (kb.set (p := c / 8) (d := c % 8) (by omega) (by omega) ?_ (fun q hq => ?_)).congr (fun e he9 => ?_)
      · simp [v2_ap]
      · simp [v2_ap]
        intro e
        omega
      · show (if e = 8 * (c / 8) + c % 8 then true else oW s e) = if e = c then true else oW s e
        rw [show 8 * (c / 8) + c % 8 = c by omega]
    · simp [v2_ap, k10]
      rfl
    · simp [v2_ap, k11]
      rfl
    · obtain ⟨g1, g2, g3⟩ := ke i hi
      simp [v2_ap]
      exact ⟨g1, g2, g3⟩
    · obtain ⟨g1, g2, g3, g4, g5⟩ := kl i hi
      rw [d3, d4, d5, w1, w2]
      simp [v2_ap, k10]
      by_cases e : i = oL s
      · subst e
        simp [up_eq, arB, k539, k540, k541, k542, k543]
      · have e2 : ¬ ((i : Int) = (oL s : Int)) := by omega
        simp [up_ne e, e, e2, g1, g2, g3, g4, g5]
  · conv => whnf
    refine ⟨by decide, _, rfl, ?_⟩
    conv => whnf
    refine ⟨by decide, ?_⟩
    conv => whnf
    refine ⟨by (try simp [v2_ap]) <;> omega, by decide, ?_⟩
    conv => whnf
    refine ⟨by (try simp [v2_ap]) <;> omega, by decide, ?_⟩
    conv => whnf
    refine T.fg [3] ?_
    have hpar : (c % 2 == 0) = true := by
      have : c % 2 = 0 := by omega
      rw [this]; rfl
    have d3 : oLG (addB1 s c) = up (oLG s) (oL s) (oLG s (oL s) + 1) := by show (bif c % 2 == 0 then _ else _) = _; rw [hpar]; rfl
    have d4 : oSH (addB1 s c) = oSH s := by show (bif c % 2 == 0 then _ else _) = _; rw [hpar]; rfl
    have d5 : oAR (addB1 s c) = up (oAR s) (oL s) (oAR s (oL s) + arB c) := rfl
    have w1 : oFE (addB1 s c) = oFE s := rfl
    have w2 : oEC (addB1 s c) = oEC s := rfl
    refine l_addE T (addB1 s c) (I0 := I) ⟨?_, ?_, ?_, fun i hi => ?_, fun i hi => ?_⟩ ((((Fr.refl I).v2 (by simp [PO])).v2 (by simp [PO])).v2 (by simp [PO])) hr he hz h
    · refine (kb.set (p := c / 8) (d := c % 8) (by omega) (by omega) ?_ (fun q hq => ?_)).congr (fun e he9 => ?_)
      · simp [v2_ap]
      · simp [v2_ap]
        intro e
        omega
      · show (if e = 8 * (c / 8) + c % 8 then true else oW s e) = if e = c then true else oW s e
        rw [show 8 * (c / 8) + c % 8 = c by omega]
    · simp [v2_ap, k10]
      rfl
    · simp [v2_ap, k11]
      rfl
    · obtain ⟨g1, g2, g3⟩ := ke i hi
      simp [v2_ap]
      exact ⟨g1, g2, g3⟩
    · obtain ⟨g1, g2, g3, g4, g5⟩ := kl i hi
      rw [d3, d4, d5, w1, w2]
      simp [v2_ap, k10]
      by_cases e : i = oL s
      · subst e
        simp [up_eq, arB, k539, k540, k541, k542, k543]
      · have e2 : ¬ ((i : Int) = (oL s : Int)) := by omega
        simp [up_ne e, e, e2, g1, g2, g3, g4, g5]
end
