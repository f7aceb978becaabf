/-! THE REFERENCE ANSWERS, 10: loop, edge, perimeter, inner -/
section
variable {Ln : Nat} {xs : Nat → Int32} {CZ : Nat → ZC} {RZ : Nat → Nat → ZQ → ZP}
theorem s_X12_ofLoop (T : ZTh (XX Ln xs) CZ RZ) {d b : Nat} {l W H : Nat} {w : Int} (M : Mo) {I : ZI} {L : ZL} {Q : ZQ} (hO : OuM I M) (hw : Wq W H M) (hl : l < oL (olM M)) (hw9 : 0 ≤ w ∧ w ≤ 5) (h : Q (.inl (some (.inl (aLoop (olM M) l w)))) I L) : CZ (d + 1) k_X12_ofLoop [.inr (.ref 603, 13), .inl ((l : Int)), .inl w] b I L Q := by
  refine T.call rfl ?_
  obtain ⟨o1, o2, o3, o4, o5⟩ := ol_ok hw
  obtain ⟨f, c, q1, q2, q3, q4, q5, q6, q7, q8⟩ := hO.lo hw hl
  have har := hO.ar hw hl
  obtain ⟨u1, u2, u3, u4, u5, u6⟩ := hO.ed hw (e := f) (by omega)
  have hqf : (oFE (olM M) l).toNat = f := by rw [q1]; exact Int.toNat_natCast f
  refine T.go [] 90 ?_
  conv => whnf
  refine ⟨by decide, _, rfl, ?_⟩
  conv => whnf
  refine ⟨by omega, by decide, ?_⟩
  conv => whnf
  refine ⟨by omega, fun c8 => ?_, fun c8 => ?_⟩
  · conv => whnf
    refine ⟨by omega, fun c26 => ?_, fun c26 => ?_⟩
    · conv => whnf
      refine ⟨by omega, fun c40 => ?_, fun c40 => ?_⟩
      · conv => whnf
        refine ⟨by omega, fun c54 => ?_, fun c54 => ?_⟩
        · conv => whnf
          refine ⟨by omega, fun c76 => ?_, fun c76 => ?_⟩
          · conv => whnf
            refine ⟨by decide, _, rfl, ?_⟩
            conv => whnf
            refine ⟨by omega, by decide, ?_⟩
            conv => whnf
            obtain rfl : w = 5 := by omega
            have e : aLoop (olM M) l 5 = oK (olM M) f / 25 := by rw [← hqf]; rfl
            rw [e] at h
            rw [q5, u4]
            exact h
          · conv => whnf
            refine ⟨by decide, _, rfl, ?_⟩
            conv => whnf
            refine ⟨by omega, by decide, ?_⟩
            conv => whnf
            obtain rfl : w = 4 := by omega
            have e : aLoop (olM M) l 4 = oK (olM M) f % 25 := by rw [← hqf]; rfl
            rw [e] at h
            rw [q5, u3]
            exact h
        · conv => whnf
          refine ⟨by decide, _, rfl, ?_⟩
          conv => whnf
          refine ⟨by omega, by decide, ?_⟩
          conv => whnf
          refine ⟨by rw [har.1]; exact har.2, fun c63 => ?_, fun c63 => ?_⟩
          · conv => whnf
            obtain rfl : w = 3 := by omega
            rw [har.1] at c63
            have e : aLoop (olM M) l 3 = 0 := if_neg (by omega)
            rw [e] at h
            exact h
          · conv => whnf
            obtain rfl : w = 3 := by omega
            rw [har.1] at c63
            have e : aLoop (olM M) l 3 = 1 := if_pos (by omega)
            rw [e] at h
            exact h
      · conv => whnf
        refine ⟨by decide, _, rfl, ?_⟩
        conv => whnf
        refine ⟨by omega, by decide, ?_⟩
        conv => whnf
        obtain rfl : w = 2 := by omega
        rw [q8]
        exact h
    · conv => whnf
      refine ⟨by decide, _, rfl, ?_⟩
      conv => whnf
      refine ⟨by omega, by decide, ?_⟩
      conv => whnf
      obtain rfl : w = 1 := by omega
      rw [q7]
      exact h
  · conv => whnf
    refine ⟨by decide, _, rfl, ?_⟩
    conv => whnf
    refine ⟨by omega, by decide, ?_⟩
    conv => whnf
    obtain rfl : w = 0 := by omega
    rw [q6, q5, show (f : Int) + (c : Int) - (f : Int) = oEC (olM M) l by omega]
    exact h
theorem s_X12_loop (T : ZTh (XX Ln xs) CZ RZ) {d b : Nat} {W H n bl : Nat} {M : Mo} {P SL : Nat → Mo} {v u : Nat → Int} {l w : Int} {I : ZI} {L : ZL} {Q : ZQ} (hC : MB I W H M P n SL v bl u) (hA : WfA W H M P n SL v) (hl : zR l) (hw9 : zR w) (h : 0 ≤ l → l < oL (olM M) → 0 ≤ w ∧ w ≤ 5 → ∀ I', Fr PSc I I' → I' 603 8 = 0 → MB I' W H M P n SL v bl u → Q (.inl (some (.inl (aLoop (olM M) l.toNat w)))) I' L) (h2 : ¬ (0 ≤ l ∧ l < oL (olM M)) → ∀ I', Fr PSc I I' → I' 603 8 = 1 → MB I' W H M P n SL v bl u → Q (.inl (some (.inl (0)))) I' L) (h3 : 0 ≤ l ∧ l < oL (olM M) → ¬ (0 ≤ w ∧ w ≤ 5) → ∀ I', Fr PSc I I' → I' 603 8 = 2 → MB I' W H M P n SL v bl u → Q (.inl (some (.inl (0)))) I' L) : CZ (d + 6) k_X12_loop [.inr (.ref 603, 13), .inl l, .inl w] b I L Q := by
  refine T.call rfl ?_
  obtain ⟨mT, mR, ⟨mW, mH⟩, ⟨mn, mn8⟩, mP, mS9, ⟨mb1, mb2, mb3⟩, mz⟩ := id hC
  obtain ⟨⟨⟨⟨w1, w2, w3, w4⟩, -⟩, w5, w6⟩, wP, wS⟩ := id hA
  have hC0 := hC.th hA 0
  refine T.go [] 120 ?_
  conv => whnf
  refine ⟨by decide, ?_⟩
  conv => whnf
  refine zinv0 (s_X12_laysLoops T (W := W) (H := H) (M := M) (P := P) (SL := SL) (v := v) (u := u) (by exact hC0) (by exact hA) ?_)
  intro I_6 hf_6 hO_6
  have hfr6 : Fr PSc I I_6 := (frTh I 0).trans (hf_6.mono PLo_c)
  have hC6 := hC0.fr hA (fun a b _ g => hf_6 a b (fun c => g (PLo_c _ _ c)))
  have ht6 : I_6 603 8 = 0 := (hf_6 _ _ (by unfold PLo; omega)).trans (v2_eq _ _ _ _)
  obtain ⟨o1, o2, o3, o4, o5⟩ := ol_ok hA.1.1
  have h34 := hO_6.1.2.1
  conv => whnf
  refine ⟨by omega, ?_⟩
  conv => whnf
  refine ⟨by decide, ?_⟩
  conv => whnf
  refine ⟨by omega, ?_⟩
  conv => whnf
  refine zinv0 (s_X12_isIn T (v := l) (a := 0) (z := I_6 603 34 - 1) (by omega) (by omega) (by omega) ?_ ?_)
  · intro cha_20
    obtain ⟨l, rfl⟩ := Int.eq_ofNat_of_zero_le cha_20.1
    have hl9 : l < oL (olM M) := by omega
    conv => whnf
    refine ⟨by decide, fun _ => ?_, fun c => absurd c (by decide)⟩
    conv => whnf
    refine zinv0 (s_refuses0 T  (by exact ht6) ?_)
    conv => whnf
    refine ⟨by decide, fun c => absurd c (by decide), fun _ => ?_⟩
    conv => whnf
    refine ⟨by omega, ?_⟩
    conv => whnf
    refine zinv0 (s_X12_isIn T (v := w) (a := 0) (z := 5) (by omega) (by omega) (by omega) ?_ ?_)
    · intro cha_45
      conv => whnf
      refine ⟨by decide, fun _ => ?_, fun c => absurd c (by decide)⟩
      conv => whnf
      refine zinv0 (s_refuses0 T  (by exact ht6) ?_)
      conv => whnf
      refine ⟨by decide, fun _ => ?_, fun c => absurd c (by decide)⟩
      conv => whnf
      refine zinv0 (s_X12_ofLoop T (l := l) (w := w) (W := W) (H := H) M (by exact hO_6) (by exact hA.1.1) (by exact hl9) (by exact cha_45) ?_)
      conv => whnf
      have h9 := h (by omega) (by omega) cha_45 I_6 hfr6 ht6 hC6
      rw [Int.toNat_natCast l] at h9
      exact h9
    · intro ch2a_45
      conv => whnf
      refine ⟨by decide, fun c => absurd c (by decide), fun _ => ?_⟩
      conv => whnf
      refine zinv0 (s_refuses1 T  (by exact ht6) (by omega) ?_)
      conv => whnf
      refine ⟨by decide, fun c => absurd c (by decide), fun _ => ?_⟩
      conv => whnf
      exact h3 ⟨by omega, by omega⟩ ch2a_45 _ (hfr6.trans (frTh I_6 2)) (v2_eq _ _ _ _) (hC6.th hA 2)
  · intro ch2a_20
    conv => whnf
    refine ⟨by decide, fun c => absurd c (by decide), fun _ => ?_⟩
    conv => whnf
    refine zinv0 (s_refuses1 T  (by exact ht6) (by omega) ?_)
    conv => whnf
    refine ⟨by decide, fun _ => ?_, fun c => absurd c (by decide)⟩
    conv => whnf
    exact h2 (fun g => ch2a_20 (by omega)) _ (hfr6.trans (frTh I_6 1)) (v2_eq _ _ _ _) (hC6.th hA 1)
theorem s_X12_edge (T : ZTh (XX Ln xs) CZ RZ) {d b : Nat} {W H n bl : Nat} {M : Mo} {P SL : Nat → Mo} {v u : Nat → Int} {l e w : Int} {I : ZI} {L : ZL} {Q : ZQ} (hC : MB I W H M P n SL v bl u) (hA : WfA W H M P n SL v) (hl : zR l) (he : zR e) (hw9 : zR w) (h : 0 ≤ l → l < oL (olM M) → 0 ≤ e → e < oEC (olM M) l.toNat → 0 ≤ w ∧ w ≤ 4 → ∀ I', Fr PSc I I' → I' 603 8 = 0 → MB I' W H M P n SL v bl u → Q (.inl (some (.inl (aEdge (olM M) l.toNat e.toNat w)))) I' L) (h2 : ¬ ((0 ≤ l ∧ l < oL (olM M)) ∧ 0 ≤ e ∧ e < oEC (olM M) l.toNat) → ∀ I', Fr PSc I I' → I' 603 8 = 1 → MB I' W H M P n SL v bl u → Q (.inl (some (.inl (0)))) I' L) (h3 : (0 ≤ l ∧ l < oL (olM M)) ∧ 0 ≤ e ∧ e < oEC (olM M) l.toNat → ¬ (0 ≤ w ∧ w ≤ 4) → ∀ I', Fr PSc I I' → I' 603 8 = 2 → MB I' W H M P n SL v bl u → Q (.inl (some (.inl (0)))) I' L) : CZ (d + 6) k_X12_edge [.inr (.ref 603, 13), .inl l, .inl e, .inl w] b I L Q := by
  refine T.call rfl ?_
  obtain ⟨mT, mR, ⟨mW, mH⟩, ⟨mn, mn8⟩, mP, mS9, ⟨mb1, mb2, mb3⟩, mz⟩ := id hC
  obtain ⟨⟨⟨⟨w1, w2, w3, w4⟩, -⟩, w5, w6⟩, wP, wS⟩ := id hA
  have hC0 := hC.th hA 0
  refine T.go [] 200 ?_
  conv => whnf
  refine ⟨by decide, ?_⟩
  conv => whnf
  refine zinv0 (s_X12_laysLoops T (W := W) (H := H) (M := M) (P := P) (SL := SL) (v := v) (u := u) (by exact hC0) (by exact hA) ?_)
  intro I_6 hf_6 hO_6
  have hfr6 : Fr PSc I I_6 := (frTh I 0).trans (hf_6.mono PLo_c)
  have hC6 := hC0.fr hA (fun a b _ g => hf_6 a b (fun c => g (PLo_c _ _ c)))
  have ht6 : I_6 603 8 = 0 := (hf_6 _ _ (by unfold PLo; omega)).trans (v2_eq _ _ _ _)
  obtain ⟨o1, o2, o3, o4, o5⟩ := ol_ok hA.1.1
  have h34 := hO_6.1.2.1
  conv => whnf
  refine ⟨by omega, ?_⟩
  conv => whnf
  refine ⟨by decide, ?_⟩
  conv => whnf
  refine ⟨by omega, ?_⟩
  conv => whnf
  refine zinv0 (s_X12_isIn T (v := l) (a := 0) (z := I_6 603 34 - 1) (by omega) (by omega) (by omega) ?_ ?_)
  · intro cha_20
    obtain ⟨l, rfl⟩ := Int.eq_ofNat_of_zero_le cha_20.1
    have hl9 : l < oL (olM M) := by omega
    obtain ⟨f, c, q1, q2, q3, q4, q5, q6, q7, q8⟩ := hO_6.lo hA.1.1 hl9
    conv => whnf
    refine ⟨by decide, fun _ => ?_, fun c => absurd c (by decide)⟩
    conv => whnf
    refine zinv0 (s_refuses0 T  (by exact ht6) ?_)
    conv => whnf
    refine ⟨by decide, fun c => absurd c (by decide), fun _ => ?_⟩
    conv => whnf
    refine ⟨by omega, ?_⟩
    conv => whnf
    refine ⟨by decide, _, rfl, ?_⟩
    conv => whnf
    refine ⟨by omega, by decide, ?_⟩
    conv => whnf
    refine ⟨by decide, _, rfl, ?_⟩
    conv => whnf
    refine ⟨by omega, by decide, ?_⟩
    conv => whnf
    refine ⟨by omega, ?_⟩
    conv => whnf
    refine zinv0 (s_X12_isIn T (v := e) (a := 0) (z := I_6 624 ((l : Int) + 1) - I_6 624 (l : Int) - 1) (by omega) (by omega) (by omega) ?_ ?_)
    · intro cha_60
      obtain ⟨e, rfl⟩ := Int.eq_ofNat_of_zero_le cha_60.1
      have he : e < c := by omega
      have hme : ((e : Nat) : Int).toNat = e := Int.toNat_natCast e
      have hml : ((l : Nat) : Int).toNat = l := Int.toNat_natCast l
      have ei : (f : Int) + (e : Int) = ((f + e : Nat) : Int) := by omega
      have hqf : (oFE (olM M) l).toNat = f := by rw [q1]; exact Int.toNat_natCast f
      have hqc : (oEC (olM M) l).toNat = c := by rw [q2]; exact Int.toNat_natCast c
      obtain ⟨u1, u2, u3, u4, u5, u6⟩ := hO_6.ed hA.1.1 (e := f + e) (by omega)
      have ve : I_6 625 (I_6 624 (l : Int) + (e : Int)) = oD (olM M) (f + e) := by rw [q5, ei]; exact u1
      have vb : 0 < (e : Int) → I_6 625 (I_6 624 (l : Int) + (e : Int) - 1) = oD (olM M) (f + e - 1) ∧ 0 ≤ oD (olM M) (f + e - 1) ∧ oD (olM M) (f + e - 1) < 8 := fun g => by
        obtain ⟨v1, -, -, -, v5, v6⟩ := hO_6.ed hA.1.1 (e := f + e - 1) (by omega)
        rw [q5, show (f : Int) + (e : Int) - 1 = ((f + e - 1 : Nat) : Int) by omega]
        exact ⟨v1, v5, v6⟩
      have vc : I_6 625 (I_6 624 ((l : Int) + 1) - 1) = oD (olM M) (f + c - 1) ∧ 0 ≤ oD (olM M) (f + c - 1) ∧ oD (olM M) (f + c - 1) < 8 := by
        obtain ⟨v1, -, -, -, v5, v6⟩ := hO_6.ed hA.1.1 (e := f + c - 1) (by omega)
        rw [q6, show (f : Int) + (c : Int) - 1 = ((f + c - 1 : Nat) : Int) by omega]
        exact ⟨v1, v5, v6⟩
      conv => whnf
      refine ⟨by decide, fun _ => ?_, fun c => absurd c (by decide)⟩
      conv => whnf
      refine zinv0 (s_refuses0 T  (by exact ht6) ?_)
      conv => whnf
      refine ⟨by decide, fun c => absurd c (by decide), fun _ => ?_⟩
      conv => whnf
      refine ⟨by omega, ?_⟩
      conv => whnf
      refine zinv0 (s_X12_isIn T (v := w) (a := 0) (z := 4) (by omega) (by omega) (by omega) ?_ ?_)
      · intro cha_85
        conv => whnf
        refine ⟨by decide, fun _ => ?_, fun c => absurd c (by decide)⟩
        conv => whnf
        refine zinv0 (s_refuses0 T  (by exact ht6) ?_)
        conv => whnf
        refine ⟨by decide, fun _ => ?_, fun c => absurd c (by decide)⟩
        conv => whnf
        refine ⟨by decide, _, rfl, ?_⟩
        conv => whnf
        refine ⟨by omega, by decide, ?_⟩
        conv => whnf
        refine ⟨by omega, fun c116 => ?_, fun c116 => ?_⟩
        · conv => whnf
          refine ⟨by omega, fun c139 => ?_, fun c139 => ?_⟩
          · conv => whnf
            refine ⟨by omega, fun c154 => ?_, fun c154 => ?_⟩
            · conv => whnf
              refine ⟨by omega, fun c169 => ?_, fun c169 => ?_⟩
              · conv => whnf
                refine ⟨by omega, fun c184 => ?_, fun c184 => ?_⟩
                · conv => whnf
                  refine ⟨by decide, _, rfl, ?_⟩
                  conv => whnf
                  refine ⟨by omega, by decide, ?_⟩
                  conv => whnf
                  refine ⟨by decide, _, rfl, ?_⟩
                  conv => whnf
                  refine ⟨by omega, by decide, ?_⟩
                  conv => whnf
                  refine ⟨by omega, ?_⟩
                  conv => whnf
                  have h9 := h (by omega) (by omega) (by omega) (by rw [hml]; omega) cha_85 I_6 hfr6 ht6 hC6
                  rw [hml, hme] at h9
                  obtain rfl : w = 4 := by omega
                  have e9 : aEdge (olM M) l e 4 = (oD (olM M) (f + e) - oD (olM M) (if e = 0 then f + c - 1 else f + e - 1) + 3) % 8 - 3 := by rw [← hqf, ← hqc]; rfl
                  rw [e9, if_neg (by omega)] at h9
                  rw [ve, (vb (by omega)).1]
                  rw [show ∀ a b : Int, (a - b + 11) % 8 - 3 = (a - b + 3) % 8 - 3 from fun a b => by omega]
                  exact h9
                · conv => whnf
                  refine ⟨by decide, _, rfl, ?_⟩
                  conv => whnf
                  refine ⟨by omega, by decide, ?_⟩
                  conv => whnf
                  have h9 := h (by omega) (by omega) (by omega) (by rw [hml]; omega) cha_85 I_6 hfr6 ht6 hC6
                  rw [hml, hme] at h9
                  obtain rfl : w = 3 := by omega
                  rw [q5, ei, u4]
                  have e9 : aEdge (olM M) l e 3 = oK (olM M) (f + e) / 25 := by rw [← hqf]; rfl
                  rw [e9] at h9
                  exact h9
              · conv => whnf
                refine ⟨by decide, _, rfl, ?_⟩
                conv => whnf
                refine ⟨by omega, by decide, ?_⟩
                conv => whnf
                have h9 := h (by omega) (by omega) (by omega) (by rw [hml]; omega) cha_85 I_6 hfr6 ht6 hC6
                rw [hml, hme] at h9
                obtain rfl : w = 2 := by omega
                rw [q5, ei, u3]
                have e9 : aEdge (olM M) l e 2 = oK (olM M) (f + e) % 25 := by rw [← hqf]; rfl
                rw [e9] at h9
                exact h9
            · conv => whnf
              refine ⟨by decide, _, rfl, ?_⟩
              conv => whnf
              refine ⟨by omega, by decide, ?_⟩
              conv => whnf
              have h9 := h (by omega) (by omega) (by omega) (by rw [hml]; omega) cha_85 I_6 hfr6 ht6 hC6
              rw [hml, hme] at h9
              obtain rfl : w = 1 := by omega
              rw [q5, ei, u2]
              have e9 : aEdge (olM M) l e 1 = oC (olM M) (f + e) := by rw [← hqf]; rfl
              rw [e9] at h9
              exact h9
          · conv => whnf
            refine ⟨by decide, _, rfl, ?_⟩
            conv => whnf
            refine ⟨by omega, by decide, ?_⟩
            conv => whnf
            have h9 := h (by omega) (by omega) (by omega) (by rw [hml]; omega) cha_85 I_6 hfr6 ht6 hC6
            rw [hml, hme] at h9
            obtain rfl : w = 0 := by omega
            rw [q5, ei, u1]
            have e9 : aEdge (olM M) l e 0 = oD (olM M) (f + e) := by rw [← hqf]; rfl
            rw [e9] at h9
            exact h9
        · conv => whnf
          refine ⟨by decide, _, rfl, ?_⟩
          conv => whnf
          refine ⟨by omega, by decide, ?_⟩
          conv => whnf
          refine ⟨by omega, fun c139 => ?_, fun c139 => ?_⟩
          · conv => whnf
            refine ⟨by omega, fun c154 => ?_, fun c154 => ?_⟩
            · conv => whnf
              refine ⟨by omega, fun c169 => ?_, fun c169 => ?_⟩
              · conv => whnf
                refine ⟨by omega, fun c184 => ?_, fun c184 => ?_⟩
                · conv => whnf
                  refine ⟨by decide, _, rfl, ?_⟩
                  conv => whnf
                  refine ⟨by omega, by decide, ?_⟩
                  conv => whnf
                  refine ⟨by decide, _, rfl, ?_⟩
                  conv => whnf
                  refine ⟨by omega, by decide, ?_⟩
                  conv => whnf
                  refine ⟨by omega, ?_⟩
                  conv => whnf
                  have h9 := h (by omega) (by omega) (by omega) (by rw [hml]; omega) cha_85 I_6 hfr6 ht6 hC6
                  rw [hml, hme] at h9
                  obtain rfl : w = 4 := by omega
                  have e9 : aEdge (olM M) l e 4 = (oD (olM M) (f + e) - oD (olM M) (if e = 0 then f + c - 1 else f + e - 1) + 3) % 8 - 3 := by rw [← hqf, ← hqc]; rfl
                  rw [e9, if_pos (by omega)] at h9
                  rw [ve, vc.1]
                  rw [show ∀ a b : Int, (a - b + 11) % 8 - 3 = (a - b + 3) % 8 - 3 from fun a b => by omega]
                  exact h9
                · conv => whnf
                  refine ⟨by decide, _, rfl, ?_⟩
                  conv => whnf
                  refine ⟨by omega, by decide, ?_⟩
                  conv => whnf
                  have h9 := h (by omega) (by omega) (by omega) (by rw [hml]; omega) cha_85 I_6 hfr6 ht6 hC6
                  rw [hml, hme] at h9
                  obtain rfl : w = 3 := by omega
                  rw [q5, ei, u4]
                  have e9 : aEdge (olM M) l e 3 = oK (olM M) (f + e) / 25 := by rw [← hqf]; rfl
                  rw [e9] at h9
                  exact h9
              · conv => whnf
                refine ⟨by decide, _, rfl, ?_⟩
                conv => whnf
                refine ⟨by omega, by decide, ?_⟩
                conv => whnf
                have h9 := h (by omega) (by omega) (by omega) (by rw [hml]; omega) cha_85 I_6 hfr6 ht6 hC6
                rw [hml, hme] at h9
                obtain rfl : w = 2 := by omega
                rw [q5, ei, u3]
                have e9 : aEdge (olM M) l e 2 = oK (olM M) (f + e) % 25 := by rw [← hqf]; rfl
                rw [e9] at h9
                exact h9
            · conv => whnf
              refine ⟨by decide, _, rfl, ?_⟩
              conv => whnf
              refine ⟨by omega, by decide, ?_⟩
              conv => whnf
              have h9 := h (by omega) (by omega) (by omega) (by rw [hml]; omega) cha_85 I_6 hfr6 ht6 hC6
              rw [hml, hme] at h9
              obtain rfl : w = 1 := by omega
              rw [q5, ei, u2]
              have e9 : aEdge (olM M) l e 1 = oC (olM M) (f + e) := by rw [← hqf]; rfl
              rw [e9] at h9
              exact h9
          · conv => whnf
            refine ⟨by decide, _, rfl, ?_⟩
            conv => whnf
            refine ⟨by omega, by decide, ?_⟩
            conv => whnf
            have h9 := h (by omega) (by omega) (by omega) (by rw [hml]; omega) cha_85 I_6 hfr6 ht6 hC6
            rw [hml, hme] at h9
            obtain rfl : w = 0 := by omega
            rw [q5, ei, u1]
            have e9 : aEdge (olM M) l e 0 = oD (olM M) (f + e) := by rw [← hqf]; rfl
            rw [e9] at h9
            exact h9
      · intro ch2a_85
        conv => whnf
        refine ⟨by decide, fun c => absurd c (by decide), fun _ => ?_⟩
        conv => whnf
        refine zinv0 (s_refuses1 T  (by exact ht6) (by omega) ?_)
        conv => whnf
        refine ⟨by decide, fun c => absurd c (by decide), fun _ => ?_⟩
        conv => whnf
        exact h3 ⟨⟨by omega, by omega⟩, by omega, by rw [hml]; omega⟩ ch2a_85 _ (hfr6.trans (frTh I_6 2)) (v2_eq _ _ _ _) (hC6.th hA 2)
    · intro ch2a_60
      conv => whnf
      refine ⟨by decide, fun c => absurd c (by decide), fun _ => ?_⟩
      conv => whnf
      refine zinv0 (s_refuses1 T  (by exact ht6) (by omega) ?_)
      conv => whnf
      refine ⟨by decide, fun _ => ?_, fun c => absurd c (by decide)⟩
      conv => whnf
      exact h2 (fun g => ch2a_60 (by have := g.2.2; rw [Int.toNat_natCast l] at this; omega)) _ (hfr6.trans (frTh I_6 1)) (v2_eq _ _ _ _) (hC6.th hA 1)
  · intro ch2a_20
    conv => whnf
    refine ⟨by decide, fun c => absurd c (by decide), fun _ => ?_⟩
    conv => whnf
    refine zinv0 (s_refuses1 T  (by exact ht6) (by omega) ?_)
    conv => whnf
    refine ⟨by decide, fun _ => ?_, fun c => absurd c (by decide)⟩
    conv => whnf
    exact h2 (fun g => ch2a_20 (by omega)) _ (hfr6.trans (frTh I_6 1)) (v2_eq _ _ _ _) (hC6.th hA 1)
theorem ls_ok {W H : Nat} {M : Mo} (hw : Wq W H M) : ∃ a c : Nat, sm (oLG (olM M)) (oL (olM M)) = a ∧ sm (oSH (olM M)) (oL (olM M)) = c ∧ a + c ≤ 192 ∧ cn (fun e => bs (sil M) e && decide (e % 2 = 0)) 5000 = a ∧ cn (fun e => bs (sil M) e && decide (e % 2 = 1)) 5000 = c := by
  obtain ⟨o1, o2, o3, o4, o5⟩ := ol_ok hw
  obtain ⟨w1, -, -, -, -, -, -, w8, w9⟩ := o1
  have he := cn_eo (oW (olM M)) 5000
  have h1 := cn_nonneg (fun e => oW (olM M) e && decide (e % 2 = 0)) 5000
  have h2 := cn_nonneg (fun e => oW (olM M) e && decide (e % 2 = 1)) 5000
  have ee : oW (olM M) = bs (sil M) := funext fun e => by
    cases g : bs (sil M) e with
    | true => exact o2 e g
    | false =>
      cases g2 : oW (olM M) e with
      | false => rfl
      | true => rw [w1 e g2] at g; cases g
  rw [w8, w9]
  rw [ee] at he h1 h2 o3 ⊢
  generalize cn (bs (sil M)) 5000 = x at *
  generalize cn (fun e => bs (sil M) e && decide (e % 2 = 0)) 5000 = y at *
  generalize cn (fun e => bs (sil M) e && decide (e % 2 = 1)) 5000 = z at *
  exact ⟨y.toNat, z.toNat, by omega, by omega, by omega, by omega, by omega⟩
theorem s_X12_perimeter (T : ZTh (XX Ln xs) CZ RZ) {d b : Nat} {W H n bl : Nat} {M : Mo} {P SL : Nat → Mo} {v u : Nat → Int}  {I : ZI} {L : ZL} {Q : ZQ} (hC : MB I W H M P n SL v bl u) (hA : WfA W H M P n SL v) (h : ∀ I', Fr PSc I I' → I' 603 8 = 0 → MB I' W H M P n SL v bl u → Q (.inl (some (.inr (.double (perimA M), 0)))) I' L) : CZ (d + 5) k_X12_perimeter [.inr (.ref 603, 13)] b I L Q := by
  refine T.call rfl ?_
  obtain ⟨mT, mR, ⟨mW, mH⟩, ⟨mn, mn8⟩, mP, mS9, ⟨mb1, mb2, mb3⟩, mz⟩ := id hC
  obtain ⟨⟨⟨⟨w1, w2, w3, w4⟩, -⟩, w5, w6⟩, wP, wS⟩ := id hA
  have hC0 := hC.th hA 0
  obtain ⟨a9, c9, s1, s2, s3, s4, s5⟩ := ls_ok hA.1.1
  refine T.go [] 90 ?_
  conv => whnf
  refine ⟨by decide, ?_⟩
  conv => whnf
  refine zinv0 (s_X12_laysBorders T (W := W) (H := H) (M := M) (P := P) (SL := SL) (v := v) (u := u) (by exact hC0) (by exact hA) ?_)
  intro I_6 hf_6 hO_6 hL_6
  have hfr6 : Fr PSc I I_6 := (frTh I 0).trans (hf_6.mono PBs_c)
  have hC6 := hC0.fr hA (fun a b _ g => hf_6 a b (fun c => g (PBs_c _ _ c)))
  have ht6 : I_6 603 8 = 0 := (hf_6 _ _ (by unfold PBs; omega)).trans (v2_eq _ _ _ _)
  have eb : bsP (sil M) 576 0 = bs (sil M) := funext fun e => bsP_all _ e
  obtain ⟨l1, l2, l3, l4⟩ := id hL_6
  rw [eb] at l3 l4
  rw [s4] at l3
  rw [s5] at l4
  conv => whnf
  refine ⟨by decide, ?_⟩
  conv => whnf
  refine ⟨by decide, ?_⟩
  conv => whnf
  refine ⟨?_, ?_⟩
  · rw [l4]; exact n64m_at (Nat.le_trans (Nat.le_add_left c9 a9) s3)
  conv => whnf
  refine ⟨?_, ?_⟩
  · rw [l3, l4]; exact n64_at s3
  conv => whnf
  have h9 := h I_6 hfr6 ht6 hC6
  unfold perimA at h9
  rw [s1, s2] at h9
  rw [l3, l4]
  exact h9
theorem zor_am : (List.range 7).all (fun p => (List.range 64).all fun x => !decide (x < 2 ^ p) || (decide (zor (x : Int) (1 * 2 ^ ((p : Nat) : Int).toNat) = (x : Int) + 2 ^ p) && decide (zor (x : Int) 0 = x))) = true := by decide +kernel
theorem zor_p {x : Int} {p : Nat} (hp : p < 7) (h0 : 0 ≤ x) (h : x < 2 ^ p) : zor x (1 * 2 ^ ((p : Nat) : Int).toNat) = x + 2 ^ p ∧ zor x 0 = x := by
  obtain ⟨n, rfl⟩ := Int.eq_ofNat_of_zero_le h0
  have e : n < 2 ^ p := by
    have : ((2 ^ p : Nat) : Int) = (2 : Int) ^ p := by rw [Int.natCast_pow]; rfl
    omega
  have e2 : 2 ^ p ≤ 2 ^ 6 := Nat.pow_le_pow_right (by decide) (by omega)
  have g := List.all_eq_true.mp (List.all_eq_true.mp zor_am p (List.mem_range.mpr hp)) n (List.mem_range.mpr (by omega))
  rw [decide_eq_true e, Bool.not_true, Bool.false_or, Bool.and_eq_true, decide_eq_true_iff, decide_eq_true_iff] at g
  exact g
theorem inn_lt (M : Mo) : ∀ p : Nat, 0 ≤ smI (innR M) p ∧ smI (innR M) p < 2 ^ p
  | 0 => ⟨Int.le_refl _, by show (0 : Int) < 2 ^ 0; decide⟩
  | p + 1 => by
    have h := inn_lt M p
    have e : (2 : Int) ^ (p + 1) = 2 ^ p * 2 := Int.pow_succ 2 p
    have e2 : innR M p = 2 ^ p ∨ innR M p = 0 := by
      unfold innR
      split
      · exact Or.inl rfl
      · exact Or.inr rfl
    show 0 ≤ smI (innR M) p + innR M p ∧ smI (innR M) p + innR M p < 2 ^ (p + 1)
    rw [e]
    generalize (2 : Int) ^ p = z at *
    omega
theorem smI_e0 {f : Nat → Int} (h : ∀ i, 0 ≤ f i) : ∀ n, smI f n = 0 → ∀ i, i < n → f i = 0
  | 0, _, i, hi => absurd hi (Nat.not_lt_zero i)
  | n + 1, e, i, hi => by
    have e' : smI f n + f n = 0 := e
    have h1 : 0 ≤ smI f n := by
      clear e e' hi
      induction n with
      | zero => exact Int.le_refl _
      | succ n ih => exact Int.add_nonneg ih (h n)
    have h2 := h n
    by_cases c : i = n
    · rw [c]; omega
    · exact smI_e0 h n (by omega) i (by omega)
theorem brd_seam {M : Mo} {p : Nat} : (seamA M p (-1) 1 = 0 ∧ seamA M p (-1) 0 = 0) ↔ brdP M 576 0 p = false := by
  have hsg : ∀ (q : Nat) (s : Int), q < 576 → (sg M (-1) q s = 0 ↔ fil (sil M) (nb q s) = true) := fun q s hq => by
    rw [fil_ow (nb_b (s := s) (q := (q : Int)) (by omega) (by omega)).2]
    unfold sg
    by_cases c : owAt M (nb q s) = -1
    · rw [decide_eq_true c]; exact ⟨fun g => absurd g (by decide), fun g => absurd g (by decide)⟩
    · rw [decide_eq_false c]; exact ⟨fun _ => rfl, fun _ => rfl⟩
  have hb : ∀ (q : Nat) (s : Int), 0 ≤ sg M (-1) q s := fun q s => (bi_b _).1
  constructor
  · rintro ⟨h1, h0⟩
    rw [brdP, dc_not]
    rintro ⟨q, s, hq, hs, ho, hf, -⟩
    have g1 := smI_e0 (f := smc M p (-1) 1) (fun i => (smc_b M p (-1) 1 i).1) 576 h1 q hq
    have g0 := smI_e0 (f := smc M p (-1) 0) (fun i => (smc_b M p (-1) 0 i).1) 576 h0 q hq
    unfold smc at g1 g0
    rw [if_pos ho] at g1 g0
    have g1' : sg M (-1) q 0 = 0 := g1
    have g0' : sg M (-1) q 1 + sg M (-1) q 2 = 0 := g0
    have b1 := hb q 1
    have b2 := hb q 2
    have hz : sg M (-1) q (s : Int) = 0 := by
      rcases (show s = 0 ∨ s = 1 ∨ s = 2 by omega) with e | e | e <;> subst e
      · exact g1'
      · show sg M (-1) q 1 = 0; omega
      · show sg M (-1) q 2 = 0; omega
    rw [(hsg q s hq).mp hz] at hf
    cases hf
  · intro h
    rw [brdP, dc_not] at h
    have key : ∀ (q s : Nat), q < 576 → s < 3 → own M q = p → sg M (-1) q (s : Int) = 0 := fun q s hq hs ho => by
      rw [hsg q s hq]
      cases e : fil (sil M) (nb q s) with
      | true => rfl
      | false => exact (h ⟨q, s, hq, hs, ho, e, by omega⟩).elim
    refine ⟨smI_0 (f := smc M p (-1) 1) 576 (fun q hq => ?_), smI_0 (f := smc M p (-1) 0) 576 (fun q hq => ?_)⟩
    · unfold smc
      by_cases ho : own M q = p
      · rw [if_pos ho]
        show sg M (-1) q 0 = 0
        exact key q 0 hq (by omega) ho
      · rw [if_neg ho]
    · unfold smc
      by_cases ho : own M q = p
      · rw [if_pos ho]
        show sg M (-1) q 1 + sg M (-1) q 2 = 0
        have k1 : sg M (-1) q 1 = 0 := key q 1 hq (by omega) ho
        have k2 : sg M (-1) q 2 = 0 := key q 2 hq (by omega) ho
        rw [k1, k2]
        rfl
      · rw [if_neg ho]
theorem l_minn (T : ZTh (XX Ln xs) CZ RZ) {d b : Nat} {Q : ZQ} {W H : Nat} {M : Mo} {I : ZI} {L : ZL} (hR : RowM I 604 0 M) (hw : Wq W H M) (hL : LB I M 576 0) (h : Q (.inl (some (.inl (innerA M)))) I L) (m : Nat) : ∀ (p : Nat) (x : Int), (p ≤ 7) → (x = smI (innR M) p) → 7 - (p : Int) < (m : Int) → RZ (d + 4) k_X12_inner Q 13 [.inr (.ref 603, 13), .inl x, .inl ((p : Int))] [] b I L := by
  induction m with
  | zero =>
    intro p x hp hx hm
    exfalso
    omega
  | succ m ih =>
    intro p x hp hx hm
    have hbb := bi_b (brdP M 576 0 p)
    have hil := inn_lt M p
    rw [← hx] at hil
    refine T.go [13] 90 ?_
    conv => whnf
    refine ⟨by omega, fun c16 => ?_, fun c16 => ?_⟩
    · conv => whnf
      obtain rfl : p = 7 := by omega
      rw [hx]
      exact h
    · conv => whnf
      refine zinv0 (s_X12_isOn T (p := p) (W := W) (H := H) (M := M) (by exact hR) (by omega) (by exact hw) ?_ ?_)
      · intro cha_22
        conv => whnf
        refine ⟨by decide, fun c => absurd c (by decide), fun _ => ?_⟩
        conv => whnf
        refine ⟨by decide, _, rfl, ?_⟩
        conv => whnf
        refine ⟨by omega, by decide, ?_⟩
        conv => whnf
        rw [hL.2.1 p (by omega)]
        refine ⟨by omega, fun c34 => ?_, fun c34 => ?_⟩
        · conv => whnf
          have e : innR M p = 0 := if_neg (fun g => by rw [brd_seam.mp g.2] at c34; exact absurd rfl c34)
          refine ih (p + 1) _ (by omega) ?_ (by omega)
          rw [(zor_p (by omega) hil.1 hil.2).2, hx]
          show _ = smI (innR M) p + innR M p
          rw [e, Int.add_zero]
        · conv => whnf
          refine ⟨by omega, ?_⟩
          conv => whnf
          have hbr : brdP M 576 0 p = false := by
            cases e : brdP M 576 0 p with
            | false => rfl
            | true => rw [e] at c34; exact absurd c34 (by decide)
          have e : innR M p = 2 ^ p := if_pos ⟨cha_22, brd_seam.mpr hbr⟩
          refine ih (p + 1) _ (by omega) ?_ (by omega)
          rw [(zor_p (by omega) hil.1 hil.2).1, hx]
          show _ = smI (innR M) p + innR M p
          rw [e]
      · intro ch2a_22
        conv => whnf
        refine ⟨by decide, fun _ => ?_, fun c => absurd c (by decide)⟩
        conv => whnf
        have e : innR M p = 0 := if_neg (fun g => g.1 ch2a_22)
        refine ih (p + 1) _ (by omega) ?_ (by omega)
        rw [(zor_p (by omega) hil.1 hil.2).2, hx]
        show _ = smI (innR M) p + innR M p
        rw [e, Int.add_zero]
theorem s_X12_inner (T : ZTh (XX Ln xs) CZ RZ) {d b : Nat} {W H n bl : Nat} {M : Mo} {P SL : Nat → Mo} {v u : Nat → Int}  {I : ZI} {L : ZL} {Q : ZQ} (hC : MB I W H M P n SL v bl u) (hA : WfA W H M P n SL v) (h : ∀ I', Fr PSc I I' → I' 603 8 = 0 → MB I' W H M P n SL v bl u → Q (.inl (some (.inl (innerA M)))) I' L) : CZ (d + 5) k_X12_inner [.inr (.ref 603, 13)] b I L Q := by
  refine T.call rfl ?_
  obtain ⟨mT, mR, ⟨mW, mH⟩, ⟨mn, mn8⟩, mP, mS9, ⟨mb1, mb2, mb3⟩, mz⟩ := id hC
  obtain ⟨⟨⟨⟨w1, w2, w3, w4⟩, -⟩, w5, w6⟩, wP, wS⟩ := id hA
  have hC0 := hC.th hA 0
  refine T.go [13] 90 ?_
  conv => whnf
  refine ⟨by decide, ?_⟩
  conv => whnf
  refine zinv0 (s_X12_laysBorders T (W := W) (H := H) (M := M) (P := P) (SL := SL) (v := v) (u := u) (by exact hC0) (by exact hA) ?_)
  intro I_6 hf_6 hO_6 hL_6
  have hfr6 : Fr PSc I I_6 := (frTh I 0).trans (hf_6.mono PBs_c)
  have hC6 := hC0.fr hA (fun a b _ g => hf_6 a b (fun c => g (PBs_c _ _ c)))
  have ht6 : I_6 603 8 = 0 := (hf_6 _ _ (by unfold PBs; omega)).trans (v2_eq _ _ _ _)
  have eb : bsP (sil M) 576 0 = bs (sil M) := funext fun e => bsP_all _ e
  obtain ⟨l1, l2, l3, l4⟩ := id hL_6
  rw [eb] at l3 l4
  conv => whnf
  exact l_minn T (W := W) (H := H) (M := M) hC6.2.1 hA.1.1 hL_6 (h I_6 hfr6 ht6 hC6) 8 0 0 (by omega) rfl (by omega)
end
