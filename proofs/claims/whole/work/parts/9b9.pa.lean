/-! TEXTS, 7: an edge -/
section
variable {Ln : Nat} {xs : Nat → Int32} {CZ : Nat → ZC} {RZ : Nat → Nat → ZQ → ZP}
theorem mul_len {a l : Int} (ha : -1 ≤ a ∧ a ≤ 1) (hl : 0 ≤ l ∧ l ≤ 99) : -99 ≤ a * l ∧ a * l ≤ 99 := by
  rcases (show a = -1 ∨ a = 0 ∨ a = 1 by omega) with e | e | e <;> subst e <;> omega
theorem dX_3 {z : Int} (h0 : 0 ≤ z) (h : z < 8) : (dX z = -1 ∨ dX z = 0 ∨ dX z = 1) ∧ (dY z = -1 ∨ dY z = 0 ∨ dY z = 1) := by
  have := d_b h0 h
  omega
/-- an edge's cells -/
def PRe : Nat → Int → Prop := fun a b => (a = 575 ∧ 2 ≤ b ∧ b ≤ 5) ∨ (a = 576 ∧ b = 5)
theorem PRd_e : ∀ a b, PRd a b → PRe a b := fun a b h => by unfold PRd at h; unfold PRe; omega
theorem PSt.fr2 {I I' : ZI} {u : Nat → Int} {n c i : Nat} {s : PE} (h : PSt I u n c i s) (h1 : ∀ (a : Nat) (b : Int), (a = 575 ∧ (b = 2 ∨ b = 3)) ∨ 576 ≤ a ∧ a ≤ 580 → I' a b = I a b) : PSt I' u n c i s := by
  obtain ⟨a1, a2, a3, a4, a5, a6⟩ := h
  exact ⟨a1.fr (fun a b _ _ => h1 a b (by omega)) (h1 _ _ (by omega)), by rw [h1 _ _ (by omega)]; exact a2, fun e => by rw [h1 _ _ (by omega)]; exact a3 e, a4, a5, a6⟩
theorem s_X4_readEdge (T : ZTh (XX Ln xs) CZ RZ) {d b : Nat} {r W H : Nat} {x y : Int} (S : Nat → Bool) {u : Nat → Int} {n c i : Nat} {s : PE} {I : ZI} {L : ZL} {Q : ZQ} (hS : PSt I u n c i s) (h0 : pc s = 0) (hz : za r 0 = r + 2) (hnr : r ≠ 304 ∧ r ≠ 578) (hR : RgS L r S) (hx : I 575 4 = x) (hy : I 575 5 = y) (hxb : 0 ≤ x ∧ x ≤ W) (hyb : 0 ≤ y ∧ y ≤ H) (hW : I 581 0 = W ∧ W ≤ 12) (hH : I 581 1 = H ∧ H ≤ 12) (h : ∀ I' L' i', Fr PRe I I' → Fr (fun a _ => a = r + 1) L L' → PSt I' u n c i' (pEd u n W H (s, x, y, S)).1 → I' 575 4 = eX (pEd u n W H (s, x, y, S)) → I' 575 5 = eY (pEd u n W H (s, x, y, S)) → RgS L' r (eS (pEd u n W H (s, x, y, S))) → i ≤ i' → (pc (pEd u n W H (s, x, y, S)).1 = 0 → i < i') → Q (.inl none) I' L') : CZ (d + 3) k_X4_readEdge [.inr (.ref 575, 5), .inr (.ref r, 7)] b I L Q := by
  refine T.call rfl ?_
  obtain ⟨k1, k2, k3, k4, k5, k6⟩ := id hS
  have hcz : zR (I 575 2) := by rw [k2]; exact ⟨by omega, by omega⟩
  have ht18 := tkU_18 (u := u) (n := n) (p := pp s)
  refine T.go [] 200 ?_
  conv => whnf
  refine ⟨by decide, _, rfl, ?_⟩
  conv => whnf
  refine zinv0 (s_X10_kind T  (by exact k1) (by exact k6) ?_)
  conv => whnf
  rw [k4, dir_ok _ ht18]
  obtain ⟨z, hz9⟩ : ∃ z : Int, z = (if tkU u n (pp s) < 10 then -1 else ((tkU u n (pp s) : Nat) : Int) - 10) := ⟨_, rfl⟩
  rw [← hz9]
  have hz8 : -1 ≤ z ∧ z < 8 := by
    by_cases e : tkU u n (pp s) < 10
    · rw [if_pos e] at hz9; omega
    · rw [if_neg e] at hz9; omega
  refine ⟨by omega, fun c13 => ?_, fun c13 => ?_⟩
  · conv => whnf
    have c13n : ¬ tkU u n (pp s) < 10 := fun e => by
      rw [if_pos e] at hz9
      omega
    rw [if_neg c13n] at hz9
    have hzd : dT u n s = z := hz9.symm
    have hic : i < c := hS.lt (by omega)
    have hS1 := hS.adv h0 hic (po s)
    have hdb := d_b (i := z) (by omega) (by omega)
    have hd3 := dX_3 (z := z) (by omega) (by omega)
    have hz7 := zand7 (w := z) (by omega) (by omega)
    have hzs := zs_d (Ln := Ln) (xs := xs) (i := z) (by omega) (by omega)
    refine ⟨by decide, _, rfl, ?_⟩
    conv => whnf
    refine zinv0 (s_X10_advance T (u := u) (n := n) (c := c) (i := i) (by exact k1) (by exact k6) (by exact hic) ?_)
    conv => whnf
    refine zinv0 (s_X4_readNumber T (u := u) (n := n) (c := c) (i := i + 1) (s := (0, po s, nxT u n (pp s))) (by exact hS1) (by decide) (by decide) ?_ ?_)
    · intro I_40 hf_40 hS_40 hi_40
      have ex4 : I_40 575 4 = x := (hf_40 _ _ (by unfold PRd; omega)).trans ((v2_ne (by omega)).trans hx)
      have ey5 : I_40 575 5 = y := (hf_40 _ _ (by unfold PRd; omega)).trans ((v2_ne (by omega)).trans hy)
      have ew0 : I_40 581 0 = W := (hf_40 _ _ (by unfold PRd; omega)).trans ((v2_ne (by omega)).trans hW.1)
      have ew1 : I_40 581 1 = H := (hf_40 _ _ (by unfold PRd; omega)).trans ((v2_ne (by omega)).trans hH.1)
      have hng := pNu_g hi_40
      obtain ⟨ln, hld⟩ : ∃ ln : Nat, lT u n s = (ln : Int) := ⟨(lT u n s).toNat, by have : 1 ≤ lT u n s := hng.2.2.1; omega⟩
      have hld2 : nmA u n (pp ((0, po s, nxT u n (pp s)) : PE)) = (ln : Int) := hld
      have hlb : 1 ≤ ln ∧ ln ≤ 12 := by
        have g1 := hng.2.2.1
        have g2 := hng.2.2.2.1
        rw [hld2] at g1 g2
        omega
      rw [hld2]
      have hmx := mul_len (a := dX z) (l := ln) ⟨hdb.1, hdb.2.1⟩ ⟨by omega, by omega⟩
      have hmy := mul_len (a := dY z) (l := ln) ⟨hdb.2.2.1, hdb.2.2.2⟩ ⟨by omega, by omega⟩
      have hpc0 : I_40 575 2 = 0 := by rw [hS_40.2.1, hi_40]; rfl
      conv => whnf
      refine ⟨by decide, ?_⟩
      conv => whnf
      refine ⟨by rw [hz7]; omega, ?_⟩
      conv => whnf
      rw [ex4, hz7, hzs.1]
      refine ⟨by decide, ?_⟩
      conv => whnf
      refine ⟨by rw [hz7]; omega, ?_⟩
      conv => whnf
      rw [ey5, hz7, hzs.2.1]
      refine ⟨by omega, fun c80 => ?_, fun c80 => ?_⟩
      · conv => whnf
        refine ⟨by decide, _, rfl, ?_⟩
        conv => whnf
        refine zinv0 (s_X10_startBefore T (u := u) (n := n) (c := c) (i := i + 1 + 1) (by exact hS_40.1) (by exact k6) (by omega) ?_)
        conv => whnf
        refine zinv0 (s_X4_fail T  (by omega) ?_ ?_)
        · intro cha_121
          have hFl := hS_40.fail hi_40 (k := 2) (o := posA u n (i + 1 + 1 - 1)) (by omega)
          conv => whnf
          refine ⟨by decide, ?_⟩
          conv => whnf
          refine ⟨by first | omega | (rw [v2_ne (by omega), v2_eq]; decide), fun c128 => ?_, fun c128 => by exfalso; rw [v2_ne (by omega), v2_eq] at c128; exact absurd c128 (by decide)⟩
          conv => whnf
          have e1 := pEd_2 (u := u) (n := n) (W := W) (H := H) (a := ((s, x, y, S) : PO4)) c13n hi_40 (fun g => by
            have g1 : 0 ≤ x + dX (dT u n s) * lT u n s ∧ x + dX (dT u n s) * lT u n s ≤ W ∧ 0 ≤ y + dY (dT u n s) * lT u n s ∧ y + dY (dT u n s) * lT u n s ≤ H := g
            rw [hzd, hld] at g1
            omega)
          refine h _ L (i + 1 + 1) (((((Fr.refl I).v2 (Or.inr ⟨rfl, rfl⟩)).trans (hf_40.mono PRd_e)).v2 (Or.inl ⟨rfl, by omega⟩)).v2 (Or.inl ⟨rfl, by omega⟩)) (Fr.refl L) ?_ ?_ ?_ ?_ (by omega) (fun e => ?_)
          · rw [e1]
            have g2 : posA u n (i + 1 + 1 - 1) = nxT u n (pp s) := hS1.2.2.2.1
            rw [g2] at hFl
            rw [g2]
            exact hFl
          · rw [e1, v2_ne (by omega), v2_ne (by omega)]; exact ex4
          · rw [e1, v2_ne (by omega), v2_ne (by omega)]; exact ey5
          · rw [e1]; exact hR
          · omega
        · intro ch2a_121
          exact absurd hpc0 ch2a_121
      · conv => whnf
        refine ⟨by decide, _, rfl, ?_⟩
        conv => whnf
        refine ⟨by decide, ?_⟩
        conv => whnf
        refine ⟨by omega, fun c92 => ?_, fun c92 => ?_⟩
        · conv => whnf
          refine ⟨by decide, _, rfl, ?_⟩
          conv => whnf
          refine zinv0 (s_X10_startBefore T (u := u) (n := n) (c := c) (i := i + 1 + 1) (by exact hS_40.1) (by exact k6) (by omega) ?_)
          conv => whnf
          refine zinv0 (s_X4_fail T  (by omega) ?_ ?_)
          · intro cha_121
            have hFl := hS_40.fail hi_40 (k := 2) (o := posA u n (i + 1 + 1 - 1)) (by omega)
            conv => whnf
            refine ⟨by decide, ?_⟩
            conv => whnf
            refine ⟨by first | omega | (rw [v2_ne (by omega), v2_eq]; decide), fun c128 => ?_, fun c128 => by exfalso; rw [v2_ne (by omega), v2_eq] at c128; exact absurd c128 (by decide)⟩
            conv => whnf
            have e1 := pEd_2 (u := u) (n := n) (W := W) (H := H) (a := ((s, x, y, S) : PO4)) c13n hi_40 (fun g => by
              have g1 : 0 ≤ x + dX (dT u n s) * lT u n s ∧ x + dX (dT u n s) * lT u n s ≤ W ∧ 0 ≤ y + dY (dT u n s) * lT u n s ∧ y + dY (dT u n s) * lT u n s ≤ H := g
              rw [hzd, hld] at g1
              omega)
            refine h _ L (i + 1 + 1) (((((Fr.refl I).v2 (Or.inr ⟨rfl, rfl⟩)).trans (hf_40.mono PRd_e)).v2 (Or.inl ⟨rfl, by omega⟩)).v2 (Or.inl ⟨rfl, by omega⟩)) (Fr.refl L) ?_ ?_ ?_ ?_ (by omega) (fun e => ?_)
            · rw [e1]
              have g2 : posA u n (i + 1 + 1 - 1) = nxT u n (pp s) := hS1.2.2.2.1
              rw [g2] at hFl
              rw [g2]
              exact hFl
            · rw [e1, v2_ne (by omega), v2_ne (by omega)]; exact ex4
            · rw [e1, v2_ne (by omega), v2_ne (by omega)]; exact ey5
            · rw [e1]; exact hR
            · omega
          · intro ch2a_121
            exact absurd hpc0 ch2a_121
        · conv => whnf
          refine ⟨by omega, fun c97 => ?_, fun c97 => ?_⟩
          · conv => whnf
            refine ⟨by decide, _, rfl, ?_⟩
            conv => whnf
            refine zinv0 (s_X10_startBefore T (u := u) (n := n) (c := c) (i := i + 1 + 1) (by exact hS_40.1) (by exact k6) (by omega) ?_)
            conv => whnf
            refine zinv0 (s_X4_fail T  (by omega) ?_ ?_)
            · intro cha_121
              have hFl := hS_40.fail hi_40 (k := 2) (o := posA u n (i + 1 + 1 - 1)) (by omega)
              conv => whnf
              refine ⟨by decide, ?_⟩
              conv => whnf
              refine ⟨by first | omega | (rw [v2_ne (by omega), v2_eq]; decide), fun c128 => ?_, fun c128 => by exfalso; rw [v2_ne (by omega), v2_eq] at c128; exact absurd c128 (by decide)⟩
              conv => whnf
              have e1 := pEd_2 (u := u) (n := n) (W := W) (H := H) (a := ((s, x, y, S) : PO4)) c13n hi_40 (fun g => by
                have g1 : 0 ≤ x + dX (dT u n s) * lT u n s ∧ x + dX (dT u n s) * lT u n s ≤ W ∧ 0 ≤ y + dY (dT u n s) * lT u n s ∧ y + dY (dT u n s) * lT u n s ≤ H := g
                rw [hzd, hld] at g1
                omega)
              refine h _ L (i + 1 + 1) (((((Fr.refl I).v2 (Or.inr ⟨rfl, rfl⟩)).trans (hf_40.mono PRd_e)).v2 (Or.inl ⟨rfl, by omega⟩)).v2 (Or.inl ⟨rfl, by omega⟩)) (Fr.refl L) ?_ ?_ ?_ ?_ (by omega) (fun e => ?_)
              · rw [e1]
                have g2 : posA u n (i + 1 + 1 - 1) = nxT u n (pp s) := hS1.2.2.2.1
                rw [g2] at hFl
                rw [g2]
                exact hFl
              · rw [e1, v2_ne (by omega), v2_ne (by omega)]; exact ex4
              · rw [e1, v2_ne (by omega), v2_ne (by omega)]; exact ey5
              · rw [e1]; exact hR
              · omega
            · intro ch2a_121
              exact absurd hpc0 ch2a_121
          · conv => whnf
            refine ⟨by decide, _, rfl, ?_⟩
            conv => whnf
            refine ⟨by decide, ?_⟩
            conv => whnf
            refine ⟨by omega, fun c109 => ?_, fun c109 => ?_⟩
            · conv => whnf
              refine ⟨by decide, ?_⟩
              conv => whnf
              refine ⟨by first | omega | (rw [v2_ne (by omega), v2_eq]; decide), fun c128 => by exfalso; omega, fun c128 => ?_⟩
              conv => whnf
              refine ⟨by decide, ?_⟩
              conv => whnf
              refine ⟨by decide, ?_⟩
              conv => whnf
              rw [ex4, ey5]
              refine zinv0 (s_X6_cross T (sx := dX z) (sy := dY z) (n := ln) S (by exact hz) (by exact hnr) (by exact hR) (by exact hlb) (by exact hd3.1) (by exact hd3.2) (by rfl) (by rfl) (by omega) (by omega) (by omega) (by omega) ?_)
              intro L_144 hg_144 hS_144
              conv => whnf
              refine ⟨by decide, ?_⟩
              conv => whnf
              refine ⟨by decide, ?_⟩
              conv => whnf
              have e1 := pEd_3 (u := u) (n := n) (W := W) (H := H) (a := ((s, x, y, S) : PO4)) c13n hi_40 (show 0 ≤ x + dX (dT u n s) * lT u n s ∧ x + dX (dT u n s) * lT u n s ≤ W ∧ 0 ≤ y + dY (dT u n s) * lT u n s ∧ y + dY (dT u n s) * lT u n s ≤ H by
                rw [hzd, hld]
                omega)
              rw [hzd, hld] at e1
              refine h _ L_144 (i + 1 + 1) (((((Fr.refl I).v2 (Or.inr ⟨rfl, rfl⟩)).trans (hf_40.mono PRd_e)).v2 (Or.inl ⟨rfl, by omega⟩)).v2 (Or.inl ⟨rfl, by omega⟩)) hg_144 ?_ ?_ ?_ ?_ (by omega) (fun e => by omega)
              · rw [e1]
                exact hS_40.fr2 (fun a b g => by rw [v2_ne (by omega), v2_ne (by omega)])
              · rw [e1, v2_ne (by omega), v2_eq]; rfl
              · rw [e1, v2_eq]; rfl
              · rw [e1]; exact hS_144
            · conv => whnf
              refine ⟨by decide, _, rfl, ?_⟩
              conv => whnf
              refine zinv0 (s_X10_startBefore T (u := u) (n := n) (c := c) (i := i + 1 + 1) (by exact hS_40.1) (by exact k6) (by omega) ?_)
              conv => whnf
              refine zinv0 (s_X4_fail T  (by omega) ?_ ?_)
              · intro cha_121
                have hFl := hS_40.fail hi_40 (k := 2) (o := posA u n (i + 1 + 1 - 1)) (by omega)
                conv => whnf
                refine ⟨by decide, ?_⟩
                conv => whnf
                refine ⟨by first | omega | (rw [v2_ne (by omega), v2_eq]; decide), fun c128 => ?_, fun c128 => by exfalso; rw [v2_ne (by omega), v2_eq] at c128; exact absurd c128 (by decide)⟩
                conv => whnf
                have e1 := pEd_2 (u := u) (n := n) (W := W) (H := H) (a := ((s, x, y, S) : PO4)) c13n hi_40 (fun g => by
                  have g1 : 0 ≤ x + dX (dT u n s) * lT u n s ∧ x + dX (dT u n s) * lT u n s ≤ W ∧ 0 ≤ y + dY (dT u n s) * lT u n s ∧ y + dY (dT u n s) * lT u n s ≤ H := g
                  rw [hzd, hld] at g1
                  omega)
                refine h _ L (i + 1 + 1) (((((Fr.refl I).v2 (Or.inr ⟨rfl, rfl⟩)).trans (hf_40.mono PRd_e)).v2 (Or.inl ⟨rfl, by omega⟩)).v2 (Or.inl ⟨rfl, by omega⟩)) (Fr.refl L) ?_ ?_ ?_ ?_ (by omega) (fun e => ?_)
                · rw [e1]
                  have g2 : posA u n (i + 1 + 1 - 1) = nxT u n (pp s) := hS1.2.2.2.1
                  rw [g2] at hFl
                  rw [g2]
                  exact hFl
                · rw [e1, v2_ne (by omega), v2_ne (by omega)]; exact ex4
                · rw [e1, v2_ne (by omega), v2_ne (by omega)]; exact ey5
                · rw [e1]; exact hR
                · omega
              · intro ch2a_121
                exact absurd hpc0 ch2a_121
    · intro I_40 hf_40 hS_40 hi_40
      have ex4 : I_40 575 4 = x := (hf_40 _ _ (by unfold PRd; omega)).trans ((v2_ne (by omega)).trans hx)
      have ey5 : I_40 575 5 = y := (hf_40 _ _ (by unfold PRd; omega)).trans ((v2_ne (by omega)).trans hy)
      have ew0 : I_40 581 0 = W := (hf_40 _ _ (by unfold PRd; omega)).trans ((v2_ne (by omega)).trans hW.1)
      have ew1 : I_40 581 1 = H := (hf_40 _ _ (by unfold PRd; omega)).trans ((v2_ne (by omega)).trans hH.1)
      have hpcz := hS_40.2.1
      have hpc5 := hS_40.2.2.2.2.1
      have hpc0 : ¬ I_40 575 2 = 0 := by omega
      conv => whnf
      refine ⟨by decide, ?_⟩
      conv => whnf
      refine ⟨by rw [hz7]; omega, ?_⟩
      conv => whnf
      rw [ex4, hz7, hzs.1]
      refine ⟨by decide, ?_⟩
      conv => whnf
      refine ⟨by rw [hz7]; omega, ?_⟩
      conv => whnf
      rw [ey5, hz7, hzs.2.1]
      refine ⟨by omega, fun c80 => ?_, fun c80 => ?_⟩
      · conv => whnf
        refine ⟨by decide, _, rfl, ?_⟩
        conv => whnf
        refine zinv0 (s_X10_startBefore T (u := u) (n := n) (c := c) (i := i + 1) (by exact hS_40.1) (by exact k6) (by omega) ?_)
        conv => whnf
        refine zinv0 (s_X4_fail T  (by omega) ?_ ?_)
        · intro cha_121
          exact absurd cha_121 hpc0
        · intro ch2a_121
          conv => whnf
          refine ⟨by decide, ?_⟩
          conv => whnf
          refine ⟨by first | omega | (rw [v2_ne (by omega), v2_eq]; decide), fun c128 => ?_, fun c128 => by exfalso; omega⟩
          conv => whnf
          have e1 := pEd_1 (u := u) (n := n) (W := W) (H := H) (a := ((s, x, y, S) : PO4)) c13n hi_40
          refine h _ L (i + 1) (((Fr.refl I).v2 (Or.inr ⟨rfl, rfl⟩)).trans (hf_40.mono PRd_e)) (Fr.refl L) ?_ ?_ ?_ ?_ (by omega) (fun e => ?_)
          · rw [e1]; exact hS_40
          · rw [e1]; exact ex4
          · rw [e1]; exact ey5
          · rw [e1]; exact hR
          · omega
      · conv => whnf
        refine ⟨by decide, _, rfl, ?_⟩
        conv => whnf
        refine ⟨by decide, ?_⟩
        conv => whnf
        refine ⟨by omega, fun c92 => ?_, fun c92 => ?_⟩
        · conv => whnf
          refine ⟨by decide, _, rfl, ?_⟩
          conv => whnf
          refine zinv0 (s_X10_startBefore T (u := u) (n := n) (c := c) (i := i + 1) (by exact hS_40.1) (by exact k6) (by omega) ?_)
          conv => whnf
          refine zinv0 (s_X4_fail T  (by omega) ?_ ?_)
          · intro cha_121
            exact absurd cha_121 hpc0
          · intro ch2a_121
            conv => whnf
            refine ⟨by decide, ?_⟩
            conv => whnf
            refine ⟨by first | omega | (rw [v2_ne (by omega), v2_eq]; decide), fun c128 => ?_, fun c128 => by exfalso; omega⟩
            conv => whnf
            have e1 := pEd_1 (u := u) (n := n) (W := W) (H := H) (a := ((s, x, y, S) : PO4)) c13n hi_40
            refine h _ L (i + 1) (((Fr.refl I).v2 (Or.inr ⟨rfl, rfl⟩)).trans (hf_40.mono PRd_e)) (Fr.refl L) ?_ ?_ ?_ ?_ (by omega) (fun e => ?_)
            · rw [e1]; exact hS_40
            · rw [e1]; exact ex4
            · rw [e1]; exact ey5
            · rw [e1]; exact hR
            · omega
        · conv => whnf
          refine ⟨by omega, fun c97 => ?_, fun c97 => ?_⟩
          · conv => whnf
            refine ⟨by decide, _, rfl, ?_⟩
            conv => whnf
            refine zinv0 (s_X10_startBefore T (u := u) (n := n) (c := c) (i := i + 1) (by exact hS_40.1) (by exact k6) (by omega) ?_)
            conv => whnf
            refine zinv0 (s_X4_fail T  (by omega) ?_ ?_)
            · intro cha_121
              exact absurd cha_121 hpc0
            · intro ch2a_121
              conv => whnf
              refine ⟨by decide, ?_⟩
              conv => whnf
              refine ⟨by first | omega | (rw [v2_ne (by omega), v2_eq]; decide), fun c128 => ?_, fun c128 => by exfalso; omega⟩
              conv => whnf
              have e1 := pEd_1 (u := u) (n := n) (W := W) (H := H) (a := ((s, x, y, S) : PO4)) c13n hi_40
              refine h _ L (i + 1) (((Fr.refl I).v2 (Or.inr ⟨rfl, rfl⟩)).trans (hf_40.mono PRd_e)) (Fr.refl L) ?_ ?_ ?_ ?_ (by omega) (fun e => ?_)
              · rw [e1]; exact hS_40
              · rw [e1]; exact ex4
              · rw [e1]; exact ey5
              · rw [e1]; exact hR
              · omega
          · conv => whnf
            refine ⟨by decide, _, rfl, ?_⟩
            conv => whnf
            refine ⟨by decide, ?_⟩
            conv => whnf
            refine ⟨by omega, fun c109 => ?_, fun c109 => ?_⟩
            · conv => whnf
              refine ⟨by decide, ?_⟩
              conv => whnf
              refine ⟨by first | omega | (rw [v2_ne (by omega), v2_eq]; decide), fun c128 => ?_, fun c128 => by exfalso; omega⟩
              conv => whnf
              have e1 := pEd_1 (u := u) (n := n) (W := W) (H := H) (a := ((s, x, y, S) : PO4)) c13n hi_40
              refine h _ L (i + 1) (((Fr.refl I).v2 (Or.inr ⟨rfl, rfl⟩)).trans (hf_40.mono PRd_e)) (Fr.refl L) ?_ ?_ ?_ ?_ (by omega) (fun e => ?_)
              · rw [e1]; exact hS_40
              · rw [e1]; exact ex4
              · rw [e1]; exact ey5
              · rw [e1]; exact hR
              · omega
            · conv => whnf
              refine ⟨by decide, _, rfl, ?_⟩
              conv => whnf
              refine zinv0 (s_X10_startBefore T (u := u) (n := n) (c := c) (i := i + 1) (by exact hS_40.1) (by exact k6) (by omega) ?_)
              conv => whnf
              refine zinv0 (s_X4_fail T  (by omega) ?_ ?_)
              · intro cha_121
                exact absurd cha_121 hpc0
              · intro ch2a_121
                conv => whnf
                refine ⟨by decide, ?_⟩
                conv => whnf
                refine ⟨by first | omega | (rw [v2_ne (by omega), v2_eq]; decide), fun c128 => ?_, fun c128 => by exfalso; omega⟩
                conv => whnf
                have e1 := pEd_1 (u := u) (n := n) (W := W) (H := H) (a := ((s, x, y, S) : PO4)) c13n hi_40
                refine h _ L (i + 1) (((Fr.refl I).v2 (Or.inr ⟨rfl, rfl⟩)).trans (hf_40.mono PRd_e)) (Fr.refl L) ?_ ?_ ?_ ?_ (by omega) (fun e => ?_)
                · rw [e1]; exact hS_40
                · rw [e1]; exact ex4
                · rw [e1]; exact ey5
                · rw [e1]; exact hR
                · omega
  · conv => whnf
    have c13n : tkU u n (pp s) < 10 := by
      apply Classical.byContradiction
      intro e
      rw [if_neg e] at hz9
      omega
    refine ⟨by decide, _, rfl, ?_⟩
    conv => whnf
    refine zinv0 (s_X10_start T  (by first | assumption | omega | rfl | decide) (by first | assumption | omega | rfl | decide) ?_)
    conv => whnf
    refine zinv0 (s_X4_fail T  (by exact hcz) ?_ ?_)
    · intro cha_25
      have hFl := hS.fail h0 (k := 1) (o := posA u n i) (by omega)
      conv => whnf
      have e1 := pEd_0 (u := u) (n := n) (W := W) (H := H) (a := ((s, x, y, S) : PO4)) c13n
      refine h _ L i (((Fr.refl I).v2 (Or.inl ⟨rfl, by omega⟩)).v2 (Or.inl ⟨rfl, by omega⟩)) (Fr.refl L) ?_ ?_ ?_ ?_ (Nat.le_refl i) (fun e => ?_)
      · rw [e1]
        rw [k4] at hFl
        rw [k4]
        exact hFl
      · rw [e1, v2_ne (by omega), v2_ne (by omega)]; exact hx
      · rw [e1, v2_ne (by omega), v2_ne (by omega)]; exact hy
      · rw [e1]; exact hR
      · rw [e1] at e
        exact (pFl_g (by decide) e).elim
    · intro ch2a_25
      exfalso; omega
      skip
end
