/-! WAYS, 2 -/
section
variable {Ln : Nat} {xs : Nat → Int32} {CZ : Nat → ZC} {RZ : Nat → Nat → ZQ → ZP}
/-- the search's state stands in the heap -/
def FillS (I : ZI) (L : ZL) (R : Nat → Bool) (M : Mo) (a : Int × Mo) (most : Int) : Prop := FormOK I L ∧ RgS L 565 R ∧ PlC I 567 M ∧ PlC I 571 a.2 ∧ I 562 5 = a.1 ∧ I 562 3 = most
theorem PlC.put {I I' : ZI} {r : Nat} {M : Mo} {p : Nat} {x y f : Int} (h : PlC I r M) (h1 : I' (r + 1) p = x) (h2 : I' (r + 2) p = y) (h3 : I' (r + 3) p = f) (h4 : ∀ j : Int, j ≠ p → I' (r + 1) j = I (r + 1) j ∧ I' (r + 2) j = I (r + 2) j ∧ I' (r + 3) j = I (r + 3) j) : PlC I' r (putM M p x y f) := fun j j0 j7 => by
  show I' (r + 3) j = (if j = (p : Int) then f else mF M j) ∧ ((if j = (p : Int) then f else mF M j) ≠ -1 → I' (r + 1) j = (if j = (p : Int) then x else mX M j) ∧ I' (r + 2) j = (if j = (p : Int) then y else mY M j))
  by_cases e : j = (p : Int)
  · rw [e, if_pos rfl, if_pos rfl, if_pos rfl]
    exact ⟨h3, fun _ => ⟨h1, h2⟩⟩
  · obtain ⟨k1, k2, k3⟩ := h4 j e
    rw [if_neg e, if_neg e, if_neg e, k1, k2, k3]
    exact h j j0 j7
theorem PlC.drop {I I' : ZI} {r : Nat} {M : Mo} {p : Nat} {x y f : Int} (h : PlC I r (putM M p x y f)) (hp : mF M p = -1) (h3 : I' (r + 3) p = -1) (h4 : ∀ j : Int, j ≠ p → I' (r + 1) j = I (r + 1) j ∧ I' (r + 2) j = I (r + 2) j ∧ I' (r + 3) j = I (r + 3) j) : PlC I' r M := fun j j0 j7 => by
  by_cases e : j = (p : Int)
  · rw [e, h3, hp]
    exact ⟨rfl, fun c => (c rfl).elim⟩
  · obtain ⟨k1, k2, k3⟩ := h4 j e
    have hj : I (r + 3) j = (if j = (p : Int) then f else mF M j) ∧ ((if j = (p : Int) then f else mF M j) ≠ -1 → I (r + 1) j = (if j = (p : Int) then x else mX M j) ∧ I (r + 2) j = (if j = (p : Int) then y else mY M j)) := h j j0 j7
    rw [if_neg e, if_neg e, if_neg e] at hj
    rw [k1, k2, k3]
    exact hj
theorem fH_l0 : (List.range 56).all (fun i => (List.range 192).any fun z => fS i z && decide (z / 48 = fH i - 1)) = true := by decide +kernel
theorem fH_last {i : Nat} (hi : i < 56) : ∃ z, z < 576 ∧ fS i z = true ∧ z / 48 = fH i - 1 := by
  obtain ⟨z, h1, h2⟩ := List.any_eq_true.mp (List.all_eq_true.mp fH_l0 i (List.mem_range.mpr hi))
  rw [Bool.and_eq_true, decide_eq_true_iff] at h2
  exact ⟨z, by have := List.mem_range.mp h1; omega, h2.1, h2.2⟩
/-- what the search is to keep -/
def SpS (CZ : Nat → ZC) (most : Int) (n : Nat) : Prop := ∀ (d b : Nat) (R : Nat → Bool) (M : Mo) (a : Int × Mo) (I : ZI) (L : ZL) (Q : ZQ) (dep : Nat), dep + n = 7 → FB M → FB a.2 → 0 ≤ a.1 → a.1 < most → FillS I L R M a most →
  (∀ I' L', Fr PF I I' → Fr (fun a _ => a = 566) L L' → FillS I' L' R M (SW most n R M a) most → Q (.inl none) I' L') → CZ (d + 2 * n + 3) k_X0_search [.inr (.ref 562, 1), .inr (.ref 1, 110056), .inl (dep : Int)] b I L Q
theorem l_swith (T : ZTh (XX Ln xs) CZ RZ) {d b : Nat} {Q : ZQ} {most : Int} {n p q dep : Nat} {R : Nat → Bool} {M : Mo} {I0 : ZI} {L0 : ZL} (hrec : SpS CZ most n) (hM : FB M) (hmost : most ≤ 1000) (hp : p < 7) (hoff : mF M p = -1 ∧ secO M p = false) (hq : q < 576) (hdep : dep + (n + 1) = 7) (m : Nat) : ∀ (f : Nat) (a : Int × Mo) (I : ZI) (L : ZL), (f ≤ 8) → (0 ≤ a.1 ∧ a.1 ≤ most ∧ FB a.2) → (Fr PF I0 I) → (Fr (fun a _ => a = 566) L0 L) → (FillS I L R M a most) → (∀ I' L', Fr PF I0 I' → Fr (fun a _ => a = 566) L0 L' → FillS I' L' R M (fk (gSW most n R M q) (8 - f) (8 * p + f) a) most → Q (.inl none) I' L') → 8 - (f : Int) < (m : Int) → RZ (d + 2 * n + 3) k_X0_searchWith Q 3 [.inr (.ref 562, 1), .inr (.ref 1, 110056), .inl ((dep : Int)), .inl ((p : Int)), .inl ((q : Int)), .inl ((f : Int)), zj, zj, zj, zj] [] b I L := by
  induction m with
  | zero =>
    intro f a I L hf8 ha hfr hgr hS h hm
    exfalso
    omega
  | succ m ih =>
    intro f a I L hf8 ha hfr hgr hS h hm
    obtain ⟨s1, s2, s3, s4, s5, s6⟩ := id hS
    have hk := fun h : f < 8 => (show 8 * p + f < 56 by omega)
    have g := fun h : f < 8 => s1 (8 * p + f) (hk h)
    have z := fun h : f < 8 => za_fm (hk h)
    have bx := fun h : f < 8 => fS_box (hk h)
    have fw := fun h : f < 8 => fW_b (hk h)
    have fqk := fun h : f < 8 => fQ_ok (hk h)
    have e8 : (8 * p + f) / 8 = p ∨ 8 ≤ f := by omega
    have hfin : f < 8 → fk (gSW most n R M q) (8 - f) (8 * p + f) a = fk (gSW most n R M q) (8 - (f + 1)) (8 * p + (f + 1)) (gSW most n R M q a (8 * p + f)) := fun h8 => by
      rw [show 8 - f = (8 - (f + 1)) + 1 by omega]
      rfl
    have hok : f < 8 → (okC R M q (8 * p + f) = true ↔ fV (8 * p + f) = 1 ∧ fitC R q (8 * p + f) = true) := fun h8 => by
      unfold okC
      rw [show (8 * p + f) / 8 = p by omega, hoff.1, hoff.2]
      simp
    refine T.go [3] 300 ?_
    conv => whnf
    refine ⟨by omega, fun c7 => ?_, fun c7 => ?_⟩
    · conv => whnf
      obtain rfl : f = 8 := by omega
      exact h I L hfr hgr hS
    · conv => whnf
      refine ⟨by decide, ?_⟩
      conv => whnf
      refine ⟨by decide, ?_⟩
      conv => whnf
      refine ⟨by omega, fun c18 => ?_, fun c18 => ?_⟩
      · conv => whnf
        refine h I L hfr hgr ?_
        rw [fk_id (g := gSW most n R M q) (fun i _ _ => by
          unfold gSW
          rw [decide_eq_false (by omega)]
          rfl)]
        exact hS
      · conv => whnf
        refine zinv0 (s_X11_formAt T (8 * p + f) (by omega) (by omega) ?_)
        conv => whnf
        have hq4 : I (2 + 5 * (8 * p + f)) 4 = (fQ (8 * p + f) : Int) := by rw [(g (by omega)).2.2.2.1, (fqk (by omega)).1]
        have hv5 := (g (by omega)).2.2.2.2.1
        have hfq16 := (fqk (by omega)).2
        have hz3 : za (2 + 5 * (8 * p + f)) 3 = 5 + 5 * (8 * p + f) + 1 := by rw [(z (by omega)).2.2.2.1]; omega
        have hbx := bx (by omega)
        have hfw := fw (by omega)
        refine ⟨by omega, ?_⟩
        conv => whnf
        refine ⟨(show (¬ (_ : Nat) = _) ∧ (¬ (_ : Nat) = _) from by omega), ?_⟩
        conv => whnf
        rw [hq4]
        refine ⟨by omega, Or.inr fun q46 hq46 hq46a hq46b => ?_⟩
        conv => whnf
        refine ⟨by omega, Or.inl ⟨by omega, ?_⟩⟩
        conv => whnf
        refine ⟨(show (¬ (_ : Nat) = _) ∧ (¬ (_ : Nat) = _) from by omega), ?_⟩
        conv => whnf
        refine ⟨by have := (g (by omega)).2.2.2.2.1; have := (fw (by omega)).2.2.2.2.2; omega, fun c61 => ?_, fun c61 => ?_⟩
        · conv => whnf
          refine T.fg [6, 7, 8, 9] ?_
          have hno : okC R M q (8 * p + f) = false := by
            cases e : okC R M q (8 * p + f) with
            | false => rfl
            | true =>
              exfalso
              obtain ⟨e1, e2⟩ := (hok (by omega)).mp e
              rw [(g (by omega)).2.2.2.2.1] at c61
              omega
          have hg : gSW most n R M q a (8 * p + f) = a := by
            unfold gSW
            rw [hno, Bool.and_false]
            rfl
          refine ih (f + 1) a I L (by omega) ha hfr hgr hS (fun I2 L2 f1 f2 f3 => h I2 L2 f1 f2 ?_) (by omega)
          rw [hfin (by omega), hg]
          exact f3
        · conv => whnf
          refine ⟨by omega, fun c66 => ?_, fun c66 => ?_⟩
          · conv => whnf
            refine T.fg [6, 7, 8, 9] ?_
            have hno : okC R M q (8 * p + f) = false := by
              cases e : okC R M q (8 * p + f) with
              | false => rfl
              | true =>
                exfalso
                obtain ⟨e1, e2⟩ := (hok (by omega)).mp e
                rw [fitC, dc_iff] at e2
                have := (fqk (by omega)).2
                omega
            have hg : gSW most n R M q a (8 * p + f) = a := by
              unfold gSW
              rw [hno, Bool.and_false]
              rfl
            refine ih (f + 1) a I L (by omega) ha hfr hgr hS (fun I2 L2 f1 f2 f3 => h I2 L2 f1 f2 ?_) (by omega)
            rw [hfin (by omega), hg]
            exact f3
          · conv => whnf
            refine ⟨by omega, ?_⟩
            conv => whnf
            refine ⟨by omega, fun c73 => ?_, fun c73 => ?_⟩
            · conv => whnf
              refine T.fg [6, 7, 8, 9] ?_
              have hno : okC R M q (8 * p + f) = false := by
                cases e : okC R M q (8 * p + f) with
                | false => rfl
                | true =>
                  exfalso
                  obtain ⟨e1, e2⟩ := (hok (by omega)).mp e
                  rw [fitC, dc_iff] at e2
                  have := e2.2.1
                  omega
              have hg : gSW most n R M q a (8 * p + f) = a := by
                unfold gSW
                rw [hno, Bool.and_false]
                rfl
              refine ih (f + 1) a I L (by omega) ha hfr hgr hS (fun I2 L2 f1 f2 f3 => h I2 L2 f1 f2 ?_) (by omega)
              rw [hfin (by omega), hg]
              exact f3
            · conv => whnf
              refine ⟨by decide, _, rfl, ?_⟩
              conv => whnf
              refine ⟨(show (¬ (_ : Nat) = _) ∧ (¬ (_ : Nat) = _) from by omega), _, (by assumption), ?_⟩
              conv => whnf
              have e46 : q46 = (((q % 48 - fQ (8 * p + f)) / 4 : Nat) : Int) := by rw [hq46b c66]; omega
              have ey : (q : Int) / 48 = ((q / 48 : Nat) : Int) := by omega
              have heo : 48 * (q / 48) + 4 * ((q % 48 - fQ (8 * p + f)) / 4) = q - fQ (8 * p + f) := by omega
              rw [e46, ey]
              refine zinv0 (s_X6_containsAll T (x := (q % 48 - fQ (8 * p + f)) / 4) (y := q / 48) R (fS (8 * p + f)) (by rfl) (by show (¬ (_ : Nat) = _) ∧ (¬ (_ : Nat) = _); omega) (by exact (z (by omega)).2.2.2.2) (by show (¬ (_ : Nat) = _) ∧ (¬ (_ : Nat) = _); omega) (by exact s2) (by exact (g (by omega)).1) (by exact (g (by omega)).2.1.at.2.2.2) (by exact hbx.1) (by omega) (by intro z9 _ hs9; have := fS_in (hk (by omega)) hs9; omega) ?_ ?_)
              · intro cha_89
                conv => whnf
                refine ⟨by decide, fun c => absurd c (by decide), fun _ => ?_⟩
                conv => whnf
                refine ⟨by decide, _, rfl, ?_⟩
                conv => whnf
                refine ⟨(show (¬ (_ : Nat) = _) ∧ (¬ (_ : Nat) = _) from by omega), _, (by assumption), ?_⟩
                conv => whnf
                have hBx : Bx (fS (8 * p + f)) ((q % 48 - fQ (8 * p + f)) / 4) (q / 48) := fun z9 hs9 => by
                  have h1 := fS_lt (hk (by omega)) hs9
                  have := cha_89 z9 (by omega) hs9
                  omega
                have hin : ∀ z9, shf (fS (8 * p + f)) (q - fQ (8 * p + f)) z9 = true → R z9 = true := fun z9 hz9 => by
                  unfold shf at hz9
                  rw [Bool.and_eq_true, decide_eq_true_iff] at hz9
                  have h1 := fS_lt (hk (by omega)) hz9.2
                  have h2 := (cha_89 _ (by omega) hz9.2).2.2
                  rw [heo, Nat.sub_add_cancel hz9.1] at h2
                  exact h2
                have hyh : q / 48 + hg (fS (8 * p + f)) ≤ 12 := by
                  rw [hbx.2.1]
                  apply Classical.byContradiction
                  intro c
                  have hlast : ∃ z9, z9 < 576 ∧ fS (8 * p + f) z9 = true ∧ z9 / 48 = fH (8 * p + f) - 1 := fH_last (hk (by omega))
                  obtain ⟨z9, h1, h2, h3⟩ := hlast
                  have := hBx z9 h2
                  omega
                refine zinv0 (s_X6_exchange T (x := (q % 48 - fQ (8 * p + f)) / 4) (y := q / 48) R (fS (8 * p + f)) (by rfl) (by show (¬ (_ : Nat) = _) ∧ (¬ (_ : Nat) = _); omega) (by exact (z (by omega)).2.2.2.2) (by show (¬ (_ : Nat) = _) ∧ (¬ (_ : Nat) = _); omega) (by omega) (by exact s2) (by exact (g (by omega)).1) (by exact (g (by omega)).2.1.at.2.2.2) (by exact hbx.1) (by exact ⟨by omega, hyh⟩) (by exact hBx) ?_)
                intro L_108 hf_108 hS_108
                conv => whnf
                refine ⟨by decide, _, rfl, ?_⟩
                conv => whnf
                refine zinv0 (s_X5_put T  (by rfl) (by rfl) (by rfl) (by first | assumption | omega | rfl | decide) (by first | assumption | omega | rfl | decide) ?_)
                conv => whnf
                obtain ⟨J, hJ⟩ : ∃ J, J = v2 (v2 (v2 I (567 + 1) (p : Int) (((q % 48 - fQ (8 * p + f)) / 4 : Nat) : Int)) (567 + 2) (p : Int) ((q / 48 : Nat) : Int)) (567 + 3) (p : Int) (f : Int) := ⟨_, rfl⟩
                rw [← hJ]
                have hput : Fr PF I J := by
                  rw [hJ]
                  exact (((Fr.refl I).v2 (by unfold PF; omega)).v2 (by unfold PF; omega)).v2 (by unfold PF; omega)
                have hJP : PlC J 567 (putK M q (8 * p + f)) := by
                  have hpk : putK M q (8 * p + f) = putM M p (((q % 48 - fQ (8 * p + f)) / 4 : Nat) : Int) ((q / 48 : Nat) : Int) (f : Int) := by
                    unfold putK
                    rw [show (8 * p + f) / 8 = p by omega, show (8 * p + f) % 8 = f by omega]
                  rw [hpk, hJ]
                  refine s3.put ?_ ?_ (v2_eq _ _ _ _) (fun j hj => ⟨?_, ?_, ?_⟩)
                  · rw [v2_ne (by omega), v2_ne (by omega), v2_eq]
                  · rw [v2_ne (by omega), v2_eq]
                  · rw [v2_ne (by omega), v2_ne (by omega), v2_ne (by omega)]
                  · rw [v2_ne (by omega), v2_ne (by omega), v2_ne (by omega)]
                  · rw [v2_ne (by omega), v2_ne (by omega), v2_ne (by omega)]
                have hJS : FillS J L_108 (rmv R (8 * p + f) (q - fQ (8 * p + f))) (putK M q (8 * p + f)) a most := by
                  refine ⟨s1.fr (fun a b _ _ => hput _ _ (by unfold PF; omega)) (fun a b _ _ => hf_108 _ _ (by omega)), hS_108.congr (fun z9 hz9 => ?_), hJP, s4.fr (fun a b _ _ => ?_), ?_, ?_⟩
                  · rw [heo]
                    unfold rmv
                    cases hsh : shf (fS (8 * p + f)) (q - fQ (8 * p + f)) z9 with
                    | false => simp
                    | true => rw [hin z9 hsh]; rfl
                  · rw [hJ, v2_ne (by omega), v2_ne (by omega), v2_ne (by omega)]
                  · rw [hJ, v2_ne (by omega), v2_ne (by omega), v2_ne (by omega)]; exact s5
                  · rw [hJ, v2_ne (by omega), v2_ne (by omega), v2_ne (by omega)]; exact s6
                rw [show (dep : Int) + 1 = ((dep + 1 : Nat) : Int) by omega]
                refine zinv0 (hrec d _ (rmv R (8 * p + f) (q - fQ (8 * p + f))) (putK M q (8 * p + f)) a J L_108 _ (dep + 1) (by omega) (putK_FB hM q (8 * p + f)) ha.2.2 ha.1 (by omega) hJS ?_)
                intro I_130 L_130 hf_130 hg_130 hS_130
                conv => whnf
                refine ⟨by decide, _, rfl, ?_⟩
                conv => whnf
                refine zinv0 (s_X5_drop T  (by rfl) (by rfl) (by rfl) (by first | assumption | omega | rfl | decide) (by first | assumption | omega | rfl | decide) ?_)
                conv => whnf
                refine ⟨by decide, _, rfl, ?_⟩
                conv => whnf
                refine ⟨(show (¬ (_ : Nat) = _) ∧ (¬ (_ : Nat) = _) from by omega), _, (by assumption), ?_⟩
                conv => whnf
                refine zinv0 (s_X6_exchange T (x := (q % 48 - fQ (8 * p + f)) / 4) (y := q / 48) (rmv R (8 * p + f) (q - fQ (8 * p + f))) (fS (8 * p + f)) (by rfl) (by show (¬ (_ : Nat) = _) ∧ (¬ (_ : Nat) = _); omega) (by exact (z (by omega)).2.2.2.2) (by show (¬ (_ : Nat) = _) ∧ (¬ (_ : Nat) = _); omega) (by omega) (by exact hS_130.2.1) (by exact (hS_130.1 (8 * p + f) (by omega)).1) (by rw [v2_ne (by omega)]; exact (hS_130.1 (8 * p + f) (by omega)).2.1.at.2.2.2) (by exact hbx.1) (by exact ⟨by omega, hyh⟩) (by exact hBx) ?_)
                intro L_154 hf_154 hS_154
                conv => whnf
                refine T.fg [6, 7, 8, 9] ?_
                have hyes : okC R M q (8 * p + f) = true := (hok (by omega)).mpr ⟨by have := (g (by omega)).2.2.2.2.1; have := (fw (by omega)).2.2.2.2.2; omega, by
                  rw [fitC, dc_iff]
                  refine ⟨by omega, by omega, fun z9 hz9 hs9 => ?_⟩
                  obtain ⟨k1, k2, k3⟩ := cha_89 z9 hz9 hs9
                  exact ⟨k1, by omega, by rw [← heo]; exact k3⟩⟩
                have hg9 : gSW most n R M q a (8 * p + f) = SW most n (rmv R (8 * p + f) (q - fQ (8 * p + f))) (putK M q (8 * p + f)) a := by
                  unfold gSW
                  rw [hyes, Bool.and_true, decide_eq_true (by omega)]
                  rfl
                have hb9 := SW_b (n := n) (R := rmv R (8 * p + f) (q - fQ (8 * p + f))) (putK_FB hM q (8 * p + f)) ha.1 (show a.1 < most by omega) ha.2.2
                rw [← hg9] at hb9 hS_130
                obtain ⟨w1, w2, w3, w4, w5, w6⟩ := hS_130
                refine ih (f + 1) _ _ _ (by omega) hb9 (((hfr.trans hput).trans hf_130).v2 (by unfold PF; omega)) (((hgr.trans hf_108).trans hg_130).trans hf_154) ⟨w1.fr (fun a b _ _ => v2_ne (by omega)) (fun a b _ _ => hf_154 _ _ (by omega)), hS_154.congr (fun z9 hz9 => ?_), ?_, w4.fr (fun a b _ _ => v2_ne (by omega)), by rw [v2_ne (by omega)]; exact w5, by rw [v2_ne (by omega)]; exact w6⟩ (fun I2 L2 f1 f2 f3 => h I2 L2 f1 f2 ?_) (by omega)
                · show (rmv R (8 * p + f) (q - fQ (8 * p + f)) z9 ^^ shf (fS (8 * p + f)) (48 * (q / 48) + 4 * ((q % 48 - fQ (8 * p + f)) / 4)) z9) = R z9
                  unfold rmv
                  rw [heo]
                  cases hsh : shf (fS (8 * p + f)) (q - fQ (8 * p + f)) z9 with
                  | false => simp
                  | true =>
                    have := hin z9 hsh
                    rw [this]
                    rfl
                · have w3' : PlC I_130 567 (putM M p (((q % 48 - fQ (8 * p + f)) / 4 : Nat) : Int) ((q / 48 : Nat) : Int) (f : Int)) := by
                    have : putK M q (8 * p + f) = putM M p (((q % 48 - fQ (8 * p + f)) / 4 : Nat) : Int) ((q / 48 : Nat) : Int) (f : Int) := by
                      unfold putK
                      rw [show (8 * p + f) / 8 = p by omega, show (8 * p + f) % 8 = f by omega]
                    rw [← this]
                    exact w3
                  exact w3'.drop hoff.1 (v2_eq _ _ _ _) (fun j hj => ⟨v2_ne (by omega), v2_ne (by omega), v2_ne (by omega)⟩)
                · rw [hfin (by omega)]
                  exact f3
              · intro ch2a_89
                conv => whnf
                refine ⟨by decide, fun _ => ?_, fun c => absurd c (by decide)⟩
                conv => whnf
                refine T.fg [6, 7, 8, 9] ?_
                have hno : okC R M q (8 * p + f) = false := by
                  cases e : okC R M q (8 * p + f) with
                  | false => rfl
                  | true =>
                    exfalso
                    obtain ⟨e1, e2⟩ := (hok (by omega)).mp e
                    rw [fitC, dc_iff] at e2
                    refine ch2a_89 (fun z9 hz9 hs9 => ?_)
                    obtain ⟨k1, k2, k3⟩ := e2.2.2 z9 hz9 hs9
                    exact ⟨k1, by omega, by rw [heo]; exact k3⟩
                have hg : gSW most n R M q a (8 * p + f) = a := by
                  unfold gSW
                  rw [hno, Bool.and_false]
                  rfl
                refine ih (f + 1) a I L (by omega) ha hfr hgr hS (fun I2 L2 f1 f2 f3 => h I2 L2 f1 f2 ?_) (by omega)
                rw [hfin (by omega), hg]
                exact f3
theorem s_X0_searchWith (T : ZTh (XX Ln xs) CZ RZ) {d b : Nat} {most : Int} {n p q dep : Nat} (R : Nat → Bool) (M : Mo) (a : Int × Mo)  {I : ZI} {L : ZL} {Q : ZQ} (hrec : SpS CZ most n) (hM : FB M) (hmost : most ≤ 1000) (hp : p < 7) (hoff : mF M p = -1 ∧ secO M p = false) (hq : q < 576) (hdep : dep + (n + 1) = 7) (ha : 0 ≤ a.1 ∧ a.1 ≤ most ∧ FB a.2) (hS : FillS I L R M a most) (h : ∀ I' L', Fr PF I I' → Fr (fun a _ => a = 566) L L' → FillS I' L' R M (fk (gSW most n R M q) 8 (8 * p) a) most → Q (.inl none) I' L') : CZ (d + 2 * n + 4) k_X0_searchWith [.inr (.ref 562, 1), .inr (.ref 1, 110056), .inl ((dep : Int)), .inl ((p : Int)), .inl ((q : Int))] b I L Q := by
  refine T.call rfl ?_
  refine T.go [3] 90 ?_
  conv => whnf
  exact l_swith T hrec hM hmost hp hoff hq hdep 9 0 a I L (by omega) ha (Fr.refl I) (Fr.refl L) hS h (by omega)
theorem l_search (T : ZTh (XX Ln xs) CZ RZ) {d b : Nat} {Q : ZQ} {most : Int} {n dep : Nat} {R : Nat → Bool} {M : Mo} {I0 : ZI} {L0 : ZL} (hrec : SpS CZ most n) (hM : FB M) (hmost : most ≤ 1000) (hdep : dep + (n + 1) = 7) (m : Nat) : ∀ (p : Nat) (a : Int × Mo) (I : ZI) (L : ZL), (p ≤ 7) → (0 ≤ a.1 ∧ a.1 ≤ most ∧ FB a.2) → (Fr PF I0 I) → (Fr (fun a _ => a = 566) L0 L) → (FillS I L R M a most) → (∀ I' L', Fr PF I0 I' → Fr (fun a _ => a = 566) L0 L' → FillS I' L' R M (if fq R = -1 then a else fk (gSW most n R M (fq R).toNat) (56 - 8 * p) (8 * p) a) most → Q (.inl none) I' L') → 7 - (p : Int) < (m : Int) → RZ (d + 2 * n + 4) k_X0_search Q 22 [.inr (.ref 562, 1), .inr (.ref 1, 110056), .inl ((dep : Int)), .inl (fq R), .inl ((p : Int))] [] b I L := by
  induction m with
  | zero =>
    intro p a I L hp7 ha hfr hgr hS h hm
    exfalso
    omega
  | succ m ih =>
    intro p a I L hp7 ha hfr hgr hS h hm
    obtain ⟨s1, s2, s3, s4, s5, s6⟩ := id hS
    have hfq : fq R = -1 ∨ ∃ k : Nat, k < 576 ∧ fq R = k := by
      rcases fq_spec R with ⟨e, _⟩ | ⟨k, k1, k2, _⟩
      · exact Or.inl e
      · exact Or.inr ⟨k, k1, k2⟩
    have hfz : zR (fq R) := by rcases hfq with e | ⟨k, k1, k2⟩ <;> omega
    refine T.go [22] 90 ?_
    conv => whnf
    refine ⟨by omega, fun c26 => ?_, fun c26 => ?_⟩
    · conv => whnf
      obtain rfl : p = 7 := by omega
      refine h I L hfr hgr ?_
      split
      · exact hS
      · exact hS
    · conv => whnf
      refine ⟨by omega, fun c31 => ?_, fun c31 => ?_⟩
      · conv => whnf
        refine h I L hfr hgr ?_
        rw [if_pos c31]
        exact hS
      · conv => whnf
        refine zinv0 (s_X0_isNext T M (by omega) (by exact hM) (by exact s3) ?_ ?_)
        · intro cha_37 chb_37
          conv => whnf
          refine ⟨by decide, fun c => absurd c (by decide), fun _ => ?_⟩
          conv => whnf
          obtain ⟨k0, k1, k2⟩ : ∃ k : Nat, k < 576 ∧ fq R = k := by
            rcases hfq with e | e
            · exact (c31 e).elim
            · exact e
          have e9 : fq R = (((fq R).toNat : Nat) : Int) := by omega
          rw [e9]
          refine zinv0 (s_X0_searchWith T (q := (fq R).toNat) R M a (by exact hrec) (by exact hM) (by exact hmost) (by omega) (by exact ⟨cha_37, chb_37⟩) (by omega) (by exact hdep) (by exact ha) (by exact hS) ?_)
          intro I_49 L_49 hf_49 hg_49 hS_49
          rw [← e9]
          conv => whnf
          refine ih (p + 1) (fk (gSW most n R M (fq R).toNat) 8 (8 * p) a) _ _ (by omega) (gSW_b hM 8 (8 * p) a ha) (hfr.trans hf_49) (hgr.trans hg_49) hS_49 (fun I2 L2 f1 f2 f3 => h I2 L2 f1 f2 ?_) (by omega)
          rw [if_neg c31] at f3 ⊢
          rw [show 56 - 8 * p = 8 + (56 - 8 * (p + 1)) by omega, fk_add, show 8 * p + 8 = 8 * (p + 1) by omega]
          exact f3
        · intro ch2a_37
          conv => whnf
          refine ⟨by decide, fun _ => ?_, fun c => absurd c (by decide)⟩
          conv => whnf
          refine ih (p + 1) a I L (by omega) ha hfr hgr hS (fun I2 L2 f1 f2 f3 => h I2 L2 f1 f2 ?_) (by omega)
          rw [if_neg c31] at f3 ⊢
          rw [show 56 - 8 * p = 8 + (56 - 8 * (p + 1)) by omega, fk_add, show 8 * p + 8 = 8 * (p + 1) by omega, fk_id (g := gSW most n R M (fq R).toNat) (n := 8) (k := 8 * p) (a := a) (fun i h1 h2 => ?_)]
          · exact f3
          · have hno : okC R M (fq R).toNat i = false := by
              unfold okC
              rw [show i / 8 = p by omega, Bool.and_eq_false_iff]
              left
              rw [Bool.and_eq_false_iff, decide_eq_false_iff_not]
              by_cases e : mF M p = -1
              · right
                cases es : secO M p with
                | true => rfl
                | false => exact (ch2a_37 ⟨e, es⟩).elim
              · exact Or.inl e
            unfold gSW
            rw [hno, Bool.and_false]
            rfl
theorem sp_search (T : ZTh (XX Ln xs) CZ RZ) {most : Int} (hmost : most ≤ 1000) : ∀ n, SpS CZ most n := by
  intro n
  induction n with
  | zero =>
    intro d b R M a I L Q dep hdep hM hFB h0 h1 hS h
    obtain rfl : dep = 7 := by omega
    rw [show d + 2 * 0 + 3 = d + 3 by omega]
    refine T.call rfl ?_
    refine T.go [] 300 ?_
    conv => whnf
    refine ⟨by omega, fun c3 => by exfalso; omega, fun c3 => ?_⟩
    conv => whnf
    refine zinv0 (s_X0_takeWay T (f := a.1) M a.2 (by exact hS.2.2.1) (by exact hS.2.2.2.1) (by exact hS.2.2.2.2.1) (by exact ⟨by omega, by omega⟩) ?_)
    intro I_7 hf_7 hP_7 h5_7
    conv => whnf
    exact h _ L (hf_7.mono (fun a b c => by unfold PF; omega)) (Fr.refl L) ⟨hS.1.fr (fun a b _ _ => hf_7 _ _ (by omega)) (fun a b _ _ => rfl), hS.2.1, hS.2.2.1.fr (fun a b _ _ => hf_7 _ _ (by omega)), hP_7, h5_7, by rw [hf_7 _ _ (by omega)]; exact hS.2.2.2.2.2⟩
  | succ n ih =>
    intro d b R M a I L Q dep hdep hM hFB h0 h1 hS h
    rw [show d + 2 * (n + 1) + 3 = d + 2 * n + 5 by omega]
    refine T.call rfl ?_
    refine T.go [22] 300 ?_
    conv => whnf
    refine ⟨by omega, fun c3 => ?_, fun c3 => by exfalso; omega⟩
    conv => whnf
    refine ⟨by decide, _, rfl, ?_⟩
    conv => whnf
    refine zinv0 (s_X6_firstQuarter T R (by rfl) (by show (¬ (_ : Nat) = _) ∧ (¬ (_ : Nat) = _); omega) (by exact hS.2.1) ?_)
    conv => whnf
    exact l_search T (n := n) ih hM hmost hdep 8 0 a I L (by omega) ⟨h0, by omega, hFB⟩ (Fr.refl I) (Fr.refl L) hS h (by omega)
end
