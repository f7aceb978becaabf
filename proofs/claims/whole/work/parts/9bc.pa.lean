/-! TEXTS, 10: a piece, 1 -/
section
variable {Ln : Nat} {xs : Nat → Int32} {CZ : Nat → ZC} {RZ : Nat → Nat → ZQ → ZP}
theorem s1_readNumber (T : ZTh (XX Ln xs) CZ RZ) {d b : Nat} {a z : Int} {u : Nat → Int} {n c i : Nat} {s : PE} {I : ZI} {L : ZL} {Q : ZQ} (hS : PSt I u n c i s) (ha : zR a) (hzz : zR z) (h : ∀ I' i', Fr PRd I I' → PSt I' u n c i' (pNu u n a z s) → i ≤ i' → (pc (pNu u n a z s) = 0 → i' = i + 1) → Q (.inl (some (.inl ((if pc (pNu u n a z s) = 0 then nmA u n (pp s) else -1))))) I' L) : CZ (d + 2) k_X4_readNumber [.inr (.ref 575, 5), .inl a, .inl z] b I L Q := by
  refine s_X4_readNumber T hS ha hzz (fun I2 f2 s2 g2 => ?_) (fun I2 f2 s2 g2 => ?_)
  · have h9 := h I2 (i + 1) f2 s2 (by omega) (fun _ => rfl)
    rw [if_pos g2] at h9
    exact h9
  · have h9 := h I2 i f2 s2 (Nat.le_refl i) (fun e => absurd e g2)
    rw [if_neg g2] at h9
    exact h9
/-- behind a piece's last word -/
noncomputable def pcQ (W H : Nat) (M : Mo) (v x y f : Int) (s9 s : PE) : PE × Mo := if pc s = 0 then (if why W H M v.toNat (8 * v.toNat + f.toNat) x y = 0 then (s, putM M v.toNat x y f) else (pFl 3 (pp s9) s, M)) else (s, M)
theorem pcQ_0 {W H : Nat} {M : Mo} {v x y f : Int} {s9 s : PE} (h : ¬ pc s = 0) : pcQ W H M v x y f s9 s = (s, M) := if_neg h
theorem pcQ_1 {W H : Nat} {M : Mo} {v x y f : Int} {s9 s : PE} (h : pc s = 0) (h2 : ¬ why W H M v.toNat (8 * v.toNat + f.toNat) x y = 0) : pcQ W H M v x y f s9 s = (pFl 3 (pp s9) s, M) := by
  unfold pcQ
  rw [if_pos h, if_neg h2]
theorem pcQ_2 {W H : Nat} {M : Mo} {v x y f : Int} {s9 s : PE} (h : pc s = 0) (h2 : why W H M v.toNat (8 * v.toNat + f.toNat) x y = 0) : pcQ W H M v x y f s9 s = (s, putM M v.toNat x y f) := by
  unfold pcQ
  rw [if_pos h, if_pos h2]
def qw5 (u : Nat → Int) (n W : Nat) (s : PE) : PE := pNu u n 0 ((W : Int) - 1) (pKw u n 6 s)
def qw7 (u : Nat → Int) (n W H : Nat) (s : PE) : PE := pKw u n 7 (pNu u n 0 ((H : Int) - 1) (qw5 u n W s))
def qw8 (u : Nat → Int) (n W H : Nat) (s : PE) : PE := pNu u n 0 3 (qw7 u n W H s)
def qw9 (u : Nat → Int) (n W H : Nat) (s : PE) : PE := if tkU u n (pp (qw8 u n W H s)) = 8 then pKw u n 8 (qw8 u n W H s) else qw8 u n W H s
noncomputable def pcR (u : Nat → Int) (n W H : Nat) (M : Mo) (v : Int) (s : PE) : PE × Mo := pcQ W H M v (nmA u n (pp (pKw u n 6 s))) (nmA u n (pp (qw5 u n W s))) (2 * nmA u n (pp (qw7 u n W H s)) + (if tkU u n (pp (qw8 u n W H s)) = 8 then 1 else 0)) (qw9 u n W H s) (pKw u n 3 (qw9 u n W H s))
def qw2 (u : Nat → Int) (n : Nat) (s : PE) : PE := pNu u n 0 6 (pKw u n 5 s)
def qw3 (u : Nat → Int) (n : Nat) (M : Mo) (s : PE) : PE := if pc (qw2 u n s) = 0 ∧ ¬ mF M (nmA u n (pp (pKw u n 5 s))) = -1 then pFl 3 (pp (pKw u n 5 s)) (qw2 u n s) else qw2 u n s
noncomputable def pPc (u : Nat → Int) (n W H : Nat) (M : Mo) (s : PE) : PE × Mo := pcR u n W H M (nmA u n (pp (pKw u n 5 s))) (qw3 u n M s)
theorem StC.put8 {I : ZI} {L : ZL} {W H : Nat} {M : Mo} (h : StC I L 581 W H M) (p : Nat) (x y f : Int) : StC (v2 (v2 (v2 I 583 p x) 584 p y) 585 p f) L 581 W H (putM M p x y f) := by
  obtain ⟨t1, t2, t3, t4, t5⟩ := h
  have e : ∀ a b, ¬ (583 ≤ a ∧ a ≤ 585) → v2 (v2 (v2 I 583 p x) 584 p y) 585 p f a b = I a b := fun a b h => by rw [v2_ne (by omega), v2_ne (by omega), v2_ne (by omega)]
  refine ⟨by rw [e _ _ (by omega)]; exact t1, by rw [e _ _ (by omega)]; exact t2, ?_, by rw [e _ _ (by omega)]; exact t4, fun k hk => ⟨(t5 k hk).1, (t5 k hk).2.row (fun b => e _ _ (by omega))⟩⟩
  refine PlC.put t3 ?_ ?_ ?_ ?_
  · show v2 (v2 (v2 I 583 p x) 584 p y) 585 p f 583 p = x
    rw [v2_ne (by omega), v2_ne (by omega), v2_eq]
  · show v2 (v2 (v2 I 583 p x) 584 p y) 585 p f 584 p = y
    rw [v2_ne (by omega), v2_eq]
  · show v2 (v2 (v2 I 583 p x) 584 p y) 585 p f 585 p = f
    rw [v2_eq]
  · intro j hj
    refine ⟨?_, ?_, ?_⟩
    · show v2 (v2 (v2 I 583 p x) 584 p y) 585 p f 583 j = I 583 j
      rw [v2_ne (by omega), v2_ne (by omega), v2_ne (by omega)]
    · show v2 (v2 (v2 I 583 p x) 584 p y) 585 p f 584 j = I 584 j
      rw [v2_ne (by omega), v2_ne (by omega), v2_ne (by omega)]
    · show v2 (v2 (v2 I 583 p x) 584 p y) 585 p f 585 j = I 585 j
      rw [v2_ne (by omega), v2_ne (by omega), v2_ne (by omega)]
/-- a reading changes nothing else -/
theorem PRd_o {I I' : ZI} (h : Fr PRd I I') (a : Nat) (b : Int) (h1 : ¬ a = 575) (h2 : ¬ (a = 576 ∧ b = 5)) : I' a b = I a b := h a b (by unfold PRd; omega)
theorem l_pcB (T : ZTh (XX Ln xs) CZ RZ) {d b : Nat} {Q : ZQ} {u : Nat → Int} {n c i i0 W H : Nat} {M : Mo} {v : Int} {s : PE} {I0 I : ZI} {L : ZL} (hS : PSt I u n c i s) (hF : FormOK I L) (hM : StC I L 581 W H M) (hw : Wf W H M) (hv : pc s = 0 → 0 ≤ v ∧ v ≤ 6) (hfr : Fr PPs I0 I) (hi0 : i0 ≤ i) (h : ∀ I' L' i', Fr PPs I0 I' → Fr PLs L L' → PSt I' u n c i' (pcR u n W H M v s).1 → StC I' L' 581 W H (pcR u n W H M v s).2 → i0 ≤ i' → Q (.inl none) I' L') : RZ (d + 3) k_X4_readPiece Q 46 [.inr (.ref 575, 5), .inr (.ref 1, 110056), .inl v, zj, zj, zj, zj, zj] [] b I L := by
  obtain ⟨k1, k2, k3, k4, k5, k6⟩ := id hS
  have hcz : zR (I 575 2) := by rw [k2]; exact ⟨by omega, by omega⟩
  obtain ⟨t1, t2, t3, t4, t5⟩ := id hM
  obtain ⟨⟨⟨w1, w2, w3, w4⟩, -⟩, w5, -⟩ := id hw
  refine T.go [] 250 ?_
  conv => whnf
  refine zinv0 (s_X4_skip T (w := 6) (u := u) (n := n) (c := c) (i := i) (s := s) (by exact hS) (by decide) ?_)
  intro I_50 i_50 hf_50 hS_50 hi_50 hi2_50
  conv => whnf
  refine ⟨by decide, _, rfl, ?_⟩
  conv => whnf
  refine ⟨by decide, ?_⟩
  conv => whnf
  rw [show I_50 581 0 = W from (PRd_o hf_50 _ _ (by omega) (by omega)).trans t1]
  refine zinv0 (s1_readNumber T (u := u) (n := n) (c := c) (i := i_50) (s := pKw u n 6 s) (by exact hS_50) (by decide) (by exact ⟨by omega, by omega⟩) ?_)
  intro I_64 i_64 hf_64 hS_64 hi_64 hi2_64
  have hS5 : PSt I_64 u n c i_64 (qw5 u n W s) := hS_64
  have g64 : pc (qw5 u n W s) = 0 → i_64 = i_50 + 1 := hi2_64
  obtain ⟨x, hx⟩ : ∃ x : Int, x = (if pc (pNu u n 0 ((W : Int) - 1) (pKw u n 6 s)) = 0 then nmA u n (pp (pKw u n 6 s)) else -1) := ⟨_, rfl⟩
  rw [← hx]
  conv => whnf
  refine ⟨by decide, _, rfl, ?_⟩
  conv => whnf
  refine ⟨by decide, ?_⟩
  conv => whnf
  rw [show I_64 581 1 = H from (PRd_o hf_64 _ _ (by omega) (by omega)).trans ((PRd_o hf_50 _ _ (by omega) (by omega)).trans t2)]
  refine zinv0 (s1_readNumber T (u := u) (n := n) (c := c) (i := i_64) (s := qw5 u n W s) (by exact hS5) (by decide) (by exact ⟨by omega, by omega⟩) ?_)
  intro I_79 i_79 hf_79 hS_79 hi_79 hi2_79
  obtain ⟨y, hy⟩ : ∃ y : Int, y = (if pc (pNu u n 0 ((H : Int) - 1) (qw5 u n W s)) = 0 then nmA u n (pp (qw5 u n W s)) else -1) := ⟨_, rfl⟩
  rw [← hy]
  conv => whnf
  refine zinv0 (s_X4_skip T (w := 7) (u := u) (n := n) (c := c) (i := i_79) (s := pNu u n 0 ((H : Int) - 1) (qw5 u n W s)) (by exact hS_79) (by decide) ?_)
  intro I_88 i_88 hf_88 hS_88 hi_88 hi2_88
  have hS7 : PSt I_88 u n c i_88 (qw7 u n W H s) := hS_88
  conv => whnf
  refine zinv0 (s1_readNumber T (u := u) (n := n) (c := c) (i := i_88) (s := qw7 u n W H s) (by exact hS7) (by decide) (by decide) ?_)
  intro I_94 i_94 hf_94 hS_94 hi_94 hi2_94
  have hS8 : PSt I_94 u n c i_94 (qw8 u n W H s) := hS_94
  obtain ⟨t, ht⟩ : ∃ t : Int, t = (if pc (pNu u n 0 3 (qw7 u n W H s)) = 0 then nmA u n (pp (qw7 u n W H s)) else -1) := ⟨_, rfl⟩
  rw [← ht]
  conv => whnf
  refine ⟨by decide, _, rfl, ?_⟩
  conv => whnf
  refine zinv0 (s_X10_kind T (u := u) (n := n) (c := c) (i := i_94) (by exact hS8.1) (by exact k6) ?_)
  conv => whnf
  refine ⟨fun c109 => ?_, fun c109 => ?_⟩
  · conv => whnf
    refine ⟨by decide, fun _ => ?_, fun c => absurd c (by decide)⟩
    conv => whnf
    have c109n : ¬ tkU u n (pp (qw8 u n W H s)) = 8 := fun e => c109 (by rw [hS8.2.2.2.1, e])
    have e9 : qw9 u n W H s = qw8 u n W H s := if_neg c109n
    have hS9 : PSt I_94 u n c i_94 (qw9 u n W H s) := by rw [e9]; exact hS8
    refine zinv0 (s_X4_skip T (w := 3) (u := u) (n := n) (c := c) (i := i_94) (s := qw9 u n W H s) (by exact hS9) (by decide) ?_)
    intro I_135 i_135 hf_135 hS_135 hi_135 hi2_135
    have eA : ∀ (a : Nat) (b : Int), ¬ a = 575 → ¬ (a = 576 ∧ b = 5) → I_135 a b = I a b := fun a b g1 g2 => by rw [PRd_o hf_135 a b g1 g2, PRd_o hf_94 a b g1 g2, PRd_o hf_88 a b g1 g2, PRd_o hf_79 a b g1 g2, PRd_o hf_64 a b g1 g2, PRd_o hf_50 a b g1 g2]
    have hM135 : StC I_135 L 581 W H M := hM.fr w5 (fun a b g1 g2 => eA a b (by omega) (by omega)) (fun a b _ _ => rfl)
    have hpc := hS_135.2.1
    have hpc4 := hS_135.2.2.2.2.1
    conv => whnf
    refine ⟨by decide, ?_⟩
    conv => whnf
    refine ⟨by omega, fun c142 => ?_, fun c142 => ?_⟩
    · conv => whnf
      have c142n : ¬ pc (pKw u n 3 (qw9 u n W H s)) = 0 := by omega
      have e1 : pcR u n W H M v s = (pKw u n 3 (qw9 u n W H s), M) := pcQ_0 c142n
      refine h _ L i_135 (((((((hfr).trans (hf_50.mono PRd_s)).trans (hf_64.mono PRd_s)).trans (hf_79.mono PRd_s)).trans (hf_88.mono PRd_s)).trans (hf_94.mono PRd_s)).trans (hf_135.mono PRd_s)) (Fr.refl L) ?_ ?_ (by omega)
      · rw [e1]; exact hS_135
      · rw [e1]; exact hM135
    · conv => whnf
      have c142n : pc (pKw u n 3 (qw9 u n W H s)) = 0 := by omega
      have z9 : pc (qw9 u n W H s) = 0 := (pKw_g c142n).1
      have z8 : pc (pNu u n 0 3 (qw7 u n W H s)) = 0 := by rw [e9] at z9; exact z9
      have z7 := pNu_g z8
      have z6 : pc (pNu u n 0 ((H : Int) - 1) (qw5 u n W s)) = 0 := (pKw_g z7.1).1
      have z5 := pNu_g z6
      have z5b : pc (pNu u n 0 ((W : Int) - 1) (pKw u n 6 s)) = 0 := z5.1
      have z4 := pNu_g z5b
      have zv := hv (pKw_g z4.1).1
      rw [if_pos z5b] at hx
      rw [if_pos z6] at hy
      rw [if_pos z8] at ht
      obtain ⟨f, hfd⟩ : ∃ f : Int, f = 2 * t := ⟨_, rfl⟩
      have ev : v = ((v.toNat : Nat) : Int) := by omega
      have ek : f = ((f.toNat : Nat) : Int) := by omega
      have ek9 : 2 * t + 0 = ((f.toNat : Nat) : Int) := by omega
      have exx : nmA u n (pp (pKw u n 6 s)) = x := hx.symm
      have eyy : nmA u n (pp (qw5 u n W s)) = y := hy.symm
      have eff : 2 * nmA u n (pp (qw7 u n W H s)) + (if tkU u n (pp (qw8 u n W H s)) = 8 then 1 else 0) = f := by rw [if_neg c109n, ← ht]; omega
      refine zinv0 (s_X11_formOf T  (by omega) ?_)
      conv => whnf
      refine ⟨by decide, _, rfl, ?_⟩
      conv => whnf
      rw [show v = ((v.toNat : Nat) : Int) from ev, show 2 * t + 0 = ((f.toNat : Nat) : Int) from ek9]
      refine zinv0 (s_X8_hindrance T (s := 581) (p := v.toNat) (k := f.toNat) M (by decide) (by exact hF.fr (fun a b g1 g2 => eA a b (by omega) (by omega)) (fun a b _ _ => rfl)) (by exact hw.1) (by exact hM135.1) (by exact hM135.2.1) (by exact hM135.2.2.1) (by omega) (by omega) (by exact ⟨by omega, by omega⟩) (by exact ⟨by omega, by omega⟩) ?_)
      have hwb := @why_b W H M v.toNat (8 * v.toNat + f.toNat) x y
      conv => whnf
      refine ⟨by omega, fun c168 => ?_, fun c168 => ?_⟩
      · conv => whnf
        refine ⟨by decide, _, rfl, ?_⟩
        conv => whnf
        refine zinv0 (s_X10_startBefore T (u := u) (n := n) (c := c) (i := i_135) (by exact hS_135.1) (by exact k6) (by have := hi2_135 c142n; omega) ?_)
        conv => whnf
        refine zinv0 (s_X4_fail T  (by omega) ?_ ?_)
        · intro cha_199
          have hFl := hS_135.fail c142n (k := 3) (o := posA u n (i_135 - 1)) (by omega)
          conv => whnf
          have e1 : pcR u n W H M v s = (pFl 3 (pp (qw9 u n W H s)) (pKw u n 3 (qw9 u n W H s)), M) := by
            unfold pcR
            rw [exx, eyy, eff]
            exact pcQ_1 c142n c168
          refine h _ L i_135 (((((((((hfr).trans (hf_50.mono PRd_s)).trans (hf_64.mono PRd_s)).trans (hf_79.mono PRd_s)).trans (hf_88.mono PRd_s)).trans (hf_94.mono PRd_s)).trans (hf_135.mono PRd_s)).v2 (Or.inl rfl)).v2 (Or.inl rfl)) (Fr.refl L) ?_ ?_ (by omega)
          · rw [e1]
            have g2 : posA u n (i_135 - 1) = pp (qw9 u n W H s) := by rw [hi2_135 c142n]; exact hS9.2.2.2.1
            rw [g2] at hFl
            rw [g2]
            exact hFl
          · rw [e1]; exact hM135.fr w5 (fun a b g1 g2 => by rw [v2_ne (by omega), v2_ne (by omega)]) (fun a b _ _ => rfl)
        · intro ch2a_199
          exfalso; omega
      · conv => whnf
        refine ⟨by decide, _, rfl, ?_⟩
        conv => whnf
        refine ⟨by decide, _, rfl, ?_⟩
        conv => whnf
        refine zinv0 (s_X5_put T  (by rfl) (by rfl) (by rfl) (by first | assumption | omega | rfl | decide) (by omega) ?_)
        conv => whnf
        have e1 : pcR u n W H M v s = (pKw u n 3 (qw9 u n W H s), putM M v.toNat x y f) := by
          unfold pcR
          rw [exx, eyy, eff]
          exact pcQ_2 c142n c168
        refine h _ L i_135 ((((((((((hfr).trans (hf_50.mono PRd_s)).trans (hf_64.mono PRd_s)).trans (hf_79.mono PRd_s)).trans (hf_88.mono PRd_s)).trans (hf_94.mono PRd_s)).trans (hf_135.mono PRd_s)).v2 (Or.inr (Or.inr ⟨by omega, by omega⟩))).v2 (Or.inr (Or.inr ⟨by omega, by omega⟩))).v2 (Or.inr (Or.inr ⟨by omega, by omega⟩))) (Fr.refl L) ?_ ?_ (by omega)
        · rw [e1]; exact hS_135.fr2 (fun a b g => by rw [v2_ne (by omega), v2_ne (by omega), v2_ne (by omega)])
        · rw [e1, ← ek]; exact hM135.put8 v.toNat x y f
  · conv => whnf
    refine ⟨by decide, fun c => absurd c (by decide), fun _ => ?_⟩
    conv => whnf
    have c109n : tkU u n (pp (qw8 u n W H s)) = 8 := by rw [← hS8.2.2.2.1]; exact Nat.add_left_cancel (n := 10020) c109
    have e9 : qw9 u n W H s = pKw u n 8 (qw8 u n W H s) := if_pos c109n
    refine zinv0 (s_X4_skip T (w := 8) (u := u) (n := n) (c := c) (i := i_94) (s := qw8 u n W H s) (by exact hS8) (by decide) ?_)
    intro I_128 i_128 hf_128 hS_128 hi_128 hi2_128
    have hS9 : PSt I_128 u n c i_128 (qw9 u n W H s) := by rw [e9]; exact hS_128
    conv => whnf
    refine zinv0 (s_X4_skip T (w := 3) (u := u) (n := n) (c := c) (i := i_128) (s := qw9 u n W H s) (by exact hS9) (by decide) ?_)
    intro I_135 i_135 hf_135 hS_135 hi_135 hi2_135
    have eA : ∀ (a : Nat) (b : Int), ¬ a = 575 → ¬ (a = 576 ∧ b = 5) → I_135 a b = I a b := fun a b g1 g2 => by rw [PRd_o hf_135 a b g1 g2, PRd_o hf_128 a b g1 g2, PRd_o hf_94 a b g1 g2, PRd_o hf_88 a b g1 g2, PRd_o hf_79 a b g1 g2, PRd_o hf_64 a b g1 g2, PRd_o hf_50 a b g1 g2]
    have hM135 : StC I_135 L 581 W H M := hM.fr w5 (fun a b g1 g2 => eA a b (by omega) (by omega)) (fun a b _ _ => rfl)
    have hpc := hS_135.2.1
    have hpc4 := hS_135.2.2.2.2.1
    conv => whnf
    refine ⟨by decide, ?_⟩
    conv => whnf
    refine ⟨by omega, fun c142 => ?_, fun c142 => ?_⟩
    · conv => whnf
      have c142n : ¬ pc (pKw u n 3 (qw9 u n W H s)) = 0 := by omega
      have e1 : pcR u n W H M v s = (pKw u n 3 (qw9 u n W H s), M) := pcQ_0 c142n
      refine h _ L i_135 ((((((((hfr).trans (hf_50.mono PRd_s)).trans (hf_64.mono PRd_s)).trans (hf_79.mono PRd_s)).trans (hf_88.mono PRd_s)).trans (hf_94.mono PRd_s)).trans (hf_128.mono PRd_s)).trans (hf_135.mono PRd_s)) (Fr.refl L) ?_ ?_ (by omega)
      · rw [e1]; exact hS_135
      · rw [e1]; exact hM135
    · conv => whnf
      have c142n : pc (pKw u n 3 (qw9 u n W H s)) = 0 := by omega
      have z9 : pc (qw9 u n W H s) = 0 := (pKw_g c142n).1
      have z8 : pc (pNu u n 0 3 (qw7 u n W H s)) = 0 := by rw [e9] at z9; exact (pKw_g z9).1
      have z7 := pNu_g z8
      have z6 : pc (pNu u n 0 ((H : Int) - 1) (qw5 u n W s)) = 0 := (pKw_g z7.1).1
      have z5 := pNu_g z6
      have z5b : pc (pNu u n 0 ((W : Int) - 1) (pKw u n 6 s)) = 0 := z5.1
      have z4 := pNu_g z5b
      have zv := hv (pKw_g z4.1).1
      rw [if_pos z5b] at hx
      rw [if_pos z6] at hy
      rw [if_pos z8] at ht
      obtain ⟨f, hfd⟩ : ∃ f : Int, f = 2 * t + 1 := ⟨_, rfl⟩
      have ev : v = ((v.toNat : Nat) : Int) := by omega
      have ek : f = ((f.toNat : Nat) : Int) := by omega
      have ek9 : 2 * t + 1 = ((f.toNat : Nat) : Int) := by omega
      have exx : nmA u n (pp (pKw u n 6 s)) = x := hx.symm
      have eyy : nmA u n (pp (qw5 u n W s)) = y := hy.symm
      have eff : 2 * nmA u n (pp (qw7 u n W H s)) + (if tkU u n (pp (qw8 u n W H s)) = 8 then 1 else 0) = f := by rw [if_pos c109n, ← ht]; omega
      refine zinv0 (s_X11_formOf T  (by omega) ?_)
      conv => whnf
      refine ⟨by decide, _, rfl, ?_⟩
      conv => whnf
      rw [show v = ((v.toNat : Nat) : Int) from ev, show 2 * t + 1 = ((f.toNat : Nat) : Int) from ek9]
      refine zinv0 (s_X8_hindrance T (s := 581) (p := v.toNat) (k := f.toNat) M (by decide) (by exact hF.fr (fun a b g1 g2 => eA a b (by omega) (by omega)) (fun a b _ _ => rfl)) (by exact hw.1) (by exact hM135.1) (by exact hM135.2.1) (by exact hM135.2.2.1) (by omega) (by omega) (by exact ⟨by omega, by omega⟩) (by exact ⟨by omega, by omega⟩) ?_)
      have hwb := @why_b W H M v.toNat (8 * v.toNat + f.toNat) x y
      conv => whnf
      refine ⟨by omega, fun c168 => ?_, fun c168 => ?_⟩
      · conv => whnf
        refine ⟨by decide, _, rfl, ?_⟩
        conv => whnf
        refine zinv0 (s_X10_startBefore T (u := u) (n := n) (c := c) (i := i_135) (by exact hS_135.1) (by exact k6) (by have := hi2_135 c142n; omega) ?_)
        conv => whnf
        refine zinv0 (s_X4_fail T  (by omega) ?_ ?_)
        · intro cha_199
          have hFl := hS_135.fail c142n (k := 3) (o := posA u n (i_135 - 1)) (by omega)
          conv => whnf
          have e1 : pcR u n W H M v s = (pFl 3 (pp (qw9 u n W H s)) (pKw u n 3 (qw9 u n W H s)), M) := by
            unfold pcR
            rw [exx, eyy, eff]
            exact pcQ_1 c142n c168
          refine h _ L i_135 ((((((((((hfr).trans (hf_50.mono PRd_s)).trans (hf_64.mono PRd_s)).trans (hf_79.mono PRd_s)).trans (hf_88.mono PRd_s)).trans (hf_94.mono PRd_s)).trans (hf_128.mono PRd_s)).trans (hf_135.mono PRd_s)).v2 (Or.inl rfl)).v2 (Or.inl rfl)) (Fr.refl L) ?_ ?_ (by omega)
          · rw [e1]
            have g2 : posA u n (i_135 - 1) = pp (qw9 u n W H s) := by rw [hi2_135 c142n]; exact hS9.2.2.2.1
            rw [g2] at hFl
            rw [g2]
            exact hFl
          · rw [e1]; exact hM135.fr w5 (fun a b g1 g2 => by rw [v2_ne (by omega), v2_ne (by omega)]) (fun a b _ _ => rfl)
        · intro ch2a_199
          exfalso; omega
      · conv => whnf
        refine ⟨by decide, _, rfl, ?_⟩
        conv => whnf
        refine ⟨by decide, _, rfl, ?_⟩
        conv => whnf
        refine zinv0 (s_X5_put T  (by rfl) (by rfl) (by rfl) (by first | assumption | omega | rfl | decide) (by omega) ?_)
        conv => whnf
        have e1 : pcR u n W H M v s = (pKw u n 3 (qw9 u n W H s), putM M v.toNat x y f) := by
          unfold pcR
          rw [exx, eyy, eff]
          exact pcQ_2 c142n c168
        refine h _ L i_135 (((((((((((hfr).trans (hf_50.mono PRd_s)).trans (hf_64.mono PRd_s)).trans (hf_79.mono PRd_s)).trans (hf_88.mono PRd_s)).trans (hf_94.mono PRd_s)).trans (hf_128.mono PRd_s)).trans (hf_135.mono PRd_s)).v2 (Or.inr (Or.inr ⟨by omega, by omega⟩))).v2 (Or.inr (Or.inr ⟨by omega, by omega⟩))).v2 (Or.inr (Or.inr ⟨by omega, by omega⟩))) (Fr.refl L) ?_ ?_ (by omega)
        · rw [e1]; exact hS_135.fr2 (fun a b g => by rw [v2_ne (by omega), v2_ne (by omega), v2_ne (by omega)])
        · rw [e1, ← ek]; exact hM135.put8 v.toNat x y f
end
