/-! THE REFERENCE, TEXTS 14: a piece 1 -/
section
variable {Ln : Nat} {xs : Nat → Int32} {CZ : Nat → ZC} {RZ : Nat → Nat → ZQ → ZP}
/-- a piece's cells -/
def PRp : Nat → Int → Prop := fun a b => a = 605 ∨ a = 620 ∨ (a = 603 ∧ 53 ≤ b ∧ b ≤ 58)
theorem PTm_p : ∀ a b, PTm a b → PRp a b := fun a b h => by unfold PTm at h; unfold PRp; omega
theorem P57_p : ∀ a b, P57 a b → PRp a b := fun a b h => by unfold P57 at h; unfold PRp; omega
theorem DrM.put {I I' : ZI} {M : Mo} (h : DrM I M) (hm : mN M ≤ 8) {p : Nat} {x y t f : Int} (hp : p < 7) (ht : 0 ≤ t) (hf : f = 0 ∨ f = 1) (hI : ∀ b, I' 605 b = (v2 (v2 (v2 (v2 I 605 (1 + 4 * (p : Int) + 0) x) 605 (1 + 4 * (p : Int) + 1) y) 605 (1 + 4 * (p : Int) + 2) t) 605 (1 + 4 * (p : Int) + 3) f) 605 b) : DrM I' (putM M p x y (2 * t + f)) := by
  refine ⟨(h.1.put hm hp ht hf).fr hm (fun j _ _ => hI _), fun i h1 h2 => ?_⟩
  have h1' : 29 + 18 * mN M ≤ i := h1
  rw [hI, v2_ne (by omega), v2_ne (by omega), v2_ne (by omega), v2_ne (by omega)]
  exact h.2 i h1' h2
theorem s_scansG (T : ZTh (XX Ln xs) CZ RZ) {d b : Nat} {u : Nat → Int} {n : Nat} {s : PE}  {I : ZI} {L : ZL} {Q : ZQ} (hS : PSm I u n s) (h0 : pc s = 0) (h : ∀ I', Fr PTm I I' → PSm I' u n (pGo u n s) → Q (.inl none) I' L) : CZ (d + 3) k_X12_scans [.inr (.ref 603, 13)] b I L Q := by
  obtain ⟨m1, ⟨m2, m3, m4⟩, m5, m6, m7, m8⟩ := id hS
  obtain ⟨g1, g2, g3⟩ := m5 h0
  obtain ⟨g4, g5, g6⟩ := nx_le g1 g2
  refine s_X12_scans T (q := if n ≤ pp s then pp s else tE u n (pp s)) (n := n) u m1 g4 g3.2.1 m6 (fun I8 hf hz hk => ?_)
  rw [nx_sc g1] at hk
  refine h I8 (hf.mono PSn_t) ?_
  rw [pGo_0 h0]
  refine ⟨m1.sn hf, ⟨Nat.zero_le _, ?_, fun e => absurd rfl e⟩, fun _ => ⟨g5, g6, hk⟩, hz, ?_⟩
  · rw [hf _ _ (by unfold PSn; omega), m3, h0]; rfl
  · rw [hk.2.2.1]; exact sort_b
theorem l_mpB (T : ZTh (XX Ln xs) CZ RZ) {d b : Nat} {Q : ZQ} {W H v : Nat} {M : Mo} {u : Nat → Int} {n : Nat} {s : PE} {I : ZI} {L : ZL} (hS : PSm I u n s) (hd : DrM I M) (hm8 : mN M ≤ 8) (hT : TabOK I) (hw : Wq W H M) (hv : v < 7) (hW : I 603 5 = W) (hH : I 603 6 = H) (h : ∀ I', Fr PRp I I' → PSm I' u n (pcR u n W H M v s).1 → DrM I' (pcR u n W H M v s).2 → Q (.inl none) I' L) : RZ (d + 5) k_X12_readsPiece Q 85 [.inr (.ref 603, 13), .inl ((v : Int)), zj, zj, zj, zj] [] b I L := by
  obtain ⟨⟨w1, w2, w3, w4⟩, -, -⟩ := id hw
  refine T.go [] 300 ?_
  conv => whnf
  refine zinv0 (s_X12_needs T 6 (u := u) (n := n) (s := s) (by exact hS) (by omega) (by rfl) ?_)
  intro I_89 hf_89 hS_89
  conv => whnf
  refine ⟨by decide, ?_⟩
  conv => whnf
  rw [show I_89 603 5 = W from (hf_89 _ _ (by unfold PTm; omega)).trans hW]
  refine zinv0 (s_X12_reads T (u := u) (n := n) (s := pKw u n 6 s) (by exact hS_89) (by decide) (by exact ⟨by omega, by omega⟩) ?_)
  intro I_100 hf_100 hS_100
  have hS5 : PSm I_100 u n (qw5 u n W s) := hS_100
  obtain ⟨x, hx⟩ : ∃ x : Int, x = (if pc (pNu u n 0 ((W : Int) - 1) (pKw u n 6 s)) = 0 then nmA u n (pp (pKw u n 6 s)) else 0) := ⟨_, rfl⟩
  rw [← hx]
  conv => whnf
  refine ⟨by decide, ?_⟩
  conv => whnf
  rw [show I_100 603 6 = H from (hf_100 _ _ (by unfold PTm; omega)).trans ((hf_89 _ _ (by unfold PTm; omega)).trans hH)]
  refine zinv0 (s_X12_reads T (u := u) (n := n) (s := qw5 u n W s) (by exact hS5) (by decide) (by exact ⟨by omega, by omega⟩) ?_)
  intro I_112 hf_112 hS_112
  obtain ⟨y, hy⟩ : ∃ y : Int, y = (if pc (pNu u n 0 ((H : Int) - 1) (qw5 u n W s)) = 0 then nmA u n (pp (qw5 u n W s)) else 0) := ⟨_, rfl⟩
  rw [← hy]
  conv => whnf
  refine zinv0 (s_X12_needs T 7 (u := u) (n := n) (s := pNu u n 0 ((H : Int) - 1) (qw5 u n W s)) (by exact hS_112) (by omega) (by rfl) ?_)
  intro I_120 hf_120 hS_120
  have hS7 : PSm I_120 u n (qw7 u n W H s) := hS_120
  conv => whnf
  refine zinv0 (s_X12_reads T (u := u) (n := n) (s := qw7 u n W H s) (by exact hS7) (by decide) (by decide) ?_)
  intro I_126 hf_126 hS_126
  have hS8 : PSm I_126 u n (qw8 u n W H s) := hS_126
  obtain ⟨t, ht⟩ : ∃ t : Int, t = (if pc (pNu u n 0 3 (qw7 u n W H s)) = 0 then nmA u n (pp (qw7 u n W H s)) else 0) := ⟨_, rfl⟩
  rw [← ht]
  have htb : 0 ≤ t ∧ t ≤ 3 := by
    by_cases e : pc (pNu u n 0 3 (qw7 u n W H s)) = 0
    · rw [if_pos e] at ht
      have := pNu_g e
      omega
    · rw [if_neg e] at ht
      omega
  have hxb : 0 ≤ x ∧ x ≤ 12 := by
    by_cases e : pc (pNu u n 0 ((W : Int) - 1) (pKw u n 6 s)) = 0
    · rw [if_pos e] at hx
      have := pNu_g e
      omega
    · rw [if_neg e] at hx
      omega
  have hyb : 0 ≤ y ∧ y ≤ 12 := by
    by_cases e : pc (pNu u n 0 ((H : Int) - 1) (qw5 u n W s)) = 0
    · rw [if_pos e] at hy
      have := pNu_g e
      omega
    · rw [if_neg e] at hy
      omega
  obtain ⟨tn, rfl⟩ := Int.eq_ofNat_of_zero_le htb.1
  conv => whnf
  refine zinv0 (s_X12_isWord T 8 (u := u) (n := n) (s := qw8 u n W H s) (by exact hS8) (by omega) (by rfl) ?_ ?_)
  · intro cha_135
    have e8 : tkU u n (pp (qw8 u n W H s)) = 8 := cha_135.2
    have e9 : qw9 u n W H s = pKw u n 8 (qw8 u n W H s) := if_pos e8
    conv => whnf
    refine ⟨by decide, fun c => absurd c (by decide), fun _ => ?_⟩
    conv => whnf
    refine ⟨by decide, fun c => absurd c (by decide), fun _ => ?_⟩
    conv => whnf
    refine zinv0 (s_scansG T (u := u) (n := n) (s := qw8 u n W H s) (by exact hS8) (by exact cha_135.1) ?_)
    intro I_155 hf_155 hS_155
    have hS9 : PSm I_155 u n (qw9 u n W H s) := by rw [e9, pKw_0 cha_135.1 e8, ← pGo_0 cha_135.1]; exact hS_155
    have m78 := hS9.2.2.2.2
    conv => whnf
    refine ⟨by decide, ?_⟩
    conv => whnf
    refine ⟨by exact ⟨⟨by omega, by omega⟩, ⟨by omega, by omega⟩⟩, fun c164 => ?_, fun c164 => ?_⟩
    · conv => whnf
      refine zinv0 (s_X12_must T (w := 1) (f := 0) (u := u) (n := n) (s := qw9 u n W H s) (by exact hS9) (by omega) (by omega) ?_)
      intro I_173 hf_173 hS_173
      have eA : ∀ (a : Nat) (b : Int), ¬ (a = 603 ∧ 53 ≤ b ∧ b ≤ 58) → I_173 a b = I a b := fun a b g => by rw [hf_173 _ _ (by unfold P57; omega), hf_155 _ _ (by unfold PTm; omega), hf_126 _ _ (by unfold PTm; omega), hf_120 _ _ (by unfold PTm; omega), hf_112 _ _ (by unfold PTm; omega), hf_100 _ _ (by unfold PTm; omega), hf_89 _ _ (by unfold PTm; omega)]
      have fr173 : Fr PRp I I_173 := fun a b g => eA a b (fun c => g (by unfold PRp; omega))
      have hT9 : TabOK I_173 := hT.fr (fun a b _ _ => eA _ _ (by omega))
      have hd9 : DrM I_173 M := hd.fr hm8 (fun b => eA _ _ (by omega))
      obtain ⟨mm1, ⟨mm2, mm3, mm4⟩, mm5, mm6, mm7, mm8⟩ := id hS9
      conv => whnf
      refine ⟨by decide, _, rfl, ?_⟩
      conv => whnf
      refine zinv0 (s_X12_laysOwners T (W := W) (H := H) (M := M) (by exact hT9) (by decide) (by exact hd9.1) (by exact hw) ?_)
      intro I_181 hf_181 hv_181
      have hS181 := hS_173.fr (fun a b g => hf_181 _ _ (by omega)) (I' := I_181)
      conv => whnf
      refine zinv0 (s_X12_isGood T (u := u) (n := n) (s := pMu 0 1 (qw9 u n W H s)) (by exact hS181) ?_ ?_)
      · intro cha_186
        exact absurd cha_186 (show ¬ pc (pMu 0 1 (qw9 u n W H s)) = 0 by rw [pMu_0]; exact pFl_c (by decide))
      · intro ch2a_186
        conv => whnf
        refine ⟨by decide, fun _ => ?_, fun c => absurd c (by decide)⟩
        conv => whnf
        refine zinv0 (s_X12_must T (w := 3) (f := 1) (u := u) (n := n) (s := pMu 0 1 (qw9 u n W H s)) (by exact hS181) (by omega) (by omega) ?_)
        intro I_212 hf_212 hS_212
        conv => whnf
        refine zinv0 (s_X12_isGood T (u := u) (n := n) (s := pMu 1 3 (pMu 0 1 (qw9 u n W H s))) (by exact hS_212) ?_ ?_)
        · intro cha_216
          exact absurd cha_216 (show ¬ pc (pMu 1 3 (pMu 0 1 (qw9 u n W H s))) = 0 by rw [pMu_1]; exact ch2a_186)
        · intro ch2a_216
          conv => whnf
          refine ⟨by decide, fun _ => ?_, fun c => absurd c (by decide)⟩
          conv => whnf
          refine zinv0 (s_X12_goesOn T (u := u) (n := n) (s := pMu 1 3 (pMu 0 1 (qw9 u n W H s))) (by exact hS_212) ?_)
          intro I_237 hf_237 hS_237
          conv => whnf
          have eC : ∀ b, I_237 605 b = I 605 b := fun b => by rw [hf_237 _ _ (by unfold PTm; omega), hf_212 _ _ (by unfold P57; omega), hf_181 _ _ (by omega), eA _ _ (by omega)]
          have hb9 : ¬ pc (pMu 0 1 (qw9 u n W H s)) = 0 := ch2a_186
          rw [pMu_b hb9, pGo_1 hb9] at hS_237
          have ek : pMu 0 1 (qw9 u n W H s) = pKw u n 3 (qw9 u n W H s) := by
            have q := pKw_go (u := u) (n := n) (w := 3) (s := qw9 u n W H s) (f := 0) (fun g => by
              obtain ⟨t1, t2, t3⟩ := mm5 g
              rw [t3.2.2.1, sort_3 t2] at c164
              exact Or.inr ⟨rfl, c164⟩)
            rw [pGo_1 hb9] at q
            exact q
          rw [ek] at hb9 hS_237
          have e1 : pcR u n W H M v s = (pKw u n 3 (qw9 u n W H s), M) := pcQ_0 hb9
          rw [e1] at h
          exact h I_237 (((fr173.trans (hf_181.mono (fun a b c => Or.inr (Or.inl c)))).trans (hf_212.mono P57_p)).trans (hf_237.mono PTm_p)) hS_237 (hd.fr hm8 eC)
    · conv => whnf
      refine zinv0 (s_X12_must T (w := 1) (f := 1) (u := u) (n := n) (s := qw9 u n W H s) (by exact hS9) (by omega) (by omega) ?_)
      intro I_173 hf_173 hS_173
      have eA : ∀ (a : Nat) (b : Int), ¬ (a = 603 ∧ 53 ≤ b ∧ b ≤ 58) → I_173 a b = I a b := fun a b g => by rw [hf_173 _ _ (by unfold P57; omega), hf_155 _ _ (by unfold PTm; omega), hf_126 _ _ (by unfold PTm; omega), hf_120 _ _ (by unfold PTm; omega), hf_112 _ _ (by unfold PTm; omega), hf_100 _ _ (by unfold PTm; omega), hf_89 _ _ (by unfold PTm; omega)]
      have fr173 : Fr PRp I I_173 := fun a b g => eA a b (fun c => g (by unfold PRp; omega))
      have hT9 : TabOK I_173 := hT.fr (fun a b _ _ => eA _ _ (by omega))
      have hd9 : DrM I_173 M := hd.fr hm8 (fun b => eA _ _ (by omega))
      obtain ⟨mm1, ⟨mm2, mm3, mm4⟩, mm5, mm6, mm7, mm8⟩ := id hS9
      conv => whnf
      refine ⟨by decide, _, rfl, ?_⟩
      conv => whnf
      refine zinv0 (s_X12_laysOwners T (W := W) (H := H) (M := M) (by exact hT9) (by decide) (by exact hd9.1) (by exact hw) ?_)
      intro I_181 hf_181 hv_181
      have hS181 := hS_173.fr (fun a b g => hf_181 _ _ (by omega)) (I' := I_181)
      conv => whnf
      refine zinv0 (s_X12_isGood T (u := u) (n := n) (s := pMu 1 1 (qw9 u n W H s)) (by exact hS181) ?_ ?_)
      · intro cha_186
        have z9 : pc (qw9 u n W H s) = 0 := by
          have q := cha_186
          rw [pMu_1] at q
          exact q
        obtain ⟨t1, t2, t3⟩ := mm5 z9
        rw [t3.2.2.1, sort_3 t2] at c164
        have z8 : pc (pNu u n 0 3 (qw7 u n W H s)) = 0 := by rw [e9] at z9; exact (pKw_g z9).1
        have z7 := pNu_g z8
        have z6 : pc (pNu u n 0 ((H : Int) - 1) (qw5 u n W s)) = 0 := (pKw_g z7.1).1
        have z5 := pNu_g z6
        have z5b : pc (pNu u n 0 ((W : Int) - 1) (pKw u n 6 s)) = 0 := z5.1
        have z4 := pNu_g z5b
        rw [if_pos z5b] at hx
        rw [if_pos z6] at hy
        rw [if_pos z8] at ht
        have exx : nmA u n (pp (pKw u n 6 s)) = x := hx.symm
        have eyy : nmA u n (pp (qw5 u n W s)) = y := hy.symm
        have eff : 2 * nmA u n (pp (qw7 u n W H s)) + (if tkU u n (pp (qw8 u n W H s)) = 8 then 1 else 0) = ((2 * tn + 1 : Nat) : Int) := by rw [if_pos e8, ← ht]; omega
        have ek3 : pKw u n 3 (qw9 u n W H s) = pGo u n (qw9 u n W H s) := by rw [pKw_0 z9 c164, pGo_0 z9]
        have zk3 : pc (pKw u n 3 (qw9 u n W H s)) = 0 := by rw [pKw_0 z9 c164]; rfl
        have ev : ((v : Nat) : Int).toNat = v := Int.toNat_natCast v
        have ef2 : ((2 * tn + 1 : Nat) : Int).toNat = 2 * tn + 1 := Int.toNat_natCast _
        conv => whnf
        refine ⟨by decide, fun c => absurd c (by decide), fun _ => ?_⟩
        conv => whnf
        refine zinv0 (s_X12_reason T (p := v) (t := tn) (f := 1) (W := W) (H := H) (x := x) (y := y) M (by exact hT9.fr (fun a b _ _ => hf_181 _ _ (by omega))) (by exact hv_181) (by exact hw) (by exact (hf_181 _ _ (by omega)).trans ((eA _ _ (by omega)).trans hW)) (by exact (hf_181 _ _ (by omega)).trans ((eA _ _ (by omega)).trans hH)) (by exact hv) (by omega) (by exact ⟨by omega, by omega⟩) (by exact ⟨by omega, by omega⟩) ?_)
        have hwb := @why_b W H M v (8 * v + (2 * tn + 1)) x y
        conv => whnf
        refine ⟨by omega, fun c203 => ?_, fun c203 => ?_⟩
        · conv => whnf
          refine zinv0 (s_X12_must T (w := 3) (f := 0) (u := u) (n := n) (s := pMu 1 1 (qw9 u n W H s)) (by exact hS181) (by omega) (by omega) ?_)
          intro I_212 hf_212 hS_212
          conv => whnf
          refine zinv0 (s_X12_isGood T (u := u) (n := n) (s := pMu 0 3 (pMu 1 1 (qw9 u n W H s))) (by exact hS_212) ?_ ?_)
          · intro cha_216
            exact absurd cha_216 (show ¬ pc (pMu 0 3 (pMu 1 1 (qw9 u n W H s))) = 0 by rw [pMu_0]; exact pFl_c (by decide))
          · intro ch2a_216
            conv => whnf
            refine ⟨by decide, fun _ => ?_, fun c => absurd c (by decide)⟩
            conv => whnf
            refine zinv0 (s_X12_goesOn T (u := u) (n := n) (s := pMu 0 3 (pMu 1 1 (qw9 u n W H s))) (by exact hS_212) ?_)
            intro I_237 hf_237 hS_237
            conv => whnf
            have eC : ∀ b, I_237 605 b = I 605 b := fun b => by rw [hf_237 _ _ (by unfold PTm; omega), hf_212 _ _ (by unfold P57; omega), hf_181 _ _ (by omega), eA _ _ (by omega)]
            rw [pMu_1, pMu_0, pGo_1 (pFl_c (by decide))] at hS_237
            have e1 : pcR u n W H M v s = (pFl 3 (pp (qw9 u n W H s)) (pKw u n 3 (qw9 u n W H s)), M) := by
              unfold pcR
              rw [exx, eyy, eff]
              refine pcQ_1 zk3 ?_
              rw [ev, ef2]
              exact c203
            rw [e1] at h
            refine h I_237 (((fr173.trans (hf_181.mono (fun a b c => Or.inr (Or.inl c)))).trans (hf_212.mono P57_p)).trans (hf_237.mono PTm_p)) (hS_237.bad (pFl_c (by decide)) ?_ ?_) (hd.fr hm8 eC)
            · show pc (pFl 3 (pp (qw9 u n W H s)) (pKw u n 3 (qw9 u n W H s))) = _
              rw [pFl_0 zk3, pFl_0 z9]; rfl
            · show po (pFl 3 (pp (qw9 u n W H s)) (pKw u n 3 (qw9 u n W H s))) = _
              rw [pFl_0 zk3, pFl_0 z9]; rfl
        · conv => whnf
          refine zinv0 (s_X12_must T (w := 3) (f := 1) (u := u) (n := n) (s := pMu 1 1 (qw9 u n W H s)) (by exact hS181) (by omega) (by omega) ?_)
          intro I_212 hf_212 hS_212
          conv => whnf
          refine zinv0 (s_X12_isGood T (u := u) (n := n) (s := pMu 1 3 (pMu 1 1 (qw9 u n W H s))) (by exact hS_212) ?_ ?_)
          · intro cha_216
            conv => whnf
            refine ⟨by decide, fun c => absurd c (by decide), fun _ => ?_⟩
            conv => whnf
            refine ⟨by decide, _, rfl, ?_⟩
            conv => whnf
            refine zinv0 (s_X12_puts T  (by decide) (by exact hv) ?_)
            conv => whnf
            refine zinv0 (s_X12_goesOn T (u := u) (n := n) (s := pMu 1 3 (pMu 1 1 (qw9 u n W H s))) (by exact hS_212.fr (fun a b g => by rw [v2_ne (by omega), v2_ne (by omega), v2_ne (by omega), v2_ne (by omega)])) ?_)
            intro I_237 hf_237 hS_237
            conv => whnf
            rw [pMu_1, pMu_1, ← ek3] at hS_237
            have e1 : pcR u n W H M v s = (pKw u n 3 (qw9 u n W H s), putM M v x y ((2 * tn + 1 : Nat) : Int)) := by
              unfold pcR
              rw [exx, eyy, eff]
              have q := pcQ_2 (W := W) (H := H) (M := M) (v := (v : Int)) (x := x) (y := y) (f := ((2 * tn + 1 : Nat) : Int)) (s9 := qw9 u n W H s) zk3 (by rw [ev, ef2]; exact c203)
              rw [ev] at q
              exact q
            rw [e1] at h
            have hd12 : DrM I_212 M := hd.fr hm8 (fun b => by rw [hf_212 _ _ (by unfold P57; omega), hf_181 _ _ (by omega), eA _ _ (by omega)])
            have hdp := hd12.put (I' := I_237) hm8 (p := v) (x := x) (y := y) (t := (tn : Int)) (f := 1) hv (by omega) (by omega) (fun b => hf_237 _ _ (by unfold PTm; omega))
            rw [show 2 * (tn : Int) + 1 = ((2 * tn + 1 : Nat) : Int) by omega] at hdp
            refine h I_237 (Fr.trans (Fr.trans (fr173.trans (hf_181.mono (fun a b c => Or.inr (Or.inl c)))) (hf_212.mono P57_p)) (fun a b g => ?_)) hS_237 hdp
            rw [hf_237 _ _ (fun c => g (PTm_p _ _ c))]
            have g605 : ¬ a = 605 := fun c => g (Or.inl c)
            rw [v2_ne (by omega), v2_ne (by omega), v2_ne (by omega), v2_ne (by omega)]
          · intro ch2a_216
            exact absurd (show pc (pMu 1 3 (pMu 1 1 (qw9 u n W H s))) = 0 by rw [pMu_1, pMu_1]; exact z9) ch2a_216
      · intro ch2a_186
        conv => whnf
        refine ⟨by decide, fun _ => ?_, fun c => absurd c (by decide)⟩
        conv => whnf
        refine zinv0 (s_X12_must T (w := 3) (f := 1) (u := u) (n := n) (s := pMu 1 1 (qw9 u n W H s)) (by exact hS181) (by omega) (by omega) ?_)
        intro I_212 hf_212 hS_212
        conv => whnf
        refine zinv0 (s_X12_isGood T (u := u) (n := n) (s := pMu 1 3 (pMu 1 1 (qw9 u n W H s))) (by exact hS_212) ?_ ?_)
        · intro cha_216
          exact absurd cha_216 (show ¬ pc (pMu 1 3 (pMu 1 1 (qw9 u n W H s))) = 0 by rw [pMu_1]; exact ch2a_186)
        · intro ch2a_216
          conv => whnf
          refine ⟨by decide, fun _ => ?_, fun c => absurd c (by decide)⟩
          conv => whnf
          refine zinv0 (s_X12_goesOn T (u := u) (n := n) (s := pMu 1 3 (pMu 1 1 (qw9 u n W H s))) (by exact hS_212) ?_)
          intro I_237 hf_237 hS_237
          conv => whnf
          have eC : ∀ b, I_237 605 b = I 605 b := fun b => by rw [hf_237 _ _ (by unfold PTm; omega), hf_212 _ _ (by unfold P57; omega), hf_181 _ _ (by omega), eA _ _ (by omega)]
          have hb9 : ¬ pc (pMu 1 1 (qw9 u n W H s)) = 0 := ch2a_186
          rw [pMu_b hb9, pGo_1 hb9] at hS_237
          have ek : pMu 1 1 (qw9 u n W H s) = pKw u n 3 (qw9 u n W H s) := by
            have q := pKw_go (u := u) (n := n) (w := 3) (s := qw9 u n W H s) (f := 1) (fun g => by
              obtain ⟨t1, t2, t3⟩ := mm5 g
              rw [t3.2.2.1, sort_3 t2] at c164
              exact Or.inl ⟨rfl, c164⟩)
            rw [pGo_1 hb9] at q
            exact q
          rw [ek] at hb9 hS_237
          have e1 : pcR u n W H M v s = (pKw u n 3 (qw9 u n W H s), M) := pcQ_0 hb9
          rw [e1] at h
          exact h I_237 (((fr173.trans (hf_181.mono (fun a b c => Or.inr (Or.inl c)))).trans (hf_212.mono P57_p)).trans (hf_237.mono PTm_p)) hS_237 (hd.fr hm8 eC)
  · intro ch2a_135
    have e8 := ch2a_135
    have e9 : qw9 u n W H s = qw8 u n W H s := by
      unfold qw9
      by_cases c : tkU u n (pp (qw8 u n W H s)) = 8
      · rw [if_pos c, pKw_2 (fun g => e8 ⟨g, c⟩)]
      · rw [if_neg c]
    have hS9 : PSm I_126 u n (qw9 u n W H s) := by rw [e9]; exact hS8
    have m78 := hS8.2.2.2.2
    conv => whnf
    refine ⟨by decide, fun _ => ?_, fun c => absurd c (by decide)⟩
    conv => whnf
    refine ⟨by decide, fun _ => ?_, fun c => absurd c (by decide)⟩
    conv => whnf
    refine ⟨by decide, ?_⟩
    conv => whnf
    refine ⟨by exact ⟨⟨by omega, by omega⟩, ⟨by omega, by omega⟩⟩, fun c164 => ?_, fun c164 => ?_⟩
    · conv => whnf
      refine zinv0 (s_X12_must T (w := 1) (f := 0) (u := u) (n := n) (s := qw9 u n W H s) (by exact hS9) (by omega) (by omega) ?_)
      intro I_173 hf_173 hS_173
      have eA : ∀ (a : Nat) (b : Int), ¬ (a = 603 ∧ 53 ≤ b ∧ b ≤ 58) → I_173 a b = I a b := fun a b g => by rw [hf_173 _ _ (by unfold P57; omega), hf_126 _ _ (by unfold PTm; omega), hf_120 _ _ (by unfold PTm; omega), hf_112 _ _ (by unfold PTm; omega), hf_100 _ _ (by unfold PTm; omega), hf_89 _ _ (by unfold PTm; omega)]
      have fr173 : Fr PRp I I_173 := fun a b g => eA a b (fun c => g (by unfold PRp; omega))
      have hT9 : TabOK I_173 := hT.fr (fun a b _ _ => eA _ _ (by omega))
      have hd9 : DrM I_173 M := hd.fr hm8 (fun b => eA _ _ (by omega))
      obtain ⟨mm1, ⟨mm2, mm3, mm4⟩, mm5, mm6, mm7, mm8⟩ := id hS9
      conv => whnf
      refine ⟨by decide, _, rfl, ?_⟩
      conv => whnf
      refine zinv0 (s_X12_laysOwners T (W := W) (H := H) (M := M) (by exact hT9) (by decide) (by exact hd9.1) (by exact hw) ?_)
      intro I_181 hf_181 hv_181
      have hS181 := hS_173.fr (fun a b g => hf_181 _ _ (by omega)) (I' := I_181)
      conv => whnf
      refine zinv0 (s_X12_isGood T (u := u) (n := n) (s := pMu 0 1 (qw9 u n W H s)) (by exact hS181) ?_ ?_)
      · intro cha_186
        exact absurd cha_186 (show ¬ pc (pMu 0 1 (qw9 u n W H s)) = 0 by rw [pMu_0]; exact pFl_c (by decide))
      · intro ch2a_186
        conv => whnf
        refine ⟨by decide, fun _ => ?_, fun c => absurd c (by decide)⟩
        conv => whnf
        refine zinv0 (s_X12_must T (w := 3) (f := 1) (u := u) (n := n) (s := pMu 0 1 (qw9 u n W H s)) (by exact hS181) (by omega) (by omega) ?_)
        intro I_212 hf_212 hS_212
        conv => whnf
        refine zinv0 (s_X12_isGood T (u := u) (n := n) (s := pMu 1 3 (pMu 0 1 (qw9 u n W H s))) (by exact hS_212) ?_ ?_)
        · intro cha_216
          exact absurd cha_216 (show ¬ pc (pMu 1 3 (pMu 0 1 (qw9 u n W H s))) = 0 by rw [pMu_1]; exact ch2a_186)
        · intro ch2a_216
          conv => whnf
          refine ⟨by decide, fun _ => ?_, fun c => absurd c (by decide)⟩
          conv => whnf
          refine zinv0 (s_X12_goesOn T (u := u) (n := n) (s := pMu 1 3 (pMu 0 1 (qw9 u n W H s))) (by exact hS_212) ?_)
          intro I_237 hf_237 hS_237
          conv => whnf
          have eC : ∀ b, I_237 605 b = I 605 b := fun b => by rw [hf_237 _ _ (by unfold PTm; omega), hf_212 _ _ (by unfold P57; omega), hf_181 _ _ (by omega), eA _ _ (by omega)]
          have hb9 : ¬ pc (pMu 0 1 (qw9 u n W H s)) = 0 := ch2a_186
          rw [pMu_b hb9, pGo_1 hb9] at hS_237
          have ek : pMu 0 1 (qw9 u n W H s) = pKw u n 3 (qw9 u n W H s) := by
            have q := pKw_go (u := u) (n := n) (w := 3) (s := qw9 u n W H s) (f := 0) (fun g => by
              obtain ⟨t1, t2, t3⟩ := mm5 g
              rw [t3.2.2.1, sort_3 t2] at c164
              exact Or.inr ⟨rfl, c164⟩)
            rw [pGo_1 hb9] at q
            exact q
          rw [ek] at hb9 hS_237
          have e1 : pcR u n W H M v s = (pKw u n 3 (qw9 u n W H s), M) := pcQ_0 hb9
          rw [e1] at h
          exact h I_237 (((fr173.trans (hf_181.mono (fun a b c => Or.inr (Or.inl c)))).trans (hf_212.mono P57_p)).trans (hf_237.mono PTm_p)) hS_237 (hd.fr hm8 eC)
    · conv => whnf
      refine zinv0 (s_X12_must T (w := 1) (f := 1) (u := u) (n := n) (s := qw9 u n W H s) (by exact hS9) (by omega) (by omega) ?_)
      intro I_173 hf_173 hS_173
      have eA : ∀ (a : Nat) (b : Int), ¬ (a = 603 ∧ 53 ≤ b ∧ b ≤ 58) → I_173 a b = I a b := fun a b g => by rw [hf_173 _ _ (by unfold P57; omega), hf_126 _ _ (by unfold PTm; omega), hf_120 _ _ (by unfold PTm; omega), hf_112 _ _ (by unfold PTm; omega), hf_100 _ _ (by unfold PTm; omega), hf_89 _ _ (by unfold PTm; omega)]
      have fr173 : Fr PRp I I_173 := fun a b g => eA a b (fun c => g (by unfold PRp; omega))
      have hT9 : TabOK I_173 := hT.fr (fun a b _ _ => eA _ _ (by omega))
      have hd9 : DrM I_173 M := hd.fr hm8 (fun b => eA _ _ (by omega))
      obtain ⟨mm1, ⟨mm2, mm3, mm4⟩, mm5, mm6, mm7, mm8⟩ := id hS9
      conv => whnf
      refine ⟨by decide, _, rfl, ?_⟩
      conv => whnf
      refine zinv0 (s_X12_laysOwners T (W := W) (H := H) (M := M) (by exact hT9) (by decide) (by exact hd9.1) (by exact hw) ?_)
      intro I_181 hf_181 hv_181
      have hS181 := hS_173.fr (fun a b g => hf_181 _ _ (by omega)) (I' := I_181)
      conv => whnf
      refine zinv0 (s_X12_isGood T (u := u) (n := n) (s := pMu 1 1 (qw9 u n W H s)) (by exact hS181) ?_ ?_)
      · intro cha_186
        have z9 : pc (qw9 u n W H s) = 0 := by
          have q := cha_186
          rw [pMu_1] at q
          exact q
        obtain ⟨t1, t2, t3⟩ := mm5 z9
        rw [t3.2.2.1, sort_3 t2] at c164
        have z8 : pc (pNu u n 0 3 (qw7 u n W H s)) = 0 := by rw [e9] at z9; exact z9
        have z7 := pNu_g z8
        have z6 : pc (pNu u n 0 ((H : Int) - 1) (qw5 u n W s)) = 0 := (pKw_g z7.1).1
        have z5 := pNu_g z6
        have z5b : pc (pNu u n 0 ((W : Int) - 1) (pKw u n 6 s)) = 0 := z5.1
        have z4 := pNu_g z5b
        rw [if_pos z5b] at hx
        rw [if_pos z6] at hy
        rw [if_pos z8] at ht
        have exx : nmA u n (pp (pKw u n 6 s)) = x := hx.symm
        have eyy : nmA u n (pp (qw5 u n W s)) = y := hy.symm
        have eff : 2 * nmA u n (pp (qw7 u n W H s)) + (if tkU u n (pp (qw8 u n W H s)) = 8 then 1 else 0) = ((2 * tn + 0 : Nat) : Int) := by rw [if_neg (fun c => e8 ⟨z8, c⟩), ← ht]; omega
        have ek3 : pKw u n 3 (qw9 u n W H s) = pGo u n (qw9 u n W H s) := by rw [pKw_0 z9 c164, pGo_0 z9]
        have zk3 : pc (pKw u n 3 (qw9 u n W H s)) = 0 := by rw [pKw_0 z9 c164]; rfl
        have ev : ((v : Nat) : Int).toNat = v := Int.toNat_natCast v
        have ef2 : ((2 * tn + 0 : Nat) : Int).toNat = 2 * tn + 0 := Int.toNat_natCast _
        conv => whnf
        refine ⟨by decide, fun c => absurd c (by decide), fun _ => ?_⟩
        conv => whnf
        refine zinv0 (s_X12_reason T (p := v) (t := tn) (f := 0) (W := W) (H := H) (x := x) (y := y) M (by exact hT9.fr (fun a b _ _ => hf_181 _ _ (by omega))) (by exact hv_181) (by exact hw) (by exact (hf_181 _ _ (by omega)).trans ((eA _ _ (by omega)).trans hW)) (by exact (hf_181 _ _ (by omega)).trans ((eA _ _ (by omega)).trans hH)) (by exact hv) (by omega) (by exact ⟨by omega, by omega⟩) (by exact ⟨by omega, by omega⟩) ?_)
        have hwb := @why_b W H M v (8 * v + (2 * tn + 0)) x y
        conv => whnf
        refine ⟨by omega, fun c203 => ?_, fun c203 => ?_⟩
        · conv => whnf
          refine zinv0 (s_X12_must T (w := 3) (f := 0) (u := u) (n := n) (s := pMu 1 1 (qw9 u n W H s)) (by exact hS181) (by omega) (by omega) ?_)
          intro I_212 hf_212 hS_212
          conv => whnf
          refine zinv0 (s_X12_isGood T (u := u) (n := n) (s := pMu 0 3 (pMu 1 1 (qw9 u n W H s))) (by exact hS_212) ?_ ?_)
          · intro cha_216
            exact absurd cha_216 (show ¬ pc (pMu 0 3 (pMu 1 1 (qw9 u n W H s))) = 0 by rw [pMu_0]; exact pFl_c (by decide))
          · intro ch2a_216
            conv => whnf
            refine ⟨by decide, fun _ => ?_, fun c => absurd c (by decide)⟩
            conv => whnf
            refine zinv0 (s_X12_goesOn T (u := u) (n := n) (s := pMu 0 3 (pMu 1 1 (qw9 u n W H s))) (by exact hS_212) ?_)
            intro I_237 hf_237 hS_237
            conv => whnf
            have eC : ∀ b, I_237 605 b = I 605 b := fun b => by rw [hf_237 _ _ (by unfold PTm; omega), hf_212 _ _ (by unfold P57; omega), hf_181 _ _ (by omega), eA _ _ (by omega)]
            rw [pMu_1, pMu_0, pGo_1 (pFl_c (by decide))] at hS_237
            have e1 : pcR u n W H M v s = (pFl 3 (pp (qw9 u n W H s)) (pKw u n 3 (qw9 u n W H s)), M) := by
              unfold pcR
              rw [exx, eyy, eff]
              refine pcQ_1 zk3 ?_
              rw [ev, ef2]
              exact c203
            rw [e1] at h
            refine h I_237 (((fr173.trans (hf_181.mono (fun a b c => Or.inr (Or.inl c)))).trans (hf_212.mono P57_p)).trans (hf_237.mono PTm_p)) (hS_237.bad (pFl_c (by decide)) ?_ ?_) (hd.fr hm8 eC)
            · show pc (pFl 3 (pp (qw9 u n W H s)) (pKw u n 3 (qw9 u n W H s))) = _
              rw [pFl_0 zk3, pFl_0 z9]; rfl
            · show po (pFl 3 (pp (qw9 u n W H s)) (pKw u n 3 (qw9 u n W H s))) = _
              rw [pFl_0 zk3, pFl_0 z9]; rfl
        · conv => whnf
          refine zinv0 (s_X12_must T (w := 3) (f := 1) (u := u) (n := n) (s := pMu 1 1 (qw9 u n W H s)) (by exact hS181) (by omega) (by omega) ?_)
          intro I_212 hf_212 hS_212
          conv => whnf
          refine zinv0 (s_X12_isGood T (u := u) (n := n) (s := pMu 1 3 (pMu 1 1 (qw9 u n W H s))) (by exact hS_212) ?_ ?_)
          · intro cha_216
            conv => whnf
            refine ⟨by decide, fun c => absurd c (by decide), fun _ => ?_⟩
            conv => whnf
            refine ⟨by decide, _, rfl, ?_⟩
            conv => whnf
            refine zinv0 (s_X12_puts T  (by decide) (by exact hv) ?_)
            conv => whnf
            refine zinv0 (s_X12_goesOn T (u := u) (n := n) (s := pMu 1 3 (pMu 1 1 (qw9 u n W H s))) (by exact hS_212.fr (fun a b g => by rw [v2_ne (by omega), v2_ne (by omega), v2_ne (by omega), v2_ne (by omega)])) ?_)
            intro I_237 hf_237 hS_237
            conv => whnf
            rw [pMu_1, pMu_1, ← ek3] at hS_237
            have e1 : pcR u n W H M v s = (pKw u n 3 (qw9 u n W H s), putM M v x y ((2 * tn + 0 : Nat) : Int)) := by
              unfold pcR
              rw [exx, eyy, eff]
              have q := pcQ_2 (W := W) (H := H) (M := M) (v := (v : Int)) (x := x) (y := y) (f := ((2 * tn + 0 : Nat) : Int)) (s9 := qw9 u n W H s) zk3 (by rw [ev, ef2]; exact c203)
              rw [ev] at q
              exact q
            rw [e1] at h
            have hd12 : DrM I_212 M := hd.fr hm8 (fun b => by rw [hf_212 _ _ (by unfold P57; omega), hf_181 _ _ (by omega), eA _ _ (by omega)])
            have hdp := hd12.put (I' := I_237) hm8 (p := v) (x := x) (y := y) (t := (tn : Int)) (f := 0) hv (by omega) (by omega) (fun b => hf_237 _ _ (by unfold PTm; omega))
            rw [show 2 * (tn : Int) + 0 = ((2 * tn + 0 : Nat) : Int) by omega] at hdp
            refine h I_237 (Fr.trans (Fr.trans (fr173.trans (hf_181.mono (fun a b c => Or.inr (Or.inl c)))) (hf_212.mono P57_p)) (fun a b g => ?_)) hS_237 hdp
            rw [hf_237 _ _ (fun c => g (PTm_p _ _ c))]
            have g605 : ¬ a = 605 := fun c => g (Or.inl c)
            rw [v2_ne (by omega), v2_ne (by omega), v2_ne (by omega), v2_ne (by omega)]
          · intro ch2a_216
            exact absurd (show pc (pMu 1 3 (pMu 1 1 (qw9 u n W H s))) = 0 by rw [pMu_1, pMu_1]; exact z9) ch2a_216
      · intro ch2a_186
        conv => whnf
        refine ⟨by decide, fun _ => ?_, fun c => absurd c (by decide)⟩
        conv => whnf
        refine zinv0 (s_X12_must T (w := 3) (f := 1) (u := u) (n := n) (s := pMu 1 1 (qw9 u n W H s)) (by exact hS181) (by omega) (by omega) ?_)
        intro I_212 hf_212 hS_212
        conv => whnf
        refine zinv0 (s_X12_isGood T (u := u) (n := n) (s := pMu 1 3 (pMu 1 1 (qw9 u n W H s))) (by exact hS_212) ?_ ?_)
        · intro cha_216
          exact absurd cha_216 (show ¬ pc (pMu 1 3 (pMu 1 1 (qw9 u n W H s))) = 0 by rw [pMu_1]; exact ch2a_186)
        · intro ch2a_216
          conv => whnf
          refine ⟨by decide, fun _ => ?_, fun c => absurd c (by decide)⟩
          conv => whnf
          refine zinv0 (s_X12_goesOn T (u := u) (n := n) (s := pMu 1 3 (pMu 1 1 (qw9 u n W H s))) (by exact hS_212) ?_)
          intro I_237 hf_237 hS_237
          conv => whnf
          have eC : ∀ b, I_237 605 b = I 605 b := fun b => by rw [hf_237 _ _ (by unfold PTm; omega), hf_212 _ _ (by unfold P57; omega), hf_181 _ _ (by omega), eA _ _ (by omega)]
          have hb9 : ¬ pc (pMu 1 1 (qw9 u n W H s)) = 0 := ch2a_186
          rw [pMu_b hb9, pGo_1 hb9] at hS_237
          have ek : pMu 1 1 (qw9 u n W H s) = pKw u n 3 (qw9 u n W H s) := by
            have q := pKw_go (u := u) (n := n) (w := 3) (s := qw9 u n W H s) (f := 1) (fun g => by
              obtain ⟨t1, t2, t3⟩ := mm5 g
              rw [t3.2.2.1, sort_3 t2] at c164
              exact Or.inl ⟨rfl, c164⟩)
            rw [pGo_1 hb9] at q
            exact q
          rw [ek] at hb9 hS_237
          have e1 : pcR u n W H M v s = (pKw u n 3 (qw9 u n W H s), M) := pcQ_0 hb9
          rw [e1] at h
          exact h I_237 (((fr173.trans (hf_181.mono (fun a b c => Or.inr (Or.inl c)))).trans (hf_212.mono P57_p)).trans (hf_237.mono PTm_p)) hS_237 (hd.fr hm8 eC)
end
