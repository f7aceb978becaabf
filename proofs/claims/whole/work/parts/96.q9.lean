/-! QUESTIONS, 9 -/
section
variable {Ln : Nat} {xs : Nat → Int32} {CZ : Nat → ZC} {RZ : Nat → Nat → ZQ → ZP}
def tellM (M : Mo) (p : Nat) (w : Int) : Int := if mF M p = -1 then -1 else if w = 0 then mX M p else if w = 1 then mY M p else if w = 2 then mF M p / 2 else mF M p % 2
theorem tellM_is {I : ZI} {r : Nat} {M : Mo} (h : PlC I r M) {p : Nat} (hp : p < 7) (w : Int) : (if I (r + 3) (p : Int) = -1 then -1 else if w = 0 then I (r + 1) (p : Int) else if w = 1 then I (r + 2) (p : Int) else if w = 2 then I (r + 3) (p : Int) / 2 else I (r + 3) (p : Int) % 2) = tellM M p w := by
  obtain ⟨h1, h2⟩ := h p (by omega) (by omega)
  unfold tellM
  rw [h1]
  by_cases e : mF M p = -1
  · rw [if_pos e, if_pos e]
  · obtain ⟨h3, h4⟩ := h2 e
    rw [if_neg e, if_neg e, h3, h4]
noncomputable def waysA (M : Mo) (k : Nat) : Int := (waysR 1000 (mS M k)).1
noncomputable def firstA (M : Mo) (k p : Nat) (w : Int) : Int := tellM (waysR 1000 (mS M k)).2 p w
theorem CB.frf {I I' : ZI} {L L' : ZL} {W H : Nat} {M : Mo} {P : Nat → Mo} {n : Nat} {SL : Nat → Mo} {bl : Nat} {u : Nat → Int} (h : CB I L W H M P n SL bl u) (h1 : Fr PFi I I') (h2 : Fr (fun a _ => a = 564 ∨ a = 566) L L') (h3 : FiOK I' L') : CB I' L' W H M P n SL bl u :=
  h.fr (fun a b c => h1 a b (by unfold PFi; omega)) (fun a b c => h2 a b (by omega)) h3
theorem PFi_PQ : ∀ a b, PFi a b → PQ a b := fun a b h => by unfold PFi at h; unfold PQ; omega
theorem PFl_PQ : ∀ (a : Nat) (b : Int), (a = 564 ∨ a = 566) → PQ a b := fun a b h => by unfold PQ; omega
theorem Ws.off {W H : Nat} {M : Mo} (h : Ws W H M) {k : Nat} (hk : k < mN M) : ∀ q, 576 ≤ q → mS M k q = false := fun q hq => by
  cases e : mS M k q with
  | false => rfl
  | true => have := ((h.2 k hk).1 q e).1; omega
theorem s_X11_ways (T : ZTh (XX Ln xs) CZ RZ) {d b : Nat} {W H n bl : Nat} {M : Mo} {P SL : Nat → Mo} {u : Nat → Int} {k : Int} {I : ZI} {L : ZL} {Q : ZQ} (hb : 1 ≤ b) (hC : CB I L W H M P n SL bl u) (hk : zR k) (h : 0 ≤ k → k < mN M → ∀ I' L', Fr PQ I I' → Fr PQ L L' → CB I' L' W H M P n SL bl u → Q (.inl (some (.inl (waysA M k.toNat)))) I' L') (h2 : ¬ (0 ≤ k ∧ k < mN M) → Q (.inr 2) I L) : CZ (d + 32) k_X11_ways [.inr (.ref 0, 12), .inl k] b I L Q := by
  refine T.call rfl ?_
  obtain ⟨cF, cS, cW, cSil, cPa, cPw, cSl, cFi, cb1, cb2, cb3⟩ := id hC
  obtain ⟨t1, t2, t3, t4, t5⟩ := id cS
  obtain ⟨⟨⟨w1, w2, w3, w4⟩, -⟩, w5, w6⟩ := id cW
  refine T.go [] 90 ?_
  conv => whnf
  refine ⟨1, by omega, s_X11_checkShape T (w := k) (by first | assumption | omega | rfl | decide) (by first | assumption | omega | rfl | decide) (by exact ⟨by omega, by omega⟩) ?_ ?_⟩
  · intro cha_2 chb_2
    obtain ⟨k, rfl⟩ := Int.eq_ofNat_of_zero_le cha_2
    have hk : k < mN M := by omega
    have zz := za_shp (k := k) (by omega)
    obtain ⟨g1, g2⟩ := t5 k hk
    replace g1 : RgS L (288 + 2 * k) (mS M k) := g1
    replace g2 : RgM I (288 + 2 * k) (mS M k) := g2
    have hmk : ((k : Nat) : Int).toNat = k := Int.toNat_natCast k
    conv => whnf
    refine ⟨by decide, _, rfl, ?_⟩
    conv => whnf
    refine ⟨by decide, _, rfl, ?_⟩
    conv => whnf
    refine ⟨by decide, _, rfl, ?_⟩
    conv => whnf
    refine ⟨by decide, _, rfl, ?_⟩
    conv => whnf
    refine ⟨by omega, by decide, _, zz.1, ?_⟩
    conv => whnf
    refine zinv0 (s_X0_fill T (mS M k) (by exact cF) (by exact zz.2) (by omega) (by exact g1) (by exact g2) (by exact Ws.off cW.2 hk) (by omega) (by exact cFi) ?_)
    intro I_25 L_25 mo_25 hf_25 hg_25 hm_25 hm2_25 h5_25 hP_25 hK_25
    conv => whnf
    refine ⟨by decide, _, rfl, ?_⟩
    conv => whnf
    refine ⟨by decide, ?_⟩
    conv => whnf
    obtain rfl : mo_25 = 1000 := by omega
    have h9 := h (by omega) (by omega) _ _ (hf_25.mono PFi_PQ) (hg_25.mono PFl_PQ) (hC.frf hf_25 hg_25 hK_25)
    rw [hmk] at h9
    rw [h5_25]
    exact h9
  · intro ch2a_2
    exact h2 (fun c => ch2a_2 (by omega))
theorem s_X11_firstWay (T : ZTh (XX Ln xs) CZ RZ) {d b : Nat} {W H n bl : Nat} {M : Mo} {P SL : Nat → Mo} {u : Nat → Int} {k p w : Int} {I : ZI} {L : ZL} {Q : ZQ} (hb : 3 ≤ b) (hC : CB I L W H M P n SL bl u) (hk : zR k) (hp : zR p) (hw : zR w) (h : 0 ≤ k → k < mN M → 0 ≤ p ∧ p < 7 → 0 ≤ w ∧ w ≤ 3 → ∀ I' L', Fr PQ I I' → Fr PQ L L' → CB I' L' W H M P n SL bl u → Q (.inl (some (.inl (firstA M k.toNat p.toNat w)))) I' L') (h2 : ¬ ((0 ≤ k ∧ k < mN M) ∧ 0 ≤ p ∧ p < 7) → Q (.inr 2) I L) (h3 : (0 ≤ k ∧ k < mN M) ∧ (0 ≤ p ∧ p < 7) → ¬ (0 ≤ w ∧ w ≤ 3) → Q (.inr 1) I L) : CZ (d + 32) k_X11_firstWay [.inr (.ref 0, 12), .inl k, .inl p, .inl w] b I L Q := by
  refine T.call rfl ?_
  obtain ⟨cF, cS, cW, cSil, cPa, cPw, cSl, cFi, cb1, cb2, cb3⟩ := id hC
  obtain ⟨t1, t2, t3, t4, t5⟩ := id cS
  obtain ⟨⟨⟨w1, w2, w3, w4⟩, -⟩, w5, w6⟩ := id cW
  refine T.go [] 200 ?_
  conv => whnf
  refine ⟨1, by omega, s_X11_checkShape T (w := k) (by first | assumption | omega | rfl | decide) (by first | assumption | omega | rfl | decide) (by exact ⟨by omega, by omega⟩) ?_ ?_⟩
  · intro cha_2 chb_2
    obtain ⟨k, rfl⟩ := Int.eq_ofNat_of_zero_le cha_2
    have hk : k < mN M := by omega
    have zz := za_shp (k := k) (by omega)
    obtain ⟨g1, g2⟩ := t5 k hk
    replace g1 : RgS L (288 + 2 * k) (mS M k) := g1
    replace g2 : RgM I (288 + 2 * k) (mS M k) := g2
    have hmk : ((k : Nat) : Int).toNat = k := Int.toNat_natCast k
    conv => whnf
    refine ⟨1, by omega, s_X11_checkPiece T  (by first | assumption | omega | rfl | decide) (by first | assumption | omega | rfl | decide) ?_ ?_⟩
    · intro cha_6
      conv => whnf
      refine ⟨1, by omega, s_X11_checkWhat T  (by first | assumption | omega | rfl | decide) (by first | assumption | omega | rfl | decide) (by first | assumption | omega | rfl | decide) ?_ ?_⟩
      · intro cha_11
        conv => whnf
        refine ⟨by decide, _, rfl, ?_⟩
        conv => whnf
        refine ⟨by decide, _, rfl, ?_⟩
        conv => whnf
        refine ⟨by decide, _, rfl, ?_⟩
        conv => whnf
        refine ⟨by decide, _, rfl, ?_⟩
        conv => whnf
        refine ⟨by omega, by decide, _, zz.1, ?_⟩
        conv => whnf
        refine zinv0 (s_X0_fill T (mS M k) (by exact cF) (by exact zz.2) (by omega) (by exact g1) (by exact g2) (by exact Ws.off cW.2 hk) (by omega) (by exact cFi) ?_)
        intro I_32 L_32 mo_32 hf_32 hg_32 hm_32 hm2_32 h5_32 hP_32 hK_32
        have es := waysR_same (m := mo_32) (m' := 1000) (by omega) (by omega) (mS M k)
        obtain ⟨pn, rfl⟩ := Int.eq_ofNat_of_zero_le cha_6.1
        have hw9 := (waysR_b (most := mo_32) (by omega) (mS M k)).2.2 pn (by omega)
        have hpf := (hP_32 pn (by omega) (by omega)).1
        have etm := tellM_is hP_32 (p := pn) (by omega) w
        have hpn : ((pn : Nat) : Int).toNat = pn := Int.toNat_natCast pn
        conv => whnf
        refine ⟨by decide, _, rfl, ?_⟩
        conv => whnf
        refine ⟨by decide, _, rfl, ?_⟩
        conv => whnf
        refine zinv0 (s_X5_tell T  (by rfl) (by rfl) (by rfl) (by first | assumption | omega | rfl | decide) (by exact cha_6) (by exact cha_11) (by rw [hpf]; exact hw9) ?_)
        conv => whnf
        have h9 := h (by omega) (by omega) cha_6 cha_11 _ _ (hf_32.mono PFi_PQ) (hg_32.mono PFl_PQ) (hC.frf hf_32 hg_32 hK_32)
        rw [etm, es.1]
        rw [hmk, hpn] at h9
        exact h9
      · intro ch2a_11
        exact h3 (by omega) ch2a_11
    · intro ch2a_6
      exact h2 (by omega)
  · intro ch2a_2
    exact h2 (fun c => ch2a_2 (by omega))
end
