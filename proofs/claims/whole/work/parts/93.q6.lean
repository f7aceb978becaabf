/-! QUESTIONS, 6 -/
section
variable {Ln : Nat} {xs : Nat → Int32} {CZ : Nat → ZC} {RZ : Nat → Nat → ZQ → ZP}
/-- what a question of the class may change -/
def PQ : Nat → Int → Prop := fun a _ => 546 ≤ a ∧ a ≤ 574
theorem CB.frk {I I' : ZI} {L L' : ZL} {W H : Nat} {M : Mo} {P : Nat → Mo} {n : Nat} {SL : Nat → Mo} {bl : Nat} {u : Nat → Int} (h : CB I L W H M P n SL bl u) (h1 : Fr PLk I I') (h2 : Fr PLk L L') : CB I' L' W H M P n SL bl u :=
  h.fr (fun a b c => h1 a b (by unfold PLk; omega)) (fun a b c => h2 a b (by unfold PLk; omega)) (h.2.2.2.2.2.2.2.1.fr (fun a b _ _ => h1 a b (by unfold PLk; omega)) (fun b => h2 _ _ (by unfold PLk; omega)))
theorem PLk_PQ : ∀ a b, PLk a b → PQ a b := fun a b h => by unfold PLk at h; unfold PQ; omega
theorem shp_mem : (282 : Nat) ∈ stR := by decide
theorem za_shp {k : Nat} (hk : k < 8) : za 287 k = 288 + 2 * k + 1 ∧ za (288 + 2 * k) 0 = 288 + 2 * k + 2 := za_sh shp_mem hk
theorem sil_576 {W H : Nat} {M : Mo} (hw : Wq W H M) {q : Nat} (h : sil M q = true) : q < 576 := by
  refine (own_in hw (q := q) (fun e => ?_)).1
  unfold sil at h
  rw [e] at h
  cases h
theorem s_X11_isSimple (T : ZTh (XX Ln xs) CZ RZ) {d b : Nat} {W H n bl : Nat} {M : Mo} {P SL : Nat → Mo} {u : Nat → Int}  {I : ZI} {L : ZL} {Q : ZQ} (hC : CB I L W H M P n SL bl u) (h : partsO (sil M) = 1 → hoN M = 0 → ¬ crs (bs (sil M)) → Q (.inl (some (.inl (1)))) I L) (h2 : ¬ (partsO (sil M) = 1 ∧ hoN M = 0 ∧ ¬ crs (bs (sil M))) → Q (.inl (some (.inl (0)))) I L) : CZ (d + 3) k_X11_isSimple [.inr (.ref 0, 12)] b I L Q := by
  refine T.call rfl ?_
  obtain ⟨cF, cS, cW, cSil, cPa, cPw, cSl, cFi, cb1, cb2, cb3⟩ := id hC
  obtain ⟨t1, t2, t3, t4, t5⟩ := id cS
  obtain ⟨⟨⟨w1, w2, w3, w4⟩, -⟩, w5, w6⟩ := id cW
  have ho := hC.outl
  obtain ⟨ct1, ct2⟩ := cSil.2.2.2.2.2.2
  have cp := cSil.2.2.2.1
  have cpb : zR (partsO (sil M)) := by
    have h1 := cn_nonneg (fun q => sil M q && dc (∀ p, p < q → sil M p = true → ¬ cc (sil M) p q)) 576
    have h2 := cn_le (fun q => sil M q && dc (∀ p, p < q → sil M p = true → ¬ cc (sil M) p q)) 576
    have h3 : partsO (sil M) = cn (fun q => sil M q && dc (∀ p, p < q → sil M p = true → ¬ cc (sil M) p q)) 576 := rfl
    exact ⟨by omega, by omega⟩
  have eh : cn (fun j => decide (I 543 (j : Int) < 0)) (oL (olM M)) = hoN M := cn_congr _ (fun j hj => by rw [(hC.zAR hj).2])
  have hb1 := cn_nonneg (fun j => decide (I 543 (j : Int) < 0)) (oL (olM M))
  have hb2 := cn_le (fun j => decide (I 543 (j : Int) < 0)) (oL (olM M))
  have ho9 := ho.2.2.2.2.2.1
  refine T.go [] 90 ?_
  conv => whnf
  refine ⟨by decide, _, rfl, ?_⟩
  conv => whnf
  refine ⟨by decide, ?_⟩
  conv => whnf
  refine ⟨by omega, fun c8 => ?_, fun c8 => ?_⟩
  · conv => whnf
    refine ⟨by omega, ?_⟩
    exact h2 (fun c => by omega)
  · conv => whnf
    refine ⟨by decide, _, rfl, ?_⟩
    conv => whnf
    refine zinv0 (s_X3_countHoles T (oL (olM M)) (by exact ho.2.2.2.2.2.1) (by exact ho.2.2.1.2.1) (by exact fun j hj => (hC.zAR hj).1) ?_)
    conv => whnf
    refine ⟨by omega, fun c18 => ?_, fun c18 => ?_⟩
    · conv => whnf
      refine ⟨by omega, ?_⟩
      exact h2 (fun c => by omega)
    · conv => whnf
      refine ⟨by decide, _, rfl, ?_⟩
      conv => whnf
      refine ⟨by decide, ?_⟩
      conv => whnf
      refine ⟨by omega, fun c28 => ?_, fun c28 => ?_⟩
      · conv => whnf
        refine ⟨by omega, ?_⟩
        exact h2 (fun c => c.2.2 (ct2.mp (by omega)))
      · conv => whnf
        refine ⟨by omega, ?_⟩
        exact h (by omega) (by omega) (fun c => by have := ct2.mpr c; omega)
theorem s_X11_hasQuarter (T : ZTh (XX Ln xs) CZ RZ) {d b : Nat} {W H n bl : Nat} {M : Mo} {P SL : Nat → Mo} {u : Nat → Int} {k q : Int} {I : ZI} {L : ZL} {Q : ZQ} (hb : 1 ≤ b) (hC : CB I L W H M P n SL bl u) (hk : zR k) (hq : zR q) (h : 0 ≤ k → k < mN M → Q (.inl (some (.inl (bi (decide (0 ≤ q ∧ q < 576) && mS M k.toNat q.toNat))))) I L) (h2 : ¬ (0 ≤ k ∧ k < mN M) → Q (.inr 2) I L) : CZ (d + 2) k_X11_hasQuarter [.inr (.ref 0, 12), .inl k, .inl q] b I L Q := by
  refine T.call rfl ?_
  obtain ⟨cF, cS, cW, cSil, cPa, cPw, cSl, cFi, cb1, cb2, cb3⟩ := id hC
  obtain ⟨t1, t2, t3, t4, t5⟩ := id cS
  obtain ⟨⟨⟨w1, w2, w3, w4⟩, -⟩, w5, w6⟩ := id cW
  refine T.go [] 90 ?_
  conv => whnf
  refine ⟨1, by omega, s_X11_checkShape T (w := k) (by first | assumption | omega | rfl | decide) (by first | assumption | omega | rfl | decide) (by exact ⟨by omega, by omega⟩) ?_ ?_⟩
  · intro cha_2 chb_2
    obtain ⟨k, rfl⟩ := Int.eq_ofNat_of_zero_le cha_2
    have hk : k < mN M := by omega
    have zz := za_shp (k := k) (by omega)
    obtain ⟨g1, g2⟩ := t5 k hk
    replace g1 : RgS L (288 + 2 * k) (mS M k) := g1
    replace g2 : RgM I (288 + 2 * k) (mS M k) := g2
    have hmk : ((k : Nat) : Int).toNat = k := Int.toNat_natCast k
    conv => whnf
    refine ⟨by decide, _, rfl, ?_⟩
    conv => whnf
    refine ⟨by decide, _, rfl, ?_⟩
    conv => whnf
    refine ⟨by omega, by decide, _, zz.1, ?_⟩
    conv => whnf
    refine zinv0 (s_X6_contains T (mS M k) (by exact zz.2) (by show (¬ (_ : Nat) = _) ∧ (¬ (_ : Nat) = _); omega) (by exact g1) (by first | assumption | omega | rfl | decide) ?_ ?_)
    · intro cha_15 chb_15 chc_15
      conv => whnf
      refine ⟨by omega, ?_⟩
      have h9 := h (by omega) (by omega)
      rw [hmk] at h9
      rw [show (decide (0 ≤ q ∧ q < 576) && mS M k q.toNat) = true by rw [decide_eq_true ⟨cha_15, chb_15⟩, chc_15]; rfl] at h9
      exact h9
    · intro ch2a_15
      conv => whnf
      refine ⟨by omega, ?_⟩
      have h9 := h (by omega) (by omega)
      rw [hmk] at h9
      rw [show (decide (0 ≤ q ∧ q < 576) && mS M k q.toNat) = false by rcases ch2a_15 with e | e | e; (rw [decide_eq_false (by omega)]; rfl); (rw [decide_eq_false (by omega)]; rfl); (rw [e, Bool.and_false])] at h9
      exact h9
  · intro ch2a_2
    exact h2 (fun c => ch2a_2 (by omega))
theorem s_X11_missing (T : ZTh (XX Ln xs) CZ RZ) {d b : Nat} {W H n bl : Nat} {M : Mo} {P SL : Nat → Mo} {u : Nat → Int} {k : Int} {I : ZI} {L : ZL} {Q : ZQ} (hb : 1 ≤ b) (hC : CB I L W H M P n SL bl u) (hk : zR k) (h : 0 ≤ k → k < mN M → Q (.inl (some (.inl (cn (fun q => mS M k.toNat q ^^ sil M q) 576)))) I L) (h2 : ¬ (0 ≤ k ∧ k < mN M) → Q (.inr 2) I L) : CZ (d + 3) k_X11_missing [.inr (.ref 0, 12), .inl k] b I L Q := by
  refine T.call rfl ?_
  obtain ⟨cF, cS, cW, cSil, cPa, cPw, cSl, cFi, cb1, cb2, cb3⟩ := id hC
  obtain ⟨t1, t2, t3, t4, t5⟩ := id cS
  obtain ⟨⟨⟨w1, w2, w3, w4⟩, -⟩, w5, w6⟩ := id cW
  refine T.go [] 90 ?_
  conv => whnf
  refine ⟨1, by omega, s_X11_checkShape T (w := k) (by first | assumption | omega | rfl | decide) (by first | assumption | omega | rfl | decide) (by exact ⟨by omega, by omega⟩) ?_ ?_⟩
  · intro cha_2 chb_2
    obtain ⟨k, rfl⟩ := Int.eq_ofNat_of_zero_le cha_2
    have hk : k < mN M := by omega
    have zz := za_shp (k := k) (by omega)
    obtain ⟨g1, g2⟩ := t5 k hk
    replace g1 : RgS L (288 + 2 * k) (mS M k) := g1
    replace g2 : RgM I (288 + 2 * k) (mS M k) := g2
    have hmk : ((k : Nat) : Int).toNat = k := Int.toNat_natCast k
    conv => whnf
    refine ⟨by decide, _, rfl, ?_⟩
    conv => whnf
    refine ⟨by decide, _, rfl, ?_⟩
    conv => whnf
    refine ⟨by omega, by decide, _, zz.1, ?_⟩
    conv => whnf
    refine ⟨by decide, _, rfl, ?_⟩
    conv => whnf
    refine ⟨by decide, _, rfl, ?_⟩
    conv => whnf
    refine zinv0 (s_X6_countDifferent T (mS M k) (sil M) (by exact zz.2) (by show (¬ (_ : Nat) = _) ∧ (¬ (_ : Nat) = _); omega) (by rfl) (by show (¬ (_ : Nat) = _) ∧ (¬ (_ : Nat) = _); omega) (by exact g1) (by exact cSil.2.1) ?_)
    conv => whnf
    have h9 := h (by omega) (by omega)
    rw [hmk] at h9
    exact h9
  · intro ch2a_2
    exact h2 (fun c => ch2a_2 (by omega))
end
