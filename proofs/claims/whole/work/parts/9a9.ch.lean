/-! CHANGES, 8 -/
section
variable {Ln : Nat} {xs : Nat → Int32} {CZ : Nat → ZC} {RZ : Nat → Nat → ZQ → ZP}
theorem zxor1 {f : Int} (h0 : 0 ≤ f) (h : f < 8) : zxor f 1 = f + 1 - 2 * (f % 2) := by
  obtain ⟨n, rfl⟩ := Int.eq_ofNat_of_zero_le h0
  have : ∀ n : Nat, n < 8 → zxor (n : Int) 1 = (n : Int) + 1 - 2 * ((n : Int) % 2) := by decide +kernel
  exact this n (by omega)
theorem s_X11_flip (T : ZTh (XX Ln xs) CZ RZ) {d b : Nat} {W H n bl : Nat} {M : Mo} {P SL : Nat → Mo} {u : Nat → Int} {p : Int} {I : ZI} {L : ZL} {Q : ZQ} (hb : 1 ≤ b) (hC : CB I L W H M P n SL bl u) (hp : zR p) (h : 0 ≤ p ∧ p < 7 → ¬ mF M p = -1 → why W H M p.toNat (8 * p.toNat + ((mF M p + 1 - 2 * (mF M p % 2))).toNat) (mX M p) (mY M p) = 0 → ∀ I' L', Fr PCh I I' → Fr PCh L L' → CB I' L' W H (putM M p.toNat (mX M p) (mY M p) ((mF M p + 1 - 2 * (mF M p % 2)))) (psh P n M) (psn n) SL bl u → Q (.inl (some (.inl (((mF M p + 1 - 2 * (mF M p % 2)) % 2))))) I' L') (h1 : 0 ≤ p ∧ p < 7 → mF M p = -1 → Q (.inl (some (.inl ((-1))))) I L) (h4 : 0 ≤ p ∧ p < 7 → ¬ mF M p = -1 → ¬ why W H M p.toNat (8 * p.toNat + ((mF M p + 1 - 2 * (mF M p % 2))).toNat) (mX M p) (mY M p) = 0 → Q (.inl (some (.inl ((-1))))) I L) (h2 : ¬ (0 ≤ p ∧ p < 7) → Q (.inr 2) I L) : CZ (d + 7) k_X11_flip [.inr (.ref 0, 12), .inl p] b I L Q := by
  refine T.call rfl ?_
  obtain ⟨cF, cS, cW, cSil, cPa, cPw, cSl, cFi, cb1, cb2, cb3⟩ := id hC
  obtain ⟨t1, t2, t3, t4, t5⟩ := id cS
  obtain ⟨⟨⟨w1, w2, w3, w4⟩, -⟩, w5, w6⟩ := id cW
  refine T.go [] 150 ?_
  conv => whnf
  refine ⟨1, by omega, s_X11_checkPiece T  (by first | assumption | omega | rfl | decide) (by first | assumption | omega | rfl | decide) ?_ ?_⟩
  · intro cha_1
    obtain ⟨pn, rfl⟩ := Int.eq_ofNat_of_zero_le cha_1.1
    have hp7 : pn < 7 := by omega
    have hpm : ((pn : Nat) : Int).toNat = pn := Int.toNat_natCast pn
    rw [hpm] at h h4
    have f1 : I (283 + 3) (pn : Int) = mF M pn := (t3 pn (by omega) (by omega)).1
    have f2 : I 286 (pn : Int) = mF M pn := f1
    have f3 := cW.1.2.1 pn hp7
    have f4 := (t3 pn (by omega) (by omega)).2
    conv => whnf
    refine ⟨by decide, _, rfl, ?_⟩
    conv => whnf
    refine ⟨by decide, _, rfl, ?_⟩
    conv => whnf
    refine zinv0 (s_X5_isOff T  (by rfl) (by first | assumption | omega | rfl | decide) (by omega) (by exact t3.zR cW.1 (by omega) (by omega)) ?_ ?_)
    · intro cha_12
      conv => whnf
      refine ⟨by decide, fun c => absurd c (by decide), fun _ => ?_⟩
      conv => whnf
      exact h1 cha_1 (f1.symm.trans cha_12)
    · intro ch2a_12
      have hof : ¬ mF M pn = -1 := fun e => ch2a_12 (f1.trans e)
      obtain ⟨f5, f6⟩ := f4 hof
      replace f5 : I 284 (pn : Int) = mX M pn := f5
      replace f6 : I 285 (pn : Int) = mY M pn := f6
      have f7 : 0 ≤ mF M pn ∧ mF M pn < 8 := by rcases f3 with e | ⟨e1, e2, _⟩; (exact absurd e hof); (exact ⟨e1, e2⟩)
      have f8 := zxor1 f7.1 f7.2
      obtain ⟨b1, b2, b3, b4, b5⟩ := cW.1.form hp7 hof
      unfold InB at b5
      obtain ⟨k, hk⟩ : ∃ k : Nat, (mF M pn + 1 - 2 * (mF M pn % 2)) = k := ⟨((mF M pn + 1 - 2 * (mF M pn % 2))).toNat, by omega⟩
      rw [hk] at h h4
      have hkm : ((k : Nat) : Int).toNat = k := Int.toNat_natCast k
      rw [hkm] at h h4
      have hk8 : k < 8 := by omega
      have hwb := @why_b W H M pn (8 * pn + k) (mX M pn) (mY M pn)
      conv => whnf
      refine ⟨by decide, fun _ => ?_, fun c => absurd c (by decide)⟩
      conv => whnf
      refine ⟨by decide, _, rfl, ?_⟩
      conv => whnf
      refine ⟨by decide, _, rfl, ?_⟩
      conv => whnf
      refine ⟨by decide, _, rfl, ?_⟩
      conv => whnf
      refine ⟨by omega, by decide, ?_⟩
      conv => whnf
      refine ⟨by decide, _, rfl, ?_⟩
      conv => whnf
      refine ⟨by decide, _, rfl, ?_⟩
      conv => whnf
      refine ⟨by decide, _, rfl, ?_⟩
      conv => whnf
      refine ⟨by omega, by decide, ?_⟩
      conv => whnf
      refine ⟨by decide, _, rfl, ?_⟩
      conv => whnf
      refine ⟨by decide, _, rfl, ?_⟩
      conv => whnf
      refine ⟨by decide, _, rfl, ?_⟩
      conv => whnf
      refine ⟨by omega, by decide, ?_⟩
      conv => whnf
      rw [f5, f6, f2, f8, hk]
      refine zinv0 (s_X11_tryPlace T (M := M) (p := pn) (k := k) (x := mX M pn) (y := mY M pn) (by exact hC) (by exact hp7) (by exact hk8) (by exact ⟨by omega, by omega⟩) (by exact ⟨by omega, by omega⟩) ?_ ?_)
      · intro h0_62 I_62 L_62 hf_62 hg_62 hC_62
        conv => whnf
        refine ⟨by decide, fun c => absurd c (by decide), fun _ => ?_⟩
        conv => whnf
        refine ⟨by omega, ?_⟩
        conv => whnf
        exact h cha_1 hof h0_62 _ _ hf_62 hg_62 hC_62
      · intro ch2a_62
        conv => whnf
        refine ⟨by omega, fun c67 => ?_, fun c67 => ?_⟩
        · conv => whnf
          exact h4 cha_1 hof ch2a_62
        · conv => whnf
          refine ⟨by omega, ?_⟩
          conv => whnf
          exact absurd c67 ch2a_62
  · intro ch2a_1
    exact h2 ch2a_1
end
