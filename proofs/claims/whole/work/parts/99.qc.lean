/-! QUESTIONS, 12 -/
section
variable {Ln : Nat} {xs : Nat → Int32} {CZ : Nat → ZC} {RZ : Nat → Nat → ZQ → ZP}
def n32t (q a : Nat) : Bool := decide (FP.fdiv (FP.i2f (i3 q)) (FP.i2f (i3 (4 * a))) &&& 0x7fffffff ≤ 0x7f800000)
theorem n32_all : (List.range 65).all (fun q => (List.range 145).all (fun a => a == 0 || n32t q a)) = true := by decide +kernel
theorem n32_at {q a : Nat} (hq : q < 65) (ha : a < 145) (h0 : a ≠ 0) : vf_n32 (FP.fdiv (FP.i2f (i3 q)) (FP.i2f (i3 (4 * a)))) := by
  have h := List.all_eq_true.mp (List.all_eq_true.mp n32_all q (List.mem_range.mpr hq)) a (List.mem_range.mpr ha)
  rw [Bool.or_eq_true] at h
  rcases h with e | e
  · exact absurd (eq_of_beq e) h0
  · unfold n32t at e
    unfold vf_n32
    exact of_decide_eq_true e
noncomputable def fullA (M : Mo) : UInt32 := if wd (sil M) * hg (sil M) = 0 then 0 else FP.fdiv (FP.i2f (i3 (cn (sil M) 576))) (FP.i2f (i3 (4 * ((wd (sil M) * hg (sil M) : Nat) : Int))))
theorem s_X11_fullness (T : ZTh (XX Ln xs) CZ RZ) {d b : Nat} {W H n bl : Nat} {M : Mo} {P SL : Nat → Mo} {u : Nat → Int}  {I : ZI} {L : ZL} {Q : ZQ} (hC : CB I L W H M P n SL bl u) (h : Q (.inl (some (.inr (.float (fullA M), 0)))) I L) : CZ (d + 1) k_X11_fullness [.inr (.ref 0, 12)] b I L Q := by
  refine T.call rfl ?_
  obtain ⟨cF, cS, cW, cSil, cPa, cPw, cSl, cFi, cb1, cb2, cb3⟩ := id hC
  obtain ⟨t1, t2, t3, t4, t5⟩ := id cS
  obtain ⟨⟨⟨w1, w2, w3, w4⟩, -⟩, w5, w6⟩ := id cW
  have ga := cSil.2.2.1.at
  have gb := box_le (sil M)
  have hs := sil_cn cW.1
  have hs0 := cn_nonneg (sil M) 576
  obtain ⟨q, hq⟩ := Int.eq_ofNat_of_zero_le hs0
  have hI1 : I 528 1 = (q : Int) := cSil.2.2.1.1.trans hq
  obtain ⟨a, ha⟩ : ∃ a, a = wd (sil M) * hg (sil M) := ⟨_, rfl⟩
  have ha2 : a ≤ 144 := by
    rw [ha]
    exact Nat.le_trans (Nat.mul_le_mul (show wd (sil M) ≤ 12 by omega) (show hg (sil M) ≤ 12 by omega)) (Nat.le_refl 144)
  have hm : 4 * I 528 4 * I 528 5 = 4 * (a : Int) := by
    rw [ga.2.2.1, ga.2.2.2, ha, Int.natCast_mul, Int.mul_assoc]
  refine T.go [] 90 ?_
  conv => whnf
  refine ⟨by decide, _, rfl, ?_⟩
  conv => whnf
  refine ⟨by decide, _, rfl, ?_⟩
  conv => whnf
  refine ⟨by decide, ?_⟩
  conv => whnf
  refine ⟨by decide, ?_⟩
  conv => whnf
  refine ⟨by rw [hm]; omega, fun c21 => ?_, fun c21 => ?_⟩
  · conv => whnf
    refine ⟨by decide, ?_⟩
    conv => whnf
    refine ⟨?_, ?_⟩
    · rw [hm, hI1]; exact n32_at (by omega) (by omega) (by omega)
    conv => whnf
    have e : fullA M = FP.fdiv (FP.i2f (i3 (cn (sil M) 576))) (FP.i2f (i3 (4 * ((wd (sil M) * hg (sil M) : Nat) : Int)))) := if_neg (by omega)
    rw [e, hq, ← ha] at h
    rw [hI1, hm]
    exact h
  · conv => whnf
    have e : fullA M = 0 := if_pos (by omega)
    rw [e] at h
    exact h
end
