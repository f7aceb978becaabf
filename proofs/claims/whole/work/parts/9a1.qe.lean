/-! QUESTIONS, 14 -/
section
variable {Ln : Nat} {xs : Nat → Int32} {CZ : Nat → ZC} {RZ : Nat → Nat → ZQ → ZP}
theorem cn_eo (f : Nat → Bool) : ∀ n, cn (fun e => f e && decide (e % 2 = 0)) n + cn (fun e => f e && decide (e % 2 = 1)) n = cn f n
  | 0 => rfl
  | n + 1 => by
    have h := cn_eo f n
    rw [cn_s, cn_s, cn_s]
    have : n % 2 = 0 ∨ n % 2 = 1 := by omega
    cases f n <;> rcases this with e | e <;> simp [e] <;> omega
noncomputable def perimA (M : Mo) : UInt64 := FP.dadd (FP.i2d (i3 (sm (oLG (olM M)) (oL (olM M))))) (FP.dmul (FP.i2d (i3 (sm (oSH (olM M)) (oL (olM M))))) 4604544271217802189)
theorem CB.ls {I : ZI} {L : ZL} {W H : Nat} {M : Mo} {P : Nat → Mo} {n : Nat} {SL : Nat → Mo} {bl : Nat} {u : Nat → Int} (h : CB I L W H M P n SL bl u) : ∃ a c : Nat, sm (oLG (olM M)) (oL (olM M)) = a ∧ sm (oSH (olM M)) (oL (olM M)) = c ∧ a + c ≤ 192 := by
  obtain ⟨o1, o2, o3, o4, o5, o6, o7⟩ := h.outl
  obtain ⟨-, -, -, -, -, -, -, w8, w9⟩ := o1
  have he := cn_eo (oW (olM M)) 5000
  have h1 := cn_nonneg (fun e => oW (olM M) e && decide (e % 2 = 0)) 5000
  have h2 := cn_nonneg (fun e => oW (olM M) e && decide (e % 2 = 1)) 5000
  rw [w8, w9]
  generalize cn (oW (olM M)) 5000 = x at *
  generalize cn (fun e => oW (olM M) e && decide (e % 2 = 0)) 5000 = y at *
  generalize cn (fun e => oW (olM M) e && decide (e % 2 = 1)) 5000 = z at *
  exact ⟨y.toNat, z.toNat, by omega, by omega, by omega⟩
theorem l_perim (T : ZTh (XX Ln xs) CZ RZ) {d b : Nat} {Q : ZQ} {W H n bl : Nat} {M : Mo} {P SL : Nat → Mo} {u : Nat → Int} {I : ZI} {L : ZL} (hC : CB I L W H M P n SL bl u) (h : Q (.inl (some (.inr (.double (perimA M), 0)))) I L) (m : Nat) : ∀ (l : Nat) (x y : Int), (l ≤ oL (olM M)) → (x = sm (oLG (olM M)) l) → (y = sm (oSH (olM M)) l) → (oL (olM M) : Int) - (l : Int) < (m : Int) → RZ d k_X11_perimeter Q 6 [.inr (.ref 0, 12), .inl x, .inl y, .inl ((l : Int))] [] b I L := by
  induction m with
  | zero =>
    intro l x y hl hx hy hm
    exfalso
    omega
  | succ m ih =>
    intro l x y hl hx hy hm
    obtain ⟨cF, cS, cW, cSil, cPa, cPw, cSl, cFi, cb1, cb2, cb3⟩ := id hC
    obtain ⟨t1, t2, t3, t4, t5⟩ := id cS
    obtain ⟨⟨⟨w1, w2, w3, w4⟩, -⟩, w5, w6⟩ := id cW
    obtain ⟨-, -, ⟨-, o3, o4, -⟩, -, -, o5, o6⟩ := hC.outl
    obtain ⟨a9, c9, s1, s2, s3⟩ := hC.ls
    have hlo := fun h9 : l < oL (olM M) => hC.lo h9
    refine T.go [6] 90 ?_
    conv => whnf
    refine ⟨by decide, _, rfl, ?_⟩
    conv => whnf
    refine ⟨by decide, ?_⟩
    conv => whnf
    refine ⟨by omega, fun c14 => ?_, fun c14 => ?_⟩
    · conv => whnf
      refine ⟨?_, ?_⟩
      · obtain rfl : l = oL (olM M) := by omega
        rw [hy, s2]; exact n64m_at (by omega)
      conv => whnf
      refine ⟨?_, ?_⟩
      · obtain rfl : l = oL (olM M) := by omega
        rw [hx, hy, s1, s2]; exact n64_at s3
      conv => whnf
      obtain rfl : l = oL (olM M) := by omega
      rw [hx, hy]
      exact h
    · conv => whnf
      refine ⟨by decide, _, rfl, ?_⟩
      conv => whnf
      refine ⟨by decide, _, rfl, ?_⟩
      conv => whnf
      refine ⟨by omega, by decide, ?_⟩
      conv => whnf
      refine ⟨by decide, _, rfl, ?_⟩
      conv => whnf
      refine ⟨by decide, _, rfl, ?_⟩
      conv => whnf
      refine ⟨by omega, by decide, ?_⟩
      conv => whnf
      obtain ⟨f, c, q1, q2, q3, q4, q5, q6, q7, q8, -⟩ := hlo (by omega)
      exact ih (l + 1) _ _ (by omega) (by rw [hx, q7]; rfl) (by rw [hy, q8]; rfl) (by omega)
theorem s_X11_perimeter (T : ZTh (XX Ln xs) CZ RZ) {d b : Nat} {W H n bl : Nat} {M : Mo} {P SL : Nat → Mo} {u : Nat → Int}  {I : ZI} {L : ZL} {Q : ZQ} (hC : CB I L W H M P n SL bl u) (h : Q (.inl (some (.inr (.double (perimA M), 0)))) I L) : CZ (d + 1) k_X11_perimeter [.inr (.ref 0, 12)] b I L Q := by
  refine T.call rfl ?_
  refine T.go [6] 90 ?_
  conv => whnf
  exact l_perim T hC h (oL (olM M) + 1) 0 0 0 (by omega) rfl rfl (by omega)
end
