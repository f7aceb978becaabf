/-! QUESTIONS, 11 -/
section
variable {Ln : Nat} {xs : Nat → Int32} {CZ : Nat → ZC} {RZ : Nat → Nat → ZQ → ZP}
theorem s_X11_edge (T : ZTh (XX Ln xs) CZ RZ) {d b : Nat} {W H n bl : Nat} {M : Mo} {P SL : Nat → Mo} {u : Nat → Int} {l e w : Int} {I : ZI} {L : ZL} {Q : ZQ} (hb : 2 ≤ b) (hC : CB I L W H M P n SL bl u) (hl : zR l) (he : zR e) (hw : zR w) (h : 0 ≤ l → l < oL (olM M) → 0 ≤ e → e < oEC (olM M) l.toNat → 0 ≤ w ∧ w ≤ 4 → Q (.inl (some (.inl (aEdge (olM M) l.toNat e.toNat w)))) I L) (h2 : ¬ ((0 ≤ l ∧ l < oL (olM M)) ∧ 0 ≤ e ∧ e < oEC (olM M) l.toNat) → Q (.inr 3) I L) (h3 : (0 ≤ l ∧ l < oL (olM M)) ∧ 0 ≤ e ∧ e < oEC (olM M) l.toNat → ¬ (0 ≤ w ∧ w ≤ 4) → Q (.inr 1) I L) : CZ (d + 2) k_X11_edge [.inr (.ref 0, 12), .inl l, .inl e, .inl w] b I L Q := by
  refine T.call rfl ?_
  obtain ⟨cF, cS, cW, cSil, cPa, cPw, cSl, cFi, cb1, cb2, cb3⟩ := id hC
  obtain ⟨t1, t2, t3, t4, t5⟩ := id cS
  obtain ⟨⟨⟨w1, w2, w3, w4⟩, -⟩, w5, w6⟩ := id cW
  have ho := hC.outl
  obtain ⟨-, -, ⟨-, o3, o4, -⟩, -, -, o5, o6⟩ := id ho
  refine T.go [] 150 ?_
  conv => whnf
  refine ⟨1, by omega, s_X11_checkLoop T (w := l) (by first | assumption | omega | rfl | decide) (by first | assumption | omega | rfl | decide) (by exact ⟨by omega, by omega⟩) ?_ ?_⟩
  · intro cha_2 chb_2
    obtain ⟨l, rfl⟩ := Int.eq_ofNat_of_zero_le cha_2
    have hl : l < oL (olM M) := by omega
    obtain ⟨f, c, q1, q2, q3, q4, q5, q6, q7, q8, q9, qa, qb, qc, qd⟩ := hC.lo hl
    have hml : ((l : Nat) : Int).toNat = l := Int.toNat_natCast l
    have hqf : (oFE (olM M) l).toNat = f := by rw [q1]; exact Int.toNat_natCast f
    have hqc : (oEC (olM M) l).toNat = c := by rw [q2]; exact Int.toNat_natCast c
    have hzar := (hC.zAR hl).1
    have hq2 : oEC (olM M) ((l : Nat) : Int).toNat = c := by rw [hml]; exact q2
    conv => whnf
    refine ⟨by omega, fun c6 => ?_, fun c6 => ?_⟩
    · conv => whnf
      refine ⟨by omega, ?_⟩
      exact h2 (by omega)
    · conv => whnf
      refine ⟨by decide, _, rfl, ?_⟩
      conv => whnf
      refine ⟨by decide, _, rfl, ?_⟩
      conv => whnf
      refine ⟨by omega, by decide, ?_⟩
      conv => whnf
      refine ⟨by omega, fun c19 => ?_, fun c19 => ?_⟩
      · conv => whnf
        refine ⟨1, by omega, s_X11_checkWhat T  (by first | assumption | omega | rfl | decide) (by first | assumption | omega | rfl | decide) (by first | assumption | omega | rfl | decide) ?_ ?_⟩
        · intro cha_35
          obtain ⟨e, rfl⟩ := Int.eq_ofNat_of_zero_le c6
          have he : e < c := by omega
          have hme : ((e : Nat) : Int).toNat = e := Int.toNat_natCast e
          have ei : (f : Int) + (e : Int) = ((f + e : Nat) : Int) := by omega
          have h9 := h (by omega) (by omega) (by omega) (by omega) cha_35
          rw [hml, hme] at h9
          obtain ⟨u1, u2, u3, u4, u5, u6, u7, u8, u9⟩ := hC.ed (e := f + e) (by omega)
          conv => whnf
          refine ⟨by decide, _, rfl, ?_⟩
          conv => whnf
          refine ⟨by decide, _, rfl, ?_⟩
          conv => whnf
          refine ⟨by omega, by decide, ?_⟩
          conv => whnf
          refine ⟨by omega, fun c52 => ?_, ?_⟩
          · conv => whnf
            refine ⟨by decide, _, rfl, ?_⟩
            conv => whnf
            refine zinv0 (s_X3_bend T (f := f) (c := c) (e := e) (by omega) (by exact q5) (by exact q6) (by omega) ?_)
            conv => whnf
            obtain rfl : w = 4 := by omega
            have v1 := (hC.ed (e := if e = 0 then f + c - 1 else f + e - 1) (by split <;> omega)).1
            rw [u1, v1]
            have e9 : aEdge (olM M) l e 4 = (oD (olM M) (f + e) - oD (olM M) (if e = 0 then f + c - 1 else f + e - 1) + 3) % 8 - 3 := by rw [← hqf, ← hqc]; rfl
            rw [e9] at h9
            exact h9
          refine ⟨fun c52 => ?_, ?_⟩
          · conv => whnf
            refine ⟨by decide, _, rfl, ?_⟩
            conv => whnf
            refine ⟨by decide, _, rfl, ?_⟩
            conv => whnf
            refine ⟨by omega, by decide, ?_⟩
            conv => whnf
            obtain rfl : w = 0 := by omega
            rw [q5, ei, u1]
            have e9 : aEdge (olM M) l e 0 = oD (olM M) (f + e) := by rw [← hqf]; rfl
            rw [e9] at h9
            exact h9
          refine ⟨fun c52 => ?_, ?_⟩
          · conv => whnf
            refine ⟨by decide, _, rfl, ?_⟩
            conv => whnf
            refine ⟨by decide, _, rfl, ?_⟩
            conv => whnf
            refine ⟨by omega, by decide, ?_⟩
            conv => whnf
            obtain rfl : w = 1 := by omega
            rw [q5, ei, u2]
            have e9 : aEdge (olM M) l e 1 = oC (olM M) (f + e) := by rw [← hqf]; rfl
            rw [e9] at h9
            exact h9
          refine ⟨fun c52 => ?_, ?_⟩
          · conv => whnf
            refine ⟨by decide, _, rfl, ?_⟩
            conv => whnf
            refine ⟨by decide, _, rfl, ?_⟩
            conv => whnf
            refine ⟨by omega, by decide, ?_⟩
            conv => whnf
            refine ⟨by rw [q5, ei, u3]; omega, ?_⟩
            conv => whnf
            obtain rfl : w = 2 := by omega
            rw [q5, ei, u3]
            have e9 : aEdge (olM M) l e 2 = oK (olM M) (f + e) % 25 := by rw [← hqf]; rfl
            rw [e9] at h9
            exact h9
          refine ⟨fun c52 => ?_, ?_⟩
          · conv => whnf
            refine ⟨by decide, _, rfl, ?_⟩
            conv => whnf
            refine ⟨by decide, _, rfl, ?_⟩
            conv => whnf
            refine ⟨by omega, by decide, ?_⟩
            conv => whnf
            refine ⟨by rw [q5, ei, u3]; omega, Or.inl ⟨by rw [q5, ei, u3]; omega, ?_⟩⟩
            conv => whnf
            obtain rfl : w = 3 := by omega
            rw [q5, ei, u3]
            have e9 : aEdge (olM M) l e 3 = oK (olM M) (f + e) / 25 := by rw [← hqf]; rfl
            rw [e9] at h9
            exact h9
          exact trivial
        · intro ch2a_35
          exact h3 (by omega) ch2a_35
      · conv => whnf
        refine ⟨by omega, ?_⟩
        exact h2 (by omega)
  · intro ch2a_2
    exact h2 (fun c => ch2a_2 (by omega))

end
