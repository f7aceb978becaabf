/-! QUESTIONS, 10 -/
section
variable {Ln : Nat} {xs : Nat → Int32} {CZ : Nat → ZC} {RZ : Nat → Nat → ZQ → ZP}
theorem WI.inE {O : Nat → Bool} {s : OS} (h : WI O s) : ∀ (m i : Nat), oL s - i ≤ m → i < oL s → 0 ≤ oFE s i ∧ 1 ≤ oEC s i ∧ oFE s i + oEC s i ≤ oE s
  | 0, i, h1, h2 => by omega
  | m + 1, i, h1, h2 => by
    obtain ⟨a1, a2, a3⟩ := h.2.2.2.2.1 i h2
    refine ⟨a2, a1, ?_⟩
    by_cases e : i + 1 < oL s
    · rw [if_pos e] at a3
      have := WI.inE h m (i + 1) (by omega) e
      omega
    · rw [if_neg e] at a3
      omega
theorem CB.lo {I : ZI} {L : ZL} {W H : Nat} {M : Mo} {P : Nat → Mo} {n : Nat} {SL : Nat → Mo} {bl : Nat} {u : Nat → Int} (h : CB I L W H M P n SL bl u) {l : Nat} (hl : l < oL (olM M)) : ∃ f c : Nat, oFE (olM M) l = f ∧ oEC (olM M) l = c ∧ 1 ≤ c ∧ f + c ≤ oE (olM M) ∧ I 539 l = f ∧ I 540 l = c ∧ I 541 l = oLG (olM M) l ∧ I 542 l = oSH (olM M) l ∧ I 543 l = oAR (olM M) l ∧ 0 ≤ oLG (olM M) l ∧ oLG (olM M) l ≤ 192 ∧ 0 ≤ oSH (olM M) l ∧ oSH (olM M) l ≤ 192 := by
  obtain ⟨o1, o2, o3, o4, o5, o6, o7⟩ := h.outl
  obtain ⟨a1, a2, a3⟩ := o1.inE (oL (olM M)) l (by omega) hl
  obtain ⟨f, hf⟩ := Int.eq_ofNat_of_zero_le a1
  obtain ⟨c, hc⟩ := Int.eq_ofNat_of_zero_le (a := oEC (olM M) l) (by omega)
  obtain ⟨b1, b2, b3, b4, b5⟩ := o3.2.2.2.2 l hl
  have hb := o4.2 l hl
  refine ⟨f, c, hf, hc, by omega, by omega, by rw [b1, hf], by rw [b2, hc], b3, b4, b5, ?_⟩
  generalize cn (oW (olM M)) 5000 = x at *
  omega
theorem CB.ed {I : ZI} {L : ZL} {W H : Nat} {M : Mo} {P : Nat → Mo} {n : Nat} {SL : Nat → Mo} {bl : Nat} {u : Nat → Int} (h : CB I L W H M P n SL bl u) {e : Nat} (he : e < oE (olM M)) : I 536 e = oD (olM M) e ∧ I 537 e = oC (olM M) e ∧ I 538 e = oK (olM M) e ∧ 0 ≤ oD (olM M) e ∧ oD (olM M) e < 8 ∧ 0 ≤ oK (olM M) e ∧ oK (olM M) e < 625 ∧ 0 ≤ oC (olM M) e ∧ oC (olM M) e ≤ 192 := by
  obtain ⟨o1, o2, o3, o4, o5, o6, o7⟩ := h.outl
  obtain ⟨b1, b2, b3⟩ := o3.2.2.2.1 e he
  have hb := o4.1 e he
  refine ⟨b1, b2, b3, ?_⟩
  generalize cn (oW (olM M)) 5000 = x at *
  omega
noncomputable def aLoop (s : OS) (l : Nat) (w : Int) : Int := match w.toNat with
  | 0 => oEC s l
  | 1 => oLG s l
  | 2 => oSH s l
  | 3 => if oAR s l < 0 then 1 else 0
  | 4 => oK s (oFE s l).toNat % 25
  | _ => oK s (oFE s l).toNat / 25
noncomputable def aEdge (s : OS) (l e : Nat) (w : Int) : Int := match w.toNat with
  | 0 => oD s ((oFE s l).toNat + e)
  | 1 => oC s ((oFE s l).toNat + e)
  | 2 => oK s ((oFE s l).toNat + e) % 25
  | 3 => oK s ((oFE s l).toNat + e) / 25
  | _ => (oD s ((oFE s l).toNat + e) - oD s (if e = 0 then (oFE s l).toNat + (oEC s l).toNat - 1 else (oFE s l).toNat + e - 1) + 3) % 8 - 3
theorem s_X11_loop (T : ZTh (XX Ln xs) CZ RZ) {d b : Nat} {W H n bl : Nat} {M : Mo} {P SL : Nat → Mo} {u : Nat → Int} {l w : Int} {I : ZI} {L : ZL} {Q : ZQ} (hb : 2 ≤ b) (hC : CB I L W H M P n SL bl u) (hl : zR l) (hw : zR w) (h : 0 ≤ l → l < oL (olM M) → 0 ≤ w ∧ w ≤ 5 → Q (.inl (some (.inl (aLoop (olM M) l.toNat w)))) I L) (h2 : ¬ (0 ≤ l ∧ l < oL (olM M)) → Q (.inr 3) I L) (h3 : 0 ≤ l ∧ l < oL (olM M) → ¬ (0 ≤ w ∧ w ≤ 5) → Q (.inr 1) I L) : CZ (d + 2) k_X11_loop [.inr (.ref 0, 12), .inl l, .inl w] b I L Q := by
  refine T.call rfl ?_
  obtain ⟨cF, cS, cW, cSil, cPa, cPw, cSl, cFi, cb1, cb2, cb3⟩ := id hC
  obtain ⟨t1, t2, t3, t4, t5⟩ := id cS
  obtain ⟨⟨⟨w1, w2, w3, w4⟩, -⟩, w5, w6⟩ := id cW
  have ho := hC.outl
  obtain ⟨-, -, ⟨-, o3, o4, -⟩, -, -, o5, o6⟩ := id ho
  refine T.go [] 150 ?_
  conv => whnf
  refine ⟨1, by omega, s_X11_checkLoop T (w := l) (by first | assumption | omega | rfl | decide) (by first | assumption | omega | rfl | decide) (by exact ⟨by omega, by omega⟩) ?_ ?_⟩
  · intro cha_2 chb_2
    obtain ⟨l, rfl⟩ := Int.eq_ofNat_of_zero_le cha_2
    have hl : l < oL (olM M) := by omega
    obtain ⟨f, c, q1, q2, q3, q4, q5, q6, q7, q8, q9, qa, qb, qc, qd⟩ := hC.lo hl
    have hml : ((l : Nat) : Int).toNat = l := Int.toNat_natCast l
    have hqf : (oFE (olM M) l).toNat = f := by rw [q1]; exact Int.toNat_natCast f
    have hqc : (oEC (olM M) l).toNat = c := by rw [q2]; exact Int.toNat_natCast c
    have hzar := (hC.zAR hl).1
    conv => whnf
    refine ⟨1, by omega, s_X11_checkWhat T  (by first | assumption | omega | rfl | decide) (by first | assumption | omega | rfl | decide) (by first | assumption | omega | rfl | decide) ?_ ?_⟩
    · intro cha_7
      have h9 := h (by omega) (by omega) cha_7
      rw [hml] at h9
      have hed := hC.ed (e := f) (by omega)
      obtain ⟨u1, u2, u3, u4, u5, u6, u7, u8, u9⟩ := hed
      conv => whnf
      refine ⟨by decide, _, rfl, ?_⟩
      conv => whnf
      refine ⟨by decide, _, rfl, ?_⟩
      conv => whnf
      refine ⟨by omega, by decide, ?_⟩
      conv => whnf
      refine ⟨by omega, fun c21 => ?_, ?_⟩
      · conv => whnf
        refine ⟨by decide, _, rfl, ?_⟩
        conv => whnf
        refine ⟨by decide, _, rfl, ?_⟩
        conv => whnf
        refine ⟨by omega, by decide, ?_⟩
        conv => whnf
        refine ⟨by rw [q5, u3]; omega, Or.inl ⟨by rw [q5, u3]; omega, ?_⟩⟩
        conv => whnf
        obtain rfl : w = 5 := by omega
        have e : aLoop (olM M) l 5 = oK (olM M) f / 25 := by rw [← hqf]; rfl
        rw [e] at h9
        rw [q5, u3]
        exact h9
      refine ⟨fun c21 => ?_, ?_⟩
      · conv => whnf
        refine ⟨by decide, _, rfl, ?_⟩
        conv => whnf
        refine ⟨by decide, _, rfl, ?_⟩
        conv => whnf
        refine ⟨by omega, by decide, ?_⟩
        conv => whnf
        obtain rfl : w = 0 := by omega
        rw [q6, ← q2]
        exact h9
      refine ⟨fun c21 => ?_, ?_⟩
      · conv => whnf
        refine ⟨by decide, _, rfl, ?_⟩
        conv => whnf
        refine ⟨by decide, _, rfl, ?_⟩
        conv => whnf
        refine ⟨by omega, by decide, ?_⟩
        conv => whnf
        obtain rfl : w = 1 := by omega
        rw [q7]
        exact h9
      refine ⟨fun c21 => ?_, ?_⟩
      · conv => whnf
        refine ⟨by decide, _, rfl, ?_⟩
        conv => whnf
        refine ⟨by decide, _, rfl, ?_⟩
        conv => whnf
        refine ⟨by omega, by decide, ?_⟩
        conv => whnf
        obtain rfl : w = 2 := by omega
        rw [q8]
        exact h9
      refine ⟨fun c21 => ?_, ?_⟩
      · conv => whnf
        refine ⟨by decide, _, rfl, ?_⟩
        conv => whnf
        refine zinv0 (s_X3_isHole T  (by omega) (by exact hzar) ?_ ?_)
        · intro cha_91
          conv => whnf
          refine ⟨by decide, fun c => absurd c (by decide), fun _ => ?_⟩
          conv => whnf
          obtain rfl : w = 3 := by omega
          have e : aLoop (olM M) l 3 = 1 := if_pos (by omega)
          rw [e] at h9
          exact h9
        · intro ch2a_91
          conv => whnf
          refine ⟨by decide, fun _ => ?_, fun c => absurd c (by decide)⟩
          conv => whnf
          obtain rfl : w = 3 := by omega
          have e : aLoop (olM M) l 3 = 0 := if_neg (by omega)
          rw [e] at h9
          exact h9
      refine ⟨fun c21 => ?_, ?_⟩
      · conv => whnf
        refine ⟨by decide, _, rfl, ?_⟩
        conv => whnf
        refine ⟨by decide, _, rfl, ?_⟩
        conv => whnf
        refine ⟨by omega, by decide, ?_⟩
        conv => whnf
        refine ⟨by rw [q5, u3]; omega, ?_⟩
        conv => whnf
        obtain rfl : w = 4 := by omega
        have e : aLoop (olM M) l 4 = oK (olM M) f % 25 := by rw [← hqf]; rfl
        rw [e] at h9
        rw [q5, u3]
        exact h9
      exact trivial
    · intro ch2a_7
      exact h3 (by omega) ch2a_7
  · intro ch2a_2
    exact h2 (fun c => ch2a_2 (by omega))
end
