/-! QUESTIONS, 5 -/
section
variable {Ln : Nat} {xs : Nat → Int32} {CZ : Nat → ZC} {RZ : Nat → Nat → ZQ → ZP}
def mtC (M : Mo) (p o : Nat) : Int := if p < o ∧ mF M p ≠ -1 ∧ mF M o ≠ -1 then mtA M p o else 0
def matchesA (M : Mo) : Int := smI (fun p => smI (mtC M p) 7) 7
theorem mtC_b {W H : Nat} {M : Mo} (hw : Wq W H M) {p o : Nat} (hp : p < 7) (ho : o < 7) : 0 ≤ mtC M p o ∧ mtC M p o ≤ 16 := by
  unfold mtC
  split
  · rename_i h
    exact mtA_b (hw.form hp h.2.1).1 (hw.form ho h.2.2).1
  · exact ⟨by omega, by omega⟩
theorem smI_bn {f : Nat → Int} {c : Int} {k : Nat} (h : ∀ i, i < k → 0 ≤ f i ∧ f i ≤ c) : ∀ n, n ≤ k → 0 ≤ smI f n ∧ smI f n ≤ c * n
  | 0, _ => ⟨Int.le_refl _, by show (0 : Int) ≤ c * 0; omega⟩
  | n + 1, hn => by
    have := smI_bn h n (by omega)
    have := h n (by omega)
    have e : c * ((n + 1 : Nat) : Int) = c * n + c := by rw [Int.natCast_add, Int.mul_add]; omega
    show 0 ≤ smI f n + f n ∧ smI f n + f n ≤ _
    rw [e]
    omega
theorem smI_0 {f : Nat → Int} : ∀ n, (∀ i, i < n → f i = 0) → smI f n = 0
  | 0, _ => rfl
  | n + 1, h => by
    show smI f n + f n = 0
    rw [smI_0 n (fun i hi => h i (by omega)), h n (by omega)]; rfl
theorem mtR7_b {W H : Nat} {M : Mo} (hw : Wq W H M) {p : Nat} (hp : p < 7) : 0 ≤ smI (mtC M p) 7 ∧ smI (mtC M p) 7 ≤ 112 := by
  have := smI_bn (f := mtC M p) (c := 16) (fun i hi => mtC_b hw hp hi) 7 (by omega)
  omega
theorem l_matI (T : ZTh (XX Ln xs) CZ RZ) {d b : Nat} {Q : ZQ} {p : Nat} {c0 : Int} {W H n bl : Nat} {M : Mo} {P SL : Nat → Mo} {u : Nat → Int} {I : ZI} {L : ZL} (hC : CB I L W H M P n SL bl u) (hp : p < 7) (hc0 : 0 ≤ c0 ∧ c0 ≤ 1000) (hk : RZ (d + 3) k_X11_matches Q 4 [.inr (.ref 0, 12), .inl (c0 + smI (mtC M p) 7), .inl ((p : Int) + 1), zj] [] b I L) (m : Nat) : ∀ (o : Nat) (c : Int), (p < o ∧ o ≤ 7) → (c = c0 + smI (mtC M p) o) → 7 - (o : Int) < (m : Int) → RZ (d + 3) k_X11_matches Q 14 [.inr (.ref 0, 12), .inl c, .inl ((p : Int)), .inl ((o : Int))] [] b I L := by
  induction m with
  | zero =>
    intro o c ho hc hm
    exfalso
    omega
  | succ m ih =>
    intro o c ho hc hm
    obtain ⟨cF, cS, cW, cSil, cPa, cPw, cSl, cFi, cb1, cb2, cb3⟩ := id hC
    obtain ⟨t1, t2, t3, t4, t5⟩ := id cS
    obtain ⟨⟨⟨w1, w2, w3, w4⟩, -⟩, w5, -⟩ := id cW
    have hsb := smI_bn (f := mtC M p) (c := 16) (fun i hi => mtC_b cW.1 hp hi) o ho.2
    have f1 : I (283 + 3) (p : Int) = mF M p := (t3 p (by omega) (by omega)).1
    have f2 := fun h : o < 7 => (t3 o (by omega) (by omega)).1
    have f3 := fun h : o < 7 => mtC_b cW.1 hp h
    refine T.go [4, 14] 90 ?_
    conv => whnf
    refine ⟨by omega, fun c17 => ?_, fun c17 => ?_⟩
    · conv => whnf
      refine T.fg [3] ?_
      obtain rfl : o = 7 := by omega
      rw [hc]
      exact hk
    · conv => whnf
      refine ⟨by decide, _, rfl, ?_⟩
      conv => whnf
      refine ⟨by decide, _, rfl, ?_⟩
      conv => whnf
      refine zinv0 (s_X5_isOff T  (by rfl) (by first | assumption | omega | rfl | decide) (by omega) (by exact t3.zR cW.1 (by omega) (by omega)) ?_ ?_)
      · intro cha_28
        conv => whnf
        refine ⟨by decide, fun _ => ?_, fun c => absurd c (by decide)⟩
        conv => whnf
        have f5 : mtC M p o = 0 := if_neg (fun e => e.2.1 (f1.symm.trans cha_28))
        refine ih (o + 1) _ (by omega) ?_ (by omega)
        show _ = c0 + (smI _ o + mtC M p o)
        omega
      · intro ch2a_28
        conv => whnf
        refine ⟨by decide, fun c => absurd c (by decide), fun _ => ?_⟩
        conv => whnf
        refine ⟨by decide, _, rfl, ?_⟩
        conv => whnf
        refine ⟨by decide, _, rfl, ?_⟩
        conv => whnf
        have f4 : I (283 + 3) (o : Int) = mF M o := f2 (by omega)
        refine zinv0 (s_X5_isOff T  (by rfl) (by first | assumption | omega | rfl | decide) (by omega) (by exact t3.zR cW.1 (by omega) (by omega)) ?_ ?_)
        · intro cha_42
          conv => whnf
          refine ⟨by decide, fun _ => ?_, fun c => absurd c (by decide)⟩
          conv => whnf
          have f5 : mtC M p o = 0 := if_neg (fun e => e.2.2 (f4.symm.trans cha_42))
          refine ih (o + 1) _ (by omega) ?_ (by omega)
          show _ = c0 + (smI _ o + mtC M p o)
          omega
        · intro ch2a_42
          conv => whnf
          refine ⟨by decide, fun c => absurd c (by decide), fun _ => ?_⟩
          conv => whnf
          have f5 : mtC M p o = mtA M p o := if_pos ⟨ho.1, fun e => ch2a_28 (f1.trans e), fun e => ch2a_42 (f4.trans e)⟩
          have f6 := f3 (by omega)
          refine zinv0 (s_X11_countMatches T  (by exact hC) (by exact hp) (by omega) (by exact fun e => ch2a_28 (f1.trans e)) (by exact fun e => ch2a_42 (f4.trans e)) ?_)
          conv => whnf
          
          refine ih (o + 1) _ (by omega) ?_ (by omega)
          show _ = c0 + (smI _ o + mtC M p o)
          omega
theorem l_matO (T : ZTh (XX Ln xs) CZ RZ) {d b : Nat} {Q : ZQ} {W H n bl : Nat} {M : Mo} {P SL : Nat → Mo} {u : Nat → Int} {I : ZI} {L : ZL} (hC : CB I L W H M P n SL bl u) (h : Q (.inl (some (.inl (matchesA M)))) I L) (m : Nat) : ∀ (p : Nat) (c : Int), (p ≤ 7) → (c = smI (fun p => smI (mtC M p) 7) p) → 7 - (p : Int) < (m : Int) → RZ (d + 3) k_X11_matches Q 4 [.inr (.ref 0, 12), .inl c, .inl ((p : Int)), zj] [] b I L := by
  induction m with
  | zero =>
    intro p c hp hc hm
    exfalso
    omega
  | succ m ih =>
    intro p c hp hc hm
    obtain ⟨cF, cS, cW, cSil, cPa, cPw, cSl, cFi, cb1, cb2, cb3⟩ := id hC
    obtain ⟨t1, t2, t3, t4, t5⟩ := id cS
    obtain ⟨⟨⟨w1, w2, w3, w4⟩, -⟩, w5, -⟩ := id cW
    have hsb := smI_bn (f := fun p => smI (mtC M p) 7) (c := 112) (fun i hi => mtR7_b cW.1 hi) p hp
    refine T.go [14] 90 ?_
    conv => whnf
    refine ⟨by omega, fun c7 => ?_, fun c7 => ?_⟩
    · conv => whnf
      obtain rfl : p = 7 := by omega
      rw [hc]
      exact h
    · conv => whnf
      exact l_matI T (c0 := c) hC (by omega) (by omega) (ih (p + 1) _ (by omega) (by rw [hc]; rfl) (by omega)) 8 (p + 1) c (by omega) (by rw [smI_0 (f := mtC M p) (p + 1) (fun i hi => if_neg (fun e => absurd e.1 (by omega)))]; omega) (by omega)
theorem s_X11_matches (T : ZTh (XX Ln xs) CZ RZ) {d b : Nat} {W H n bl : Nat} {M : Mo} {P SL : Nat → Mo} {u : Nat → Int}  {I : ZI} {L : ZL} {Q : ZQ} (hC : CB I L W H M P n SL bl u) (h : Q (.inl (some (.inl (matchesA M)))) I L) : CZ (d + 4) k_X11_matches [.inr (.ref 0, 12)] b I L Q := by
  refine T.call rfl ?_
  refine T.go [4] 90 ?_
  conv => whnf
  exact l_matO T hC h 8 0 0 (by omega) rfl (by omega)
def innR (M : Mo) (p : Nat) : Int := if mF M p ≠ -1 ∧ seamA M p (-1) 1 = 0 ∧ seamA M p (-1) 0 = 0 then 2 ^ p else 0
def innerA (M : Mo) : Int := smI (innR M) 7
theorem innR_b (M : Mo) {p : Nat} (hp : p < 7) : 0 ≤ innR M p ∧ innR M p ≤ 64 := by
  unfold innR
  split
  · have : p = 0 ∨ p = 1 ∨ p = 2 ∨ p = 3 ∨ p = 4 ∨ p = 5 ∨ p = 6 := by omega
    rcases this with e | e | e | e | e | e | e <;> subst e <;> exact ⟨by decide, by decide⟩
  · exact ⟨by omega, by omega⟩
theorem seamA_b (M : Mo) (p o l : Int) : 0 ≤ seamA M p o l ∧ seamA M p o l ≤ 1152 := by
  have := smI_b (smc_b M p o l) 576
  unfold seamA
  omega
theorem l_inner (T : ZTh (XX Ln xs) CZ RZ) {d b : Nat} {Q : ZQ} {W H n bl : Nat} {M : Mo} {P SL : Nat → Mo} {u : Nat → Int} {I : ZI} {L : ZL} (hC : CB I L W H M P n SL bl u) (h : Q (.inl (some (.inl (innerA M)))) I L) (m : Nat) : ∀ (p : Nat) (c : Int), (p ≤ 7) → (c = smI (innR M) p) → 7 - (p : Int) < (m : Int) → RZ (d + 2) k_X11_inner Q 4 [.inr (.ref 0, 12), .inl c, .inl ((p : Int))] [] b I L := by
  induction m with
  | zero =>
    intro p c hp hc hm
    exfalso
    omega
  | succ m ih =>
    intro p c hp hc hm
    obtain ⟨cF, cS, cW, cSil, cPa, cPw, cSl, cFi, cb1, cb2, cb3⟩ := id hC
    obtain ⟨t1, t2, t3, t4, t5⟩ := id cS
    obtain ⟨⟨⟨w1, w2, w3, w4⟩, -⟩, w5, -⟩ := id cW
    have hsb := smI_bn (f := innR M) (c := 64) (fun i hi => innR_b M hi) p hp
    have f1 := fun h : p < 7 => (t3 p (by omega) (by omega)).1
    have s1 := seamA_b M p (-1) 1
    have s0 := seamA_b M p (-1) 0
    refine T.go [4] 90 ?_
    conv => whnf
    refine ⟨by omega, fun c7 => ?_, fun c7 => ?_⟩
    · conv => whnf
      obtain rfl : p = 7 := by omega
      rw [hc]
      exact h
    · conv => whnf
      refine ⟨by decide, _, rfl, ?_⟩
      conv => whnf
      refine ⟨by decide, _, rfl, ?_⟩
      conv => whnf
      have f4 : I (283 + 3) (p : Int) = mF M p := f1 (by omega)
      refine zinv0 (s_X5_isOff T  (by rfl) (by first | assumption | omega | rfl | decide) (by omega) (by exact t3.zR cW.1 (by omega) (by omega)) ?_ ?_)
      · intro cha_18
        conv => whnf
        refine ⟨by decide, fun _ => ?_, fun c => absurd c (by decide)⟩
        conv => whnf
        have f5 : innR M p = 0 := if_neg (fun e => e.1 (f4.symm.trans cha_18))
        refine ih (p + 1) _ (by omega) ?_ (by omega)
        show _ = smI _ p + innR M p
        omega
      · intro ch2a_18
        conv => whnf
        refine ⟨by decide, fun c => absurd c (by decide), fun _ => ?_⟩
        conv => whnf
        refine ⟨by decide, _, rfl, ?_⟩
        conv => whnf
        refine zinv0 (s_X7_countSeams T M (by exact cSil.1) (by omega) (by omega) (by omega) ?_)
        conv => whnf
        refine ⟨by omega, fun c34 => ?_, fun c34 => ?_⟩
        · conv => whnf
          have f5 : innR M p = 0 := if_neg (fun e => by have := e.2; omega)
          refine ih (p + 1) _ (by omega) ?_ (by omega)
          show _ = smI _ p + innR M p
          omega
        · conv => whnf
          refine ⟨by decide, _, rfl, ?_⟩
          conv => whnf
          refine zinv0 (s_X7_countSeams T M (by exact cSil.1) (by omega) (by omega) (by omega) ?_)
          conv => whnf
          refine ⟨by omega, fun c47 => ?_, fun c47 => ?_⟩
          · conv => whnf
            have f5 : innR M p = 0 := if_neg (fun e => by have := e.2; omega)
            refine ih (p + 1) _ (by omega) ?_ (by omega)
            show _ = smI _ p + innR M p
            omega
          · conv => whnf
            refine ⟨by omega, ?_⟩
            conv => whnf
            have f5 : innR M p = 2 ^ p := if_pos ⟨fun e => ch2a_18 (f4.trans e), by omega, by omega⟩
            refine ih (p + 1) _ (by omega) ?_ (by omega)
            show _ = smI _ p + innR M p
            rw [f5, hc, Int.one_mul]
            rfl
theorem s_X11_inner (T : ZTh (XX Ln xs) CZ RZ) {d b : Nat} {W H n bl : Nat} {M : Mo} {P SL : Nat → Mo} {u : Nat → Int}  {I : ZI} {L : ZL} {Q : ZQ} (hC : CB I L W H M P n SL bl u) (h : Q (.inl (some (.inl (innerA M)))) I L) : CZ (d + 3) k_X11_inner [.inr (.ref 0, 12)] b I L Q := by
  refine T.call rfl ?_
  refine T.go [4] 90 ?_
  conv => whnf
  exact l_inner T hC h 8 0 0 (by omega) rfl (by omega)
end
