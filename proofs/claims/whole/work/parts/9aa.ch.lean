/-! CHANGES, 9 -/
section
variable {Ln : Nat} {xs : Nat → Int32} {CZ : Nat → ZC} {RZ : Nat → Nat → ZQ → ZP}
/-- the first k pieces shifted -/
def shK (M : Mo) (dx dy : Int) (k : Nat) : Mo := (fun j => if j < (k : Int) then mX M j + dx else mX M j, fun j => if j < (k : Int) then mY M j + dy else mY M j, mF M, mN M, mS M)
/-- piece j may be shifted -/
def shO (W H : Nat) (M : Mo) (dx dy : Int) (j : Nat) : Prop := mF M j = -1 ∨ InB W H (fi M j) (mX M j + dx) (mY M j + dy)
theorem shK_F (M : Mo) (dx dy : Int) (k : Nat) (j : Int) : mF (shK M dx dy k) j = mF M j := rfl
theorem shK_X (M : Mo) (dx dy : Int) (k : Nat) (j : Int) : mX (shK M dx dy k) j = if j < (k : Int) then mX M j + dx else mX M j := rfl
theorem shK_Y (M : Mo) (dx dy : Int) (k : Nat) (j : Int) : mY (shK M dx dy k) j = if j < (k : Int) then mY M j + dy else mY M j := rfl
theorem Wq.sh {W H : Nat} {M : Mo} (h : Wq W H M) {dx dy : Int} (ho : ∀ j : Nat, j < 7 → shO W H M dx dy j) : Wq W H (shK M dx dy 7) := by
  obtain ⟨a1, a2, a3⟩ := id h
  refine ⟨a1, fun j hj => ?_, fun i j hi hj hij hfi hfj q hci hcj => ?_⟩
  · rw [shK_X, shK_Y, if_pos (by omega), if_pos (by omega)]
    rcases ho j hj with e | e
    · exact Or.inl e
    · rcases a2 j hj with e1 | ⟨e1, e2, _⟩
      · exact Or.inl e1
      · exact Or.inr ⟨e1, e2, e⟩
  · have hfi' : mF M i ≠ -1 := hfi
    have hfj' : mF M j ≠ -1 := hfj
    have bi := (ho i hi).resolve_left hfi'
    have bj := (ho j hj).resolve_left hfj'
    obtain ⟨-, -, -, -, ci⟩ := h.form hi hfi'
    obtain ⟨-, -, -, -, cj⟩ := h.form hj hfj'
    unfold InB at bi bj ci cj
    unfold cvr shf at hci hcj
    rw [Bool.and_eq_true, decide_eq_true_iff] at hci hcj
    obtain ⟨hi1, hi2⟩ := hci
    obtain ⟨hj1, hj2⟩ := hcj
    have ei : fo (shK M dx dy 7) i = 48 * (mY M i + dy).toNat + 4 * (mX M i + dx).toNat := by
      unfold fo
      rw [shK_X, shK_Y, if_pos (by omega), if_pos (by omega)]
    have ej : fo (shK M dx dy 7) j = 48 * (mY M j + dy).toNat + 4 * (mX M j + dx).toNat := by
      unfold fo
      rw [shK_X, shK_Y, if_pos (by omega), if_pos (by omega)]
    rw [ei] at hi1 hi2
    rw [ej] at hj1 hj2
    have fi0 : fo M i = 48 * (mY M i).toNat + 4 * (mX M i).toNat := rfl
    have fj0 : fo M j = 48 * (mY M j).toNat + 4 * (mX M j).toNat := rfl
    obtain ⟨zi, hzi⟩ : ∃ z, z = q - (48 * (mY M i + dy).toNat + 4 * (mX M i + dx).toNat) := ⟨_, rfl⟩
    obtain ⟨zj', hzj⟩ : ∃ z, z = q - (48 * (mY M j + dy).toNat + 4 * (mX M j + dx).toNat) := ⟨_, rfl⟩
    rw [← hzi] at hi2
    rw [← hzj] at hj2
    have hz : zi + fo M i = zj' + fo M j := by
      rw [fi0, fj0]
      omega
    refine a3 i j hi hj hij hfi' hfj' (zi + fo M i) ?_ ?_
    · unfold cvr shf
      rw [Bool.and_eq_true, decide_eq_true_iff, Nat.add_sub_cancel]
      exact ⟨Nat.le_add_left _ _, hi2⟩
    · unfold cvr shf
      rw [hz, Bool.and_eq_true, decide_eq_true_iff, Nat.add_sub_cancel]
      exact ⟨Nat.le_add_left _ _, hj2⟩
theorem s_X11_canShift (T : ZTh (XX Ln xs) CZ RZ) {d b : Nat} {W H n bl : Nat} {M : Mo} {P SL : Nat → Mo} {u : Nat → Int} {p : Nat} {dx dy : Int} {I : ZI} {L : ZL} {Q : ZQ} (hC : CB I L W H M P n SL bl u) (hp : p < 7) (hf : mF M p ≠ -1) (hx : zR dx) (hy : zR dy) (h : InB W H (fi M p) (mX M p + dx) (mY M p + dy) → Q (.inl (some (.inl (1)))) I L) (h2 : ¬ InB W H (fi M p) (mX M p + dx) (mY M p + dy) → Q (.inl (some (.inl (0)))) I L) : CZ (d + 2) k_X11_canShift [.inr (.ref 0, 12), .inl ((p : Int)), .inl dx, .inl dy] b I L Q := by
  refine T.call rfl ?_
  obtain ⟨cF, cS, cW, cSil, cPa, cPw, cSl, cFi, cb1, cb2, cb3⟩ := id hC
  obtain ⟨t1, t2, t3, t4, t5⟩ := id cS
  obtain ⟨⟨⟨w1, w2, w3, w4⟩, -⟩, w5, w6⟩ := id cW
  have f2 : I 286 (p : Int) = mF M p := (t3 p (by omega) (by omega)).1
  obtain ⟨f5, f6⟩ := (t3 p (by omega) (by omega)).2 hf
  replace f5 : I 284 (p : Int) = mX M p := f5
  replace f6 : I 285 (p : Int) = mY M p := f6
  obtain ⟨b1, b2, b3, b4, b5⟩ := cW.1.form hp hf
  obtain ⟨gS, gM, -, -, -, -⟩ := cF (fi M p) b1
  obtain ⟨m2, m3, m4, m5⟩ := gM.at
  obtain ⟨u1, u2, u3, u4, u5⟩ := fS_box b1
  obtain ⟨d1, d2, d3, d4, -, -⟩ := fW_b b1
  rw [u4] at m4
  rw [u2] at m5
  have z3 : za (2 + 5 * fi M p) 3 = 5 + 5 * fi M p + 1 := by rw [(za_fm b1).2.2.2.1]; omega
  unfold InB at b5 h h2
  refine T.go [] 150 ?_
  conv => whnf
  refine ⟨by decide, _, rfl, ?_⟩
  conv => whnf
  refine ⟨by decide, _, rfl, ?_⟩
  conv => whnf
  refine ⟨by decide, _, rfl, ?_⟩
  conv => whnf
  refine ⟨by omega, by decide, ?_⟩
  conv => whnf
  refine ⟨by decide, _, rfl, ?_⟩
  conv => whnf
  refine ⟨by decide, _, rfl, ?_⟩
  conv => whnf
  refine ⟨by decide, _, rfl, ?_⟩
  conv => whnf
  refine ⟨by omega, by decide, ?_⟩
  conv => whnf
  refine ⟨by decide, _, rfl, ?_⟩
  conv => whnf
  refine ⟨by decide, _, rfl, ?_⟩
  conv => whnf
  refine ⟨by decide, _, rfl, ?_⟩
  conv => whnf
  refine ⟨by decide, _, rfl, ?_⟩
  conv => whnf
  refine ⟨by omega, by decide, ?_⟩
  conv => whnf
  rw [f2]
  refine zinv0 (s_X11_formAt T (fi M p) (by omega) (by exact b1) ?_)
  conv => whnf
  refine ⟨(show (¬ (_ : Nat) = _) ∧ (¬ (_ : Nat) = _) from by omega), _, z3, ?_⟩
  conv => whnf
  refine ⟨by rw [f5]; omega, fun c57 => ?_, fun c57 => ?_⟩
  · conv => whnf
    refine ⟨by omega, ?_⟩
    refine h2 ?_
    rw [f5] at c57
    omega
  · conv => whnf
    refine ⟨by decide, _, rfl, ?_⟩
    conv => whnf
    refine ⟨by decide, ?_⟩
    conv => whnf
    refine ⟨(show (¬ (_ : Nat) = _) ∧ (¬ (_ : Nat) = _) from by omega), ?_⟩
    conv => whnf
    refine ⟨by rw [f5, t1, m4]; omega, fun c77 => ?_, fun c77 => ?_⟩
    · conv => whnf
      refine ⟨by omega, ?_⟩
      refine h2 ?_
      rw [f5] at c57
      rw [f5, t1, m4] at c77
      omega
    · conv => whnf
      refine ⟨by rw [f6]; omega, fun c84 => ?_, fun c84 => ?_⟩
      · conv => whnf
        refine ⟨by omega, ?_⟩
        refine h2 ?_
        rw [f5] at c57
        rw [f5, t1, m4] at c77
        rw [f6] at c84
        omega
      · conv => whnf
        refine ⟨by decide, _, rfl, ?_⟩
        conv => whnf
        refine ⟨by decide, ?_⟩
        conv => whnf
        refine ⟨(show (¬ (_ : Nat) = _) ∧ (¬ (_ : Nat) = _) from by omega), ?_⟩
        conv => whnf
        refine ⟨by rw [f6, t2, m5]; omega, fun c104 => ?_, fun c104 => ?_⟩
        · conv => whnf
          refine ⟨by omega, ?_⟩
          refine h2 ?_
          rw [f5] at c57
          rw [f5, t1, m4] at c77
          rw [f6] at c84
          rw [f6, t2, m5] at c104
          omega
        · conv => whnf
          refine ⟨by omega, ?_⟩
          refine h ?_
          rw [f5] at c57
          rw [f5, t1, m4] at c77
          rw [f6] at c84
          rw [f6, t2, m5] at c104
          omega
end
