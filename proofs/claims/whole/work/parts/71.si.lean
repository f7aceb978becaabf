/-! THE SILHOUETTE, 1: who covers a quarter -/
section
variable {Ln : Nat} {xs : Nat → Int32} {CZ : Nat → ZC} {RZ : Nat → Nat → ZQ → ZP}
/-- who covers a quarter, of the first p pieces; of all -/
def ow (M : Mo) : Nat → Nat → Int
  | 0, _ => -1
  | p + 1, q => if mF M p ≠ -1 ∧ cvr M p q = true then (p : Int) else ow M p q
def own (M : Mo) (q : Nat) : Int := ow M 7 q
def sil (M : Mo) (q : Nat) : Bool := !decide (own M q = -1)
theorem ow_s (M : Mo) (p q : Nat) : ow M (p + 1) q = if mF M p ≠ -1 ∧ cvr M p q = true then (p : Int) else ow M p q := rfl
theorem ow_b (M : Mo) (q : Nat) : ∀ p, -1 ≤ ow M p q ∧ ow M p q < p
  | 0 => ⟨Int.le_refl _, by show (-1 : Int) < 0; omega⟩
  | p + 1 => by
    have := ow_b M q p
    rw [ow_s]
    split <;> omega
theorem ow_cov {M : Mo} {q : Nat} : ∀ {p j : Nat}, ow M p q = j → j < p ∧ mF M j ≠ -1 ∧ cvr M j q = true
  | 0, j, h => by
    have h2 : (-1 : Int) = j := h
    omega
  | p + 1, j, h => by
    rw [ow_s] at h
    by_cases e : mF M p ≠ -1 ∧ cvr M p q = true
    · rw [if_pos e] at h
      have : p = j := by omega
      subst this
      exact ⟨by omega, e⟩
    · rw [if_neg e] at h
      have := ow_cov h
      exact ⟨by omega, this.2⟩
theorem ow_none {M : Mo} {q : Nat} : ∀ {p : Nat}, (∀ j, j < p → mF M j ≠ -1 → cvr M j q = true → False) → ow M p q = -1
  | 0, _ => rfl
  | p + 1, h => by
    rw [ow_s, if_neg (fun e => h p (by omega) e.1 e.2)]
    exact ow_none (fun j hj => h j (by omega))
theorem ow_is {W H : Nat} {M : Mo} (hw : Wq W H M) {q j : Nat} : ∀ {p : Nat}, p ≤ 7 → j < p → mF M j ≠ -1 → cvr M j q = true → ow M p q = j
  | 0, _, hj, _, _ => by omega
  | p + 1, hp, hj, hf, hc => by
    rw [ow_s]
    by_cases e : mF M p ≠ -1 ∧ cvr M p q = true
    · rw [if_pos e]
      by_cases ej : j = p
      · rw [ej]
      · exact (hw.2.2 j p (by omega) (by omega) ej hf e.1 q hc e.2).elim
    · rw [if_neg e]
      by_cases ej : j = p
      · subst ej; exact (e ⟨hf, hc⟩).elim
      · exact ow_is hw (by omega) (by omega) hf hc
theorem cvr_in {W H : Nat} {M : Mo} (hw : Wq W H M) {j q : Nat} (hj : j < 7) (hf : mF M j ≠ -1) (hc : cvr M j q = true) : q < 576 ∧ q % 48 / 4 < W ∧ q / 48 < H ∧ fo M j ≤ q ∧ fS (fi M j) (q - fo M j) = true ∧ (q - fo M j) % 48 + 4 * (mX M j).toNat = q % 48 ∧ (q - fo M j) / 48 + (mY M j).toNat = q / 48 := by
  obtain ⟨f1, f2, f3, f4, i1, i2, i3, i4⟩ := hw.form hj hf
  have hd := hw.1
  unfold cvr shf at hc
  rw [Bool.and_eq_true, decide_eq_true_iff] at hc
  have hb := fS_in f1 hc.2
  have : fo M j = 48 * (mY M j).toNat + 4 * (mX M j).toNat := rfl
  exact ⟨by omega, by omega, by omega, hc.1, hc.2, by omega, by omega⟩
theorem own_in {W H : Nat} {M : Mo} (hw : Wq W H M) {q : Nat} (h : own M q ≠ -1) : q < 576 ∧ q % 48 / 4 < W ∧ q / 48 < H := by
  have hb := ow_b M q 7
  obtain ⟨n, hn⟩ := Int.eq_ofNat_of_zero_le (a := own M q) (by unfold own at h ⊢; omega)
  have hc := ow_cov (p := 7) (j := n) hn
  have := cvr_in hw hc.1 hc.2.1 hc.2.2
  omega
theorem s_X7_ownerAt (T : ZTh (XX Ln xs) CZ RZ) {d b : Nat} {q : Int} {I : ZI} {L : ZL} {Q : ZQ} (hq : zR q) (h : 0 ≤ q → q < 576 → Q (.inl (some (.inl (I 530 q)))) I L) (h2 : ¬ (0 ≤ q ∧ q < 576) → Q (.inl (some (.inl ((-1))))) I L) : CZ (d + 1) k_X7_ownerAt [.inr (.ref 527, 8), .inl q] b I L Q := by
  refine T.call rfl ?_
  refine T.go [] 90 ?_
  conv => whnf
  refine ⟨by omega, fun c1 => ?_, fun c1 => ?_⟩
  · conv => whnf
    first | exact h (by omega) (by omega) | exact h2 (by omega)
  · conv => whnf
    refine ⟨by omega, fun c8 => ?_, fun c8 => ?_⟩
    · conv => whnf
      first | exact h (by omega) (by omega) | exact h2 (by omega)
    · conv => whnf
      refine ⟨by decide, _, rfl, ?_⟩
      conv => whnf
      refine ⟨by omega, by decide, ?_⟩
      conv => whnf
      first | exact h (by omega) (by omega) | exact h2 (by omega)
theorem l_ownI (T : ZTh (XX Ln xs) CZ RZ) {d b : Nat} {Q : ZQ} {n f X Y p y : Nat} {I0 : ZI} {L : ZL} (hF : FormOK I0 L) (hn : n < 56) (hf : f = 48 * Y + 4 * X) (hX : X + fW n ≤ 12 ∧ Y + fH n ≤ 12) (hp : p < 7) (hy : y < fH n) (hk : ∀ I', Fr (fun a _ => a = 530) I0 I' → (∀ q : Nat, q < 576 → I' 530 (q : Int) = (if shf (fS n) f q = true ∧ (q - f) / 48 < y + 1 then (p : Int) else I0 530 (q : Int))) → RZ (d + 1) k_X7_own Q 3 [.inr (.ref 527, 8), .inl (p : Int), .inr (.ref (5 + 5 * n), 7), .inl (f : Int), .inl ((y : Int) + 1), zj, zj] [] b I' L) (m : Nat) : ∀ (x : Nat) (I : ZI), (x ≤ 4 * fW n) → (Fr (fun a _ => a = 530) I0 I) → (∀ q : Nat, q < 576 → I 530 (q : Int) = (if shf (fS n) f q = true ∧ ((q - f) / 48 < y ∨ ((q - f) / 48 = y ∧ (q - f) % 48 < x)) then (p : Int) else I0 530 (q : Int))) → 16 - (x : Int) < (m : Int) → RZ (d + 1) k_X7_own Q 15 [.inr (.ref 527, 8), .inl ((p : Int)), .inr (.ref (5 + 5 * n), 7), .inl ((f : Int)), .inl ((y : Int)), .inl ((x : Int)), zj] [] b I L := by
  induction m with
  | zero =>
    intro x I hx hfr hv hm
    have := fW_b hn
    exfalso
    omega
  | succ m ih =>
    intro x I hx hfr hv hm
    have hF2 : FormOK I L := hF.fr (fun a b _ _ => hfr _ _ (by omega)) (fun a b _ _ => rfl)
    obtain ⟨gS, gM, -, -, -, -⟩ := hF2 n hn
    obtain ⟨z1, -, -, z3, z5⟩ := za_fm hn
    obtain ⟨t1, t2, t3, t4, t5⟩ := fS_box hn
    obtain ⟨d1, d2, d3, d4, -, -⟩ := fW_b hn
    obtain ⟨m2, m3, m4, m5⟩ := gM.at
    rw [t4] at m4
    rw [t2] at m5
    refine T.go [3, 15] 90 ?_
    conv => whnf
    refine ⟨(show (¬ (_ : Nat) = _) ∧ (¬ (_ : Nat) = _) from by omega), ?_⟩
    conv => whnf
    refine ⟨by omega, fun c23 => ?_, fun c23 => ?_⟩
    · conv => whnf
      refine T.fg [5] ?_
      refine hk I hfr (fun q hq => ?_)
      rw [hv q hq]
      by_cases hs : shf (fS n) f q = true
      · have hs2 := hs
        unfold shf at hs2
        rw [Bool.and_eq_true, decide_eq_true_iff] at hs2
        have hin := fS_in hn hs2.2
        have e : ((q - f) / 48 < y ∨ ((q - f) / 48 = y ∧ (q - f) % 48 < x)) ↔ (q - f) / 48 < y + 1 := by omega
        simp only [hs, true_and, e]
      · rw [if_neg (fun c => hs c.1), if_neg (fun c => hs c.1)]
    · conv => whnf
      refine zinv0 (s_X6_contains T (fS n) (by exact z5) (by show (¬ (_ : Nat) = _) ∧ (¬ (_ : Nat) = _); omega) (by exact gS) (by first | assumption | omega | rfl | decide) ?_ ?_)
      · intro cha_47 chb_47 chc_47
        conv => whnf
        refine ⟨by decide, fun c => absurd c (by decide), fun _ => ?_⟩
        conv => whnf
        refine ⟨by omega, fun c55 => by exfalso; omega, fun c55 => ?_⟩
        conv => whnf
        refine ⟨by omega, fun c63 => by exfalso; omega, fun c63 => ?_⟩
        conv => whnf
        refine ⟨by decide, _, rfl, ?_⟩
        conv => whnf
        refine ⟨by omega, by decide, ?_⟩
        conv => whnf
        refine T.fg [6] ?_
        have hq0 : (f : Int) + 48 * (y : Int) + (x : Int) = ((f + (48 * y + x) : Nat) : Int) := by omega
        refine ih (x + 1) _ (by omega) (hfr.v2 rfl) (fun q hq => ?_) (by omega)
        have hx2 : fS n (48 * y + x) = true := by
          have := chc_47
          rw [show (48 * (y : Int) + (x : Int)).toNat = 48 * y + x by omega] at this
          exact this
        by_cases e : q = f + (48 * y + x)
        · rw [e, hq0, v2_eq]
          rw [if_pos]
          refine ⟨?_, Or.inr ⟨by omega, by omega⟩⟩
          unfold shf
          rw [show f + (48 * y + x) - f = 48 * y + x by omega, hx2]
          simp
        · rw [v2_ne (by intro c; omega), hv q hq]
          by_cases hs : shf (fS n) f q = true
          · have hs2 := hs
            unfold shf at hs2
            rw [Bool.and_eq_true, decide_eq_true_iff] at hs2
            have e2 : ((q - f) / 48 < y ∨ ((q - f) / 48 = y ∧ (q - f) % 48 < x)) ↔ ((q - f) / 48 < y ∨ ((q - f) / 48 = y ∧ (q - f) % 48 < x + 1)) := by omega
            simp only [hs, true_and, e2]
          · rw [if_neg (fun c => hs c.1), if_neg (fun c => hs c.1)]
      · intro ch2a_47
        conv => whnf
        refine ⟨by decide, fun _ => ?_, fun c => absurd c (by decide)⟩
        conv => whnf
        refine T.fg [6] ?_
        have hq0 : (f : Int) + 48 * (y : Int) + (x : Int) = ((f + (48 * y + x) : Nat) : Int) := by omega
        refine ih (x + 1) I (by omega) hfr (fun q hq => ?_) (by omega)
        rw [hv q hq]
        by_cases hs : shf (fS n) f q = true
        · have hs2 := hs
          unfold shf at hs2
          rw [Bool.and_eq_true, decide_eq_true_iff] at hs2
          have e2 : ¬ ((q - f) = 48 * y + x) := by
            intro c
            rw [c] at hs2
            rcases ch2a_47 with g | g | g
            · omega
            · omega
            · rw [show (48 * (y : Int) + (x : Int)).toNat = 48 * y + x by omega, hs2.2] at g
              cases g
          have e3 : ((q - f) / 48 < y ∨ ((q - f) / 48 = y ∧ (q - f) % 48 < x)) ↔ ((q - f) / 48 < y ∨ ((q - f) / 48 = y ∧ (q - f) % 48 < x + 1)) := by omega
          simp only [hs, true_and, e3]
        · rw [if_neg (fun c => hs c.1), if_neg (fun c => hs c.1)]
theorem l_ownO (T : ZTh (XX Ln xs) CZ RZ) {d b : Nat} {Q : ZQ} {n f X Y p : Nat} {I0 : ZI} {L : ZL} (hF : FormOK I0 L) (hn : n < 56) (hf : f = 48 * Y + 4 * X) (hX : X + fW n ≤ 12 ∧ Y + fH n ≤ 12) (hp : p < 7) (h : ∀ I', Fr (fun a _ => a = 530) I0 I' → (∀ q : Nat, q < 576 → I' 530 (q : Int) = if shf (fS n) f q = true then (p : Int) else I0 530 (q : Int)) → Q (.inl none) I' L) (m : Nat) : ∀ (y : Nat) (I : ZI), (y ≤ fH n) → (Fr (fun a _ => a = 530) I0 I) → (∀ q : Nat, q < 576 → I 530 (q : Int) = (if shf (fS n) f q = true ∧ (q - f) / 48 < y then (p : Int) else I0 530 (q : Int))) → 4 - (y : Int) < (m : Int) → RZ (d + 1) k_X7_own Q 3 [.inr (.ref 527, 8), .inl ((p : Int)), .inr (.ref (5 + 5 * n), 7), .inl ((f : Int)), .inl ((y : Int)), zj, zj] [] b I L := by
  induction m with
  | zero =>
    intro y I hy hfr hv hm
    have := fW_b hn
    exfalso
    omega
  | succ m ih =>
    intro y I hy hfr hv hm
    have hF2 : FormOK I L := hF.fr (fun a b _ _ => hfr _ _ (by omega)) (fun a b _ _ => rfl)
    obtain ⟨gS, gM, -, -, -, -⟩ := hF2 n hn
    obtain ⟨z1, -, -, z3, z5⟩ := za_fm hn
    obtain ⟨t1, t2, t3, t4, t5⟩ := fS_box hn
    obtain ⟨d1, d2, d3, d4, -, -⟩ := fW_b hn
    obtain ⟨m2, m3, m4, m5⟩ := gM.at
    rw [t4] at m4
    rw [t2] at m5
    refine T.go [15] 90 ?_
    conv => whnf
    refine ⟨(show (¬ (_ : Nat) = _) ∧ (¬ (_ : Nat) = _) from by omega), ?_⟩
    conv => whnf
    refine ⟨by omega, fun c9 => ?_, fun c9 => ?_⟩
    · conv => whnf
      refine h I hfr (fun q hq => ?_)
      rw [hv q hq]
      by_cases hs : shf (fS n) f q = true
      · have hs2 := hs
        unfold shf at hs2
        rw [Bool.and_eq_true, decide_eq_true_iff] at hs2
        have hin := fS_in hn hs2.2
        rw [if_pos ⟨hs, by omega⟩, if_pos hs]
      · rw [if_neg (fun c => hs c.1), if_neg hs]
    · conv => whnf
      refine l_ownI T hF hn hf hX hp (by omega) (fun I2 f2 v2' => ih (y + 1) I2 (by omega) f2 v2' (by omega)) 17 0 I (by omega) hfr (fun q hq => ?_) (by omega)
      rw [hv q hq]
      have e3 : ((q - f) / 48 < y ∨ ((q - f) / 48 = y ∧ (q - f) % 48 < 0)) ↔ (q - f) / 48 < y := by omega
      simp only [e3]
theorem s_X7_own (T : ZTh (XX Ln xs) CZ RZ) {d b : Nat} {f p : Nat} (n X Y : Nat) {I : ZI} {L : ZL} {Q : ZQ} (hF : FormOK I L) (hn : n < 56) (hf : f = 48 * Y + 4 * X) (hX : X + fW n ≤ 12 ∧ Y + fH n ≤ 12) (hp : p < 7) (h : ∀ I', Fr (fun a _ => a = 530) I I' → (∀ q : Nat, q < 576 → I' 530 (q : Int) = if shf (fS n) f q = true then (p : Int) else I 530 (q : Int)) → Q (.inl none) I' L) : CZ (d + 2) k_X7_own [.inr (.ref 527, 8), .inl ((p : Int)), .inr (.ref (5 + 5 * n), 7), .inl ((f : Int))] b I L Q := by
  refine T.call rfl ?_
  refine T.go [3] 90 ?_
  conv => whnf
  refine l_ownO T hF hn hf hX hp h 5 0 I (by omega) (Fr.refl I) (fun q hq => ?_) (by omega)
  rw [if_neg (fun c => by omega)]
end
