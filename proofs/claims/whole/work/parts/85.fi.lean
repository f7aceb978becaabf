/-! WAYS, 1 -/
section
variable {Ln : Nat} {xs : Nat → Int32} {CZ : Nat → ZC} {RZ : Nat → Nat → ZQ → ZP}
def fQT : List Nat := [0, 0, 5, 5, 5, 5, 2, 2, 0, 0, 5, 5, 5, 5, 2, 2, 0, 0, 0, 5, 5, 2, 2, 0, 1, 1, 1, 1, 1, 1, 1, 1, 0, 1, 1, 2, 0, 1, 1, 2, 0, 0, 1, 1, 1, 1, 2, 2, 0, 0, 1, 1, 1, 1, 2, 2]
/-- the number of a form's first quarter -/
def fQ (i : Nat) : Nat := fQT.getD i 0
theorem fQ_0 : (List.range 56).all (fun i => decide ((if cn (fS i) 576 = 0 then -1 else lo (fS i) 576) = (fQ i : Int) ∧ fQ i < 16)) = true := by decide +kernel
theorem fQ_ok {i : Nat} (hi : i < 56) : fq (fS i) = fQ i ∧ fQ i < 16 := of_decide_eq_true (List.all_eq_true.mp fQ_0 i (List.mem_range.mpr hi))
theorem fq_spec (S : Nat → Bool) : (fq S = -1 ∧ ∀ q, q < 576 → S q = false) ∨ ∃ k : Nat, k < 576 ∧ fq S = k ∧ S k = true ∧ ∀ i, i < k → S i = false := by
  unfold fq
  rcases lo_spec S 576 with ⟨h1, h2⟩ | ⟨h1, k, h2, h3, h4, h5⟩
  · rw [if_pos h1]; exact Or.inl ⟨rfl, fun q hq => cn_zero h1 q hq⟩
  · rw [if_neg h1]; exact Or.inr ⟨k, h2, h3, h4, h5⟩
/-- nothing placed; a piece placed -/
def offM : Mo := (fun _ => 0, fun _ => 0, fun _ => -1, 0, fun _ _ => false)
def putM (M : Mo) (p : Nat) (x y f : Int) : Mo := (fun j => if j = (p : Int) then x else mX M j, fun j => if j = (p : Int) then y else mY M j, fun j => if j = (p : Int) then f else mF M j, mN M, mS M)
/-- forms are -1 or 0 to 7 -/
def FB (M : Mo) : Prop := ∀ j : Nat, j < 7 → mF M j = -1 ∨ (0 ≤ mF M j ∧ mF M j < 8)
/-- a piece is the second one of its kind, and the first one is off -/
def secO (M : Mo) (p : Nat) : Bool := (decide (p = 1) && decide (mF M 0 = -1)) || (decide (p = 6) && decide (mF M 5 = -1))
/-- a form fits, its first quarter at q -/
noncomputable def fitC (R : Nat → Bool) (q k : Nat) : Bool := dc (fQ k ≤ q % 48 ∧ (q % 48 - fQ k) % 4 = 0 ∧ ∀ z, z < 576 → fS k z = true → z / 48 + q / 48 < 12 ∧ z % 48 + (q % 48 - fQ k) < 48 ∧ R (z + (q - fQ k)) = true)
noncomputable def okC (R : Nat → Bool) (M : Mo) (q k : Nat) : Bool := (decide (mF M ((k / 8 : Nat) : Int) = -1) && !secO M (k / 8)) && (decide (fV k = 1) && fitC R q k)
def rmv (R : Nat → Bool) (k o z : Nat) : Bool := R z && !shf (fS k) o z
def putK (M : Mo) (q k : Nat) : Mo := putM M (k / 8) (((q % 48 - fQ k) / 4 : Nat) : Int) ((q / 48 : Nat) : Int) ((k % 8 : Nat) : Int)
def fk {α : Type} (g : α → Nat → α) : Nat → Nat → α → α
  | 0, _, a => a
  | n + 1, k, a => fk g n (k + 1) (g a k)
theorem fk_add {α : Type} (g : α → Nat → α) : ∀ (n m k : Nat) (a : α), fk g (n + m) k a = fk g m (k + n) (fk g n k a)
  | 0, m, k, a => by rw [Nat.zero_add]; rfl
  | n + 1, m, k, a => by
    rw [show n + 1 + m = (n + m) + 1 by omega]
    show fk g (n + m) (k + 1) (g a k) = fk g m (k + (n + 1)) (fk g n (k + 1) (g a k))
    rw [fk_add g n m (k + 1) (g a k), show k + 1 + n = k + (n + 1) by omega]
theorem fk_id {α : Type} {g : α → Nat → α} {a : α} : ∀ {n k : Nat}, (∀ i, k ≤ i → i < k + n → g a i = a) → fk g n k a = a
  | 0, _, _ => rfl
  | n + 1, k, h => by
    show fk g n (k + 1) (g a k) = a
    rw [h k (by omega) (by omega)]
    exact fk_id (fun i h1 h2 => h i (by omega) (by omega))
/-- the search for ways: at most so many; how many were found, and the first one -/
noncomputable def SW (most : Int) : Nat → (Nat → Bool) → Mo → Int × Mo → Int × Mo
  | 0, _, M, a => (a.1 + 1, if a.1 = 0 then M else a.2)
  | n + 1, R, M, a => if fq R = -1 then a else fk (fun a k => bif decide (a.1 < most) && okC R M (fq R).toNat k then SW most n (rmv R k ((fq R).toNat - fQ k)) (putK M (fq R).toNat k) a else a) 56 0 a
noncomputable def gSW (most : Int) (n : Nat) (R : Nat → Bool) (M : Mo) (q : Nat) (a : Int × Mo) (k : Nat) : Int × Mo := bif decide (a.1 < most) && okC R M q k then SW most n (rmv R k (q - fQ k)) (putK M q k) a else a
theorem SW_s (most : Int) (n : Nat) (R : Nat → Bool) (M : Mo) (a : Int × Mo) : SW most (n + 1) R M a = if fq R = -1 then a else fk (gSW most n R M (fq R).toNat) 56 0 a := rfl
theorem putK_FB {M : Mo} (h : FB M) (q k : Nat) : FB (putK M q k) := fun j hj => by
  show (if (j : Int) = ((k / 8 : Nat) : Int) then ((k % 8 : Nat) : Int) else mF M j) = -1 ∨ _ ∧ _
  by_cases e : (j : Int) = ((k / 8 : Nat) : Int)
  · right
    show 0 ≤ (if (j : Int) = ((k / 8 : Nat) : Int) then ((k % 8 : Nat) : Int) else mF M j) ∧ (if (j : Int) = ((k / 8 : Nat) : Int) then ((k % 8 : Nat) : Int) else mF M j) < 8
    rw [if_pos e]
    omega
  · show _ ∨ 0 ≤ (if (j : Int) = ((k / 8 : Nat) : Int) then ((k % 8 : Nat) : Int) else mF M j) ∧ (if (j : Int) = ((k / 8 : Nat) : Int) then ((k % 8 : Nat) : Int) else mF M j) < 8
    rw [if_neg e]
    exact h j hj
theorem fk_inv {α : Type} {g : α → Nat → α} {P : α → Prop} (h : ∀ a k, P a → P (g a k)) : ∀ (n k : Nat) (a : α), P a → P (fk g n k a)
  | 0, _, _, ha => ha
  | n + 1, k, a, ha => fk_inv h n (k + 1) (g a k) (h a k ha)
theorem SW_b {most : Int} : ∀ {n : Nat} {R : Nat → Bool} {M : Mo} {a : Int × Mo}, FB M → 0 ≤ a.1 → a.1 < most → FB a.2 → 0 ≤ (SW most n R M a).1 ∧ (SW most n R M a).1 ≤ most ∧ FB (SW most n R M a).2
  | 0, R, M, a, hM, h0, h1, h2 => by
    show 0 ≤ a.1 + 1 ∧ a.1 + 1 ≤ most ∧ FB (if a.1 = 0 then M else a.2)
    refine ⟨by omega, by omega, ?_⟩
    split
    · exact hM
    · exact h2
  | n + 1, R, M, a, hM, h0, h1, h2 => by
    rw [SW_s]
    split
    · exact ⟨h0, by omega, h2⟩
    · exact fk_inv (g := gSW most n R M (fq R).toNat) (P := fun a => 0 ≤ a.1 ∧ a.1 ≤ most ∧ FB a.2) (fun a k ha => by
        unfold gSW
        cases hc : decide (a.1 < most) && okC R M (fq R).toNat k with
        | false => exact ha
        | true =>
          rw [Bool.and_eq_true, decide_eq_true_iff] at hc
          exact SW_b (putK_FB hM _ _) ha.1 hc.1 ha.2.2) 56 0 a ⟨h0, by omega, h2⟩
theorem gSW_b {most : Int} {n : Nat} {R : Nat → Bool} {M : Mo} {q : Nat} (hM : FB M) : ∀ (m k : Nat) (a : Int × Mo), 0 ≤ a.1 ∧ a.1 ≤ most ∧ FB a.2 → 0 ≤ (fk (gSW most n R M q) m k a).1 ∧ (fk (gSW most n R M q) m k a).1 ≤ most ∧ FB (fk (gSW most n R M q) m k a).2   := fun m k a ha => fk_inv (g := gSW most n R M q) (P := fun a => 0 ≤ a.1 ∧ a.1 ≤ most ∧ FB a.2) (fun a k ha => by
    unfold gSW
    cases hc : decide (a.1 < most) && okC R M q k with
    | false => exact ha
    | true =>
      rw [Bool.and_eq_true, decide_eq_true_iff] at hc
      exact SW_b (putK_FB hM _ _) ha.1 hc.1 ha.2.2) m k a ha
def PF : Nat → Int → Prop := fun a b => (568 ≤ a ∧ a ≤ 570) ∨ (572 ≤ a ∧ a ≤ 574) ∨ (a = 562 ∧ b = 5)
theorem lowt {Ln : Nat} {xs : Nat → Int32} : ∀ n : Nat, n < 7 → zs (XX Ln xs) 10006 (n : Int) = if n = 1 then 0 else if n = 6 then 5 else -1
  | 0, _ => rfl
  | 1, _ => rfl
  | 2, _ => rfl
  | 3, _ => rfl
  | 4, _ => rfl
  | 5, _ => rfl
  | 6, _ => rfl
  | n + 7, h => by omega
theorem s_X0_isNext (T : ZTh (XX Ln xs) CZ RZ) {d b : Nat} {p : Nat} (M : Mo) {I : ZI} {L : ZL} {Q : ZQ} (hp : p < 7) (hFB : FB M) (hP : PlC I 567 M) (h : mF M p = -1 → secO M p = false → Q (.inl (some (.inl (1)))) I L) (h2 : ¬ (mF M p = -1 ∧ secO M p = false) → Q (.inl (some (.inl (0)))) I L) : CZ (d + 2) k_X0_isNext [.inr (.ref 562, 1), .inl ((p : Int))] b I L Q := by
  refine T.call rfl ?_
  have hlt := lowt (Ln := Ln) (xs := xs) p hp
  have hfp := (hP p (by omega) (by omega)).1
  have hf0 := (hP 0 (by omega) (by omega)).1
  have hf5 := (hP 5 (by omega) (by omega)).1
  have hzz : ∀ j : Int, 0 ≤ j → j < 7 → zR (I (567 + 3) j) := fun j j0 j7 => by
    obtain ⟨n, rfl⟩ := Int.eq_ofNat_of_zero_le j0
    rw [(hP n j0 j7).1]
    rcases hFB n (by omega) with e | e
    · rw [e]; decide
    · exact ⟨by omega, by omega⟩
  have hsec : secO M p = true ↔ (p = 1 ∧ mF M 0 = -1) ∨ (p = 6 ∧ mF M 5 = -1) := by unfold secO; simp
  have hlt1 : p = 1 → zs (XX Ln xs) 10006 (p : Int) = 0 := fun e => by rw [hlt, if_pos e]
  have hlt6 : p = 6 → zs (XX Ln xs) 10006 (p : Int) = 5 := fun e => by rw [hlt, if_neg (by omega), if_pos e]
  have hltn : p ≠ 1 → p ≠ 6 → zs (XX Ln xs) 10006 (p : Int) = -1 := fun e1 e2 => by rw [hlt, if_neg e1, if_neg e2]
  have hcs : p = 1 ∨ p = 6 ∨ (p ≠ 1 ∧ p ≠ 6) := by omega
  refine T.go [] 90 ?_
  conv => whnf
  refine ⟨by omega, ?_⟩
  conv => whnf
  refine ⟨by decide, _, rfl, ?_⟩
  conv => whnf
  refine zinv0 (s_X5_isOff T  (by rfl) (by omega) (by first | assumption | omega | rfl | decide) (by exact hzz _ (by omega) (by omega)) ?_ ?_)
  · intro cha_11
    conv => whnf
    refine ⟨by decide, fun c => absurd c (by decide), fun _ => ?_⟩
    conv => whnf
    refine ⟨by rcases hcs with e | e | ⟨e, e2⟩; (have := hlt1 e; omega); (have := hlt6 e; omega); (have := hltn e e2; omega), fun c19 => ?_, fun c19 => ?_⟩
    · conv => whnf
      refine ⟨by omega, ?_⟩
      refine h (hfp.symm.trans cha_11) ?_
      cases e : secO M p with
      | false => rfl
      | true =>
        exfalso
        rcases hsec.mp e with ⟨e1, e2⟩ | ⟨e1, e2⟩
        · have := hlt1 e1; omega
        · have := hlt6 e1; omega
    · conv => whnf
      refine ⟨by decide, _, rfl, ?_⟩
      conv => whnf
      refine zinv0 (s_X5_isOff T  (by rfl) (by omega) (by rcases hcs with e | e | ⟨e, e2⟩; (have := hlt1 e; omega); (have := hlt6 e; omega); (exact (c19 (hltn e e2)).elim)) (by rcases hcs with e | e | ⟨e, e2⟩; (rw [hlt1 e]; exact hzz _ (by omega) (by omega)); (rw [hlt6 e]; exact hzz _ (by omega) (by omega)); (exact (c19 (hltn e e2)).elim)) ?_ ?_)
      · intro cha_27
        conv => whnf
        refine ⟨by decide, fun _ => ?_, fun c => absurd c (by decide)⟩
        conv => whnf
        refine ⟨by omega, ?_⟩
        refine h2 (fun c => ?_)
        have : secO M p = true := hsec.mpr (by
          rcases hcs with e | e | ⟨e, e2⟩
          · rw [hlt1 e] at cha_27; exact Or.inl ⟨e, hf0.symm.trans cha_27⟩
          · rw [hlt6 e] at cha_27; exact Or.inr ⟨e, hf5.symm.trans cha_27⟩
          · exact (c19 (hltn e e2)).elim)
        rw [c.2] at this
        cases this
      · intro ch2a_27
        conv => whnf
        refine ⟨by decide, fun c => absurd c (by decide), fun _ => ?_⟩
        conv => whnf
        refine ⟨by omega, ?_⟩
        refine h (hfp.symm.trans cha_11) ?_
        cases e : secO M p with
        | false => rfl
        | true =>
          exfalso
          rcases hsec.mp e with ⟨e1, e2⟩ | ⟨e1, e2⟩
          · rw [hlt1 e1] at ch2a_27; exact ch2a_27 (hf0.trans e2)
          · rw [hlt6 e1] at ch2a_27; exact ch2a_27 (hf5.trans e2)
  · intro ch2a_11
    conv => whnf
    refine ⟨by decide, fun _ => ?_, fun c => absurd c (by decide)⟩
    conv => whnf
    refine ⟨by omega, ?_⟩
    exact h2 (fun c => ch2a_11 (hfp.trans c.1))
theorem s_X0_takeWay (T : ZTh (XX Ln xs) CZ RZ) {d b : Nat} {f : Int} (M W : Mo) {I : ZI} {L : ZL} {Q : ZQ} (hP : PlC I 567 M) (hW : PlC I 571 W) (hf : I 562 5 = f) (hz : zR f) (h : ∀ I', Fr (fun a b => (572 ≤ a ∧ a ≤ 574) ∨ (a = 562 ∧ b = 5)) I I' → PlC I' 571 (if f = 0 then M else W) → I' 562 5 = f + 1 → Q (.inl none) I' L) : CZ (d + 2) k_X0_takeWay [.inr (.ref 562, 1)] b I L Q := by
  refine T.call rfl ?_
  refine T.go [] 90 ?_
  conv => whnf
  refine ⟨by decide, ?_⟩
  conv => whnf
  refine ⟨by omega, fun c4 => ?_, fun c4 => ?_⟩
  · conv => whnf
    refine ⟨by decide, ?_⟩
    conv => whnf
    refine ⟨by decide, ?_⟩
    conv => whnf
    rw [if_neg (by omega)] at h
    refine h _ ((Fr.refl I).v2 (by omega)) (hW.fr (fun a b _ _ => v2_ne (by omega))) (by rw [v2_eq, hf])
  · conv => whnf
    refine ⟨by decide, _, rfl, ?_⟩
    conv => whnf
    refine ⟨by decide, _, rfl, ?_⟩
    conv => whnf
    refine zinv0 (s_X5_copy T  (by rfl) (by rfl) (by rfl) (by first | assumption | omega | rfl | decide) (by rfl) (by rfl) (by rfl) (by first | assumption | omega | rfl | decide) (by first | assumption | omega | rfl | decide) ?_)
    intro I_15 hf_15 hv_15
    conv => whnf
    refine ⟨by decide, ?_⟩
    conv => whnf
    refine ⟨by decide, ?_⟩
    conv => whnf
    rw [if_pos (by omega)] at h
    refine h _ ((hf_15.mono (fun a b c => by omega)).v2 (by omega)) (fun j j0 j7 => ?_) (by rw [v2_eq, hf_15 _ _ (by omega), hf])
    obtain ⟨g1, g2, g3⟩ := hv_15 j j0 j7
    rw [v2_ne (by omega), v2_ne (by omega), v2_ne (by omega), g1, g2, g3]
    exact hP j j0 j7
end
