/-! STATES, 3: copies -/
section
variable {Ln : Nat} {xs : Nat → Int32} {CZ : Nat → ZC} {RZ : Nat → Nat → ZQ → ZP}
theorem st_apart {s t : Nat} (hs : s ∈ stR) (ht : t ∈ stR) (h : s ≠ t) : s + 22 ≤ t ∨ t + 22 ≤ s := by
  have : stR.all (fun s => stR.all (fun t => decide (s ≠ t → s + 22 ≤ t ∨ t + 22 ≤ s))) = true := by decide +kernel
  exact of_decide_eq_true (List.all_eq_true.mp (List.all_eq_true.mp this s hs) t ht) h
/-- a state's cells -/
def stP (s : Nat) : Nat → Int → Prop := fun a _ => s ≤ a ∧ a < s + 22
theorem l_stcopy (T : ZTh (XX Ln xs) CZ RZ) {d b : Nat} {Q : ZQ} {s t W H : Nat} {M : Mo} {I0 : ZI} {L0 : ZL} (hs : s ∈ stR) (ht : t ∈ stR) (hd : s ≠ t) (hn : mN M ≤ 8) (hM : StC I0 L0 t W H M) (h : ∀ I' L', Fr (stP s) I0 I' → Fr (stP s) L0 L' → StC I' L' s W H M → Q (.inl none) I' L') (m : Nat) : ∀ (i : Nat) (I : ZI) (L : ZL), (i ≤ mN M) → (Fr (stP s) I0 I) → (Fr (stP s) L0 L) → (I s 0 = W) → (I s 1 = H) → (PlC I (s + 1) M) → (I s 4 = mN M) → (∀ k : Nat, k < i → RgS L (s + 6 + 2 * k) (mS M k) ∧ RgM I (s + 6 + 2 * k) (mS M k)) → 8 - (i : Int) < (m : Int) → RZ (d + 1) k_X8_copy Q 37 [.inr (.ref s, 9), .inr (.ref t, 9), .inl ((i : Int))] [] b I L := by
  induction m with
  | zero =>
    intro i I L hi hf hg a1 a2 a3 a4 a5 hm
    exfalso
    omega
  | succ m ih =>
    intro i I L hi hf hg a1 a2 a3 a4 a5 hm
    have hst := za_st hs
    have htt := za_st ht
    obtain ⟨zp, zq, zx, zy, zf⟩ := hst
    obtain ⟨yp, yq, yx, yy, yf⟩ := htt
    have hrn := st_rng hs
    have hrt := st_rng ht
    have hap := st_apart hs ht hd
    have hM2 : StC I L t W H M := hM.fr hn (fun a b _ _ => hf a b (by unfold stP; omega)) (fun a b _ _ => hg a b (by unfold stP; omega))
    have q1 := fun hk : i < 8 => za_sh hs hk
    have q2 := fun hk : i < 8 => za_sh ht hk
    refine T.go [37] 90 ?_
    conv => whnf
    refine ⟨(show (¬ (_ : Nat) = _) ∧ (¬ (_ : Nat) = _) from by omega), ?_⟩
    conv => whnf
    refine ⟨by omega, fun c42 => ?_, fun c42 => ?_⟩
    · conv => whnf
      exact h I L hf hg ⟨a1, a2, a3, a4, fun k hk => a5 k (by omega)⟩
    · conv => whnf
      refine ⟨by omega, fun c48 => by exfalso; omega, fun c48 => ?_⟩
      conv => whnf
      refine ⟨(show (¬ (_ : Nat) = _) ∧ (¬ (_ : Nat) = _) from by omega), _, zq, ?_⟩
      conv => whnf
      refine ⟨by omega, (show (¬ (_ : Nat) = _) ∧ (¬ (_ : Nat) = _) from by omega), _, ((q1 (by omega)).1), ?_⟩
      conv => whnf
      refine ⟨(show (¬ (_ : Nat) = _) ∧ (¬ (_ : Nat) = _) from by omega), _, yq, ?_⟩
      conv => whnf
      refine ⟨by omega, (show (¬ (_ : Nat) = _) ∧ (¬ (_ : Nat) = _) from by omega), _, ((q2 (by omega)).1), ?_⟩
      conv => whnf
      refine zinv0 (s_X6_copy T (mS M i) (by exact (q1 (by omega)).2) (by show (¬ (_ : Nat) = _) ∧ (¬ (_ : Nat) = _); omega) (by exact (q2 (by omega)).2) (by show (¬ (_ : Nat) = _) ∧ (¬ (_ : Nat) = _); omega) (by show (¬ (_ : Nat) = _) ∧ (¬ (_ : Nat) = _) ∧ (¬ (_ : Nat) = _) ∧ (¬ (_ : Nat) = _) ∧ (¬ (_ : Nat) = _); omega) (by exact (hM2.2.2.2.2 i (by omega)).1) (by exact (hM2.2.2.2.2 i (by omega)).2) ?_)
      intro I_63 L_63 hf_63 hg_63 hS_63 hM_63
      conv => whnf
      refine ih (i + 1) _ _ (by omega) (hf.trans (hf_63.mono (fun a b c => by unfold stP; omega))) (hg.trans (hg_63.mono (fun a b c => by unfold stP; omega))) ?_ ?_ ?_ ?_ ?_ (by omega)
      · rw [hf_63 _ _ (by omega)]; exact a1
      · rw [hf_63 _ _ (by omega)]; exact a2
      · exact a3.fr (fun a b _ _ => hf_63 _ _ (by omega))
      · rw [hf_63 _ _ (by omega)]; exact a4
      · intro k hk
        by_cases e : k = i
        · subst e; exact ⟨hS_63, hM_63⟩
        · obtain ⟨b1, b2⟩ := a5 k (by omega)
          exact ⟨b1.row (fun j => hg_63 _ _ (by omega)), b2.row (fun j => hf_63 _ _ (by omega))⟩
theorem s_X8_copy (T : ZTh (XX Ln xs) CZ RZ) {d b : Nat} {s t W H : Nat} (M : Mo) {I : ZI} {L : ZL} {Q : ZQ} (hs : s ∈ stR) (ht : t ∈ stR) (hd : s ≠ t) (hn : mN M ≤ 8) (hM : StC I L t W H M) (h : ∀ I' L', Fr (stP s) I I' → Fr (stP s) L L' → StC I' L' s W H M → Q (.inl none) I' L') : CZ (d + 2) k_X8_copy [.inr (.ref s, 9), .inr (.ref t, 9)] b I L Q := by
  refine T.call rfl ?_
  have hst := za_st hs
  have htt := za_st ht
  obtain ⟨zp, zq, zx, zy, zf⟩ := hst
  obtain ⟨yp, yq, yx, yy, yf⟩ := htt
  have hrn := st_rng hs
  have hrt := st_rng ht
  have hap := st_apart hs ht hd
  obtain ⟨b1, b2, b3, b4, b5⟩ := id hM
  refine T.go [37] 90 ?_
  conv => whnf
  refine ⟨(show (¬ (_ : Nat) = _) ∧ (¬ (_ : Nat) = _) from by omega), ?_⟩
  conv => whnf
  refine ⟨(show (¬ (_ : Nat) = _) ∧ (¬ (_ : Nat) = _) from by omega), ?_⟩
  conv => whnf
  refine ⟨(show (¬ (_ : Nat) = _) ∧ (¬ (_ : Nat) = _) from by omega), ?_⟩
  conv => whnf
  refine ⟨(show (¬ (_ : Nat) = _) ∧ (¬ (_ : Nat) = _) from by omega), ?_⟩
  conv => whnf
  refine ⟨(show (¬ (_ : Nat) = _) ∧ (¬ (_ : Nat) = _) from by omega), _, zp, ?_⟩
  conv => whnf
  refine ⟨(show (¬ (_ : Nat) = _) ∧ (¬ (_ : Nat) = _) from by omega), _, yp, ?_⟩
  conv => whnf
  refine zinv0 (s_X5_copy T  (by exact zx) (by exact zy) (by exact zf) (by first | assumption | omega | rfl | decide) (by exact yx) (by exact yy) (by exact yf) (by first | assumption | omega | rfl | decide) (by first | assumption | omega | rfl | decide) ?_)
  intro I_24 hf_24 hv_24
  conv => whnf
  refine ⟨(show (¬ (_ : Nat) = _) ∧ (¬ (_ : Nat) = _) from by omega), ?_⟩
  conv => whnf
  refine ⟨(show (¬ (_ : Nat) = _) ∧ (¬ (_ : Nat) = _) from by omega), ?_⟩
  conv => whnf
  have e1 : ¬ t = s := fun e => hd e.symm
  refine l_stcopy T hs ht hd hn hM h 9 0 _ L (by omega) ?_ (Fr.refl L) ?_ ?_ ?_ ?_ (fun k hk => by omega) (by omega)
  · refine Fr.v2 ?_ (by unfold stP; omega)
    refine Fr.trans (g := v2 (v2 I s 0 (I t 0)) s 1 (v2 I s 0 (I t 0) t 1)) ?_ (hf_24.mono (fun a b c => by unfold stP; omega))
    exact ((Fr.refl I).v2 (by unfold stP; omega)).v2 (by unfold stP; omega)
  · rw [v2_ne (by simp), hf_24 _ _ (by omega), v2_ne (by simp), v2_eq]; exact b1
  · rw [v2_ne (by simp), hf_24 _ _ (by omega), v2_eq, v2_ne (by simp [e1])]; exact b2
  · intro j j0 j7
    obtain ⟨c1, c2, c3⟩ := hv_24 j j0 j7
    rw [v2_ne (by intro e; omega), v2_ne (by intro e; omega), v2_ne (by intro e; omega), c1, c2, c3]
    rw [v2_ne (by intro e; omega), v2_ne (by intro e; omega), v2_ne (by intro e; omega), v2_ne (by intro e; omega), v2_ne (by intro e; omega), v2_ne (by intro e; omega)]
    exact b3 j j0 j7
  · rw [v2_eq, hf_24 _ _ (by omega), v2_ne (by intro e; omega), v2_ne (by intro e; omega)]; exact b4
/-- a shape taken out -/
def drS (M : Mo) (n : Nat) : Mo := (mX M, mY M, mF M, mN M - 1, fun k => if k < n then mS M k else mS M (k + 1))
theorem l_drop (T : ZTh (XX Ln xs) CZ RZ) {d b : Nat} {Q : ZQ} {s W H n : Nat} {M : Mo} {I0 : ZI} {L0 : ZL} (hs : s ∈ stR) (hn : mN M ≤ 8) (hn2 : n < mN M) (h : ∀ I' L', Fr (stP s) I0 I' → Fr (stP s) L0 L' → StC I' L' s W H (drS M n) → Q (.inl none) I' L') (m : Nat) : ∀ (i : Nat) (I : ZI) (L : ZL), (n < i ∧ i ≤ mN M) → (Fr (stP s) I0 I) → (Fr (stP s) L0 L) → (I s 0 = W) → (I s 1 = H) → (PlC I (s + 1) M) → (I s 4 = mN M) → (∀ k : Nat, k < mN M → RgS L (s + 6 + 2 * k) (if k < n then mS M k else if k + 1 < i then mS M (k + 1) else mS M k) ∧ RgM I (s + 6 + 2 * k) (if k < n then mS M k else if k + 1 < i then mS M (k + 1) else mS M k)) → 9 - (i : Int) < (m : Int) → RZ (d + 1) k_X8_dropShape Q 4 [.inr (.ref s, 9), zj, .inl ((i : Int))] [] b I L := by
  induction m with
  | zero =>
    intro i I L hi hf hg a1 a2 a3 a4 a5 hm
    exfalso
    omega
  | succ m ih =>
    intro i I L hi hf hg a1 a2 a3 a4 a5 hm
    have hst := za_st hs
    obtain ⟨zp, zq, zx, zy, zf⟩ := hst
    have hrn := st_rng hs
    have q1 := fun hk : i - 1 < 8 => za_sh hs hk
    have q2 := fun hk : i < 8 => za_sh hs hk
    have ei : (i : Int) - 1 = ((i - 1 : Nat) : Int) := by omega
    refine T.go [4] 90 ?_
    conv => whnf
    refine ⟨(show (¬ (_ : Nat) = _) ∧ (¬ (_ : Nat) = _) from by omega), ?_⟩
    conv => whnf
    refine ⟨by omega, fun c9 => ?_, fun c9 => ?_⟩
    · conv => whnf
      refine ⟨(show (¬ (_ : Nat) = _) ∧ (¬ (_ : Nat) = _) from by omega), ?_⟩
      conv => whnf
      refine ⟨(show (¬ (_ : Nat) = _) ∧ (¬ (_ : Nat) = _) from by omega), ?_⟩
      conv => whnf
      refine h _ L (hf.v2 (by unfold stP; omega)) hg ⟨?_, ?_, ?_, ?_, fun k hk => ?_⟩
      · rw [v2_ne (by simp)]; exact a1
      · rw [v2_ne (by simp)]; exact a2
      · exact a3.fr (fun a b _ _ => v2_ne (by intro e; omega))
      · rw [v2_eq, a4]
        show _ = ((mN M - 1 : Nat) : Int)
        omega
      · have hk2 : k < mN M - 1 := hk
        obtain ⟨b1, b2⟩ := a5 k (by omega)
        have e : (if k < n then mS M k else if k + 1 < i then mS M (k + 1) else mS M k) = mS (drS M n) k := by
          show _ = if k < n then mS M k else mS M (k + 1)
          by_cases e1 : k < n
          · rw [if_pos e1, if_pos e1]
          · rw [if_neg e1, if_neg e1, if_pos (by omega)]
        rw [e] at b1 b2
        exact ⟨b1, b2.row (fun j => v2_ne (by intro e; omega))⟩
    · conv => whnf
      refine ⟨by omega, fun c15 => by exfalso; omega, fun c15 => ?_⟩
      conv => whnf
      refine ⟨(show (¬ (_ : Nat) = _) ∧ (¬ (_ : Nat) = _) from by omega), _, zq, ?_⟩
      conv => whnf
      refine ⟨by omega, (show (¬ (_ : Nat) = _) ∧ (¬ (_ : Nat) = _) from by omega), _, (by rw [ei]; exact (q1 (by omega)).1), ?_⟩
      conv => whnf
      refine ⟨(show (¬ (_ : Nat) = _) ∧ (¬ (_ : Nat) = _) from by omega), _, zq, ?_⟩
      conv => whnf
      refine ⟨by omega, (show (¬ (_ : Nat) = _) ∧ (¬ (_ : Nat) = _) from by omega), _, ((q2 (by omega)).1), ?_⟩
      conv => whnf
      refine zinv0 (s_X6_copy T (mS M i) (by exact (q1 (by omega)).2) (by show (¬ (_ : Nat) = _) ∧ (¬ (_ : Nat) = _); omega) (by exact (q2 (by omega)).2) (by show (¬ (_ : Nat) = _) ∧ (¬ (_ : Nat) = _); omega) (by show (¬ (_ : Nat) = _) ∧ (¬ (_ : Nat) = _) ∧ (¬ (_ : Nat) = _) ∧ (¬ (_ : Nat) = _) ∧ (¬ (_ : Nat) = _); omega) (by have := (a5 i (by omega)).1; rw [if_neg (by omega), if_neg (by omega)] at this; exact this) (by have := (a5 i (by omega)).2; rw [if_neg (by omega), if_neg (by omega)] at this; exact this) ?_)
      intro I_32 L_32 hf_32 hg_32 hS_32 hM_32
      conv => whnf
      refine ih (i + 1) _ _ (by omega) (hf.trans (hf_32.mono (fun a b c => by unfold stP; omega))) (hg.trans (hg_32.mono (fun a b c => by unfold stP; omega))) ?_ ?_ ?_ ?_ ?_ (by omega)
      · rw [hf_32 _ _ (by omega)]; exact a1
      · rw [hf_32 _ _ (by omega)]; exact a2
      · exact a3.fr (fun a b _ _ => hf_32 _ _ (by omega))
      · rw [hf_32 _ _ (by omega)]; exact a4
      · intro k hk
        by_cases e : k = i - 1
        · subst e
          rw [if_neg (by omega), if_pos (by omega), show i - 1 + 1 = i by omega]
          exact ⟨hS_32, hM_32⟩
        · obtain ⟨b1, b2⟩ := a5 k (by omega)
          have e2 : (k + 1 < i) ↔ (k + 1 < i + 1) := by omega
          simp only [e2] at b1 b2
          exact ⟨b1.row (fun j => hg_32 _ _ (by omega)), b2.row (fun j => hf_32 _ _ (by omega))⟩
theorem s_X8_dropShape (T : ZTh (XX Ln xs) CZ RZ) {d b : Nat} {s W H n : Nat} (M : Mo) {I : ZI} {L : ZL} {Q : ZQ} (hs : s ∈ stR) (hn : mN M ≤ 8) (hn2 : n < mN M) (hM : StC I L s W H M) (h : ∀ I' L', Fr (stP s) I I' → Fr (stP s) L L' → StC I' L' s W H (drS M n) → Q (.inl none) I' L') : CZ (d + 2) k_X8_dropShape [.inr (.ref s, 9), .inl ((n : Int))] b I L Q := by
  refine T.call rfl ?_
  refine T.go [4] 90 ?_
  conv => whnf
  refine T.fg [1] ?_
  obtain ⟨a1, a2, a3, a4, a5⟩ := id hM
  refine l_drop T hs hn hn2 h 9 (n + 1) I L (by omega) (Fr.refl I) (Fr.refl L) a1 a2 a3 a4 (fun k hk => ?_) (by omega)
  have e : (if k < n then mS M k else if k + 1 < n + 1 then mS M (k + 1) else mS M k) = mS M k := by
    by_cases e1 : k < n
    · rw [if_pos e1]
    · rw [if_neg e1, if_neg (by omega)]
  rw [e]
  exact a5 k hk
end
