/-! PARTS, 1 -/
section
variable {Ln : Nat} {xs : Nat → Int32} {CZ : Nat → ZC} {RZ : Nat → Nat → ZQ → ZP}
/-! parts -/
def adj (O : Nat → Bool) (a b : Nat) : Prop := O a = true ∧ O b = true ∧ ∃ s : Int, 0 ≤ s ∧ s ≤ 2 ∧ nb a s = b
/-- connected by quarters next to each other -/
def cc (O : Nat → Bool) (a b : Nat) : Prop := ∀ P : Nat → Prop, P a → (∀ x y, P x → adj O x y → P y) → P b
theorem cc.refl (O : Nat → Bool) (a : Nat) : cc O a a := fun _ h _ => h
theorem cc.step {O : Nat → Bool} {a x y : Nat} (h : cc O a x) (h2 : adj O x y) : cc O a y := fun P hp hs => hs x y (h P hp hs) h2
theorem cc.trans {O : Nat → Bool} {a b c : Nat} (h : cc O a b) (h2 : cc O b c) : cc O a c := fun P hp hs => h2 P (h P hp hs) hs
theorem cc.filled {O : Nat → Bool} {a b : Nat} (h : cc O a b) (ha : O a = true) : O b = true := h (fun x => O x = true) ha (fun _ _ _ h => h.2.1)
theorem nb_sym {a b : Nat} (ha : a < 576) {s : Int} (s0 : 0 ≤ s) (s2 : s ≤ 2) (h : nb a s = b) : ∃ s' : Int, 0 ≤ s' ∧ s' ≤ 2 ∧ nb b s' = a := by
  have hs : s = 0 ∨ s = 1 ∨ s = 2 := by omega
  rcases hs with e | e | e
  · subst e
    refine ⟨0, by omega, by omega, ?_⟩
    unfold nb at h ⊢
    rw [if_pos rfl] at h ⊢
    repeat' split at h
    all_goals repeat' split
    all_goals omega
  · subst e
    refine ⟨2, by omega, by omega, ?_⟩
    unfold nb at h ⊢
    rw [if_neg (by omega), if_pos rfl] at h
    rw [if_neg (by omega), if_neg (by omega)]
    omega
  · subst e
    refine ⟨1, by omega, by omega, ?_⟩
    unfold nb at h ⊢
    rw [if_neg (by omega), if_neg (by omega)] at h
    rw [if_neg (by omega), if_pos rfl]
    omega
theorem adj_sym {O : Nat → Bool} {a b : Nat} (ha : a < 576) (h : adj O a b) : adj O b a := by
  obtain ⟨h1, h2, s, s0, s2, h3⟩ := h
  exact ⟨h2, h1, nb_sym ha s0 s2 h3⟩
theorem adj_lt {O : Nat → Bool} {a b : Nat} (ha : a < 576) (h : adj O a b) : b < 576 := by
  obtain ⟨h1, h2, s, s0, s2, h3⟩ := h
  have := nb_b (q := a) (s := s) (by omega) (by omega)
  omega
theorem cc_lt {O : Nat → Bool} {a b : Nat} (ha : a < 576) (h : cc O a b) : b < 576 := h (fun x => x < 576) ha (fun _ _ hx hy => adj_lt hx hy)
theorem cc_sym {O : Nat → Bool} {a b : Nat} (ha : a < 576) (h : cc O a b) : cc O b a :=
  (h (fun x => x < 576 ∧ cc O x a) ⟨ha, cc.refl O a⟩ (fun x y hx hy => ⟨adj_lt hx.1 hy, (cc.step (cc.refl O y) (adj_sym hx.1 hy)).trans hx.2⟩)).2
noncomputable def partsO (O : Nat → Bool) : Int := cn (fun q => O q && dc (∀ p, p < q → O p = true → ¬ cc O p q)) 576
/-- the walk from f, t quarters taken off the stack so far -/
def DF (O C0 : Nat → Bool) (f : Nat) (I : ZI) (t : Int) (pend : Nat → Nat → Prop) : Prop :=
  (∀ q : Nat, q < 576 → I 531 q = 0 ∨ I 531 q = 1) ∧
  (∀ q : Nat, q < 576 → I 531 q = 1 → C0 q = true ∨ (O q = true ∧ cc O f q)) ∧
  (∀ q : Nat, q < 576 → C0 q = true → I 531 q = 1) ∧
  I 531 f = 1 ∧ 0 ≤ I 527 5 ∧
  (∀ i : Int, 0 ≤ i → i < I 527 5 → ∃ q : Nat, q < 576 ∧ I 532 i = q ∧ I 531 q = 1 ∧ O q = true ∧ cc O f q) ∧
  (∀ a b : Nat, a < 576 → b < 576 → I 531 a = 1 → C0 a = false → adj O a b → I 531 b = 1 ∨ (∃ i : Int, 0 ≤ i ∧ i < I 527 5 ∧ I 532 i = a) ∨ pend a b) ∧
  (t + I 527 5 + cn C0 576 = cn (fun q => decide (I 531 (q : Int) = 1)) 576)
theorem cn_put {f g : Nat → Bool} {k : Nat} (h0 : f k = false) (h1 : g k = true) (h : ∀ i, i ≠ k → g i = f i) : ∀ {n : Nat}, k < n → cn g n = cn f n + 1
  | 0, hk => by omega
  | n + 1, hk => by
    rw [cn_s, cn_s]
    by_cases e : k = n
    · subst e
      rw [h0, h1, cn_congr k (fun i hi => h i (by omega))]
      simp
    · rw [cn_put h0 h1 h (n := n) (by omega), h n (by omega)]
      omega
theorem DF.push {O C0 : Nat → Bool} {f : Nat} {I I' : ZI} {t : Int} {pend pend' : Nat → Nat → Prop} (h : DF O C0 f I t pend) {q : Nat} (hq : q < 576) (hO : O q = true) (hc : cc O f q) (h0 : I 531 q = 0)
    (hf : Fr (fun a b => (a = 531 ∧ b = q) ∨ (a = 532 ∧ b = I 527 5) ∨ (a = 527 ∧ b = 5)) I I') (e1 : I' 531 q = 1) (e2 : I' 532 (I 527 5) = q) (e3 : I' 527 5 = I 527 5 + 1) (hp : ∀ a b, pend a b → b ≠ q → pend' a b) : DF O C0 f I' t pend' := by
  obtain ⟨a1, a2, a3, a4, a5, a6, a7, a8⟩ := h
  have k1 : ∀ x : Nat, x ≠ q → I' 531 x = I 531 x := fun x hx => hf _ _ (by omega)
  have k2 : ∀ i : Int, i ≠ I 527 5 → I' 532 i = I 532 i := fun i hi => hf _ _ (by omega)
  have k3 : ∀ x : Nat, I 531 x = 1 → I' 531 x = 1 := fun x hx => by
    by_cases e : x = q
    · rw [e]; exact e1
    · rw [k1 x e]; exact hx
  have hst : ∀ i : Int, 0 ≤ i → i < I 527 5 + 1 → ∃ x : Nat, x < 576 ∧ I' 532 i = x ∧ I' 531 x = 1 ∧ O x = true ∧ cc O f x := fun i i0 i1 => by
    by_cases e : i = I 527 5
    · rw [e]; exact ⟨q, hq, e2, e1, hO, hc⟩
    · obtain ⟨x, x1, x2, x3, x4, x5⟩ := a6 i i0 (by omega)
      exact ⟨x, x1, by rw [k2 i e]; exact x2, k3 x x3, x4, x5⟩
  refine ⟨fun x hx => ?_, fun x hx h1 => ?_, fun x hx hC => k3 x (a3 x hx hC), k3 f a4, by omega, fun i i0 i1 => hst i i0 (by omega), fun a b ha hb h1 hC hab => ?_, ?_⟩
  · by_cases e : x = q
    · rw [e]; exact Or.inr e1
    · rw [k1 x e]; exact a1 x hx
  · by_cases e : x = q
    · rw [e]; exact Or.inr ⟨hO, hc⟩
    · rw [k1 x e] at h1; exact a2 x hx h1
  · by_cases eb : b = q
    · rw [eb]; exact Or.inl e1
    · by_cases ea : a = q
      · rw [ea]; exact Or.inr (Or.inl ⟨I 527 5, by omega, by omega, e2⟩)
      · rw [k1 a ea] at h1
        rcases a7 a b ha hb h1 hC hab with c | ⟨i, i0, i1, i2⟩ | c
        · exact Or.inl (k3 b c)
        · exact Or.inr (Or.inl ⟨i, i0, by omega, by rw [k2 i (by omega)]; exact i2⟩)
        · exact Or.inr (Or.inr (hp a b c eb))
  · rw [cn_put (f := fun q => decide (I 531 (q : Int) = 1)) (g := fun q => decide (I' 531 (q : Int) = 1)) (k := q) (by simp [h0]) (by simp [e1]) (fun i hi => by
      show decide (I' 531 (i : Int) = 1) = decide (I 531 (i : Int) = 1)
      rw [k1 i hi]) hq, e3, ← a8]
    omega
theorem DF.room {O C0 : Nat → Bool} {f : Nat} {I : ZI} {t : Int} {pend : Nat → Nat → Prop} (h : DF O C0 f I t pend) (ht : 0 ≤ t) : I 527 5 ≤ 576 ∧ t + I 527 5 ≤ 576 ∧ ∀ q : Nat, q < 576 → I 531 q = 0 → I 527 5 < 576 := by
  obtain ⟨a1, a2, a3, a4, a5, a6, a7, a8⟩ := h
  have h1 := cn_nonneg C0 576
  have h2 := cn_le (fun q => decide (I 531 (q : Int) = 1)) 576
  refine ⟨by omega, by omega, fun q hq h0 => ?_⟩
  have h3 := cn_put (f := fun q => decide (I 531 (q : Int) = 1)) (g := fun x => if x = q then true else decide (I 531 (x : Int) = 1)) (k := q) (by simp [h0]) (by simp) (fun i hi => by simp [hi]) hq
  have h4 := cn_le (fun x => if x = q then true else decide (I 531 (x : Int) = 1)) 576
  omega
theorem DF.pop {O C0 : Nat → Bool} {f : Nat} {I : ZI} {t : Int} (h : DF O C0 f I t (fun _ _ => False)) (hw : 0 < I 527 5) {c : Nat} (hc : I 532 (I 527 5 - 1) = c) : DF O C0 f (v2 I 527 5 (I 527 5 - 1)) (t + 1) (fun a _ => a = c) := by
  obtain ⟨a1, a2, a3, a4, a5, a6, a7, a8⟩ := h
  have k1 : ∀ x : Int, v2 I 527 5 (I 527 5 - 1) 531 x = I 531 x := fun x => v2_ne (by omega)
  have k2 : ∀ x : Int, v2 I 527 5 (I 527 5 - 1) 532 x = I 532 x := fun x => v2_ne (by omega)
  unfold DF
  simp only [k1, k2, v2_eq]
  refine ⟨a1, a2, a3, a4, by omega, fun i i0 i1 => a6 i i0 (by omega), fun a b ha hb h1 hC hab => ?_, by omega⟩
  rcases a7 a b ha hb h1 hC hab with d | ⟨i, i0, i1, i2⟩ | d
  · exact Or.inl d
  · by_cases e : i = I 527 5 - 1
    · right; right
      rw [e, hc] at i2
      omega
    · exact Or.inr (Or.inl ⟨i, i0, by omega, i2⟩)
  · exact d.elim
theorem DF.weak {O C0 : Nat → Bool} {f : Nat} {I : ZI} {t : Int} {pend pend' : Nat → Nat → Prop} (h : DF O C0 f I t pend) (hp : ∀ a b, b < 576 → adj O a b → pend a b → I 531 b = 1 ∨ pend' a b) : DF O C0 f I t pend' := by
  obtain ⟨a1, a2, a3, a4, a5, a6, a7, a8⟩ := h
  refine ⟨a1, a2, a3, a4, a5, a6, fun a b ha hb h1 hC hab => ?_, a8⟩
  rcases a7 a b ha hb h1 hC hab with d | d | d
  · exact Or.inl d
  · exact Or.inr (Or.inl d)
  · rcases hp a b hb hab d with e | e
    · exact Or.inl e
    · exact Or.inr (Or.inr e)
theorem DF.done {O C0 : Nat → Bool} {f : Nat} {I : ZI} {t : Int} (h : DF O C0 f I t (fun _ _ => False)) (hf : f < 576) (h0 : I 527 5 = 0) (hC : ∀ a b, a < 576 → C0 a = true → adj O a b → C0 b = true) (q : Nat) (hq : q < 576) : I 531 q = 1 ↔ C0 q = true ∨ cc O f q := by
  obtain ⟨a1, a2, a3, a4, a5, a6, a7, a8⟩ := h
  constructor
  · intro c
    rcases a2 q hq c with d | d
    · exact Or.inl d
    · exact Or.inr d.2
  · rintro (c | c)
    · exact a3 q hq c
    · have key := c (fun x => x < 576 ∧ I 531 x = 1) ⟨hf, a4⟩ (fun x y hx hxy => by
        have hy := adj_lt hx.1 hxy
        refine ⟨hy, ?_⟩
        cases hcx : C0 x with
        | true => exact a3 y hy (hC x y hx.1 hcx hxy)
        | false =>
          rcases a7 x y hx.1 hy hx.2 hcx hxy with d | ⟨i, i0, i1, _⟩ | d
          · exact d
          · omega
          · exact d.elim)
      exact key.2
theorem DF.init {O C0 : Nat → Bool} {f : Nat} {I I' : ZI} (hf : f < 576) (hO : O f = true) (h01 : ∀ q : Nat, q < 576 → I 531 q = 0 ∨ I 531 q = 1) (hC : ∀ q : Nat, q < 576 → (I 531 q = 1 ↔ C0 q = true)) (h0 : I 531 f = 0) (hw : I 527 5 = 0)
    (hfr : Fr (fun a b => (a = 531 ∧ b = f) ∨ (a = 532 ∧ b = I 527 5) ∨ (a = 527 ∧ b = 5)) I I') (e1 : I' 531 f = 1) (e2 : I' 532 (I 527 5) = f) (e3 : I' 527 5 = I 527 5 + 1) : DF O C0 f I' 0 (fun _ _ => False) := by
  have k1 : ∀ x : Nat, x ≠ f → I' 531 x = I 531 x := fun x hx => hfr _ _ (by omega)
  rw [hw] at e2 e3
  refine ⟨fun x hx => ?_, fun x hx h1 => ?_, fun x hx hx1 => ?_, e1, by omega, fun i i0 i1 => ?_, fun a b ha hb h1 hCa hab => ?_, ?_⟩
  · by_cases e : x = f
    · rw [e]; exact Or.inr e1
    · rw [k1 x e]; exact h01 x hx
  · by_cases e : x = f
    · rw [e]; exact Or.inr ⟨hO, cc.refl O f⟩
    · rw [k1 x e] at h1; exact Or.inl ((hC x hx).mp h1)
  · by_cases e : x = f
    · rw [e]; exact e1
    · rw [k1 x e]; exact (hC x hx).mpr hx1
  · obtain rfl : i = 0 := by omega
    exact ⟨f, hf, e2, e1, hO, cc.refl O f⟩
  · by_cases e : a = f
    · exact Or.inr (Or.inl ⟨0, by omega, by omega, by rw [e]; exact e2⟩)
    · rw [k1 a e] at h1
      rw [(hC a ha).mp h1] at hCa
      cases hCa
  · have e4 : cn C0 576 = cn (fun q => decide (I 531 (q : Int) = 1)) 576 := cn_congr 576 (fun i hi => by
      apply Bool.eq_iff_iff.mpr
      rw [decide_eq_true_iff]
      exact (hC i hi).symm)
    rw [cn_put (f := fun q => decide (I 531 (q : Int) = 1)) (g := fun q => decide (I' 531 (q : Int) = 1)) (k := f) (by simp [h0]) (by simp [e1]) (fun i hi => by
      show decide (I' 531 (i : Int) = 1) = decide (I 531 (i : Int) = 1)
      rw [k1 i hi]) hf, e3, e4]
    omega
theorem s_X7_visit (T : ZTh (XX Ln xs) CZ RZ) {d b : Nat} {q : Int} {I : ZI} {L : ZL} {Q : ZQ} (hq : -1 ≤ q ∧ q < 576) (hO : 0 ≤ q → zR (I 530 q)) (hC : 0 ≤ q → (I 531 q = 0 ∨ I 531 q = 1)) (hw : 0 ≤ I 527 5 ∧ I 527 5 ≤ 576) (h : q < 0 ∨ I 530 q = -1 ∨ I 531 q = 1 ∨ I 527 5 = 576 → Q (.inl none) I L) (h2 : ∀ I', 0 ≤ q → I 530 q ≠ -1 → I 531 q = 0 → Fr (fun a b => (a = 531 ∧ b = q) ∨ (a = 532 ∧ b = I 527 5) ∨ (a = 527 ∧ b = 5)) I I' → I' 531 q = 1 → I' 532 (I 527 5) = q → I' 527 5 = I 527 5 + 1 → Q (.inl none) I' L) : CZ (d + 2) k_X7_visit [.inr (.ref 527, 8), .inl q] b I L Q := by
  refine T.call rfl ?_
  refine T.go [] 90 ?_
  conv => whnf
  refine zinv0 (s_X7_ownerAt T  (by first | assumption | omega | rfl | decide) ?_ ?_)
  · intro cha_2 chb_2
    have hOq := hO cha_2
    have hCq := hC cha_2
    conv => whnf
    refine ⟨by omega, fun c6 => ?_, fun c6 => ?_⟩
    · conv => whnf
      exact h (by omega)
    · conv => whnf
      refine ⟨by decide, _, rfl, ?_⟩
      conv => whnf
      refine ⟨by omega, by decide, ?_⟩
      conv => whnf
      refine ⟨by omega, fun c15 => ?_, fun c15 => ?_⟩
      · conv => whnf
        exact h (by omega)
      · conv => whnf
        refine ⟨by decide, ?_⟩
        conv => whnf
        refine ⟨by omega, fun c25 => ?_, fun c25 => ?_⟩
        · conv => whnf
          exact h (by omega)
        · conv => whnf
          refine ⟨by decide, _, rfl, ?_⟩
          conv => whnf
          refine ⟨by omega, ⟨by decide, by decide, by omega⟩, ?_⟩
          conv => whnf
          have hv : v2 I 531 q 1 527 5 = I 527 5 := v2_ne (by simp)
          refine ⟨by decide, _, rfl, ?_⟩
          conv => whnf
          refine ⟨by decide, ?_⟩
          conv => whnf
          refine ⟨by omega, by decide, ?_⟩
          conv => whnf
          refine ⟨by decide, ?_⟩
          conv => whnf
          refine ⟨by decide, ?_⟩
          conv => whnf
          rw [hv]
          refine h2 _ cha_2 c6 (by omega) ((((Fr.refl I).v2 (by simp)).v2 (by simp)).v2 (by simp)) ?_ ?_ ?_
          · rw [v2_ne (by simp), v2_ne (by simp), v2_eq]
          · rw [v2_ne (by simp), v2_eq]
          · rw [v2_eq, v2_ne (by simp), v2_ne (by simp)]
  · intro ch2a_2
    conv => whnf
    refine ⟨by omega, fun c6 => ?_, fun c6 => by exfalso; omega⟩
    conv => whnf
    exact h (by omega)
end
