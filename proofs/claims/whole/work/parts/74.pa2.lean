/-! PARTS, 2: they are counted -/
section
variable {Ln : Nat} {xs : Nat → Int32} {CZ : Nat → ZC} {RZ : Nat → Nat → ZQ → ZP}
theorem l_partI (T : ZTh (XX Ln xs) CZ RZ) {d b : Nat} {Q : ZQ} {O C0 : Nat → Bool} {f c : Nat} {t : Int} {I0 : ZI} {L : ZL} (hO : ∀ q : Nat, q < 576 → zR (I0 530 q) ∧ (I0 530 q ≠ -1 ↔ O q = true)) (ht : 0 ≤ t ∧ t < 576) (hc : c < 576 ∧ O c = true ∧ cc O f c) (hk : ∀ I', Fr (fun a b => a = 531 ∨ a = 532 ∨ (a = 527 ∧ b = 5)) I0 I' → DF O C0 f I' (t + 1) (fun _ _ => False) → RZ (d + 2) k_X7_countPart Q 7 [.inr (.ref 527, 8), zj, .inl (t + 1), zj, zj] [] b I' L) (m : Nat) : ∀ (s : Int) (I : ZI), (0 ≤ s ∧ s ≤ 3) → (Fr (fun a b => a = 531 ∨ a = 532 ∨ (a = 527 ∧ b = 5)) I0 I) → (DF O C0 f I (t + 1) (fun a b => a = c ∧ ∃ s2 : Int, s ≤ s2 ∧ s2 ≤ 2 ∧ nb c s2 = b)) → 3 - s < (m : Int) → RZ (d + 2) k_X7_countPart Q 44 [.inr (.ref 527, 8), zj, .inl t, .inl ((c : Int)), .inl s] [] b I L := by
  induction m with
  | zero =>
    intro s I hs hfr hD hm
    exfalso
    omega
  | succ m ih =>
    intro s I hs hfr hD hm
    have hb := nb_b (q := c) (s := s) (by omega) (by omega)
    have hro := hD.room (by omega)
    refine T.go [7, 44] 90 ?_
    conv => whnf
    refine ⟨by omega, fun c47 => ?_, fun c47 => ?_⟩
    · conv => whnf
      refine T.fg [3, 4] ?_
      refine hk I hfr (hD.weak (fun a b hb2 hab hp => ?_))
      obtain ⟨_, s2, h1, h2, h3⟩ := hp
      omega
    · conv => whnf
      refine zinv0 (s_X11_neighbour T  (by first | assumption | omega | rfl | decide) (by first | assumption | omega | rfl | decide) ?_)
      conv => whnf
      refine zinv0 (s_X7_visit T  (by exact hb) (by intro h0; obtain ⟨n, hn⟩ := Int.eq_ofNat_of_zero_le h0; rw [hn, hfr _ _ (by omega)]; exact (hO n (by omega)).1) (by intro h0; obtain ⟨n, hn⟩ := Int.eq_ofNat_of_zero_le h0; rw [hn]; exact hD.1 n (by omega)) (by exact ⟨hD.2.2.2.2.1, hro.1⟩) ?_ ?_)
      · intro cha_57
        conv => whnf
        refine ih (s + 1) I (by omega) hfr (hD.weak (fun a b hb2 hab hp => ?_)) (by omega)
        obtain ⟨e, s2, h1, h2, h3⟩ := hp
        by_cases es : s2 = s
        · subst es
          rw [h3] at cha_57
          rcases cha_57 with g | g | g | g
          · omega
          · rw [hfr _ _ (by omega)] at g
            exact ((hO b hb2).2.mpr hab.2.1 g).elim
          · exact Or.inl g
          · rcases hD.1 b hb2 with g2 | g2
            · have := hro.2.2 b hb2 g2
              omega
            · exact Or.inl g2
        · exact Or.inr ⟨e, s2, by omega, h2, h3⟩
      · intro I_57 hq0_57 hO1_57 hC0_57 hf_57 e1_57 e2_57 e3_57
        conv => whnf
        obtain ⟨n, hn⟩ := Int.eq_ofNat_of_zero_le hq0_57
        rw [hn] at hq0_57 hO1_57 hC0_57 hf_57 e1_57 e2_57
        have hn2 : n < 576 := by omega
        rw [hfr _ _ (by omega)] at hO1_57
        have hOn := (hO n hn2).2.mp hO1_57
        have hadj : adj O c n := ⟨hc.2.1, hOn, s, by omega, by omega, hn⟩
        refine ih (s + 1) _ (by omega) (hfr.trans (hf_57.mono (fun a b e => by omega))) (hD.push hn2 hOn (hc.2.2.step hadj) hC0_57 hf_57 e1_57 e2_57 e3_57 (fun a b hp hne => ?_)) (by omega)
        obtain ⟨e, s2, h1, h2, h3⟩ := hp
        refine ⟨e, s2, ?_, h2, h3⟩
        have : s2 ≠ s := fun es => hne (by rw [es, hn] at h3; omega)
        omega
theorem l_partO (T : ZTh (XX Ln xs) CZ RZ) {d b : Nat} {Q : ZQ} {O C0 : Nat → Bool} {f : Nat} {I0 : ZI} {L : ZL} (hO : ∀ q : Nat, q < 576 → zR (I0 530 q) ∧ (I0 530 q ≠ -1 ↔ O q = true)) (hf : f < 576 ∧ O f = true) (hcl : ∀ a b, a < 576 → C0 a = true → adj O a b → C0 b = true) (h : ∀ I', Fr (fun a b => a = 531 ∨ a = 532 ∨ (a = 527 ∧ b = 5)) I0 I' → I' 527 5 = 0 → (∀ q : Nat, q < 576 → (I' 531 q = 0 ∨ I' 531 q = 1) ∧ (I' 531 q = 1 ↔ C0 q = true ∨ cc O f q)) → Q (.inl none) I' L) (m : Nat) : ∀ (t : Int) (I : ZI), (0 ≤ t) → (Fr (fun a b => a = 531 ∨ a = 532 ∨ (a = 527 ∧ b = 5)) I0 I) → (DF O C0 f I t (fun _ _ => False)) → 576 - t < (m : Int) → RZ (d + 2) k_X7_countPart Q 7 [.inr (.ref 527, 8), zj, .inl t, zj, zj] [] b I L := by
  induction m with
  | zero =>
    intro t I ht hfr hD hm
    have hro := hD.room ht
    have hw0 := hD.2.2.2.2.1
    exfalso
    omega
  | succ m ih =>
    intro t I ht hfr hD hm
    have hro := hD.room ht
    have hw0 := hD.2.2.2.2.1
    refine T.go [44] 90 ?_
    conv => whnf
    refine ⟨by omega, fun c11 => ?_, fun c11 => ?_⟩
    · conv => whnf
      have hw : I 527 5 = 0 := by omega
      exact h I hfr hw (fun q hq => ⟨hD.1 q hq, hD.done hf.1 hw hcl q hq⟩)
    · conv => whnf
      refine ⟨by decide, ?_⟩
      conv => whnf
      refine ⟨by omega, fun c18 => ?_, fun c18 => ?_⟩
      · conv => whnf
        have hw : I 527 5 = 0 := by omega
        exact h I hfr hw (fun q hq => ⟨hD.1 q hq, hD.done hf.1 hw hcl q hq⟩)
      · conv => whnf
        refine ⟨by decide, ?_⟩
        conv => whnf
        obtain ⟨c, hc1, hc2, hc3, hc4, hc5⟩ := hD.2.2.2.2.2.1 (I 527 5 - 1) (by omega) (by omega)
        have hv : v2 I 527 5 (I 527 5 - 1) 527 5 = I 527 5 - 1 := v2_eq _ _ _ _
        have hv2 : v2 I 527 5 (I 527 5 - 1) 532 (I 527 5 - 1) = c := by rw [v2_ne (by simp)]; exact hc2
        refine ⟨by decide, ?_⟩
        conv => whnf
        refine ⟨by decide, _, rfl, ?_⟩
        conv => whnf
        refine ⟨by decide, ?_⟩
        conv => whnf
        refine ⟨by omega, by decide, ?_⟩
        conv => whnf
        rw [hv, hv2]
        refine l_partI T (O := O) (C0 := C0) (f := f) (I0 := I0) hO ⟨ht, by omega⟩ ⟨hc1, hc4, hc5⟩ (fun I2 f2 d2 => ih (t + 1) I2 (by omega) f2 d2 (by omega)) 4 0 _ (by omega) (hfr.v2 (by simp)) ((hD.pop (by omega) hc2).weak (fun a b hb hab hp => Or.inr ⟨hp, ?_⟩)) (by omega)
        obtain ⟨_, _, s, s0, s2, hs⟩ := hab
        exact ⟨s, s0, s2, by rw [← hp]; exact hs⟩
theorem s_X7_countPart (T : ZTh (XX Ln xs) CZ RZ) {d b : Nat} {f : Nat} (O C0 : Nat → Bool) {I : ZI} {L : ZL} {Q : ZQ} (hO : ∀ q : Nat, q < 576 → zR (I 530 q) ∧ (I 530 q ≠ -1 ↔ O q = true)) (hf : f < 576 ∧ O f = true) (hcl : ∀ a b, a < 576 → C0 a = true → adj O a b → C0 b = true) (h01 : ∀ q : Nat, q < 576 → I 531 q = 0 ∨ I 531 q = 1) (hC : ∀ q : Nat, q < 576 → (I 531 q = 1 ↔ C0 q = true)) (h0 : I 531 f = 0) (hw0 : I 527 5 = 0) (h : ∀ I', Fr (fun a b => a = 531 ∨ a = 532 ∨ (a = 527 ∧ b = 5)) I I' → I' 527 5 = 0 → (∀ q : Nat, q < 576 → (I' 531 q = 0 ∨ I' 531 q = 1) ∧ (I' 531 q = 1 ↔ C0 q = true ∨ cc O f q)) → Q (.inl none) I' L) : CZ (d + 3) k_X7_countPart [.inr (.ref 527, 8), .inl ((f : Int))] b I L Q := by
  refine T.call rfl ?_
  refine T.go [7] 90 ?_
  conv => whnf
  refine zinv0 (s_X7_visit T  (by omega) (by intro _; exact (hO f hf.1).1) (by intro _; exact h01 f hf.1) (by omega) ?_ ?_)
  · intro cha_2
    exfalso
    have := (hO f hf.1).2.mpr hf.2
    omega
  · intro I_2 hq0_2 hO1_2 hC0_2 hf_2 e1_2 e2_2 e3_2
    conv => whnf
    refine T.fg [1] ?_
    exact l_partO T hO hf hcl (fun I2 f2 w2 v2' => h I2 f2 w2 v2') 577 0 _ (by omega) (hf_2.mono (fun a b c => by omega)) (DF.init hf.1 hf.2 h01 hC h0 hw0 hf_2 e1_2 e2_2 e3_2) (by omega)
/-- the parts of the quarters below q -/
noncomputable def seen (O : Nat → Bool) (q x : Nat) : Bool := dc (∃ p, p < q ∧ O p = true ∧ cc O p x)
theorem seen_s {O : Nat → Bool} {q x : Nat} (hq : O q = true) : seen O (q + 1) x = true ↔ seen O q x = true ∨ cc O q x := by
  rw [seen, seen, dc_iff, dc_iff]
  constructor
  · rintro ⟨p, h1, h2, h3⟩
    by_cases e : p = q
    · subst e; exact Or.inr h3
    · exact Or.inl ⟨p, by omega, h2, h3⟩
  · rintro (⟨p, h1, h2, h3⟩ | h)
    · exact ⟨p, by omega, h2, h3⟩
    · exact ⟨q, by omega, hq, h⟩
theorem seen_n {O : Nat → Bool} {q x : Nat} (hq : O q = false ∨ seen O q q = true) : seen O (q + 1) x = true ↔ seen O q x = true := by
  rw [seen, seen, dc_iff, dc_iff]
  constructor
  · rintro ⟨p, h1, h2, h3⟩
    by_cases e : p = q
    · subst e
      rcases hq with g | g
      · rw [h2] at g; cases g
      · rw [seen, dc_iff] at g
        obtain ⟨p2, g1, g2, g3⟩ := g
        exact ⟨p2, g1, g2, g3.trans h3⟩
    · exact ⟨p, by omega, h2, h3⟩
  · rintro ⟨p, h1, h2, h3⟩
    exact ⟨p, by omega, h2, h3⟩
theorem l_partsB (T : ZTh (XX Ln xs) CZ RZ) {d b : Nat} {Q : ZQ} {O : Nat → Bool} {I0 : ZI} {L : ZL} (hO : ∀ q : Nat, q < 576 → zR (I0 530 q) ∧ (I0 530 q ≠ -1 ↔ O q = true)) (h : ∀ I', Fr (fun a b => a = 531 ∨ a = 532 ∨ (a = 527 ∧ (b = 5 ∨ b = 2))) I0 I' → I' 527 2 = partsO O → Q (.inl none) I' L) (m : Nat) : ∀ (q : Nat) (I : ZI), (q ≤ 576) → (Fr (fun a b => a = 531 ∨ a = 532 ∨ (a = 527 ∧ (b = 5 ∨ b = 2))) I0 I) → (∀ x : Nat, x < 576 → I 531 x = 0 ∨ I 531 x = 1) → (∀ x : Nat, x < 576 → (I 531 x = 1 ↔ seen O q x = true)) → (I 527 5 = 0) → (I 527 2 = cn (fun q => O q && dc (∀ p, p < q → O p = true → ¬ cc O p q)) q) → 576 - (q : Int) < (m : Int) → RZ (d + 3) k_X7_countParts Q 34 [.inr (.ref 527, 8), .inl ((q : Int))] [] b I L := by
  induction m with
  | zero =>
    intro q I hq hfr h01 hC hw hp hm
    exfalso
    omega
  | succ m ih =>
    intro q I hq hfr h01 hC hw hp hm
    have hO2 : ∀ x : Nat, x < 576 → zR (I 530 x) ∧ (I 530 x ≠ -1 ↔ O x = true) := fun x hx => by rw [hfr _ _ (by omega)]; exact hO x hx
    have hz := fun hx : q < 576 => (hO2 q hx).1
    have h1 := fun hx : q < 576 => h01 q hx
    refine T.go [34] 90 ?_
    conv => whnf
    refine ⟨by omega, fun c38 => ?_, fun c38 => ?_⟩
    · conv => whnf
      obtain rfl : q = 576 := by omega
      exact h I hfr hp
    · conv => whnf
      refine ⟨by decide, _, rfl, ?_⟩
      conv => whnf
      refine ⟨by omega, by decide, ?_⟩
      conv => whnf
      refine ⟨by have := hz (by omega); omega, fun c48 => ?_, fun c48 => ?_⟩
      · conv => whnf
        have hno : O q = false ∨ seen O q q = true := by
          left
          cases e : O q with
          | false => rfl
          | true => exact ((hO2 q (by omega)).2.mpr e c48).elim
        refine ih (q + 1) I (by omega) hfr h01 (fun x hx => by rw [seen_n hno]; exact hC x hx) hw ?_ (by omega)
        rw [hp, cn_s]
        have e : (O q && dc (∀ p, p < q → O p = true → ¬ cc O p q)) = false := by
          rcases hno with g | g
          · rw [g]; rfl
          · rw [Bool.and_eq_false_iff]
            right
            rw [dc_not]
            intro c
            rw [seen, dc_iff] at g
            obtain ⟨p, p1, p2, p3⟩ := g
            exact c p p1 p2 p3
        simp only [e, cond_false, Int.add_zero]
      · conv => whnf
        refine ⟨by decide, _, rfl, ?_⟩
        conv => whnf
        refine ⟨by omega, by decide, ?_⟩
        conv => whnf
        refine ⟨by have := h1 (by omega); omega, fun c57 => ?_, fun c57 => ?_⟩
        · conv => whnf
          have hno : O q = false ∨ seen O q q = true := by
            right
            exact (hC q (by omega)).mp (by have := h1 (by omega); omega)
          refine ih (q + 1) I (by omega) hfr h01 (fun x hx => by rw [seen_n hno]; exact hC x hx) hw ?_ (by omega)
          rw [hp, cn_s]
          have e : (O q && dc (∀ p, p < q → O p = true → ¬ cc O p q)) = false := by
            rcases hno with g | g
            · rw [g]; rfl
            · rw [Bool.and_eq_false_iff]
              right
              rw [dc_not]
              intro c
              rw [seen, dc_iff] at g
              obtain ⟨p, p1, p2, p3⟩ := g
              exact c p p1 p2 p3
          simp only [e, cond_false, Int.add_zero]
        · conv => whnf
          refine ⟨by decide, ?_⟩
          conv => whnf
          refine ⟨by decide, ?_⟩
          conv => whnf
          have hOq : O q = true := (hO2 q (by omega)).2.mp c48
          have h9 : v2 I 527 2 (I 527 2 + 1) 531 (q : Int) = 0 := by rw [v2_ne (by simp)]; exact c57
          refine zinv0 (s_X7_countPart T O (seen O q) (by intro x hx; rw [v2_ne (by simp)]; exact hO2 x hx) (by exact ⟨by omega, hOq⟩) (by intro a b ha hs hab; rw [seen, dc_iff] at hs ⊢; obtain ⟨p, p1, p2, p3⟩ := hs; exact ⟨p, p1, p2, p3.step hab⟩) (by intro x hx; rw [v2_ne (by simp)]; exact h01 x hx) (by intro x hx; rw [v2_ne (by simp)]; exact hC x hx) (by exact h9) (by rw [v2_ne (by simp)]; exact hw) ?_)
          intro I_72 hf_72 hw_72 hv_72
          conv => whnf
          have hmin : dc (∀ p, p < q → O p = true → ¬ cc O p q) = true := by
            rw [dc_iff]
            intro p p1 p2 p3
            have : seen O q q = true := by rw [seen, dc_iff]; exact ⟨p, p1, p2, p3⟩
            rw [(hC q (by omega)).mpr this] at c57
            cases c57
          refine ih (q + 1) _ (by omega) ((hfr.v2 (by simp)).trans (hf_72.mono (fun a b c => by omega))) (fun x hx => (hv_72 x hx).1) (fun x hx => by rw [seen_s hOq]; exact (hv_72 x hx).2) hw_72 ?_ (by omega)
          rw [hf_72 _ _ (by omega), v2_eq, hp, cn_s]
          simp only [hOq, hmin, Bool.and_self, cond_true]
theorem l_partsA (T : ZTh (XX Ln xs) CZ RZ) {d b : Nat} {Q : ZQ} {O : Nat → Bool} {I0 : ZI} {L : ZL} (hO : ∀ q : Nat, q < 576 → zR (I0 530 q) ∧ (I0 530 q ≠ -1 ↔ O q = true)) (h : ∀ I', Fr (fun a b => a = 531 ∨ a = 532 ∨ (a = 527 ∧ (b = 5 ∨ b = 2))) I0 I' → I' 527 2 = partsO O → Q (.inl none) I' L) (m : Nat) : ∀ (q : Int) (I : ZI), (0 ≤ q ∧ q ≤ 576) → (Fr (fun a b => a = 531 ∨ a = 532 ∨ (a = 527 ∧ (b = 5 ∨ b = 2))) I0 I) → (∀ x : Int, 0 ≤ x → x < q → I 531 x = 0) → (I 527 5 = 0) → (I 527 2 = 0) → 576 - q < (m : Int) → RZ (d + 3) k_X7_countParts Q 12 [.inr (.ref 527, 8), .inl q] [] b I L := by
  induction m with
  | zero =>
    intro q I hq hfr hv hw hp hm
    exfalso
    omega
  | succ m ih =>
    intro q I hq hfr hv hw hp hm
    refine T.go [12, 34] 90 ?_
    conv => whnf
    refine ⟨by omega, fun c16 => ?_, fun c16 => ?_⟩
    · conv => whnf
      refine l_partsB T (O := O) (I0 := I) (fun x hx => by rw [hfr _ _ (by omega)]; exact hO x hx) (fun I2 f2 p2 => h I2 (hfr.trans f2) p2) 577 0 I (by omega) (Fr.refl I) (fun x hx => Or.inl (hv x (by omega) (by omega))) (fun x hx => ?_) hw (by rw [hp]; rfl) (by omega)
      rw [hv x (by omega) (by omega), seen, dc_iff]
      constructor
      · intro c; omega
      · rintro ⟨p, p1, _⟩; omega
    · conv => whnf
      refine ⟨by decide, _, rfl, ?_⟩
      conv => whnf
      refine ⟨by omega, ⟨by decide, by decide, by omega⟩, ?_⟩
      conv => whnf
      refine ih (q + 1) _ (by omega) (hfr.v2 (by simp)) (fun x x0 x1 => ?_) (by rw [v2_ne (by simp)]; exact hw) (by rw [v2_ne (by simp)]; exact hp) (by omega)
      by_cases e : x = q
      · rw [e, v2_eq]
      · rw [v2_ne (fun c => e c.2)]; exact hv x x0 (by omega)
theorem s_X7_countParts (T : ZTh (XX Ln xs) CZ RZ) {d b : Nat} (O : Nat → Bool) {I : ZI} {L : ZL} {Q : ZQ} (hO : ∀ q : Nat, q < 576 → zR (I 530 q) ∧ (I 530 q ≠ -1 ↔ O q = true)) (h : ∀ I', Fr (fun a b => a = 531 ∨ a = 532 ∨ (a = 527 ∧ (b = 5 ∨ b = 2))) I I' → I' 527 2 = partsO O → Q (.inl none) I' L) : CZ (d + 4) k_X7_countParts [.inr (.ref 527, 8)] b I L Q := by
  refine T.call rfl ?_
  refine T.go [12] 90 ?_
  conv => whnf
  refine ⟨by decide, ?_⟩
  conv => whnf
  refine ⟨by decide, ?_⟩
  conv => whnf
  exact l_partsA T (O := O) hO h 577 0 _ (by omega) (((Fr.refl I).v2 (by simp)).v2 (by simp)) (fun x x0 x1 => by omega) (v2_eq _ _ _ _) (by rw [v2_ne (by simp), v2_eq]) (by omega)
end
