/-! THE REFERENCE, 7: boxes -/
section
variable {Ln : Nat} {xs : Nat → Int32} {CZ : Nat → ZC} {RZ : Nat → Nat → ZQ → ZP}
def gx (q : Nat) : Nat := q % 48 / 4
def gy (q : Nat) : Nat := q / 48
theorem colO_q {S : Nat → Bool} {q : Nat} (hq : q < 576) (h : S q = true) : colO S (gx q) = true := by
  unfold colO gx
  rw [dc_iff]
  refine ⟨q / 48, by omega, q % 4, by omega, ?_⟩
  rw [show 48 * (q / 48) + 4 * (q % 48 / 4) + q % 4 = q by omega]
  exact h
theorem colO_e {S : Nat → Bool} {x : Nat} (hx : x < 12) (h : colO S x = true) : ∃ q, q < 576 ∧ S q = true ∧ gx q = x := by
  unfold colO at h
  rw [dc_iff] at h
  obtain ⟨y, hy, k, hk, h2⟩ := h
  exact ⟨_, by omega, h2, by unfold gx; omega⟩
theorem rowO_q {S : Nat → Bool} {q : Nat} (hq : q < 576) (h : S q = true) : rowO S (gy q) = true := by
  unfold rowO gy
  rw [dc_iff]
  refine ⟨q % 48, by omega, ?_⟩
  rw [show 48 * (q / 48) + q % 48 = q by omega]
  exact h
theorem rowO_e {S : Nat → Bool} {y : Nat} (hy : y < 12) (h : rowO S y = true) : ∃ q, q < 576 ∧ S q = true ∧ gy q = y := by
  unfold rowO at h
  rw [dc_iff] at h
  obtain ⟨i, hi, h2⟩ := h
  exact ⟨_, by omega, h2, by unfold gy; omega⟩
/-- the least box of a set that is not empty -/
def ExtS (S : Nat → Bool) (l t w h : Nat) : Prop := (∀ q, q < 576 → S q = true → l ≤ gx q ∧ gx q < l + w ∧ t ≤ gy q ∧ gy q < t + h) ∧
  (∃ q, q < 576 ∧ S q = true ∧ gx q = l) ∧ (∃ q, q < 576 ∧ S q = true ∧ gx q + 1 = l + w) ∧ (∃ q, q < 576 ∧ S q = true ∧ gy q = t) ∧ ∃ q, q < 576 ∧ S q = true ∧ gy q + 1 = t + h
theorem lo_is {f : Nat → Bool} {l : Nat} (hl : l < 12) (h1 : f l = true) (h2 : ∀ x, x < 12 → f x = true → l ≤ x) : lo f 12 = l := by
  rcases lo_spec f 12 with ⟨c, -⟩ | ⟨-, k, k1, k2, k3, k4⟩
  · have := cn_zero c l hl
    rw [h1] at this; cases this
  · have g1 := h2 k k1 k3
    have g2 : ¬ l < k := fun g => by rw [k4 l g] at h1; cases h1
    omega
theorem lw_is {f : Nat → Bool} {l b : Nat} (hl : l < 12) (h1 : f l = true) (h2 : ∀ x, x < 12 → f x = true → l ≤ x) (hb : b < 12) (h3 : f b = true) (h4 : ∀ x, x < 12 → f x = true → x ≤ b) : lw f 12 = (b : Int) + 1 - l := by
  have h5 := lo_is hl h1 h2
  rcases lw_spec f 12 with ⟨c, -⟩ | ⟨-, k, k1, k2, k3, k4⟩
  · have := cn_zero c l hl
    rw [h1] at this; cases this
  · have g1 := h4 k k1 k3
    have g2 : ¬ k < b := fun g => by rw [k4 b g hb] at h3; cases h3
    omega
theorem ExtS.box {S : Nat → Bool} {l t w h : Nat} (g : ExtS S l t w h) : lt S = l ∧ tp S = t ∧ wd S = w ∧ hg S = h := by
  obtain ⟨g0, ⟨q1, a1, a2, a3⟩, ⟨q2, b1, b2, b3⟩, ⟨q3, c1, c2, c3⟩, ⟨q4, d1, d2, d3⟩⟩ := g
  have hx : ∀ x, x < 12 → colO S x = true → l ≤ x ∧ x < l + w := fun x hx hc => by
    obtain ⟨q, e1, e2, e3⟩ := colO_e hx hc
    have := g0 q e1 e2
    omega
  have hy : ∀ y, y < 12 → rowO S y = true → t ≤ y ∧ y < t + h := fun y hy hc => by
    obtain ⟨q, e1, e2, e3⟩ := rowO_e hy hc
    have := g0 q e1 e2
    omega
  have x1 : gx q1 < 12 := by unfold gx; omega
  have x2 : gx q2 < 12 := by unfold gx; omega
  have y3 : gy q3 < 12 := by unfold gy; omega
  have y4 : gy q4 < 12 := by unfold gy; omega
  have f1 := colO_q a1 a2
  have f2 := colO_q b1 b2
  have f3 := rowO_q c1 c2
  have f4 := rowO_q d1 d2
  have L1 : lo (colO S) 12 = gx q1 := lo_is x1 f1 (fun x hx2 hc => by have := hx x hx2 hc; omega)
  have L2 : lw (colO S) 12 = (gx q2 : Int) + 1 - gx q1 := lw_is x1 f1 (fun x hx2 hc => by have := hx x hx2 hc; omega) x2 f2 (fun x hx2 hc => by have := hx x hx2 hc; omega)
  have L3 : lo (rowO S) 12 = gy q3 := lo_is y3 f3 (fun x hx2 hc => by have := hy x hx2 hc; omega)
  have L4 : lw (rowO S) 12 = (gy q4 : Int) + 1 - gy q3 := lw_is y3 f3 (fun x hx2 hc => by have := hy x hx2 hc; omega) y4 f4 (fun x hx2 hc => by have := hy x hx2 hc; omega)
  have hb := box_le S
  have m1 := g0 q1 a1 a2
  have m3 := g0 q3 c1 c2
  omega
theorem ext_of {S : Nat → Bool} (h : ¬ cn S 576 = 0) : ExtS S (lt S) (tp S) (wd S) (hg S) := by
  have hne : ∃ q, q < 576 ∧ S q = true := by
    apply Classical.byContradiction
    intro c
    refine h (cn_false (fun i hi => ?_))
    cases e : S i with
    | false => rfl
    | true => exact absurd ⟨i, hi, e⟩ c
  obtain ⟨q0, q1, q2⟩ := hne
  have hb := box_le S
  have hin : ∀ q, q < 576 → S q = true → lt S ≤ gx q ∧ gx q < lt S + wd S ∧ tp S ≤ gy q ∧ gy q < tp S + hg S := fun q hq hs => by
    have := in_box (S := S) (y := q / 48) (i := q % 48) (by omega) (by omega) (by rw [show 48 * (q / 48) + q % 48 = q by omega]; exact hs)
    unfold gx gy
    omega
  have x0 : gx q0 < 12 := by unfold gx; omega
  have y0 : gy q0 < 12 := by unfold gy; omega
  refine ⟨hin, ?_, ?_, ?_, ?_⟩
  · rcases lo_spec (colO S) 12 with ⟨c, -⟩ | ⟨-, k, k1, k2, k3, k4⟩
    · have := cn_zero c _ x0
      rw [colO_q q1 q2] at this; cases this
    · obtain ⟨q, e1, e2, e3⟩ := colO_e k1 k3
      exact ⟨q, e1, e2, by omega⟩
  · rcases lw_spec (colO S) 12 with ⟨c, -⟩ | ⟨-, k, k1, k2, k3, k4⟩
    · have := cn_zero c _ x0
      rw [colO_q q1 q2] at this; cases this
    · obtain ⟨q, e1, e2, e3⟩ := colO_e k1 k3
      exact ⟨q, e1, e2, by omega⟩
  · rcases lo_spec (rowO S) 12 with ⟨c, -⟩ | ⟨-, k, k1, k2, k3, k4⟩
    · have := cn_zero c _ y0
      rw [rowO_q q1 q2] at this; cases this
    · obtain ⟨q, e1, e2, e3⟩ := rowO_e k1 k3
      exact ⟨q, e1, e2, by omega⟩
  · rcases lw_spec (rowO S) 12 with ⟨c, -⟩ | ⟨-, k, k1, k2, k3, k4⟩
    · have := cn_zero c _ y0
      rw [rowO_q q1 q2] at this; cases this
    · obtain ⟨q, e1, e2, e3⟩ := rowO_e k1 k3
      exact ⟨q, e1, e2, by omega⟩
theorem box_0 {S : Nat → Bool} (h : cn S 576 = 0) : wd S = 0 ∧ hg S = 0 := by
  have hb := box_le S
  have h1 : lw (colO S) 12 = 0 := by
    rw [lw_zero]
    refine cn_false (fun x hx => ?_)
    cases e : colO S x with
    | false => rfl
    | true =>
      obtain ⟨q, e1, e2, -⟩ := colO_e hx e
      rw [cn_zero h q e1] at e2; cases e2
  have h2 : lw (rowO S) 12 = 0 := by
    rw [lw_zero]
    refine cn_false (fun x hx => ?_)
    cases e : rowO S x with
    | false => rfl
    | true =>
      obtain ⟨q, e1, e2, -⟩ := rowO_e hx e
      rw [cn_zero h q e1] at e2; cases e2
  omega
/-- the least and the greatest so far -/
def MnI (S : Nat → Bool) (g : Nat → Nat) (k : Nat) (l : Int) : Prop := (∀ q, q < k → S q = true → l ≤ g q) ∧ ((l = 12 ∧ ∀ q, q < k → S q = false) ∨ ∃ q, q < k ∧ S q = true ∧ l = g q)
def MxI (S : Nat → Bool) (g : Nat → Nat) (k : Nat) (b : Int) : Prop := (∀ q, q < k → S q = true → (g q : Int) < b) ∧ ((b = 0 ∧ ∀ q, q < k → S q = false) ∨ ∃ q, q < k ∧ S q = true ∧ b = g q + 1)
theorem MnI.f {S : Nat → Bool} {g : Nat → Nat} {k : Nat} {l : Int} (h : MnI S g k l) (h2 : S k = false) : MnI S g (k + 1) l := by
  refine ⟨fun q hq hs => ?_, ?_⟩
  · by_cases e : q = k
    · rw [e, h2] at hs; cases hs
    · exact h.1 q (by omega) hs
  · rcases h.2 with ⟨a, c⟩ | ⟨q, a, c, d⟩
    · refine Or.inl ⟨a, fun q hq => ?_⟩
      by_cases e : q = k
      · rw [e]; exact h2
      · exact c q (by omega)
    · exact Or.inr ⟨q, by omega, c, d⟩
theorem MnI.t {S : Nat → Bool} {g : Nat → Nat} {k : Nat} {l : Int} (h : MnI S g k l) (h2 : S k = true) (hg : g k < 12) : MnI S g (k + 1) (min l (g k)) := by
  refine ⟨fun q hq hs => ?_, ?_⟩
  · by_cases e : q = k
    · rw [e]; omega
    · have := h.1 q (by omega) hs; omega
  · rcases h.2 with ⟨a, c⟩ | ⟨q, a, c, d⟩
    · exact Or.inr ⟨k, by omega, h2, by omega⟩
    · by_cases e : l ≤ g k
      · exact Or.inr ⟨q, by omega, c, by omega⟩
      · exact Or.inr ⟨k, by omega, h2, by omega⟩
theorem MxI.f {S : Nat → Bool} {g : Nat → Nat} {k : Nat} {b : Int} (h : MxI S g k b) (h2 : S k = false) : MxI S g (k + 1) b := by
  refine ⟨fun q hq hs => ?_, ?_⟩
  · by_cases e : q = k
    · rw [e, h2] at hs; cases hs
    · exact h.1 q (by omega) hs
  · rcases h.2 with ⟨a, c⟩ | ⟨q, a, c, d⟩
    · refine Or.inl ⟨a, fun q hq => ?_⟩
      by_cases e : q = k
      · rw [e]; exact h2
      · exact c q (by omega)
    · exact Or.inr ⟨q, by omega, c, d⟩
theorem MxI.t {S : Nat → Bool} {g : Nat → Nat} {k : Nat} {b : Int} (h : MxI S g k b) (h2 : S k = true) : MxI S g (k + 1) (max b ((g k : Int) + 1)) := by
  refine ⟨fun q hq hs => ?_, ?_⟩
  · by_cases e : q = k
    · rw [e]; omega
    · have := h.1 q (by omega) hs; omega
  · rcases h.2 with ⟨a, c⟩ | ⟨q, a, c, d⟩
    · exact Or.inr ⟨k, by omega, h2, by omega⟩
    · by_cases e : (g k : Int) + 1 ≤ b
      · exact Or.inr ⟨q, by omega, c, by omega⟩
      · exact Or.inr ⟨k, by omega, h2, by omega⟩
/-- a set's least box stands in the reference's numbers -/
def BxM (I : ZI) (S : Nat → Bool) : Prop := I 603 42 = wd S ∧ I 603 43 = hg S ∧ (¬ cn S 576 = 0 → I 603 40 = lt S ∧ I 603 41 = tp S)
theorem mm_box {S : Nat → Bool} {l t b c : Int} (h1 : MnI S gx 576 l) (h2 : MnI S gy 576 t) (h3 : MxI S gx 576 b) (h4 : MxI S gy 576 c) : max 0 (b - l) = wd S ∧ max 0 (c - t) = hg S ∧ (¬ cn S 576 = 0 → l = lt S ∧ t = tp S) := by
  by_cases h0 : cn S 576 = 0
  · have hb := box_0 h0
    have hz := cn_zero h0
    have e1 : l = 12 := by rcases h1.2 with ⟨a, -⟩ | ⟨q, a, d, -⟩; (exact a); (rw [hz q a] at d; cases d)
    have e2 : t = 12 := by rcases h2.2 with ⟨a, -⟩ | ⟨q, a, d, -⟩; (exact a); (rw [hz q a] at d; cases d)
    have e3 : b = 0 := by rcases h3.2 with ⟨a, -⟩ | ⟨q, a, d, -⟩; (exact a); (rw [hz q a] at d; cases d)
    have e4 : c = 0 := by rcases h4.2 with ⟨a, -⟩ | ⟨q, a, d, -⟩; (exact a); (rw [hz q a] at d; cases d)
    exact ⟨by omega, by omega, fun g => absurd h0 g⟩
  · have he := ext_of h0
    obtain ⟨g0, ⟨q1, a1, a2, a3⟩, ⟨q2, b1, b2, b3⟩, ⟨q3, c1, c2, c3⟩, ⟨q4, d1, d2, d3⟩⟩ := he
    have m1 := h1.1 q1 a1 a2
    have m2 := h3.1 q2 b1 b2
    have m3 := h2.1 q3 c1 c2
    have m4 := h4.1 q4 d1 d2
    have n1 : (lt S : Int) ≤ l := by rcases h1.2 with ⟨a, d⟩ | ⟨q, a, d, e⟩; (rw [d q1 a1] at a2; cases a2); (have := g0 q a d; omega)
    have n2 : (tp S : Int) ≤ t := by rcases h2.2 with ⟨a, d⟩ | ⟨q, a, d, e⟩; (rw [d q1 a1] at a2; cases a2); (have := g0 q a d; omega)
    have n3 : b ≤ (lt S : Int) + wd S := by rcases h3.2 with ⟨a, d⟩ | ⟨q, a, d, e⟩; (rw [d q1 a1] at a2; cases a2); (have := g0 q a d; omega)
    have n4 : c ≤ (tp S : Int) + hg S := by rcases h4.2 with ⟨a, d⟩ | ⟨q, a, d, e⟩; (rw [d q1 a1] at a2; cases a2); (have := g0 q a d; omega)
    exact ⟨by omega, by omega, fun _ => ⟨by omega, by omega⟩⟩
theorem l_measures (T : ZTh (XX Ln xs) CZ RZ) {d b : Nat} {Q : ZQ} {r : Nat} {S : Nat → Bool} {I0 : ZI} {L : ZL} (hn : r ≠ 304 ∧ r ≠ 578 ∧ r ≠ 603) (hS : ArB I0 r S) (h : ∀ I', Fr (fun a b => a = 603 ∧ 40 ≤ b ∧ b ≤ 43) I0 I' → BxM I' S → Q (.inl none) I' L) (m : Nat) : ∀ (q : Nat) (l t c e : Int) (I : ZI), (q ≤ 576) → (Fr (fun a b => a = 603 ∧ 40 ≤ b ∧ b ≤ 43) I0 I) → (I 603 40 = l) → (I 603 41 = t) → (I 603 42 = c) → (I 603 43 = e) → (MnI S gx q l) → (MnI S gy q t) → (MxI S gx q c) → (MxI S gy q e) → ((0 ≤ l ∧ l ≤ 12) ∧ (0 ≤ t ∧ t ≤ 12) ∧ (0 ≤ c ∧ c ≤ 12) ∧ 0 ≤ e ∧ e ≤ 12) → 576 - (q : Int) < (m : Int) → RZ d k_X12_measures Q 24 [.inr (.ref 603, 13), .inr (.ref r, 20576), .inl ((q : Int))] [] b I L := by
  induction m with
  | zero =>
    intro q l t c e I hq hfr e0 e1 e2 e3 h1 h2 h3 h4 hbd hm
    exfalso
    omega
  | succ m ih =>
    intro q l t c e I hq hfr e0 e1 e2 e3 h1 h2 h3 h4 hbd hm
    have hS9 : ∀ z : Nat, z < 576 → I r (z : Int) = bi (S z) := fun z hz => (hfr _ _ (fun c => hn.2.2 c.1)).trans (hS z hz)
    have hx : (q : Int) / 4 % 12 = (gx q : Nat) := by unfold gx; omega
    have hy : (q : Int) / 4 / 12 = (gy q : Nat) := by unfold gy; omega
    have hx1 : gx q < 12 := by unfold gx; omega
    have hy1 : q < 576 → gy q < 12 := fun h => by unfold gy; omega
    refine T.go [24] 90 ?_
    conv => whnf
    refine ⟨by omega, fun c28 => ?_, fun c28 => ?_⟩
    · conv => whnf
      refine ⟨by decide, ?_⟩
      conv => whnf
      refine ⟨by decide, ?_⟩
      conv => whnf
      refine ⟨by rw [e2, e0]; exact ⟨⟨by omega, by omega⟩, ⟨by omega, by omega⟩⟩, ?_⟩
      conv => whnf
      rw [e2, e0]
      refine ⟨by decide, ?_⟩
      conv => whnf
      refine ⟨by decide, ?_⟩
      conv => whnf
      refine ⟨by decide, ?_⟩
      conv => whnf
      refine ⟨by rw [v2_ne (by omega), v2_ne (by omega), e3, e1]; exact ⟨⟨by omega, by omega⟩, ⟨by omega, by omega⟩⟩, ?_⟩
      conv => whnf
      rw [show v2 I 603 42 (max 0 (c - l)) 603 43 = e from (v2_ne (by omega)).trans e3, show v2 I 603 42 (max 0 (c - l)) 603 41 = t from (v2_ne (by omega)).trans e1]
      refine ⟨by decide, ?_⟩
      conv => whnf
      obtain rfl : q = 576 := by omega
      obtain ⟨k1, k2, k3⟩ := mm_box h1 h2 h3 h4
      refine h _ ((hfr.v2 ⟨rfl, by omega, by omega⟩).v2 ⟨rfl, by omega, by omega⟩) ⟨?_, ?_, fun g => ?_⟩
      · rw [v2_ne (by omega), v2_eq]; exact k1
      · rw [v2_eq]; exact k2
      · rw [v2_ne (by omega), v2_ne (by omega), v2_ne (by omega), v2_ne (by omega), e0, e1]; exact k3 g
    · conv => whnf
      refine ⟨by omega, (show (¬ (_ : Nat) = _) ∧ (¬ (_ : Nat) = _) from by omega), ?_⟩
      conv => whnf
      refine ⟨by rw [hS9 q (by omega)]; have := bi_b (S q); exact ⟨by omega, by omega⟩, fun c34 => ?_, fun c34 => ?_⟩
      · conv => whnf
        have hs : S q = false := by rw [hS9 q (by omega), bi_1] at c34; exact c34
        exact ih (q + 1) l t c e I (by omega) hfr e0 e1 e2 e3 (h1.f hs) (h2.f hs) (h3.f hs) (h4.f hs) hbd (by omega)
      · conv => whnf
        refine ⟨by decide, ?_⟩
        conv => whnf
        refine ⟨by omega, Or.inl ⟨by omega, ?_⟩⟩
        conv => whnf
        refine ⟨by omega, ?_⟩
        conv => whnf
        refine ⟨by rw [e0, hx]; exact ⟨⟨by omega, by omega⟩, ⟨by omega, by omega⟩⟩, ?_⟩
        conv => whnf
        rw [e0, hx]
        refine ⟨by decide, ?_⟩
        conv => whnf
        refine ⟨by decide, ?_⟩
        conv => whnf
        refine ⟨by omega, Or.inl ⟨by omega, ?_⟩⟩
        conv => whnf
        refine ⟨by omega, Or.inl ⟨by omega, ?_⟩⟩
        conv => whnf
        refine ⟨by rw [v2_ne (by omega), e1, hy]; have := hy1 (by omega); exact ⟨⟨by omega, by omega⟩, ⟨by omega, by omega⟩⟩, ?_⟩
        conv => whnf
        rw [show v2 I 603 40 (min l ((gx q : Nat) : Int)) 603 41 = t from (v2_ne (by omega)).trans e1, hy]
        refine ⟨by decide, ?_⟩
        conv => whnf
        refine ⟨by decide, ?_⟩
        conv => whnf
        refine ⟨by omega, Or.inl ⟨by omega, ?_⟩⟩
        conv => whnf
        refine ⟨by omega, ?_⟩
        conv => whnf
        refine ⟨by rw [v2_ne (by omega), v2_ne (by omega), e2, hx]; exact ⟨⟨by omega, by omega⟩, ⟨by omega, by omega⟩⟩, ?_⟩
        conv => whnf
        rw [show v2 (v2 I 603 40 (min l ((gx q : Nat) : Int))) 603 41 (min t ((gy q : Nat) : Int)) 603 42 = c from (v2_ne (by omega)).trans ((v2_ne (by omega)).trans e2), hx]
        refine ⟨by decide, ?_⟩
        conv => whnf
        refine ⟨by decide, ?_⟩
        conv => whnf
        refine ⟨by omega, Or.inl ⟨by omega, ?_⟩⟩
        conv => whnf
        refine ⟨by omega, Or.inl ⟨by omega, ?_⟩⟩
        conv => whnf
        refine ⟨by rw [v2_ne (by omega), v2_ne (by omega), v2_ne (by omega), e3, hy]; have := hy1 (by omega); exact ⟨⟨by omega, by omega⟩, ⟨by omega, by omega⟩⟩, ?_⟩
        conv => whnf
        rw [show v2 (v2 (v2 I 603 40 (min l ((gx q : Nat) : Int))) 603 41 (min t ((gy q : Nat) : Int))) 603 42 (max c (((gx q : Nat) : Int) + 1)) 603 43 = e from (v2_ne (by omega)).trans ((v2_ne (by omega)).trans ((v2_ne (by omega)).trans e3)), hy]
        refine ⟨by decide, ?_⟩
        conv => whnf
        have hs : S q = true := by
          rw [hS9 q (by omega)] at c34
          cases e : S q with
          | false => exact absurd (bi_1.mpr e) c34
          | true => rfl
        have hy2 := hy1 (by omega)
        refine ih (q + 1) (min l (gx q)) (min t (gy q)) (max c ((gx q : Int) + 1)) (max e ((gy q : Int) + 1)) _ (by omega) ((((hfr.v2 ⟨rfl, by omega, by omega⟩).v2 ⟨rfl, by omega, by omega⟩).v2 ⟨rfl, by omega, by omega⟩).v2 ⟨rfl, by omega, by omega⟩) ?_ ?_ ?_ ?_ (h1.t hs hx1) (h2.t hs hy2) (h3.t hs) (h4.t hs) ⟨⟨by omega, by omega⟩, ⟨by omega, by omega⟩, ⟨by omega, by omega⟩, by omega, by omega⟩ (by omega)
        · rw [v2_ne (by omega), v2_ne (by omega), v2_ne (by omega), v2_eq]
        · rw [v2_ne (by omega), v2_ne (by omega), v2_eq]
        · rw [v2_ne (by omega), v2_eq]
        · rw [v2_eq]
theorem s_X12_measures (T : ZTh (XX Ln xs) CZ RZ) {d b : Nat} {r : Nat} (S : Nat → Bool) {I : ZI} {L : ZL} {Q : ZQ} (hn : r ≠ 304 ∧ r ≠ 578 ∧ r ≠ 603) (hS : ArB I r S) (h : ∀ I', Fr (fun a b => a = 603 ∧ 40 ≤ b ∧ b ≤ 43) I I' → BxM I' S → Q (.inl none) I' L) : CZ (d + 1) k_X12_measures [.inr (.ref 603, 13), .inr (.ref r, 20576)] b I L Q := by
  refine T.call rfl ?_
  refine T.go [24] 90 ?_
  conv => whnf
  refine ⟨by decide, ?_⟩
  conv => whnf
  refine ⟨by decide, ?_⟩
  conv => whnf
  refine ⟨by decide, ?_⟩
  conv => whnf
  refine ⟨by decide, ?_⟩
  conv => whnf
  exact l_measures T (I0 := I) hn hS h 577 0 12 12 0 0 _ (by omega) (((((Fr.refl I).v2 ⟨rfl, by omega, by omega⟩).v2 ⟨rfl, by omega, by omega⟩).v2 ⟨rfl, by omega, by omega⟩).v2 ⟨rfl, by omega, by omega⟩) (by rw [v2_ne (by omega), v2_ne (by omega), v2_ne (by omega), v2_eq]) (by rw [v2_ne (by omega), v2_ne (by omega), v2_eq]) (by rw [v2_ne (by omega), v2_eq]) (by rw [v2_eq]) ⟨fun q hq => absurd hq (Nat.not_lt_zero q), Or.inl ⟨rfl, fun q hq => absurd hq (Nat.not_lt_zero q)⟩⟩ ⟨fun q hq => absurd hq (Nat.not_lt_zero q), Or.inl ⟨rfl, fun q hq => absurd hq (Nat.not_lt_zero q)⟩⟩ ⟨fun q hq => absurd hq (Nat.not_lt_zero q), Or.inl ⟨rfl, fun q hq => absurd hq (Nat.not_lt_zero q)⟩⟩ ⟨fun q hq => absurd hq (Nat.not_lt_zero q), Or.inl ⟨rfl, fun q hq => absurd hq (Nat.not_lt_zero q)⟩⟩ (by omega) (by omega)
end
