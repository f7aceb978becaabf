/-! LOOKS, AS IMAGES -/
section
variable {Ln : Nat} {xs : Nat → Int32} {CZ : Nat → ZC} {RZ : Nat → Nat → ZQ → ZP}
/-- where a quarter comes to: by moving, by a flip, by a turn -/
noncomputable def mNq (S : Nat → Bool) (q : Nat) : Nat := 48 * (gy q - tp S) + 4 * (gx q - lt S) + q % 4
noncomputable def mFq (S : Nat → Bool) (q : Nat) : Nat := 48 * (gy q - tp S) + 4 * (wd S - 1 - (gx q - lt S)) + (4 - q % 4) % 4
def mTq (h z : Nat) : Nat := 48 * gx z + 4 * (h - 1 - gy z) + (z % 4 + 1) % 4
theorem nrm_im {S : Nat → Bool} (h0 : ¬ cn S 576 = 0) (z : Nat) : nrm S z = true ↔ ∃ q, q < 576 ∧ S q = true ∧ mNq S q = z := by
  obtain ⟨g0, -⟩ := ext_of h0
  unfold nrm
  rw [Bool.and_eq_true, Bool.and_eq_true, decide_eq_true_iff, decide_eq_true_iff]
  constructor
  · rintro ⟨h1, h2, h3⟩
    refine ⟨_, by omega, h3, ?_⟩
    unfold mNq gx gy
    omega
  · rintro ⟨q, h1, h2, h3⟩
    have hb := g0 q h1 h2
    have hbx := box_le S
    unfold mNq at h3
    unfold gx gy at hb h3
    refine ⟨by omega, by omega, ?_⟩
    rw [show 48 * (z / 48 + tp S) + (z % 48 + 4 * lt S) = q by omega]
    exact h2
theorem flp_im {S : Nat → Bool} (h0 : ¬ cn S 576 = 0) (z : Nat) : flp S z = true ↔ ∃ q, q < 576 ∧ S q = true ∧ mFq S q = z := by
  obtain ⟨g0, -⟩ := ext_of h0
  have hbx := box_le S
  unfold flp
  rw [Bool.and_eq_true, Bool.and_eq_true, decide_eq_true_iff, decide_eq_true_iff]
  constructor
  · rintro ⟨⟨h1, h2⟩, h3⟩
    refine ⟨_, by omega, h3, ?_⟩
    unfold mFq gx gy
    omega
  · rintro ⟨q, h1, h2, h3⟩
    have hb := g0 q h1 h2
    unfold mFq at h3
    unfold gx gy at hb h3
    refine ⟨⟨by omega, by omega⟩, ?_⟩
    rw [show 48 * (tp S + z / 48) + (4 * (lt S + (wd S - 1 - z % 48 / 4)) + (4 - z % 4) % 4) = q by omega]
    exact h2
theorem trn_im {T : Nat → Bool} {w h : Nat} (g : ExtS T 0 0 w h) (z : Nat) : trn T z = true ↔ ∃ q, q < 576 ∧ T q = true ∧ mTq h q = z := by
  obtain ⟨b1, b2, b3, b4⟩ := g.box
  have hbx := box_le T
  unfold trn
  rw [b1, b2, b3, b4, Bool.and_eq_true, Bool.and_eq_true, decide_eq_true_iff, decide_eq_true_iff]
  constructor
  · rintro ⟨⟨h1, h2⟩, h3⟩
    refine ⟨_, by omega, h3, ?_⟩
    unfold mTq gx gy
    omega
  · rintro ⟨q, h1, h2, h3⟩
    have hb := g.1 q h1 h2
    unfold mTq at h3
    unfold gx gy at hb h3
    refine ⟨⟨by omega, by omega⟩, ?_⟩
    rw [show 48 * (0 + (h - 1 - z % 48 / 4)) + (4 * (0 + z / 48) + (z % 4 + 3) % 4) = q by omega]
    exact h2
theorem cn_ex {S : Nat → Bool} {q : Nat} (hq : q < 576) (h : S q = true) : ¬ cn S 576 = 0 := fun c => by
  rw [cn_zero c q hq] at h; cases h
theorem nrm_ext {S : Nat → Bool} (h0 : ¬ cn S 576 = 0) : ExtS (nrm S) 0 0 (wd S) (hg S) := by
  have hbx := box_le S
  have him := nrm_im h0
  obtain ⟨g0, ⟨q1, a1, a2, a3⟩, ⟨q2, b1, b2, b3⟩, ⟨q3, c1, c2, c3⟩, ⟨q4, d1, d2, d3⟩⟩ := ext_of h0
  have key : ∀ q, q < 576 → S q = true → mNq S q < 576 ∧ gx (mNq S q) + lt S = gx q ∧ gy (mNq S q) + tp S = gy q := fun q h1 h2 => by
    have := g0 q h1 h2
    unfold mNq gx gy
    unfold gx gy at this
    omega
  refine ⟨fun z hz h => ?_, ⟨mNq S q1, ?_⟩, ⟨mNq S q2, ?_⟩, ⟨mNq S q3, ?_⟩, ⟨mNq S q4, ?_⟩⟩
  · obtain ⟨q, e1, e2, e3⟩ := (him z).mp h
    have k1 := key q e1 e2
    have k2 := g0 q e1 e2
    rw [e3] at k1
    omega
  · have k := key q1 a1 a2
    exact ⟨k.1, (him _).mpr ⟨q1, a1, a2, rfl⟩, by omega⟩
  · have k := key q2 b1 b2
    exact ⟨k.1, (him _).mpr ⟨q2, b1, b2, rfl⟩, by omega⟩
  · have k := key q3 c1 c2
    exact ⟨k.1, (him _).mpr ⟨q3, c1, c2, rfl⟩, by omega⟩
  · have k := key q4 d1 d2
    exact ⟨k.1, (him _).mpr ⟨q4, d1, d2, rfl⟩, by omega⟩
theorem flp_ext {S : Nat → Bool} (h0 : ¬ cn S 576 = 0) : ExtS (flp S) 0 0 (wd S) (hg S) := by
  have hbx := box_le S
  have him := flp_im h0
  obtain ⟨g0, ⟨q1, a1, a2, a3⟩, ⟨q2, b1, b2, b3⟩, ⟨q3, c1, c2, c3⟩, ⟨q4, d1, d2, d3⟩⟩ := ext_of h0
  have key : ∀ q, q < 576 → S q = true → mFq S q < 576 ∧ gx (mFq S q) + gx q + 1 = wd S + lt S ∧ gy (mFq S q) + tp S = gy q := fun q h1 h2 => by
    have := g0 q h1 h2
    unfold mFq gx gy
    unfold gx gy at this
    omega
  refine ⟨fun z hz h => ?_, ⟨mFq S q2, ?_⟩, ⟨mFq S q1, ?_⟩, ⟨mFq S q3, ?_⟩, ⟨mFq S q4, ?_⟩⟩
  · obtain ⟨q, e1, e2, e3⟩ := (him z).mp h
    have k1 := key q e1 e2
    have k2 := g0 q e1 e2
    rw [e3] at k1
    omega
  · have k := key q2 b1 b2
    exact ⟨k.1, (him _).mpr ⟨q2, b1, b2, rfl⟩, by omega⟩
  · have k := key q1 a1 a2
    exact ⟨k.1, (him _).mpr ⟨q1, a1, a2, rfl⟩, by omega⟩
  · have k := key q3 c1 c2
    exact ⟨k.1, (him _).mpr ⟨q3, c1, c2, rfl⟩, by omega⟩
  · have k := key q4 d1 d2
    exact ⟨k.1, (him _).mpr ⟨q4, d1, d2, rfl⟩, by omega⟩
theorem trn_ext {T : Nat → Bool} {w h : Nat} (g : ExtS T 0 0 w h) : ExtS (trn T) 0 0 h w := by
  have hbx := box_le T
  obtain ⟨b1', b2', b3', b4'⟩ := g.box
  have him := trn_im g
  obtain ⟨g0, ⟨q1, a1, a2, a3⟩, ⟨q2, b1, b2, b3⟩, ⟨q3, c1, c2, c3⟩, ⟨q4, d1, d2, d3⟩⟩ := g
  have key : ∀ q, q < 576 → T q = true → mTq h q < 576 ∧ gx (mTq h q) + gy q + 1 = h ∧ gy (mTq h q) = gx q := fun q h1 h2 => by
    have := g0 q h1 h2
    unfold mTq gx gy
    unfold gx gy at this
    omega
  refine ⟨fun z hz h9 => ?_, ⟨mTq h q4, ?_⟩, ⟨mTq h q3, ?_⟩, ⟨mTq h q1, ?_⟩, ⟨mTq h q2, ?_⟩⟩
  · obtain ⟨q, e1, e2, e3⟩ := (him z).mp h9
    have k1 := key q e1 e2
    have k2 := g0 q e1 e2
    rw [e3] at k1
    omega
  · have k := key q4 d1 d2
    exact ⟨k.1, (him _).mpr ⟨q4, d1, d2, rfl⟩, by omega⟩
  · have k := key q3 c1 c2
    exact ⟨k.1, (him _).mpr ⟨q3, c1, c2, rfl⟩, by omega⟩
  · have k := key q1 a1 a2
    exact ⟨k.1, (him _).mpr ⟨q1, a1, a2, rfl⟩, by omega⟩
  · have k := key q2 b1 b2
    exact ⟨k.1, (him _).mpr ⟨q2, b1, b2, rfl⟩, by omega⟩
/-- where a quarter of S comes to in a look -/
noncomputable def lkB (S : Nat → Bool) (its q : Nat) : Nat := if its < 4 then mNq S q else mFq S q
def mT4 (w h j b : Nat) : Nat := match j with
  | 0 => b
  | 1 => mTq h b
  | 2 => mTq w (mTq h b)
  | _ => mTq h (mTq w (mTq h b))
noncomputable def lkA (S : Nat → Bool) (its q : Nat) : Nat := mT4 (wd S) (hg S) (its % 4) (lkB S its q)
theorem im_comp {T T' S : Nat → Bool} {m m' : Nat → Nat} (h1 : ∀ z, T z = true ↔ ∃ q, q < 576 ∧ S q = true ∧ m q = z) (h2 : ∀ z, T' z = true ↔ ∃ q, q < 576 ∧ T q = true ∧ m' q = z) (h3 : ∀ q, q < 576 → S q = true → m q < 576) (z : Nat) : T' z = true ↔ ∃ q, q < 576 ∧ S q = true ∧ m' (m q) = z := by
  rw [h2]
  constructor
  · rintro ⟨y, a1, a2, a3⟩
    obtain ⟨q, b1, b2, b3⟩ := (h1 y).mp a2
    exact ⟨q, b1, b2, by rw [b3]; exact a3⟩
  · rintro ⟨q, b1, b2, b3⟩
    exact ⟨m q, h3 q b1 b2, (h1 _).mpr ⟨q, b1, b2, rfl⟩, b3⟩
theorem lk_im {S T : Nat → Bool} {m : Nat → Nat} (h1 : ∀ z, T z = true ↔ ∃ q, q < 576 ∧ S q = true ∧ m q = z) (g : ExtS T 0 0 (wd S) (hg S)) (h3 : ∀ q, q < 576 → S q = true → m q < 576) (j : Nat) (hj : j < 4) (z : Nat) : trI T j z = true ↔ ∃ q, q < 576 ∧ S q = true ∧ mT4 (wd S) (hg S) j (m q) = z := by
  have hlt : ∀ {T : Nat → Bool} {w h : Nat}, ExtS T 0 0 w h → ∀ q, q < 576 → T q = true → mTq h q < 576 := fun {T w h} g q a b => by
    have hbx := box_le T
    have := g.box
    have k := g.1 q a b
    unfold mTq gx gy
    unfold gx gy at k
    omega
  have g1 := trn_ext g
  have g2 := trn_ext g1
  have i1 := im_comp h1 (trn_im g) h3
  have m1 : ∀ q, q < 576 → S q = true → mTq (hg S) (m q) < 576 := fun q a b => hlt g _ (h3 q a b) ((h1 _).mpr ⟨q, a, b, rfl⟩)
  have i2 := im_comp i1 (trn_im g1) m1
  have m2 : ∀ q, q < 576 → S q = true → mTq (wd S) (mTq (hg S) (m q)) < 576 := fun q a b => hlt g1 _ (m1 q a b) ((i1 _).mpr ⟨q, a, b, rfl⟩)
  have i3 := im_comp i2 (trn_im g2) m2
  rcases (show j = 0 ∨ j = 1 ∨ j = 2 ∨ j = 3 by omega) with e | e | e | e <;> subst e
  · exact h1 z
  · exact i1 z
  · exact i2 z
  · exact i3 z
theorem lk8_im {S : Nat → Bool} (h0 : ¬ cn S 576 = 0) {its : Nat} (hi : its < 8) (z : Nat) : lk8 S its z = true ↔ ∃ q, q < 576 ∧ S q = true ∧ lkA S its q = z := by
  have hbx := box_le S
  obtain ⟨g0, -⟩ := ext_of h0
  unfold lk8 lkA lkB
  by_cases h4 : its < 4
  · rw [if_pos h4]
    have h := lk_im (nrm_im h0) (nrm_ext h0) (fun q a b => by
      have k := g0 q a b
      unfold mNq gx gy
      unfold gx gy at k
      omega) its h4 z
    rw [h]
    have e : its % 4 = its := by omega
    rw [e]
    simp only [if_pos h4]
  · rw [if_neg h4]
    have h := lk_im (flp_im h0) (flp_ext h0) (fun q a b => by
      have k := g0 q a b
      unfold mFq gx gy
      unfold gx gy at k
      omega) (its - 4) (by omega) z
    rw [h]
    have e : its % 4 = its - 4 := by omega
    rw [e]
    simp only [if_neg h4]
theorem lk8_0 {S : Nat → Bool} (h0 : cn S 576 = 0) {its : Nat} (hi : its < 8) (z : Nat) : lk8 S its z = false := by
  have hb := box_0 h0
  have h1 : ∀ z, nrm S z = false := fun z => by
    cases e : nrm S z with
    | false => rfl
    | true =>
      unfold nrm at e
      rw [Bool.and_eq_true, Bool.and_eq_true, decide_eq_true_iff, decide_eq_true_iff] at e
      obtain ⟨e1, e2, e3⟩ := e
      rw [cn_zero h0 _ (by omega)] at e3; cases e3
  have h2 : ∀ z, flp S z = false := fun z => by
    cases e : flp S z with
    | false => rfl
    | true =>
      unfold flp at e
      rw [Bool.and_eq_true, Bool.and_eq_true, decide_eq_true_iff, decide_eq_true_iff] at e
      omega
  have h3 : ∀ {T : Nat → Bool}, (∀ z, T z = false) → ∀ z, trn T z = false := fun {T} h z => by
    unfold trn
    rw [h, Bool.and_false]
  have h4 : ∀ {T : Nat → Bool}, (∀ z, T z = false) → ∀ j z, trI T j z = false := fun {T} h j => by
    induction j with
    | zero => exact h
    | succ j ih => exact h3 ih
  unfold lk8
  split
  · exact h4 h1 _ z
  · exact h4 h2 _ z
end
