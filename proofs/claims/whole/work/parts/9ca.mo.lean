/-! LOOKS, TURNS AND FLIPS -/
section
variable {Ln : Nat} {xs : Nat → Int32} {CZ : Nat → ZC} {RZ : Nat → Nat → ZQ → ZP}
def Nz (T : Nat → Bool) : Prop := ∀ z, T z = true → z < 576
theorem Nz.ext {S T : Nat → Bool} (hS : Nz S) (hT : Nz T) (h : ∀ z, z < 576 → S z = T z) : S = T := by
  funext z
  by_cases e : z < 576
  · exact h z e
  · cases e1 : S z with
    | true => exact absurd (hS z e1) e
    | false => cases e2 : T z with
      | true => exact absurd (hT z e2) e
      | false => rfl
theorem lk8_Nz (S : Nat → Bool) (k : Nat) : Nz (lk8 S k) := fun _ h => lk8_lt h
theorem nrm_lk (S : Nat → Bool) : lk8 S 0 = nrm S := rfl
theorem flp_lk (S : Nat → Bool) : lk8 S 4 = flp S := rfl
theorem nrm_Nz (S : Nat → Bool) : Nz (nrm S) := lk8_Nz S 0
theorem flp_Nz (S : Nat → Bool) : Nz (flp S) := lk8_Nz S 4
theorem trn_Nz (S : Nat → Bool) : Nz (trn S) := fun z h => by
  have := box_le S
  unfold trn at h
  rw [Bool.and_eq_true, Bool.and_eq_true, decide_eq_true_iff] at h
  omega
theorem mT_c {h z : Nat} (hx : gx z < 12) (hy : gy z < h) (hh : h ≤ 12) : gx (mTq h z) = h - 1 - gy z ∧ gy (mTq h z) = gx z ∧ mTq h z % 4 = (z % 4 + 1) % 4 := by
  unfold mTq
  generalize gx z = x at *
  generalize gy z = y at *
  unfold gx gy
  omega
theorem q_c (q : Nat) : q = 48 * gy q + 4 * gx q + q % 4 := by
  unfold gx gy
  omega
theorem q_cc {a b : Nat} (h1 : gx a = gx b) (h2 : gy a = gy b) (h3 : a % 4 = b % 4) : a = b := by
  rw [q_c a, q_c b, h1, h2, h3]
theorem gx_12 (q : Nat) : gx q < 12 := by unfold gx; omega
theorem mT_4 {w h q : Nat} (hx : gx q < w) (hy : gy q < h) (hw : w ≤ 12) (hh : h ≤ 12) : mTq w (mTq h (mTq w (mTq h q))) = q := by
  have a := mT_c (h := h) (z := q) (by omega) hy hh
  have b := mT_c (h := w) (z := mTq h q) (gx_12 _) (by omega) hw
  have c := mT_c (h := h) (z := mTq w (mTq h q)) (gx_12 _) (by omega) hh
  have d := mT_c (h := w) (z := mTq h (mTq w (mTq h q))) (gx_12 _) (by omega) hw
  exact q_cc (by omega) (by omega) (by omega)
theorem ext_le {T : Nat → Bool} {w h : Nat} (g : ExtS T 0 0 w h) : w ≤ 12 ∧ h ≤ 12 := by
  have := g.box
  have := box_le T
  omega
theorem set_eq {S T : Nat → Bool} (h : ∀ z, S z = true ↔ T z = true) : S = T := by
  funext z
  exact Bool.eq_iff_iff.mpr (h z)
theorem trn4 {T : Nat → Bool} {w h : Nat} (g : ExtS T 0 0 w h) (hz : Nz T) : trn (trn (trn (trn T))) = T := by
  have hl := ext_le g
  have g1 := trn_ext g
  have g2 := trn_ext g1
  have g3 := trn_ext g2
  have hlt : ∀ {T : Nat → Bool}, Nz T → ∀ q, q < 576 → T q = true → True := fun _ _ _ _ => trivial
  refine set_eq (fun z => ?_)
  rw [trn_im g3]
  constructor
  · rintro ⟨q3, a1, a2, a3⟩
    obtain ⟨q2, b1, b2, b3⟩ := (trn_im g2 q3).mp a2
    obtain ⟨q1, c1, c2, c3⟩ := (trn_im g1 q2).mp b2
    obtain ⟨q0, d1, d2, d3⟩ := (trn_im g q1).mp c2
    have k := g.1 q0 d1 d2
    have e := mT_4 (w := w) (h := h) (q := q0) (by omega) (by omega) hl.1 hl.2
    rw [d3, c3, b3, a3] at e
    rw [e]; exact d2
  · intro hT
    have k0 := hz z hT
    have k := g.1 z k0 hT
    have m1 : trn T (mTq h z) = true := (trn_im g _).mpr ⟨z, k0, hT, rfl⟩
    have m2 : trn (trn T) (mTq w (mTq h z)) = true := (trn_im g1 _).mpr ⟨_, trn_Nz _ _ m1, m1, rfl⟩
    have m3 : trn (trn (trn T)) (mTq h (mTq w (mTq h z))) = true := (trn_im g2 _).mpr ⟨_, trn_Nz _ _ m2, m2, rfl⟩
    exact ⟨_, trn_Nz _ _ m3, m3, mT_4 (by omega) (by omega) hl.1 hl.2⟩
/-- a flip in a box w wide -/
def mFw (w q : Nat) : Nat := 48 * gy q + 4 * (w - 1 - gx q) + (4 - q % 4) % 4
theorem mF_c {w z : Nat} (hx : gx z < w) (hw : w ≤ 12) : gx (mFw w z) = w - 1 - gx z ∧ gy (mFw w z) = gy z ∧ mFw w z % 4 = (4 - z % 4) % 4 := by
  unfold mFw
  generalize hgx : gx z = x at *
  generalize gy z = y at *
  unfold gx gy
  omega
theorem flp_o {T : Nat → Bool} {w h : Nat} (g : ExtS T 0 0 w h) (z : Nat) : flp T z = true ↔ ∃ q, q < 576 ∧ T q = true ∧ mFw w q = z := by
  obtain ⟨b1, b2, b3, b4⟩ := g.box
  have h0 : ¬ cn T 576 = 0 := by
    obtain ⟨-, ⟨q, c1, c2, -⟩, -⟩ := g
    exact cn_ex c1 c2
  rw [flp_im h0]
  unfold mFq mFw
  rw [b1, b2, b3]
  simp only [Nat.sub_zero]
theorem flp_eo {T : Nat → Bool} {w h : Nat} (g : ExtS T 0 0 w h) : ExtS (flp T) 0 0 w h := by
  obtain ⟨b1, b2, b3, b4⟩ := g.box
  have h0 : ¬ cn T 576 = 0 := by
    obtain ⟨-, ⟨q, c1, c2, -⟩, -⟩ := g
    exact cn_ex c1 c2
  have := flp_ext h0
  rw [b3, b4] at this
  exact this
theorem flp2 {T : Nat → Bool} {w h : Nat} (g : ExtS T 0 0 w h) (hz : Nz T) : flp (flp T) = T := by
  have hl := ext_le g
  have inv : ∀ q, gx q < w → mFw w (mFw w q) = q := fun q hq => by
    have a := mF_c hq hl.1
    have b := mF_c (w := w) (z := mFw w q) (by omega) hl.1
    exact q_cc (by omega) (by omega) (by omega)
  refine set_eq (fun z => ?_)
  rw [flp_o (flp_eo g)]
  constructor
  · rintro ⟨q1, a1, a2, a3⟩
    obtain ⟨q0, b1, b2, b3⟩ := (flp_o g q1).mp a2
    have k := g.1 q0 b1 b2
    have e := inv q0 (by omega)
    rw [b3, a3] at e
    rw [e]; exact b2
  · intro hT
    have k0 := hz z hT
    have k := g.1 z k0 hT
    have m1 : flp T (mFw w z) = true := (flp_o g _).mpr ⟨z, k0, hT, rfl⟩
    exact ⟨_, flp_Nz _ _ m1, m1, inv z (by omega)⟩
/-- a flip behind a turn is three turns behind a flip -/
theorem flp_trn {T : Nat → Bool} {w h : Nat} (g : ExtS T 0 0 w h) (hz : Nz T) : flp (trn T) = trn (trn (trn (flp T))) := by
  have hl := ext_le g
  have g1 := trn_ext g
  have f0 := flp_eo g
  have f1 := trn_ext f0
  have f2 := trn_ext f1
  have inv : ∀ q, gx q < w → gy q < h → mFw h (mTq h q) = mTq h (mTq w (mTq h (mFw w q))) := fun q hx hy => by
    have a := mT_c (h := h) (z := q) (by omega) hy hl.2
    have b := mF_c (w := h) (z := mTq h q) (by omega) hl.2
    have c := mF_c hx hl.1
    have d := mT_c (h := h) (z := mFw w q) (gx_12 _) (by omega) hl.2
    have e := mT_c (h := w) (z := mTq h (mFw w q)) (gx_12 _) (by omega) hl.1
    have f := mT_c (h := h) (z := mTq w (mTq h (mFw w q))) (gx_12 _) (by omega) hl.2
    exact q_cc (by omega) (by omega) (by omega)
  refine set_eq (fun z => ?_)
  rw [flp_o g1, trn_im f2]
  constructor
  · rintro ⟨q1, a1, a2, a3⟩
    obtain ⟨q0, b1, b2, b3⟩ := (trn_im g q1).mp a2
    have k := g.1 q0 b1 b2
    have m0 : flp T (mFw w q0) = true := (flp_o g _).mpr ⟨q0, b1, b2, rfl⟩
    have m1 : trn (flp T) (mTq h (mFw w q0)) = true := (trn_im f0 _).mpr ⟨_, flp_Nz _ _ m0, m0, rfl⟩
    have m2 : trn (trn (flp T)) (mTq w (mTq h (mFw w q0))) = true := (trn_im f1 _).mpr ⟨_, trn_Nz _ _ m1, m1, rfl⟩
    refine ⟨_, trn_Nz _ _ m2, m2, ?_⟩
    rw [← inv q0 (by omega) (by omega), b3, a3]
  · rintro ⟨q3, a1, a2, a3⟩
    obtain ⟨q2, b1, b2, b3⟩ := (trn_im f1 q3).mp a2
    obtain ⟨q1, c1, c2, c3⟩ := (trn_im f0 q2).mp b2
    obtain ⟨q0, d1, d2, d3⟩ := (flp_o g q1).mp c2
    have k := g.1 q0 d1 d2
    have m1 : trn T (mTq h q0) = true := (trn_im g _).mpr ⟨q0, d1, d2, rfl⟩
    refine ⟨_, trn_Nz _ _ m1, m1, ?_⟩
    rw [inv q0 (by omega) (by omega), d3, c3, b3, a3]
theorem flp_nrm {S : Nat → Bool} (h0 : ¬ cn S 576 = 0) : flp (nrm S) = flp S := by
  have he := nrm_ext h0
  obtain ⟨g0, -⟩ := ext_of h0
  have hbx := box_le S
  have inv : ∀ q, q < 576 → S q = true → mFw (wd S) (mNq S q) = mFq S q := fun q h1 h2 => by
    have k := g0 q h1 h2
    unfold mFw mNq mFq
    generalize hgx : gx q = x at *
    generalize hgy : gy q = y at *
    have e1 : gx (48 * (y - tp S) + 4 * (x - lt S) + q % 4) = x - lt S := by unfold gx; omega
    have e2 : gy (48 * (y - tp S) + 4 * (x - lt S) + q % 4) = y - tp S := by unfold gy; omega
    rw [e1, e2]
    omega
  refine set_eq (fun z => ?_)
  rw [flp_o he, flp_im h0]
  constructor
  · rintro ⟨q1, a1, a2, a3⟩
    obtain ⟨q0, b1, b2, b3⟩ := (nrm_im h0 q1).mp a2
    refine ⟨q0, b1, b2, ?_⟩
    rw [← inv q0 b1 b2, b3, a3]
  · rintro ⟨q0, b1, b2, b3⟩
    have m1 : nrm S (mNq S q0) = true := (nrm_im h0 _).mpr ⟨q0, b1, b2, rfl⟩
    refine ⟨_, nrm_Nz _ _ m1, m1, ?_⟩
    rw [inv q0 b1 b2, b3]
theorem nrm_id {T : Nat → Bool} (hl : lt T = 0) (ht : tp T = 0) (hz : Nz T) : nrm T = T := by
  refine (nrm_Nz T).ext hz (fun z hz2 => ?_)
  unfold nrm
  rw [hl, ht, decide_eq_true (show z / 48 + 0 < 12 by omega), decide_eq_true (show z % 48 + 4 * 0 < 48 by omega), show 48 * (z / 48 + 0) + (z % 48 + 4 * 0) = z by omega]
  rfl
theorem trI_Nz {T : Nat → Bool} (h : Nz T) : ∀ j, Nz (trI T j)
  | 0 => h
  | j + 1 => trn_Nz _
theorem trI_ext {T : Nat → Bool} {w h : Nat} (g : ExtS T 0 0 w h) : ∀ j, ∃ w' h', ExtS (trI T j) 0 0 w' h'
  | 0 => ⟨w, h, g⟩
  | j + 1 => by
    obtain ⟨w', h', g'⟩ := trI_ext g j
    exact ⟨h', w', trn_ext g'⟩
theorem lk8_ext {S : Nat → Bool} (h0 : ¬ cn S 576 = 0) (k : Nat) : ∃ w h, ExtS (lk8 S k) 0 0 w h := by
  unfold lk8
  split
  · exact trI_ext (nrm_ext h0) _
  · exact trI_ext (flp_ext h0) _
theorem flp_trI {T : Nat → Bool} {w h : Nat} (g : ExtS T 0 0 w h) (hz : Nz T) : ∀ j, trI (flp (trI T j)) j = flp T
  | 0 => rfl
  | j + 1 => by
    obtain ⟨w', h', g'⟩ := trI_ext g j
    have e1 := flp_trn g' (trI_Nz hz j)
    have comm : ∀ (X : Nat → Bool) (i : Nat), trI (trn X) i = trn (trI X i) := fun X i => by
      induction i with
      | zero => rfl
      | succ i ih => show trn (trI (trn X) i) = _; rw [ih]; rfl
    show trn (trI (flp (trn (trI T j))) j) = flp T
    rw [e1, comm, comm, comm, flp_trI g hz j]
    exact trn4 (flp_eo g) (flp_Nz T)
theorem trI_add (T : Nat → Bool) (a : Nat) : ∀ c, trI (trI T a) c = trI T (a + c)
  | 0 => rfl
  | c + 1 => by
    show trn (trI (trI T a) c) = trn (trI T (a + c))
    rw [trI_add T a c]
end
