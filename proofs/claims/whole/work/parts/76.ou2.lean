/-! OUTLINES, 2: walks -/
noncomputable def orb (O : Nat → Bool) (f : Nat) : Nat → Nat
  | 0 => f
  | n + 1 => nxb O (orb O f n)
theorem orb_s (O : Nat → Bool) (f n : Nat) : orb O f (n + 1) = nxb O (orb O f n) := rfl
theorem orb_in {O : Nat → Bool} {f : Nat} (h : bs O f = true) : ∀ n, bs O (orb O f n) = true
  | 0 => h
  | n + 1 => (nxb_in (orb_in h n)).1
theorem orb_add (O : Nat → Bool) (f n : Nat) : ∀ m, orb O f (n + m) = orb O (orb O f n) m
  | 0 => rfl
  | m + 1 => by
    show nxb O (orb O f (n + m)) = nxb O (orb O (orb O f n) m)
    rw [orb_add O f n m]
theorem orb_back {O : Nat → Bool} {f : Nat} (h : bs O f = true) : ∀ {i j : Nat}, orb O f (i + j) = orb O f i → orb O f j = f
  | 0, j, e => by rw [Nat.zero_add] at e; exact e
  | i + 1, j, e => by
    rw [show i + 1 + j = i + j + 1 by omega, orb_s, orb_s] at e
    exact orb_back h (nxb_inj (orb_in h _) (orb_in h _) e)
theorem cn_dist {g : Nat → Nat} {B : Nat → Bool} : ∀ {n : Nat}, (∀ i, i < n → B (g i) = true ∧ g i < 5000) → (∀ i j, i < j → j < n → g i ≠ g j) → (n : Int) ≤ cn (fun x => B x && dc (∃ i, i < n ∧ g i = x)) 5000
  | 0, _, _ => cn_nonneg _ _
  | n + 1, h1, h2 => by
    have ih := cn_dist (g := g) (B := B) (n := n) (fun i hi => h1 i (by omega)) (fun i j hi hj => h2 i j hi (by omega))
    have hp := cn_put (f := fun x => B x && dc (∃ i, i < n ∧ g i = x)) (g := fun x => B x && dc (∃ i, i < n + 1 ∧ g i = x)) (k := g n) (by
      have : dc (∃ i, i < n ∧ g i = g n) = false := by
        rw [dc_not]
        rintro ⟨i, hi, he⟩
        exact h2 i n hi (by omega) he
      simp only [this, Bool.and_false]) (by
      have : dc (∃ i, i < n + 1 ∧ g i = g n) = true := by rw [dc_iff]; exact ⟨n, by omega, rfl⟩
      simp only [this, (h1 n (by omega)).1, Bool.and_self]) (fun i hi => by
      have : dc (∃ j, j < n + 1 ∧ g j = i) = dc (∃ j, j < n ∧ g j = i) := by
        apply dc_congr
        constructor
        · rintro ⟨j, j1, j2⟩
          by_cases e : j = n
          · subst e; exact (hi j2.symm).elim
          · exact ⟨j, by omega, j2⟩
        · rintro ⟨j, j1, j2⟩
          exact ⟨j, by omega, j2⟩
      simp only [this]) (h1 n (by omega)).2
    omega
theorem cn_mono {f g : Nat → Bool} (h : ∀ i, f i = true → g i = true) : ∀ n, cn f n ≤ cn g n
  | 0 => Int.le_refl 0
  | n + 1 => by
    have := cn_mono h n
    rw [cn_s, cn_s]
    cases hf : f n with
    | false => cases g n <;> simp only [cond_true, cond_false] <;> omega
    | true => rw [h n hf]; omega
/-- a walk comes back -/
theorem orb_per {O : Nat → Bool} (hO : cn O 576 ≤ 64) {f : Nat} (h : bs O f = true) : ∃ p, 1 ≤ p ∧ p ≤ 192 ∧ orb O f p = f ∧ ∀ i, 0 < i → i < p → orb O f i ≠ f := by
  have hc := bs_count O
  have hex : ∃ p, 1 ≤ p ∧ p ≤ 192 ∧ orb O f p = f := by
    apply Classical.byContradiction
    intro c
    have h1 := cn_dist (g := orb O f) (B := bs O) (n := 193) (fun i _ => ⟨orb_in h i, bs_lt (orb_in h i)⟩) (fun i j hi hj e => c ⟨j - i, by omega, by omega, orb_back h (i := i) (j := j - i) (by rw [show i + (j - i) = j by omega]; exact e.symm)⟩)
    have h2 := cn_mono (f := fun x => bs O x && dc (∃ i, i < 193 ∧ orb O f i = x)) (g := bs O) (fun i hi => by simp only [Bool.and_eq_true] at hi; exact hi.1) 5000
    omega
  have key : ∀ n p, p < n → 1 ≤ p → p ≤ 192 → orb O f p = f → ∃ p, 1 ≤ p ∧ p ≤ 192 ∧ orb O f p = f ∧ ∀ i, 0 < i → i < p → orb O f i ≠ f := by
    intro n
    induction n with
    | zero => intro p hp; omega
    | succ n ih =>
      intro p hp h1 h2 h3
      by_cases e : ∃ i, 0 < i ∧ i < p ∧ orb O f i = f
      · obtain ⟨i, i1, i2, i3⟩ := e
        exact ih i (by omega) (by omega) (by omega) i3
      · exact ⟨p, h1, h2, h3, fun i i1 i2 i3 => e ⟨i, i1, i2, i3⟩⟩
  obtain ⟨p, h1, h2, h3⟩ := hex
  exact key (p + 1) p (by omega) h1 h2 h3
/-- what the outlines' arrays hold: the borders walked, how many loops and edges, the edges' directions, lengths, corners, the loops' first edges, edges, long and short borders, areas -/
abbrev OS : Type := (Nat → Bool) × Nat × Nat × (Nat → Int) × (Nat → Int) × (Nat → Int) × (Nat → Int) × (Nat → Int) × (Nat → Int) × (Nat → Int) × (Nat → Int)
def oW (s : OS) : Nat → Bool := s.1
def oL (s : OS) : Nat := s.2.1
def oE (s : OS) : Nat := s.2.2.1
def oD (s : OS) : Nat → Int := s.2.2.2.1
def oC (s : OS) : Nat → Int := s.2.2.2.2.1
def oK (s : OS) : Nat → Int := s.2.2.2.2.2.1
def oFE (s : OS) : Nat → Int := s.2.2.2.2.2.2.1
def oEC (s : OS) : Nat → Int := s.2.2.2.2.2.2.2.1
def oLG (s : OS) : Nat → Int := s.2.2.2.2.2.2.2.2.1
def oSH (s : OS) : Nat → Int := s.2.2.2.2.2.2.2.2.2.1
def oAR (s : OS) : Nat → Int := s.2.2.2.2.2.2.2.2.2.2
def up (f : Nat → Int) (i : Nat) (v : Int) : Nat → Int := fun j => if j = i then v else f j
theorem up_eq (f : Nat → Int) (i : Nat) (v : Int) : up f i v i = v := if_pos rfl
theorem up_ne {f : Nat → Int} {i : Nat} {v : Int} {j : Nat} (h : j ≠ i) : up f i v j = f j := if_neg h
def begL (s : OS) : OS := (oW s, oL s, oE s, oD s, oC s, oK s, up (oFE s) (oL s) (oE s), up (oEC s) (oL s) 0, up (oLG s) (oL s) 0, up (oSH s) (oL s) 0, up (oAR s) (oL s) 0)
/-- twice the area that a border adds -/
def arB (e : Nat) : Int := ((e / 8 : Nat) : Int) % 25 * (((enp e : Nat) : Int) / 25) - ((enp e : Nat) : Int) % 25 * (((e / 8 : Nat) : Int) / 25)
/-- whether a border goes on with the latest edge -/
def onE (s : OS) (e : Nat) : Bool := decide (0 < oEC s (oL s)) && decide (oD s (oE s - 1) = ((e % 8 : Nat) : Int))
def addB (s : OS) (e : Nat) : OS :=
  (fun x => if x = e then true else oW s x, oL s, bif onE s e then oE s else oE s + 1,
   bif onE s e then oD s else up (oD s) (oE s) ((e % 8 : Nat) : Int),
   bif onE s e then up (oC s) (oE s - 1) (oC s (oE s - 1) + 1) else up (oC s) (oE s) 1,
   bif onE s e then oK s else up (oK s) (oE s) ((e / 8 : Nat) : Int),
   oFE s, bif onE s e then oEC s else up (oEC s) (oL s) (oEC s (oL s) + 1),
   bif e % 2 == 0 then up (oLG s) (oL s) (oLG s (oL s) + 1) else oLG s,
   bif e % 2 == 0 then oSH s else up (oSH s) (oL s) (oSH s (oL s) + 1),
   up (oAR s) (oL s) (oAR s (oL s) + arB e))
def endL (s : OS) : OS := (oW s, oL s + 1, s.2.2)
noncomputable def wk (O : Nat → Bool) : Nat → OS → Nat → Nat → OS
  | 0, s, _, _ => s
  | n + 1, s, f, c => if nxb O c = f then addB s c else wk O n (addB s c) f (nxb O c)
noncomputable def walk1 (O : Nat → Bool) (s : OS) (f : Nat) : OS := endL (wk O 192 (begL s) f f)
def os0 : OS := (fun _ => false, 0, 0, fun _ => 0, fun _ => 0, fun _ => 0, fun _ => 0, fun _ => 0, fun _ => 0, fun _ => 0, fun _ => 0)
noncomputable def runO (O : Nat → Bool) : Nat → OS
  | 0 => os0
  | k + 1 => bif bs O k && !oW (runO O k) k then walk1 O (runO O k) k else runO O k
/-- the sum of the first n -/
def sm (f : Nat → Int) : Nat → Int
  | 0 => 0
  | n + 1 => sm f n + f n
theorem sm_s (f : Nat → Int) (n : Nat) : sm f (n + 1) = sm f n + f n := rfl
theorem sm_congr {f g : Nat → Int} : ∀ {n : Nat}, (∀ i, i < n → f i = g i) → sm f n = sm g n
  | 0, _ => rfl
  | n + 1, h => by rw [sm_s, sm_s, sm_congr (n := n) (fun i hi => h i (by omega)), h n (by omega)]
/-- between walks: the borders walked are whole walks, and all is counted -/
def WI (O : Nat → Bool) (s : OS) : Prop :=
  (∀ e, oW s e = true → bs O e = true) ∧ (∀ e, bs O e = true → (oW s (nxb O e) = true ↔ oW s e = true)) ∧
  ((oE s : Int) ≤ cn (oW s) 5000) ∧ ((oL s : Int) ≤ cn (oW s) 5000) ∧
  (∀ i, i < oL s → 1 ≤ oEC s i ∧ 0 ≤ oFE s i ∧ oFE s i + oEC s i = (if i + 1 < oL s then oFE s (i + 1) else (oE s : Int))) ∧ (0 < oL s → oFE s 0 = 0) ∧ (oL s = 0 → oE s = 0) ∧
  sm (oLG s) (oL s) = cn (fun e => oW s e && decide (e % 2 = 0)) 5000 ∧ sm (oSH s) (oL s) = cn (fun e => oW s e && decide (e % 2 = 1)) 5000
/-- in a walk from f: n borders are walked, c is the next one -/
def GW (O : Nat → Bool) (W0 : Nat → Bool) (f : Nat) (s : OS) (n c : Nat) : Prop :=
  bs O f = true ∧ c = orb O f n ∧ (∀ i, 0 < i → i ≤ n → orb O f i ≠ f) ∧ n < 192 ∧
  (∀ e, oW s e = true ↔ W0 e = true ∨ ∃ i, i < n ∧ orb O f i = e) ∧
  (∀ e, W0 e = true → bs O e = true) ∧ (∀ e, bs O e = true → (W0 (nxb O e) = true ↔ W0 e = true)) ∧ W0 f = false ∧
  ((oE s : Int) ≤ cn (oW s) 5000) ∧ ((oL s : Int) ≤ cn W0 5000) ∧
  (∀ i, i < oL s → 1 ≤ oEC s i ∧ 0 ≤ oFE s i ∧ oFE s i + oEC s i = oFE s (i + 1)) ∧ (0 < oL s → oFE s 0 = 0) ∧ (oL s = 0 → oFE s 0 = 0) ∧
  0 ≤ oEC s (oL s) ∧ (0 < n → 1 ≤ oEC s (oL s)) ∧ 0 ≤ oFE s (oL s) ∧ oFE s (oL s) + oEC s (oL s) = oE s ∧
  sm (oLG s) (oL s + 1) = cn (fun e => oW s e && decide (e % 2 = 0)) 5000 ∧ sm (oSH s) (oL s + 1) = cn (fun e => oW s e && decide (e % 2 = 1)) 5000
theorem GW.fresh {O W0 : Nat → Bool} {f n c : Nat} {s : OS} (h : GW O W0 f s n c) : bs O c = true ∧ oW s c = false ∧ c < 5000 := by
  obtain ⟨a1, a2, a3, a4, a5, a6, a7, a8, _⟩ := h
  have hb : bs O c = true := by rw [a2]; exact orb_in a1 n
  refine ⟨hb, ?_, bs_lt hb⟩
  cases hw : oW s c with
  | false => rfl
  | true =>
    rcases (a5 c).mp hw with d | ⟨i, i1, i2⟩
    · have key : ∀ j, W0 (orb O f j) = true → W0 f = true := by
        intro j
        induction j with
        | zero => intro hj; exact hj
        | succ j ih => intro hj; exact ih ((a7 _ (orb_in a1 j)).mp hj)
      rw [a2] at d
      rw [key n d] at a8
      cases a8
    · rw [a2] at i2
      have := orb_back a1 (i := i) (j := n - i) (by rw [show i + (n - i) = n by omega]; exact i2.symm)
      exact (a3 (n - i) (by omega) (by omega) this).elim
theorem room_ar {u1 u2 u3 u4 : Int} {e l : Nat} (a9 : (e : Int) ≤ u2) (a10 : (l : Int) ≤ u3) (h2 : u2 + 1 ≤ u1) (h3 : u3 ≤ u2) (hc : u1 ≤ 3 * u4) (hO : u4 ≤ 64) : e < 192 ∧ l < 192 := by omega
theorem GW.room {O W0 : Nat → Bool} (hO : cn O 576 ≤ 64) {f n c : Nat} {s : OS} (h : GW O W0 f s n c) : oE s < 192 ∧ oL s < 192 := by
  obtain ⟨f1, f2, f3⟩ := h.fresh
  obtain ⟨a1, a2, a3, a4, a5, a6, a7, a8, a9, a10, _⟩ := h
  have hc := bs_count O
  have h1 := cn_put (f := oW s) (g := fun x => if x = c then true else oW s x) (k := c) f2 (by simp) (fun i hi => by simp [hi]) f3
  have h2 := cn_mono (f := fun x => if x = c then true else oW s x) (g := bs O) (fun i hi => by
    by_cases e : i = c
    · rw [e]; exact f1
    · simp only [e, if_false] at hi
      rcases (a5 i).mp hi with d | ⟨j, _, d⟩
      · exact a6 i d
      · rw [← d]; exact orb_in a1 j) 5000
  have h3 := cn_mono (f := W0) (g := oW s) (fun i hi => (a5 i).mpr (Or.inl hi)) 5000
  rw [h1] at h2
  exact room_ar a9 a10 h2 h3 hc hO
theorem cn_addB {s : OS} {c : Nat} (hc : c < 5000) (hw : oW s c = false) : cn (oW (addB s c)) 5000 = cn (oW s) 5000 + 1 ∧ cn (fun e => oW (addB s c) e && decide (e % 2 = 0)) 5000 = cn (fun e => oW s e && decide (e % 2 = 0)) 5000 + (if c % 2 = 0 then 1 else 0) ∧ cn (fun e => oW (addB s c) e && decide (e % 2 = 1)) 5000 = cn (fun e => oW s e && decide (e % 2 = 1)) 5000 + (if c % 2 = 1 then 1 else 0) := by
  have e1 : ∀ x, oW (addB s c) x = if x = c then true else oW s x := fun x => rfl
  refine ⟨cn_put (k := c) hw (by rw [e1, if_pos rfl]) (fun i hi => by rw [e1, if_neg hi]) hc, ?_, ?_⟩
  · by_cases e : c % 2 = 0
    · rw [if_pos e]
      exact cn_put (f := fun e => oW s e && decide (e % 2 = 0)) (k := c) (by simp [hw]) (by simp [e1, e]) (fun i hi => by simp only [e1, if_neg hi]) hc
    · rw [if_neg e, Int.add_zero]
      refine cn_congr 5000 (fun i _ => ?_)
      by_cases ei : i = c
      · subst ei; simp [e]
      · simp only [e1, if_neg ei]
  · by_cases e : c % 2 = 1
    · rw [if_pos e]
      exact cn_put (f := fun e => oW s e && decide (e % 2 = 1)) (k := c) (by simp [hw]) (by simp [e1, e]) (fun i hi => by simp only [e1, if_neg hi]) hc
    · rw [if_neg e, Int.add_zero]
      refine cn_congr 5000 (fun i _ => ?_)
      by_cases ei : i = c
      · subst ei; simp [e]
      · simp only [e1, if_neg ei]
theorem addB_L (s : OS) (c : Nat) : oL (addB s c) = oL s ∧ oFE (addB s c) = oFE s := ⟨rfl, rfl⟩
theorem addB_E (s : OS) (c : Nat) : (onE s c = true → oE (addB s c) = oE s ∧ oEC (addB s c) = oEC s) ∧ (onE s c = false → oE (addB s c) = oE s + 1 ∧ oEC (addB s c) = up (oEC s) (oL s) (oEC s (oL s) + 1)) := by
  constructor <;> intro h
  · exact ⟨by show (bif onE s c then _ else _) = _; rw [h]; rfl, by show (bif onE s c then _ else _) = _; rw [h]; rfl⟩
  · exact ⟨by show (bif onE s c then _ else _) = _; rw [h]; rfl, by show (bif onE s c then _ else _) = _; rw [h]; rfl⟩
theorem addB_sm (s : OS) (c : Nat) : sm (oLG (addB s c)) (oL s + 1) = sm (oLG s) (oL s + 1) + (if c % 2 = 0 then 1 else 0) ∧ sm (oSH (addB s c)) (oL s + 1) = sm (oSH s) (oL s + 1) + (if c % 2 = 1 then 1 else 0) := by
  have k : ∀ (f : Nat → Int) (v : Int), sm (up f (oL s) (f (oL s) + v)) (oL s + 1) = sm f (oL s + 1) + v := fun f v => by
    rw [sm_s, sm_s, up_eq, sm_congr (g := f) (fun i hi => up_ne (by omega))]
    omega
  by_cases e : c % 2 = 0
  · have e2 : ¬ c % 2 = 1 := by omega
    have b : (c % 2 == 0) = true := by simp [e]
    have l1 : oLG (addB s c) = up (oLG s) (oL s) (oLG s (oL s) + 1) := by show (bif c % 2 == 0 then _ else _) = _; rw [b]; rfl
    have l2 : oSH (addB s c) = oSH s := by show (bif c % 2 == 0 then _ else _) = _; rw [b]; rfl
    rw [l1, l2, if_pos e, if_neg e2, k]
    exact ⟨rfl, by omega⟩
  · have e2 : c % 2 = 1 := by omega
    have b : (c % 2 == 0) = false := by simp [e2]
    have l1 : oLG (addB s c) = oLG s := by show (bif c % 2 == 0 then _ else _) = _; rw [b]; rfl
    have l2 : oSH (addB s c) = up (oSH s) (oL s) (oSH s (oL s) + 1) := by show (bif c % 2 == 0 then _ else _) = _; rw [b]; rfl
    rw [l1, l2, if_neg e, if_pos e2, k]
    exact ⟨by omega, rfl⟩
theorem GW.add {O W0 : Nat → Bool} (hO : cn O 576 ≤ 64) {f n c : Nat} {s : OS} (h : GW O W0 f s n c) (hne : nxb O c ≠ f) : GW O W0 f (addB s c) (n + 1) (nxb O c) := by
  obtain ⟨f1, f2, f3⟩ := h.fresh
  obtain ⟨q1, q2, q3⟩ := cn_addB f3 f2
  obtain ⟨p1, p2⟩ := addB_sm s c
  obtain ⟨a1, a2, a3, a4, a5, a6, a7, a8, a9, a10, a11, a12, a13, a14, a15, a16, a17, a18, a19⟩ := h
  obtain ⟨per, r1, r2, r3, r4⟩ := orb_per hO a1
  have hn : n + 1 < 192 := by
    apply Classical.byContradiction
    intro e
    by_cases e2 : per ≤ n
    · exact a3 per (by omega) e2 r3
    · have : per = n + 1 := by omega
      rw [this, orb_s, ← a2] at r3
      exact hne r3
  have eL := (addB_L s c).1
  have eF := (addB_L s c).2
  have hE := addB_E s c
  refine ⟨a1, by rw [a2]; rfl, fun i i0 i1 => ?_, hn, fun e => ?_, a6, a7, a8, ?_, by rw [eL]; exact a10, ?_, by rw [eL, eF]; exact a12, by rw [eL, eF]; exact a13, ?_, ?_, by rw [eL, eF]; exact a16, ?_, by rw [eL, p1, q2, a18], by rw [eL, p2, q3, a19]⟩
  · by_cases e : i = n + 1
    · rw [e, orb_s, ← a2]; exact hne
    · exact a3 i i0 (by omega)
  · show (if e = c then true else oW s e) = true ↔ _
    by_cases ec : e = c
    · rw [if_pos ec]
      simp only [true_iff]
      exact Or.inr ⟨n, by omega, by rw [ec]; exact a2.symm⟩
    · rw [if_neg ec, a5]
      constructor
      · rintro (d | ⟨i, i1, i2⟩)
        · exact Or.inl d
        · exact Or.inr ⟨i, by omega, i2⟩
      · rintro (d | ⟨i, i1, i2⟩)
        · exact Or.inl d
        · by_cases ei : i = n
          · rw [ei, ← a2] at i2; exact (ec i2.symm).elim
          · exact Or.inr ⟨i, by omega, i2⟩
  · cases ho : onE s c with
    | true => rw [(hE.1 ho).1]; omega
    | false => rw [(hE.2 ho).1]; omega
  · intro i hi
    rw [eL] at hi
    rw [eF]
    cases ho : onE s c with
    | true => rw [(hE.1 ho).2]; exact a11 i hi
    | false => rw [(hE.2 ho).2, up_ne (by omega)]; exact a11 i hi
  · rw [eL]
    cases ho : onE s c with
    | true => rw [(hE.1 ho).2]; exact a14
    | false => rw [(hE.2 ho).2, up_eq]; omega
  · intro _
    rw [eL]
    cases ho : onE s c with
    | true =>
      rw [(hE.1 ho).2]
      unfold onE at ho
      rw [Bool.and_eq_true, decide_eq_true_iff] at ho
      omega
    | false => rw [(hE.2 ho).2, up_eq]; omega
  · rw [eL, eF]
    cases ho : onE s c with
    | true => rw [(hE.1 ho).2, (hE.1 ho).1]; exact a17
    | false => rw [(hE.2 ho).2, (hE.2 ho).1, up_eq]; omega
theorem GW.last {O W0 : Nat → Bool} {f n c : Nat} {s : OS} (h : GW O W0 f s n c) (he : nxb O c = f) : WI O (endL (addB s c)) ∧ oW (endL (addB s c)) f = true ∧ ∀ e, W0 e = true → oW (endL (addB s c)) e = true := by
  obtain ⟨f1, f2, f3⟩ := h.fresh
  obtain ⟨q1, q2, q3⟩ := cn_addB f3 f2
  obtain ⟨p1, p2⟩ := addB_sm s c
  obtain ⟨a1, a2, a3, a4, a5, a6, a7, a8, a9, a10, a11, a12, a13, a14, a15, a16, a17, a18, a19⟩ := h
  have eL := (addB_L s c).1
  have eF := (addB_L s c).2
  have hE := addB_E s c
  have wL : oL (endL (addB s c)) = oL s + 1 := rfl
  have wF : oFE (endL (addB s c)) = oFE s := rfl
  have wE : oE (endL (addB s c)) = oE (addB s c) := rfl
  have wC : oEC (endL (addB s c)) = oEC (addB s c) := rfl
  have wW : ∀ e, oW (endL (addB s c)) e = true ↔ W0 e = true ∨ ∃ i, i < n + 1 ∧ orb O f i = e := fun e => by
    show (if e = c then true else oW s e) = true ↔ _
    by_cases ec : e = c
    · rw [if_pos ec]
      simp only [true_iff]
      exact Or.inr ⟨n, by omega, by rw [ec]; exact a2.symm⟩
    · rw [if_neg ec, a5]
      constructor
      · rintro (d | ⟨i, i1, i2⟩)
        · exact Or.inl d
        · exact Or.inr ⟨i, by omega, i2⟩
      · rintro (d | ⟨i, i1, i2⟩)
        · exact Or.inl d
        · by_cases ei : i = n
          · rw [ei, ← a2] at i2; exact (ec i2.symm).elim
          · exact Or.inr ⟨i, by omega, i2⟩
  have h3 := cn_mono (f := W0) (g := oW s) (fun i hi => (a5 i).mpr (Or.inl hi)) 5000
  have hlast : 1 ≤ oEC (addB s c) (oL s) ∧ oFE s (oL s) + oEC (addB s c) (oL s) = oE (addB s c) := by
    cases ho : onE s c with
    | true =>
      rw [(hE.1 ho).2, (hE.1 ho).1]
      unfold onE at ho
      rw [Bool.and_eq_true, decide_eq_true_iff] at ho
      omega
    | false => rw [(hE.2 ho).2, (hE.2 ho).1, up_eq]; omega
  refine ⟨⟨fun e hw => ?_, fun e hb => ?_, ?_, ?_, fun i hi => ?_, fun _ => ?_, fun hz => by omega, ?_, ?_⟩, (wW f).mpr (Or.inr ⟨0, by omega, rfl⟩), fun e hw => (wW e).mpr (Or.inl hw)⟩
  · rcases (wW e).mp hw with d | ⟨i, _, d⟩
    · exact a6 e d
    · rw [← d]; exact orb_in a1 i
  · rw [wW, wW]
    constructor
    · rintro (d | ⟨i, i1, i2⟩)
      · exact Or.inl ((a7 e hb).mp d)
      · right
        cases i with
        | zero =>
          have : e = c := nxb_inj hb f1 (by rw [he]; exact i2.symm)
          exact ⟨n, by omega, by rw [this]; exact a2.symm⟩
        | succ i => exact ⟨i, by omega, nxb_inj (orb_in a1 i) hb i2⟩
    · rintro (d | ⟨i, i1, i2⟩)
      · exact Or.inl ((a7 e hb).mpr d)
      · right
        by_cases ei : i = n
        · exact ⟨0, by omega, by rw [← i2, ei, ← a2, he]; rfl⟩
        · exact ⟨i + 1, by omega, by rw [orb_s, i2]⟩
  · show ((oE (addB s c) : Nat) : Int) ≤ cn (oW (addB s c)) 5000
    cases ho : onE s c with
    | true => rw [(hE.1 ho).1]; omega
    | false => rw [(hE.2 ho).1]; omega
  · show ((oL s + 1 : Nat) : Int) ≤ cn (oW (addB s c)) 5000
    rw [q1]
    generalize cn (oW s) 5000 = u2 at *
    generalize cn W0 5000 = u3 at *
    omega
  · rw [wL] at hi ⊢
    rw [wF, wC, wE]
    by_cases ei : i = oL s
    · rw [ei, if_neg (by omega)]
      exact ⟨hlast.1, a16, hlast.2⟩
    · rw [if_pos (by omega)]
      cases ho : onE s c with
      | true => rw [(hE.1 ho).2]; exact a11 i (by omega)
      | false => rw [(hE.2 ho).2, up_ne (by omega)]; exact a11 i (by omega)
  · rw [wF]
    by_cases e0 : oL s = 0
    · exact a13 e0
    · exact a12 (by omega)
  · show sm (oLG (addB s c)) (oL s + 1) = cn (fun e => oW (addB s c) e && decide (e % 2 = 0)) 5000
    rw [p1, q2, a18]
  · show sm (oSH (addB s c)) (oL s + 1) = cn (fun e => oW (addB s c) e && decide (e % 2 = 1)) 5000
    rw [p2, q3, a19]
theorem GW.beg {O : Nat → Bool} {f : Nat} {s : OS} (h : WI O s) (hb : bs O f = true) (hw : oW s f = false) : GW O (oW s) f (begL s) 0 f := by
  obtain ⟨a1, a2, a3, a4, a5, a6, a7, a8, a9⟩ := h
  have k : ∀ (g : Nat → Int), sm (up g (oL s) 0) (oL s + 1) = sm g (oL s) := fun g => by
    rw [sm_s, up_eq, sm_congr (g := g) (fun i hi => up_ne (by omega))]
    omega
  refine ⟨hb, rfl, fun i i0 i1 => by omega, by omega, fun e => ?_, a1, a2, hw, a3, a4, fun i hi => ?_, fun h0 => ?_, fun h0 => ?_, ?_, fun h0 => by omega, ?_, ?_, ?_, ?_⟩
  · constructor
    · intro d; exact Or.inl d
    · rintro (d | ⟨i, i1, _⟩)
      · exact d
      · omega
  · have hi2 : i < oL s := hi
    obtain ⟨b1, b2, b3⟩ := a5 i hi2
    have e1 : oEC (begL s) i = oEC s i := up_ne (by omega)
    have e2 : oFE (begL s) i = oFE s i := up_ne (by omega)
    rw [e1, e2]
    refine ⟨b1, b2, ?_⟩
    by_cases e : i + 1 < oL s
    · rw [if_pos e] at b3
      rw [show oFE (begL s) (i + 1) = oFE s (i + 1) from up_ne (by omega)]
      exact b3
    · rw [if_neg e] at b3
      rw [show i + 1 = oL s by omega, show oFE (begL s) (oL s) = oE s from up_eq _ _ _]
      exact b3
  · have h1 : 0 < oL s := h0
    rw [show oFE (begL s) 0 = oFE s 0 from up_ne (by omega)]
    exact a6 h1
  · have h1 : oL s = 0 := h0
    have : oFE (begL s) (oL s) = oE s := up_eq _ _ _
    rw [h1] at this
    rw [this, a7 h1]
    rfl
  · rw [show oEC (begL s) (oL (begL s)) = 0 from up_eq _ _ _]
    omega
  · rw [show oFE (begL s) (oL (begL s)) = oE s from up_eq _ _ _]
    omega
  · rw [show oFE (begL s) (oL (begL s)) = oE s from up_eq _ _ _, show oEC (begL s) (oL (begL s)) = 0 from up_eq _ _ _]
    exact Int.add_zero _
  · exact (k _).trans a8
  · exact (k _).trans a9
theorem wk_WI {O W0 : Nat → Bool} (hO : cn O 576 ≤ 64) {f : Nat} : ∀ (m : Nat) {n c : Nat} {s : OS}, GW O W0 f s n c → n + m = 192 → WI O (endL (wk O m s f c)) ∧ oW (endL (wk O m s f c)) f = true ∧ ∀ e, W0 e = true → oW (endL (wk O m s f c)) e = true
  | 0, n, c, s, h, hn => by have := h.2.2.2.1; omega
  | m + 1, n, c, s, h, hn => by
    unfold wk
    by_cases e : nxb O c = f
    · rw [if_pos e]; exact h.last e
    · rw [if_neg e]; exact wk_WI hO m (h.add hO e) (by omega)
theorem WI.zero (O : Nat → Bool) : WI O os0 := by
  refine ⟨fun e h => (by cases h), fun e _ => Iff.rfl, ?_, ?_, fun i hi => absurd hi (Nat.not_lt_zero _), fun h => absurd h (Nat.lt_irrefl _), fun _ => rfl, ?_, ?_⟩
  · exact cn_nonneg _ _
  · exact cn_nonneg _ _
  · show (0 : Int) = cn (fun e => false && decide (e % 2 = 0)) 5000
    exact (cn_false (fun i _ => rfl)).symm
  · show (0 : Int) = cn (fun e => false && decide (e % 2 = 1)) 5000
    exact (cn_false (fun i _ => rfl)).symm
theorem runO_s (O : Nat → Bool) (k : Nat) : runO O (k + 1) = bif bs O k && !oW (runO O k) k then walk1 O (runO O k) k else runO O k := rfl
theorem runO_WI {O : Nat → Bool} (hO : cn O 576 ≤ 64) : ∀ k, WI O (runO O k) ∧ ∀ e, e < k → bs O e = true → oW (runO O k) e = true
  | 0 => ⟨WI.zero O, fun e h => by omega⟩
  | k + 1 => by
    obtain ⟨h1, h2⟩ := runO_WI hO k
    rw [runO_s]
    cases hb : bs O k && !oW (runO O k) k with
    | false =>
      refine ⟨h1, fun e he hbe => ?_⟩
      by_cases ek : e = k
      · subst ek
        rw [hbe] at hb
        simpa using hb
      · exact h2 e (by omega) hbe
    | true =>
      simp only [Bool.and_eq_true, Bool.not_eq_true'] at hb
      obtain ⟨w1, w2, w3⟩ := wk_WI hO 192 (GW.beg h1 hb.1 hb.2) (by omega)
      refine ⟨w1, fun e he hbe => ?_⟩
      by_cases ek : e = k
      · subst ek; exact w2
      · exact w3 e (h2 e (by omega) hbe)
