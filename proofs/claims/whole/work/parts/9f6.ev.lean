/-! THE START, 7: states as rows of numbers; a chunk -/
/-- a state in rows of numbers -/
abbrev S9 : Type := P9 × Nat × Nat × Nat × Nat × Nat × List (List Nat) × List (List Nat) × List (List Nat) × List F9
abbrev S9.p (c : S9) : P9 := c.1
abbrev S9.d (c : S9) : Nat := c.2.1
abbrev S9.k (c : S9) : Nat := c.2.2.1
abbrev S9.rc (c : S9) : Nat := c.2.2.2.1
abbrev S9.rs (c : S9) : Nat := c.2.2.2.2.1
abbrev S9.n (c : S9) : Nat := c.2.2.2.2.2.1
abbrev S9.I (c : S9) : List (List Nat) := c.2.2.2.2.2.2.1
abbrev S9.L (c : S9) : List (List Nat) := c.2.2.2.2.2.2.2.1
abbrev S9.A (c : S9) : List (List Nat) := c.2.2.2.2.2.2.2.2.1
abbrev S9.fs (c : S9) : List F9 := c.2.2.2.2.2.2.2.2.2
def bRow {α : Type} (z : α) (g : Nat → α) : List Nat → Nat → Tr α → Tr α
  | [], _, t => t
  | 0 :: l, j, t => bRow z g l (j + 1) t
  | (v + 1) :: l, j, t => bRow z g l (j + 1) (trS z 16 (j + 1) (g v) t)
noncomputable def bRowK {α β : Type} (z : α) (g : Nat → α) (l : List Nat) : Nat → Tr α → (Tr α → β) → β := @List.rec Nat (fun _ => Nat → Tr α → (Tr α → β) → β) (fun _ t k => k t) (fun v _ ih j t k => @Nat.rec (fun _ => β) (ih (j + 1) t k) (fun w _ => trKr z 16 (j + 1) (g w) t fun t => ih (j + 1) t k) v) l
theorem bRowK_eq {α β : Type} (z : α) (g : Nat → α) : ∀ (l : List Nat) (j : Nat) (t : Tr α) (k : Tr α → β), bRowK z g l j t k = k (bRow z g l j t)
  | [], _, _, _ => rfl
  | 0 :: l, j, t, k => bRowK_eq z g l (j + 1) t k
  | (v + 1) :: l, j, t, k => by
    show (trKr z 16 (j + 1) (g v) t fun t => bRowK z g l (j + 1) t k) = k (bRow z g l (j + 1) (trS z 16 (j + 1) (g v) t))
    rw [trKr_eq, trK_eq]
    exact bRowK_eq z g l (j + 1) _ k
def bHp {α : Type} (z : α) (g : Nat → α) : List (List Nat) → Nat → Hp α → Hp α
  | [], _, T => T
  | [] :: l, r, T => bHp z g l (r + 1) T
  | (a :: b) :: l, r, T => bHp z g l (r + 1) (trS .leaf 12 (r + 1) (bRow z g (a :: b) 0 .leaf) T)
noncomputable def bHpK {α β : Type} (z : α) (g : Nat → α) (l : List (List Nat)) : Nat → Hp α → (Hp α → β) → β := @List.rec (List Nat) (fun _ => Nat → Hp α → (Hp α → β) → β) (fun _ T k => k T) (fun v _ ih r T k => @List.casesOn Nat (fun _ => β) v (ih (r + 1) T k) (fun a b => bRowK z g (a :: b) 0 .leaf fun row => trKr .leaf 12 (r + 1) row T fun T => ih (r + 1) T k)) l
theorem bHpK_eq {α β : Type} (z : α) (g : Nat → α) : ∀ (l : List (List Nat)) (r : Nat) (T : Hp α) (k : Hp α → β), bHpK z g l r T k = k (bHp z g l r T)
  | [], _, _, _ => rfl
  | [] :: l, r, T, k => bHpK_eq z g l (r + 1) T k
  | (a :: b) :: l, r, T, k => by
    show (bRowK z g (a :: b) 0 .leaf fun row => trKr .leaf 12 (r + 1) row T fun T => bHpK z g l (r + 1) T k) = k (bHp z g l (r + 1) (trS .leaf 12 (r + 1) (bRow z g (a :: b) 0 .leaf) T))
    rw [bRowK_eq, trKr_eq, trK_eq]
    exact bHpK_eq z g l (r + 1) _ k
abbrev hI9 (l : List (List Nat)) : Hp Int32 := bHp 0 Int32.ofNat l 0 .leaf
abbrev hL9 (l : List (List Nat)) : Hp Int64 := bHp 0 Int64.ofNat l 0 .leaf
abbrev hA9 (l : List (List Nat)) : Hp Nat := bHp 0 id l 0 .leaf
def dC9 (s : S9) : C9 := ⟨s.d, s.k, s.rc, s.rs, s.n, hI9 s.I, hL9 s.L, hA9 s.A, s.fs⟩
noncomputable def bS9 {β : Type} (s : S9) (f : P9 → C9 → β) : β := match s with
  | ⟨p, d, k, rc, rs, n, I, L, A, fs⟩ => bHpK 0 Int32.ofNat I 0 .leaf fun I => bHpK 0 Int64.ofNat L 0 .leaf fun L => bHpK 0 id A 0 .leaf fun A => f p ⟨d, k, rc, rs, n, I, L, A, fs⟩
theorem bS9_eq {β : Type} (s : S9) (f : P9 → C9 → β) : bS9 s f = f s.p (dC9 s) := by
  obtain ⟨p, d, k, rc, rs, n, I, L, A, fs⟩ := s
  show (bHpK 0 Int32.ofNat I 0 .leaf fun I => bHpK 0 Int64.ofNat L 0 .leaf fun L => bHpK 0 id A 0 .leaf fun A => f p ⟨d, k, rc, rs, n, I, L, A, fs⟩) = _
  rw [bHpK_eq, bHpK_eq, bHpK_eq]
  rfl
/-- are they the same -/
noncomputable def eqR {α : Type} (q : α → α → Bool) (a : Tr α) : Tr α → Bool := @Std.DTreeMap.Internal.Impl.rec Unit (fun _ => α) (fun _ => Tr α → Bool) (fun z _ v _ _ ihl ihr b => @Std.DTreeMap.Internal.Impl.casesOn Unit (fun _ => α) (fun _ => Bool) b (fun z' _ v' l' r' => Nat.beq z z' && (ihl l' && (q v v' && ihr r'))) false) (fun b => @Std.DTreeMap.Internal.Impl.casesOn Unit (fun _ => α) (fun _ => Bool) b (fun _ _ _ _ _ => false) true) a
theorem eqR_s {α : Type} {q : α → α → Bool} (hq : ∀ x y, q x y = true → x = y) : ∀ (a b : Tr α), eqR q a b = true → a = b
  | .leaf, .leaf, _ => rfl
  | .leaf, .inner _ _ _ _ _, h => by cases h
  | .inner _ _ _ _ _, .leaf, h => by cases h
  | .inner z _ v l r, .inner z' _ v' l' r', h => by
    have h1 : (Nat.beq z z' && (eqR q l l' && (q v v' && eqR q r r'))) = true := h
    rw [Bool.and_eq_true, Bool.and_eq_true, Bool.and_eq_true] at h1
    rw [Nat.eq_of_beq_eq_true h1.1, eqR_s hq l l' h1.2.1, hq v v' h1.2.2.1, eqR_s hq r r' h1.2.2.2]
def eq32 (x y : Int32) : Bool := Nat.beq x.toBitVec.toNat y.toBitVec.toNat
def eq64 (x y : Int64) : Bool := Nat.beq x.toBitVec.toNat y.toBitVec.toNat
theorem eq32_s (x y : Int32) (h : eq32 x y = true) : x = y := Int32.toBitVec.inj (BitVec.eq_of_toNat_eq (Nat.eq_of_beq_eq_true h))
theorem eq64_s (x y : Int64) (h : eq64 x y = true) : x = y := Int64.toBitVec.inj (BitVec.eq_of_toNat_eq (Nat.eq_of_beq_eq_true h))
theorem beq_s (x y : Nat) (h : Nat.beq x y = true) : x = y := Nat.eq_of_beq_eq_true h
def eqV9 : AV → AV → Bool
  | (.int x, a), (.int y, b) => eq32 x y && Nat.beq a b
  | (.long x, a), (.long y, b) => eq64 x y && Nat.beq a b
  | (.ref x, a), (.ref y, b) => Nat.beq x y && Nat.beq a b
  | (.retAddr x, a), (.retAddr y, b) => Nat.beq x y && Nat.beq a b
  | _, _ => false
theorem eqV9_s (x y : AV) (h : eqV9 x y = true) : x = y := by
  unfold eqV9 at h
  split at h
  · rw [Bool.and_eq_true] at h; rw [eq32_s _ _ h.1, beq_s _ _ h.2]
  · rw [Bool.and_eq_true] at h; rw [eq64_s _ _ h.1, beq_s _ _ h.2]
  · rw [Bool.and_eq_true] at h; rw [beq_s _ _ h.1, beq_s _ _ h.2]
  · rw [Bool.and_eq_true] at h; rw [beq_s _ _ h.1, beq_s _ _ h.2]
  · cases h
def eqL9 {α : Type} (q : α → α → Bool) : List α → List α → Bool
  | [], [] => true
  | x :: xs, y :: ys => q x y && eqL9 q xs ys
  | _, _ => false
theorem eqL9_s {α : Type} {q : α → α → Bool} (hq : ∀ x y, q x y = true → x = y) : ∀ (a b : List α), eqL9 q a b = true → a = b
  | [], [], _ => rfl
  | [], _ :: _, h => by cases h
  | _ :: _, [], h => by cases h
  | x :: xs, y :: ys, h => by
    have h1 : (q x y && eqL9 q xs ys) = true := h
    rw [Bool.and_eq_true] at h1
    rw [hq x y h1.1, eqL9_s hq xs ys h1.2]
def eqF9 : F9 → F9 → Bool
  | ⟨a, b, l, s, c, d⟩, ⟨a', b', l', s', c', d'⟩ => Nat.beq a a' && (Nat.beq b b' && (eqL9 eqV9 l l' && (eqL9 eqV9 s s' && (Nat.beq c c' && Nat.beq d d'))))
theorem eqF9_s (x y : F9) (h : eqF9 x y = true) : x = y := by
  obtain ⟨a, b, l, s, c, d⟩ := x
  obtain ⟨a', b', l', s', c', d'⟩ := y
  have h1 : (Nat.beq a a' && (Nat.beq b b' && (eqL9 eqV9 l l' && (eqL9 eqV9 s s' && (Nat.beq c c' && Nat.beq d d'))))) = true := h
  simp only [Bool.and_eq_true] at h1
  obtain ⟨g1, g2, g3, g4, g5, g6⟩ := h1
  rw [beq_s _ _ g1, beq_s _ _ g2, eqL9_s eqV9_s _ _ g3, eqL9_s eqV9_s _ _ g4, beq_s _ _ g5, beq_s _ _ g6]
def eqP9 : P9 → P9 → Bool
  | ⟨a, l, s⟩, ⟨a', l', s'⟩ => Nat.beq a a' && (eqL9 eqV9 l l' && eqL9 eqV9 s s')
theorem eqP9_s (x y : P9) (h : eqP9 x y = true) : x = y := by
  obtain ⟨a, l, s⟩ := x
  obtain ⟨a', l', s'⟩ := y
  have h1 : (Nat.beq a a' && (eqL9 eqV9 l l' && eqL9 eqV9 s s')) = true := h
  simp only [Bool.and_eq_true] at h1
  rw [beq_s _ _ h1.1, eqL9_s eqV9_s _ _ h1.2.1, eqL9_s eqV9_s _ _ h1.2.2]
noncomputable def eqC9 : C9 → C9 → Bool
  | ⟨d, k, rc, rs, n, I, L, A, fs⟩, ⟨d', k', rc', rs', n', I', L', A', fs'⟩ => Nat.beq d d' && (Nat.beq k k' && (Nat.beq rc rc' && (Nat.beq rs rs' && (Nat.beq n n' && (eqL9 eqF9 fs fs' && (eqR (eqR eq32) I I' && (eqR (eqR eq64) L L' && eqR (eqR Nat.beq) A A')))))))
theorem eqC9_s (x y : C9) (h : eqC9 x y = true) : x = y := by
  obtain ⟨d, k, rc, rs, n, I, L, A, fs⟩ := x
  obtain ⟨d', k', rc', rs', n', I', L', A', fs'⟩ := y
  have h1 : (Nat.beq d d' && (Nat.beq k k' && (Nat.beq rc rc' && (Nat.beq rs rs' && (Nat.beq n n' && (eqL9 eqF9 fs fs' && (eqR (eqR eq32) I I' && (eqR (eqR eq64) L L' && eqR (eqR Nat.beq) A A')))))))) = true := h
  simp only [Bool.and_eq_true] at h1
  obtain ⟨g1, g2, g3, g4, g5, g6, g7, g8, g9⟩ := h1
  rw [beq_s _ _ g1, beq_s _ _ g2, beq_s _ _ g3, beq_s _ _ g4, beq_s _ _ g5, eqL9_s eqF9_s _ _ g6, eqR_s (eqR_s eq32_s) _ _ g7, eqR_s (eqR_s eq64_s) _ _ g8, eqR_s (eqR_s beq_s) _ _ g9]
/-- a chunk of steps -/
noncomputable def chk9 (m : Nat) (s s' : S9) : Bool := bS9 s fun p c => bS9 s' fun p' c' => match evN m p c with
  | some (q, e) => eqP9 q p' && eqC9 e c'
  | none => false
theorem chk9_s {X : Ext} (hX : XOk X) {Q0 : AQ} {m : Nat} {s s' : S9} (h : chk9 m s s' = true) (h2 : Mn9 X Q0 s'.p (dC9 s')) : Mn9 X Q0 s.p (dC9 s) := by
  unfold chk9 at h
  rw [bS9_eq, bS9_eq] at h
  cases he : evN m s.p (dC9 s) with
  | none => rw [he] at h; cases h
  | some q =>
    obtain ⟨q, e⟩ := q
    rw [he] at h
    dsimp only at h
    rw [Bool.and_eq_true] at h
    refine evN_s hX m s.p (dC9 s) q e he ?_
    rw [eqP9_s _ _ h.1, eqC9_s _ _ h.2]
    exact h2
