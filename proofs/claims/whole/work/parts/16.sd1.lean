/-! SOUNDNESS, 1: what the abstract values, objects and heaps are on the machine. G: the first address, the array classes by sort, where the things outside lie, the kinds of what is made -/
abbrev GE : Type := Nat × (Nat → ClassId) × (Nat → Nat) × (Nat → Nat)
def ownT (t : Nat) : Bool := bif Nat.ble t 13 then (bif Nat.beq t 10 then false else Nat.ble 1 t) else bif Nat.blt t 10000 then false else bif Nat.ble (kSort t) 4 then true else Nat.ble 10 (kSort t)
def adr (G : GE) (t a : Nat) : Nat := bif ownT t then G.1 + a else G.2.2.1 a
def cv (G : GE) (v : AV) : Value := match v.1 with
  | .ref a => .ref (adr G v.2 a)
  | w => w
def oA (G : GE) (t : Nat) : Nat → Option Nat
  | 0 => none
  | a + 1 => some (adr G t a)
def fv (G : GE) (y ft : Nat) (i : Int32) (a : Nat) : Value := match y with
  | 0 => .int i
  | _ => va_rf (oA G ft a)
def flds (G : GE) : List (Nat × Nat) → Nat → (Nat → Int32) → (Nat → Nat) → List Value
  | [], _, _, _ => []
  | q :: l, j, i, a => fv G q.1 q.2 (i j) (a j) :: flds G l (j + 1) i a
def fsl (c : Nat) : List (Nat × Nat) := match nth fsT c with
  | some r => r
  | none => []
def ent (G : GE) (I : HI) (L : HL) (A : HA) (r t : Nat) : va_E :=
  bif Nat.ble t 13 then .inr (t - 1, flds G (fsl (t - 1)) 0 (I r) (A r))
  else bif Nat.ble 10 (kSort t) then .inl (G.2.1 (kSort t), kLen t, .inr (.inr (.inr (.inr (fun i => oA G (kSort t - 9) (A r i))))))
  else bif Nat.beq (kSort t) 4 then .inl (G.2.1 4, kLen t, .inr (.inl (L r)))
  else .inl (G.2.1 (kSort t), kLen t, .inl (I r))
def wsl (G : GE) (I : HI) (L : HL) (A : HA) : Nat → va_W
  | 0 => []
  | n + 1 => bif Nat.beq (G.2.2.2 n) 0 then wsl G I L A n else wsl G I L A n ++ [(G.1 + n, ent G I L A n (G.2.2.2 n))]
def wix (G : GE) : Nat → Nat
  | 0 => 0
  | n + 1 => bif Nat.beq (G.2.2.2 n) 0 then wix G n else wix G n + 1
theorem nth_eq {α : Type} : ∀ (l : List α) (j : Nat), nth l j = l[j]?
  | [], j => by simp [nth]
  | x :: xs, 0 => by simp [nth]
  | x :: xs, j + 1 => by simp [nth, nth_eq xs j]
theorem beq_f {a b : Nat} (h : ¬ a = b) : Nat.beq a b = false := by
  cases h1 : Nat.beq a b with
  | false => rfl
  | true => exact absurd (Nat.eq_of_beq_eq_true h1) h
theorem beq_t {a b : Nat} (h : a = b) : Nat.beq a b = true := by rw [h]; exact Nat.beq_refl b
section
variable {G : GE} {I I' : HI} {L L' : HL} {A A' : HA}
theorem wsl_no {n : Nat} (h : G.2.2.2 n = 0) : wsl G I L A (n + 1) = wsl G I L A n := by
  show (bif Nat.beq (G.2.2.2 n) 0 then _ else _) = _
  rw [beq_t h]; rfl
theorem wsl_yes {n : Nat} (h : ¬ G.2.2.2 n = 0) : wsl G I L A (n + 1) = wsl G I L A n ++ [(G.1 + n, ent G I L A n (G.2.2.2 n))] := by
  show (bif Nat.beq (G.2.2.2 n) 0 then _ else _) = _
  rw [beq_f h]; rfl
theorem wix_no {n : Nat} (h : G.2.2.2 n = 0) : wix G (n + 1) = wix G n := by
  show (bif Nat.beq (G.2.2.2 n) 0 then _ else _) = _
  rw [beq_t h]; rfl
theorem wix_yes {n : Nat} (h : ¬ G.2.2.2 n = 0) : wix G (n + 1) = wix G n + 1 := by
  show (bif Nat.beq (G.2.2.2 n) 0 then _ else _) = _
  rw [beq_f h]; rfl
theorem wsl_len (n : Nat) : (wsl G I L A n).length = wix G n := by
  induction n with
  | zero => rfl
  | succ n ih =>
    by_cases h : G.2.2.2 n = 0
    · rw [wsl_no h, wix_no h, ih]
    · rw [wsl_yes h, wix_yes h, List.length_append, ih]; rfl
theorem wix_mono {n m : Nat} (h : n ≤ m) : wix G n ≤ wix G m := by
  induction m with
  | zero => rw [Nat.le_zero.mp h]; exact Nat.le_refl _
  | succ m ih =>
    by_cases hm : n = m + 1
    · rw [hm]; exact Nat.le_refl _
    · have h1 := ih (by omega)
      by_cases h2 : G.2.2.2 m = 0
      · rw [wix_no h2]; exact h1
      · rw [wix_yes h2]; omega
theorem wsl_at {n r : Nat} (hr : r < n) (hk : ¬ G.2.2.2 r = 0) : (wsl G I L A n)[wix G r]? = some (G.1 + r, ent G I L A r (G.2.2.2 r)) := by
  induction n with
  | zero => omega
  | succ n ih =>
    by_cases hn : r = n
    · subst hn
      rw [wsl_yes hk, List.getElem?_append_right (by rw [wsl_len]; exact Nat.le_refl _), wsl_len, Nat.sub_self]; rfl
    · have h1 := ih (by omega)
      by_cases h : G.2.2.2 n = 0
      · rw [wsl_no h]; exact h1
      · rw [wsl_yes h, List.getElem?_append_left (List.getElem?_eq_some_iff.mp h1).1]; exact h1
theorem wsl_get {n k : Nat} {q : Nat × va_E} (h : (wsl G I L A n)[k]? = some q) : ∃ r, r < n ∧ ¬ G.2.2.2 r = 0 ∧ k = wix G r ∧ q = (G.1 + r, ent G I L A r (G.2.2.2 r)) := by
  induction n with
  | zero => simp [wsl] at h
  | succ n ih =>
    by_cases hn : G.2.2.2 n = 0
    · rw [wsl_no hn] at h
      obtain ⟨r, h1, h2⟩ := ih h
      exact ⟨r, by omega, h2⟩
    · rw [wsl_yes hn] at h
      by_cases hl : k < (wsl G I L A n).length
      · rw [List.getElem?_append_left hl] at h
        obtain ⟨r, h1, h2⟩ := ih h
        exact ⟨r, by omega, h2⟩
      · rw [List.getElem?_append_right (by omega)] at h
        have hz : k - (wsl G I L A n).length < 1 := (List.getElem?_eq_some_iff.mp h).1
        have hk : k = wix G n := by rw [← wsl_len (G := G) (I := I) (L := L) (A := A) n]; omega
        rw [show k - (wsl G I L A n).length = 0 by omega] at h
        cases h
        exact ⟨n, by omega, hn, hk, rfl⟩
theorem wix_inj {r r' : Nat} (h1 : ¬ G.2.2.2 r = 0) (h2 : ¬ G.2.2.2 r' = 0) (h : wix G r = wix G r') : r = r' := by
  rcases Nat.lt_trichotomy r r' with h3 | h3 | h3
  · have h4 := wix_mono (G := G) h3
    rw [wix_yes h1] at h4; omega
  · exact h3
  · have h4 := wix_mono (G := G) h3
    rw [wix_yes h2] at h4; omega
theorem wsl_D (n : Nat) : va_D (fun q => G.1 ≤ q) (wsl G I L A n) := by
  refine ⟨fun i j x y hi hj e => ?_, fun k q hq => ?_⟩
  · obtain ⟨r, -, -, h3, h4⟩ := wsl_get hi
    obtain ⟨r', -, -, g3, g4⟩ := wsl_get hj
    rw [h4, g4] at e
    have : r = r' := by have := e; dsimp only at this; omega
    rw [h3, g3, this]
  · obtain ⟨r, -, -, -, h4⟩ := wsl_get hq
    rw [h4]; dsimp only; omega
theorem wsl_set {n r : Nat} (hr : r < n) (hk : ¬ G.2.2.2 r = 0) (h : ∀ r', ¬ r' = r → ent G I' L' A' r' (G.2.2.2 r') = ent G I L A r' (G.2.2.2 r')) {e : va_E} (he : e = ent G I' L' A' r (G.2.2.2 r)) : (wsl G I L A n).set (wix G r) (G.1 + r, e) = wsl G I' L' A' n := by
  subst he
  induction n with
  | zero => omega
  | succ n ih =>
    by_cases hn : r = n
    · subst hn
      have hsame : ∀ m, m ≤ r → wsl G I L A m = wsl G I' L' A' m := by
        intro m
        induction m with
        | zero => intro _; rfl
        | succ m im =>
          intro hm
          have h1 := im (by omega)
          by_cases h2 : G.2.2.2 m = 0
          · rw [wsl_no h2, wsl_no h2, h1]
          · rw [wsl_yes h2, wsl_yes h2, h1, h m (by omega)]
      rw [wsl_yes hk, wsl_yes hk, List.set_append_right _ _ (by rw [wsl_len]; exact Nat.le_refl _), wsl_len, Nat.sub_self, hsame r (Nat.le_refl _)]
      rfl
    · have h1 := ih (by omega)
      by_cases h2 : G.2.2.2 n = 0
      · rw [wsl_no h2, wsl_no h2, h1]
      · rw [wsl_yes h2, wsl_yes h2, List.set_append_left _ _ (List.getElem?_eq_some_iff.mp (wsl_at (I := I) (L := L) (A := A) (show r < n by omega) hk)).1, h1, h n (fun q => hn q.symm)]
theorem wsl_same {n : Nat} (h : ∀ r, r < n → ent G I' L' A' r (G.2.2.2 r) = ent G I L A r (G.2.2.2 r)) : wsl G I' L' A' n = wsl G I L A n := by
  induction n with
  | zero => rfl
  | succ n ih =>
    by_cases h2 : G.2.2.2 n = 0
    · rw [wsl_no h2, wsl_no h2, ih (fun r hr => h r (by omega))]
    · rw [wsl_yes h2, wsl_yes h2, ih (fun r hr => h r (by omega)), h n (by omega)]
theorem wsl_new {n : Nat} (hk : ¬ G.2.2.2 n = 0) (h : ∀ r, r < n → ent G I' L' A' r (G.2.2.2 r) = ent G I L A r (G.2.2.2 r)) {e : va_E} (he : e = ent G I' L' A' n (G.2.2.2 n)) : wsl G I L A n ++ [(G.1 + n, e)] = wsl G I' L' A' (n + 1) := by
  rw [wsl_yes hk, wsl_same h, he]
theorem wsl_skip {n n' : Nat} (hn : n ≤ n') (h : ∀ r, n ≤ r → G.2.2.2 r = 0) : wsl G I L A n' = wsl G I L A n := by
  induction n' with
  | zero => rw [Nat.le_zero.mp hn]
  | succ m ih =>
    by_cases hm : n = m + 1
    · rw [hm]
    · rw [wsl_no (h m (by omega)), ih (by omega)]
theorem flds_len (l : List (Nat × Nat)) : ∀ (j : Nat) (i : Nat → Int32) (a : Nat → Nat), (flds G l j i a).length = l.length := by
  induction l with
  | nil => intro j i a; rfl
  | cons q l ih => intro j i a; show (flds G l (j + 1) i a).length + 1 = _; rw [ih]; rfl
theorem flds_at (l : List (Nat × Nat)) : ∀ (j0 j : Nat) (i : Nat → Int32) (a : Nat → Nat) (q : Nat × Nat), l[j]? = some q → (flds G l j0 i a)[j]? = some (fv G q.1 q.2 (i (j0 + j)) (a (j0 + j))) := by
  induction l with
  | nil => intro j0 j i a q h; simp at h
  | cons x l ih =>
    intro j0 j i a q h
    cases j with
    | zero => rw [List.getElem?_cons_zero] at h; cases h; rfl
    | succ j =>
      rw [List.getElem?_cons_succ] at h
      have h1 := ih (j0 + 1) j i a q h
      show (flds G l (j0 + 1) i a)[j]? = _
      rw [h1, show j0 + 1 + j = j0 + (j + 1) by omega]
theorem flds_congr (l : List (Nat × Nat)) : ∀ (j0 : Nat) (i i' : Nat → Int32) (a a' : Nat → Nat), (∀ j, j0 ≤ j → i' j = i j ∧ a' j = a j) → flds G l j0 i' a' = flds G l j0 i a := by
  induction l with
  | nil => intro j0 i i' a a' h; rfl
  | cons x l ih =>
    intro j0 i i' a a' h
    show fv G x.1 x.2 (i' j0) (a' j0) :: _ = fv G x.1 x.2 (i j0) (a j0) :: _
    rw [(h j0 (Nat.le_refl _)).1, (h j0 (Nat.le_refl _)).2, ih (j0 + 1) i i' a a' (fun j hj => h j (by omega))]
theorem flds_set (l : List (Nat × Nat)) : ∀ (j0 j : Nat) (i i' : Nat → Int32) (a a' : Nat → Nat) (q : Nat × Nat) (v : Value), l[j]? = some q → (∀ j', ¬ j' = j0 + j → i' j' = i j' ∧ a' j' = a j') → v = fv G q.1 q.2 (i' (j0 + j)) (a' (j0 + j)) → (flds G l j0 i a).set j v = flds G l j0 i' a' := by
  induction l with
  | nil => intro j0 j i i' a a' q v h; simp at h
  | cons x l ih =>
    intro j0 j i i' a a' q v h hs hv
    cases j with
    | zero =>
      rw [List.getElem?_cons_zero] at h; cases h
      show v :: flds G l (j0 + 1) i a = fv G x.1 x.2 (i' j0) (a' j0) :: flds G l (j0 + 1) i' a'
      rw [hv, flds_congr l (j0 + 1) i i' a a' (fun j hj => hs j (by omega))]; rfl
    | succ j =>
      rw [List.getElem?_cons_succ] at h
      show fv G x.1 x.2 (i j0) (a j0) :: (flds G l (j0 + 1) i a).set j v = fv G x.1 x.2 (i' j0) (a' j0) :: flds G l (j0 + 1) i' a'
      rw [ih (j0 + 1) j i i' a a' q v h (fun j' hj => hs j' (by omega)) (by rw [hv, show j0 + 1 + j = j0 + (j + 1) by omega]), (hs j0 (by omega)).1, (hs j0 (by omega)).2]
end
