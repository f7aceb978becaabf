/-! THE START, 8: reading the rows -/
theorem trG_set' {α : Type} (d : α) (f p q : Nat) (x : α) (t : Tr α) {N : Nat} (hN : 2 ^ f = N) (hp : p + 1 < N) (hq : q + 1 < N) : trG d f (q + 1) (trS d f (p + 1) x t) = if q = p then x else trG d f (q + 1) t := by
  rw [trG_set d f (p + 1) (q + 1) x t (by omega) (by omega) (by omega) (by omega)]
  by_cases e : q = p
  · rw [if_pos e, if_pos (by omega)]
  · rw [if_neg e, if_neg (by omega)]
theorem bRow_get {α : Type} (z : α) (g : Nat → α) : ∀ (l : List Nat) (k : Nat) (t : Tr α) (j : Nat), k + l.length < 65535 → j < 65535 → trG z 16 (j + 1) (bRow z g l k t) = if k ≤ j then (match l.getD (j - k) 0 with | 0 => trG z 16 (j + 1) t | v + 1 => g v) else trG z 16 (j + 1) t
  | [], k, t, j, h, hj => by
    show trG z 16 (j + 1) t = _
    split <;> rfl
  | 0 :: l, k, t, j, h, hj => by
    have h' : k + (l.length + 1) < 65535 := h
    show trG z 16 (j + 1) (bRow z g l (k + 1) t) = _
    rw [bRow_get z g l (k + 1) t j (by omega) hj]
    by_cases c : k + 1 ≤ j
    · rw [if_pos c, if_pos (by omega)]
      obtain ⟨m, rfl⟩ := Nat.exists_eq_add_of_le c
      rw [show k + 1 + m - (k + 1) = m by omega, show k + 1 + m - k = m + 1 by omega]
      rfl
    · rw [if_neg c]
      by_cases c2 : k ≤ j
      · rw [if_pos c2, show j - k = 0 by omega]; rfl
      · rw [if_neg c2]
  | (v + 1) :: l, k, t, j, h, hj => by
    have h' : k + (l.length + 1) < 65535 := h
    show trG z 16 (j + 1) (bRow z g l (k + 1) (trS z 16 (k + 1) (g v) t)) = _
    rw [bRow_get z g l (k + 1) _ j (by omega) hj, trG_set' z 16 k j (g v) t (N := 65536) (by decide) (by omega) (by omega)]
    by_cases c : k + 1 ≤ j
    · rw [if_pos c, if_neg (show ¬ _ = _ by omega), if_pos (by omega)]
      obtain ⟨m, rfl⟩ := Nat.exists_eq_add_of_le c
      rw [show k + 1 + m - (k + 1) = m by omega, show k + 1 + m - k = m + 1 by omega]
      rfl
    · rw [if_neg c]
      by_cases c2 : k = j
      · rw [if_pos c2.symm, if_pos (by omega), show j - k = 0 by omega]; rfl
      · rw [if_neg (by omega), if_neg (by omega)]
theorem bHp_get {α : Type} (z : α) (g : Nat → α) : ∀ (l : List (List Nat)) (k : Nat) (T : Hp α) (r : Nat), k + l.length < 4095 → r < 4095 → trG .leaf 12 (r + 1) (bHp z g l k T) = if k ≤ r then (match l.getD (r - k) [] with | [] => trG .leaf 12 (r + 1) T | a :: b => bRow z g (a :: b) 0 .leaf) else trG .leaf 12 (r + 1) T
  | [], k, T, r, h, hr => by
    show trG .leaf 12 (r + 1) T = _
    split <;> rfl
  | [] :: l, k, T, r, h, hr => by
    have h' : k + (l.length + 1) < 4095 := h
    show trG .leaf 12 (r + 1) (bHp z g l (k + 1) T) = _
    rw [bHp_get z g l (k + 1) T r (by omega) hr]
    by_cases c : k + 1 ≤ r
    · rw [if_pos c, if_pos (by omega)]
      obtain ⟨m, rfl⟩ := Nat.exists_eq_add_of_le c
      rw [show k + 1 + m - (k + 1) = m by omega, show k + 1 + m - k = m + 1 by omega]
      rfl
    · rw [if_neg c]
      by_cases c2 : k ≤ r
      · rw [if_pos c2, show r - k = 0 by omega]; rfl
      · rw [if_neg c2]
  | (v :: w) :: l, k, T, r, h, hr => by
    have h' : k + (l.length + 1) < 4095 := h
    show trG .leaf 12 (r + 1) (bHp z g l (k + 1) (trS .leaf 12 (k + 1) (bRow z g (v :: w) 0 .leaf) T)) = _
    rw [bHp_get z g l (k + 1) _ r (by omega) hr, trG_set' (.leaf : Tr α) 12 k r _ T (N := 4096) (by decide) (by omega) (by omega)]
    by_cases c : k + 1 ≤ r
    · rw [if_pos c, if_neg (show ¬ _ = _ by omega), if_pos (by omega)]
      obtain ⟨m, rfl⟩ := Nat.exists_eq_add_of_le c
      rw [show k + 1 + m - (k + 1) = m by omega, show k + 1 + m - k = m + 1 by omega]
      rfl
    · rw [if_neg c]
      by_cases c2 : k = r
      · rw [if_pos c2.symm, if_pos (by omega), show r - k = 0 by omega]; rfl
      · rw [if_neg (by omega), if_neg (by omega)]
/-- a cell of rows of references, as the rows hold it -/
def rwV (l : List Nat) (j : Nat) : Nat := l.getD j 0 - 1
theorem hpG_row (l : List (List Nat)) (h : l.length < 4095) {r j : Nat} (hr : r < 2000) (hj : j < 30000) (hrow : (l.getD r []).length < 65535) : hpG 0 (hA9 l) r j = rwV (l.getD r []) j := by
  rw [hpG_in ⟨hr, hj⟩]
  show trG 0 16 (j + 1) (trG .leaf 12 (r + 1) (bHp 0 id l 0 .leaf)) = _
  rw [bHp_get 0 id l 0 .leaf r (by omega) (by omega), if_pos (Nat.zero_le _), Nat.sub_zero]
  unfold rwV
  cases e : l.getD r [] with
  | nil =>
    show trG 0 16 (j + 1) (trG .leaf 12 (r + 1) .leaf) = _
    rw [trG_e, trG_e]; rfl
  | cons a b =>
    rw [e] at hrow
    show trG 0 16 (j + 1) (bRow 0 id (a :: b) 0 .leaf) = _
    rw [bRow_get 0 id (a :: b) 0 .leaf j (by omega) (by omega), if_pos (Nat.zero_le _), Nat.sub_zero]
    cases e2 : (a :: b).getD j 0 with
    | zero => exact trG_e _ _ _
    | succ v => rfl
/-- two rows hold the same, up to 1 -/
def rwB : List Nat → List Nat → Bool
  | [], l => l.all fun a => Nat.beq a 0
  | e :: l, [] => Nat.ble e 1 && rwB l []
  | e :: l, a :: m => Nat.beq (e - 1) a && rwB l m
theorem rwB_s : ∀ (l m : List Nat), rwB l m = true → ∀ j, rwV l j = (match nth m j with | some a => a | none => 0)
  | [], m, h, j => by
    have h2 := List.all_eq_true.mp h
    show 0 = _
    cases e : nth m j with
    | none => rfl
    | some a =>
      have : a ∈ m := by
        clear h h2
        induction m generalizing j with
        | nil => cases e
        | cons x xs ih =>
          cases j with
          | zero => cases e; exact List.mem_cons_self
          | succ j => exact List.mem_cons_of_mem _ (ih j e)
      exact (Nat.eq_of_beq_eq_true (h2 a this)).symm
  | e :: l, [], h, j => by
    have h2 : (Nat.ble e 1 && rwB l []) = true := h
    rw [Bool.and_eq_true] at h2
    have h3 := Nat.le_of_ble_eq_true h2.1
    cases j with
    | zero => show e - 1 = 0; omega
    | succ j => exact (rwB_s l [] h2.2 j).trans (by cases j <;> rfl)
  | e :: l, a :: m, h, j => by
    have h2 : (Nat.beq (e - 1) a && rwB l m) = true := h
    rw [Bool.and_eq_true] at h2
    cases j with
    | zero => exact Nat.eq_of_beq_eq_true h2.1
    | succ j => exact rwB_s l m h2.2 j
def zaRw (r : Nat) : List Nat := match nth zaT (r / 32) with
  | some c => match nth c (r % 32) with
    | some l => l
    | none => []
  | none => []
theorem za_rw (r j : Nat) : za r j = (match nth (zaRw r) j with | some a => a | none => 0) := by
  unfold za zaRw
  cases nth zaT (r / 32) with
  | none => rfl
  | some c =>
    dsimp only
    cases nth c (r % 32) with
    | none => rfl
    | some l => rfl
