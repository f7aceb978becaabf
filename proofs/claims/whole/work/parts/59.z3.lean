/-! THE Z MACHINE, 3: what it says holds of the abstract machine -/
def zrel (Iz : ZI) (Lz : ZL) (I : HI) (L : HL) (A : HA) : Prop :=
  (∀ a (b : Nat), a ≠ 304 → a ≠ 578 → I a b = i3 (Iz a b)) ∧ (∀ a (b : Nat), L a b = Lz a b) ∧ (∀ a b, a ≠ 304 → a ≠ 578 → A a b = za a b) ∧ (∀ b : Nat, b < 8 → A 304 b = (Iz 304 b).toNat + 1) ∧ (∀ b : Nat, b < 701 → A 578 b = (Iz 578 b).toNat + 1)
def zlq (Q : ZQ) : AQ := fun o n I L A => ∃ oz Iz Lz, zo oz = o ∧ 644 ≤ n ∧ zrel Iz Lz I L A ∧ Q oz Iz Lz
def zloc : List ZV → List AV → Prop
  | [], [] => True
  | x :: xs, y :: ys => (x = zj ∨ zv x = y) ∧ zloc xs ys
  | _, _ => False
theorem zget_loc (ls : List ZV) : ∀ (ls' : List AV) (i : Nat), zloc ls ls' → zget ls i = zj ∨ zv (zget ls i) = lget ls' i := by
  induction ls with
  | nil => intro ls' i h; exact Or.inl rfl
  | cons x xs ih =>
    intro ls' i h
    cases ls' with
    | nil => exact h.elim
    | cons y ys => cases i with
      | zero => exact h.1
      | succ i => exact ih ys i h.2
theorem isW_zv (v : ZV) : isW (zv v).1 = isWz v := by cases v <;> rfl
theorem isW_i (v : ZV) (h : ∀ a, v ≠ .inl a → True) : isW (zv v).1 = isWz v := isW_zv v
theorem zset_loc (ls : List ZV) : ∀ (ls' : List AV) (i : Nat) (v : ZV) (k : List ZV → Prop), zloc ls ls' → zset ls i v k → ∃ r, k r ∧ zloc r (lset ls' i (zv v)) := by
  induction ls with
  | nil =>
    intro ls' i v k h hk
    cases ls' with
    | nil => exact ⟨[], hk, trivial⟩
    | cons y ys => exact h.elim
  | cons x xs ih =>
    intro ls' i v k h hk
    cases ls' with
    | nil => exact h.elim
    | cons y ys =>
      cases i with
      | zero =>
        simp only [zset] at hk
        simp only [lset, isW_zv]
        cases hw : isWz v with
        | false =>
          rw [hw] at hk
          exact ⟨_, hk, Or.inr rfl, h.2⟩
        | true =>
          rw [hw] at hk
          cases xs with
          | nil =>
            cases ys with
            | nil => exact ⟨_, hk, Or.inr rfl, trivial⟩
            | cons _ _ => exact h.2.elim
          | cons a xs =>
            cases ys with
            | nil => exact h.2.elim
            | cons b ys => exact ⟨_, hk, Or.inr rfl, Or.inl rfl, h.2.2⟩
      | succ i =>
        cases i with
        | zero =>
          obtain ⟨r, hr, hl⟩ := ih ys 0 v _ h.2 hk
          simp only [lset]
          rcases x with z | ⟨w, t⟩
          · refine ⟨_, hr, ?_, hl⟩
            rcases h.1 with e | e
            · cases e
            · rw [← e]; exact Or.inr rfl
          · rcases w with _ | _ | _ | _ | _ | a | _
            all_goals first
              | exact ⟨_, hr, Or.inl rfl, hl⟩
              | (refine ⟨_, hr, ?_, hl⟩
                 rcases h.1 with e | e
                 · cases e
                 · rw [← e]; exact Or.inr rfl)
        | succ j =>
          obtain ⟨r, hr, hl⟩ := ih ys (j + 1) v _ h.2 hk
          exact ⟨_, hr, h.1, hl⟩
theorem zkl_loc (ks : List Nat) (ls : List ZV) : ∀ (ls' : List AV) (i : Nat), zloc ls ls' → zloc (zkl ks ls i) ls' := by
  induction ls with
  | nil => intro ls' i h; exact h
  | cons x xs ih =>
    intro ls' i h
    cases ls' with
    | nil => exact h.elim
    | cons y ys =>
      refine ⟨?_, ih ys _ h.2⟩
      cases elm i ks
      · exact h.1
      · exact Or.inl rfl
theorem zent_loc (as : List ZV) : ∀ n, zloc (zent as n) (entL (as.map zv) n) := by
  induction as with
  | nil =>
    intro n
    show zloc (List.replicate n zj) (List.replicate n jk)
    induction n with
    | zero => trivial
    | succ n ih => exact ⟨Or.inl rfl, ih⟩
  | cons x xs ih =>
    intro n
    show zloc (bif isWz x then _ else _) (bif isW (zv x).1 then _ else _)
    rw [isW_zv]
    cases isWz x
    · exact ⟨Or.inr rfl, ih _⟩
    · exact ⟨Or.inr rfl, Or.inl rfl, ih _⟩
theorem zcat_eq (as : List ZV) : catS (as.map zv) = zcat as := by
  induction as with
  | nil => rfl
  | cons x xs ih =>
    show (bif isW (zv x).1 then 2 else 1) + catS (xs.map zv) = _
    rw [isW_zv, ih]
    rfl
theorem zspl_spl (n : Nat) : ∀ (st acc : List ZV) (k : List ZV → List ZV → Prop) (k' : List AV → List AV → Prop), (∀ a r, k a r → k' (a.map zv) (r.map zv)) → zspl n st acc k → spl n (st.map zv) (acc.map zv) k' := by
  induction n with
  | zero => intro st acc k k' hk h; exact hk _ _ h
  | succ n ih =>
    intro st acc k k' hk h
    cases st with
    | nil => exact h
    | cons x st => exact ih st (x :: acc) k k' hk h
theorem ztgs_tgs {k k' : Nat → Prop} (hk : ∀ t, k t → k' t) {x : Int} (hx : zR x) (ts : List Nat) : ∀ lo, ztgs x lo ts k → tgs (i3 x) lo ts k' := by
  induction ts with
  | nil => intro lo h; exact trivial
  | cons t ts ih => intro lo h; exact ⟨fun e => hk _ (h.1 (by rw [← i3_toInt hx, e])), ih _ h.2⟩
theorem zrel_v2 {Iz : ZI} {Lz : ZL} {I : HI} {L : HL} {A : HA} (h : zrel Iz Lz I L A) {r : Nat} {i : Int} {j : Nat} {x : Int} (hi : i = (j : Int)) (h1 : r ≠ 304) (h2 : r ≠ 578) : zrel (v2 Iz r i x) Lz (u2 I r j (i3 x)) L A := by
  subst hi
  refine ⟨fun a b ha hb => ?_, h.2.1, h.2.2.1, fun b hb => ?_, fun b hb => ?_⟩
  · show (if a = r then u1 (I r) j (i3 x) else I a) b = i3 (if a = r ∧ (b : Int) = (j : Int) then x else Iz a b)
    by_cases e : a = r
    · subst e
      rw [if_pos rfl]
      show (if b = j then i3 x else I a b) = _
      by_cases e2 : b = j
      · rw [if_pos e2, if_pos ⟨rfl, by rw [e2]⟩]
      · rw [if_neg e2, if_neg (fun c => e2 (by have := c.2; omega))]
        exact h.1 a b ha hb
    · rw [if_neg e, if_neg (fun c => e c.1)]
      exact h.1 a b ha hb
  · show _ = (if 304 = r ∧ (b : Int) = (j : Int) then x else Iz 304 b).toNat + 1
    rw [if_neg (fun c => h1 c.1.symm)]
    exact h.2.2.2.1 b hb
  · show _ = (if 578 = r ∧ (b : Int) = (j : Int) then x else Iz 578 b).toNat + 1
    rw [if_neg (fun c => h2 c.1.symm)]
    exact h.2.2.2.2 b hb
theorem zrel_w2 {Iz : ZI} {Lz : ZL} {I : HI} {L : HL} {A : HA} (h : zrel Iz Lz I L A) {r : Nat} {i : Int} {j : Nat} {x : Int64} (hi : i = (j : Int)) : zrel Iz (w2 Lz r i x) I (u2 L r j x) A := by
  subst hi
  refine ⟨h.1, fun a b => ?_, h.2.2⟩
  show (if a = r then u1 (L r) j x else L a) b = (if a = r ∧ (b : Int) = (j : Int) then x else Lz a b)
  by_cases e : a = r
  · subst e
    rw [if_pos rfl]
    show (if b = j then x else L a b) = _
    by_cases e2 : b = j
    · rw [if_pos e2, if_pos ⟨rfl, by rw [e2]⟩]
    · rw [if_neg e2, if_neg (fun c => e2 (by have := c.2; omega))]
      exact h.2.1 a b
  · rw [if_neg e, if_neg (fun c => e c.1)]
    exact h.2.1 a b
theorem zrel_d {Iz : ZI} {Lz : ZL} {I : HI} {L : HL} {A : HA} (h : zrel Iz Lz I L A) {r : Nat} {i : Int} {j x : Nat} (hi : i = (j : Int)) (hr : r = 304 ∨ r = 578) : zrel (v2 Iz r i x) Lz I L (u2 A r j (x + 1)) := by
  subst hi
  have key : ∀ a b, u2 A r j (x + 1) a b = if a = r ∧ b = j then x + 1 else A a b := by
    intro a b
    show (if a = r then u1 (A r) j (x + 1) else A a) b = _
    by_cases e : a = r
    · subst e
      rw [if_pos rfl]
      show (if b = j then x + 1 else A a b) = _
      by_cases e2 : b = j
      · rw [if_pos e2, if_pos ⟨rfl, e2⟩]
      · rw [if_neg e2, if_neg (fun c => e2 c.2)]
    · rw [if_neg e, if_neg (fun c => e c.1)]
  have dyn : ∀ (q b : Nat), A q b = (Iz q b).toNat + 1 → u2 A r j (x + 1) q b = (v2 Iz r j x q b).toNat + 1 := by
    intro q b hq
    rw [key]
    show _ = (if q = r ∧ (b : Int) = (j : Int) then (x : Int) else Iz q b).toNat + 1
    by_cases e : q = r ∧ b = j
    · rw [if_pos e, if_pos ⟨e.1, by rw [e.2]⟩]; rfl
    · rw [if_neg e, if_neg (fun c => e ⟨c.1, by have := c.2; omega⟩)]; exact hq
  refine ⟨fun a b ha hb => ?_, h.2.1, fun a b ha hb => ?_, fun b hb => dyn 304 b (h.2.2.2.1 b hb), fun b hb => dyn 578 b (h.2.2.2.2 b hb)⟩
  · show _ = i3 (if a = r ∧ (b : Int) = (j : Int) then (x : Int) else Iz a b)
    rw [if_neg (fun c => by rcases hr with e | e <;> omega)]
    exact h.1 a b ha hb
  · rw [key, if_neg (fun c => by rcases hr with e | e <;> omega)]
    exact h.2.2.1 a b ha hb
theorem zcpy_va {α : Type} {f g : Int → α} {f' g' : Nat → α} (hf : ∀ b : Nat, f' b = f b) (hg : ∀ b : Nat, g' b = g b) {p q l : Int} (hp : 0 ≤ p) (hq : 0 ≤ q) (hl : 0 ≤ l) (b : Nat) : va_cpy f' g' p.toNat q.toNat l.toNat b = zcpy f g p q l b := by
  show (if q.toNat ≤ b ∧ b < q.toNat + l.toNat then f' (p.toNat + (b - q.toNat)) else g' b) = (if q ≤ (b : Int) ∧ (b : Int) < q + l then f (p + ((b : Int) - q)) else g b)
  by_cases e : q ≤ (b : Int) ∧ (b : Int) < q + l
  · rw [if_pos e, if_pos ⟨by omega, by omega⟩, hf]
    congr 1
    omega
  · rw [if_neg e, if_neg (fun c => e ⟨by omega, by omega⟩), hg]
section
variable {X : Ext} {C : ZC} {Q : ZQ} {P : ZP} {C' : CT} {P' : PT}
set_option maxHeartbeats 4000000 in
theorem zst_stp (hC : ∀ k as mb I L (Q : ZQ), C k as mb I L Q → ∀ n I' L' A', 644 ≤ n → zrel I L I' L' A' → C' k (as.map zv) mb (8 * mb) n I' L' A' (zlq Q)) (hM : ∀ k as mc ms n I L A (Q Q' : AQ), (∀ o n I L A, Q o n I L A → Q' o n I L A) → C' k as mc ms n I L A Q → C' k as mc ms n I L A Q')
    (hP : ∀ pc ls st b I L, P pc ls st b I L → ∀ ls' n I' L' A', zloc ls ls' → 644 ≤ n → zrel I L I' L' A' → P' pc ls' (st.map zv) b (8 * b) n I' L' A')
    {ins : Instr} {nx : Nat} {sd : List Nat} {v : Value} {ls st : List ZV} {b : Nat} {I : ZI} {L : ZL} (hE : zE (ins, nx, sd, v) = true) (h : zst X C Q P ins nx sd v ls st b I L)
    {ls' : List AV} {n : Nat} {I' : HI} {L' : HL} {A' : HA} (hl : zloc ls ls') (hn : 644 ≤ n) (hr : zrel I L I' L' A') : stp X kdF C' (zlq Q) P' ins nx sd v ls' (st.map zv) b (8 * b) n I' L' A' := by
  have hQ : ∀ oz, Q oz I L → zlq Q (zo oz) n I' L' A' := fun oz c => ⟨oz, I, L, rfl, hn, hr, c⟩
  have hK : ∀ pc st, P pc ls st b I L → P' pc ls' (st.map zv) b (8 * b) n I' L' A' := fun pc st c => hP pc ls st b I L c ls' n I' L' A' hl hn hr
  cases ins
  case iconst i =>
    have e : v = .int (i3 i) := of_decide_eq_true hE
    subst e
    exact hK _ _ h
  case bipush i =>
    have e : v = .int (i3 i) := of_decide_eq_true hE
    subst e
    exact hK _ _ h
  case sipush i =>
    have e : v = .int (i3 i) := of_decide_eq_true hE
    subst e
    exact hK _ _ h
  case lconst i =>
    exact hK _ _ h
  case ldc2_w i =>
    exact hK _ _ h
  case fconst i =>
    exact hK _ _ h
  case ldc i =>
    simp only [zst] at h
    split at h
    · exact hK _ _ h
    · exact h.elim
  case ldc_w i =>
    simp only [zst] at h
    split at h
    · exact hK _ _ h
    · exact h.elim
  case iload i =>
    simp only [zst] at h
    split at h
    · rename_i j
      have hg := zget_loc ls ls' j hl
      split at h
      · rename_i e
        rw [e] at hg
        rcases hg with hg | hg
        · cases hg
        · simp only [stp, ← hg, zv]
          exact hK _ _ h
      · exact h.elim
    · exact h.elim
  case iload_n i =>
    simp only [zst] at h
    split at h
    · rename_i j
      have hg := zget_loc ls ls' j hl
      split at h
      · rename_i e
        rw [e] at hg
        rcases hg with hg | hg
        · cases hg
        · simp only [stp, ← hg, zv]
          exact hK _ _ h
      · exact h.elim
    · exact h.elim
  case lload i =>
    simp only [zst] at h
    split at h
    · rename_i j
      have hg := zget_loc ls ls' j hl
      split at h
      · rename_i e
        rw [e] at hg
        rcases hg with hg | hg
        · cases hg
        · simp only [stp, ← hg, zv]
          exact hK _ _ h
      · exact h.elim
    · exact h.elim
  case lload_n i =>
    simp only [zst] at h
    split at h
    · rename_i j
      have hg := zget_loc ls ls' j hl
      split at h
      · rename_i e
        rw [e] at hg
        rcases hg with hg | hg
        · cases hg
        · simp only [stp, ← hg, zv]
          exact hK _ _ h
      · exact h.elim
    · exact h.elim
  case dload i =>
    simp only [zst] at h
    split at h
    · rename_i j
      have hg := zget_loc ls ls' j hl
      split at h
      · rename_i e
        rw [e] at hg
        rcases hg with hg | hg
        · cases hg
        · simp only [stp, ← hg, zv]
          exact hK _ _ h
      · exact h.elim
    · exact h.elim
  case dload_n i =>
    simp only [zst] at h
    split at h
    · rename_i j
      have hg := zget_loc ls ls' j hl
      split at h
      · rename_i e
        rw [e] at hg
        rcases hg with hg | hg
        · cases hg
        · simp only [stp, ← hg, zv]
          exact hK _ _ h
      · exact h.elim
    · exact h.elim
  case aload i =>
    simp only [zst] at h
    split at h
    · rename_i j
      have hg := zget_loc ls ls' j hl
      split at h
      · rename_i e
        rw [e] at hg
        rcases hg with hg | hg
        · cases hg
        · simp only [stp, ← hg, zv]
          exact hK _ _ h
      · exact h.elim
    · exact h.elim
  case aload_n i =>
    simp only [zst] at h
    split at h
    · rename_i j
      have hg := zget_loc ls ls' j hl
      split at h
      · rename_i e
        rw [e] at hg
        rcases hg with hg | hg
        · cases hg
        · simp only [stp, ← hg, zv]
          exact hK _ _ h
      · exact h.elim
    · exact h.elim
  case istore i =>
    simp only [zst] at h
    split at h
    · obtain ⟨r, hr1, hr2⟩ := zset_loc ls ls' _ _ _ hl h
      simp only [stp, List.map, zv, frc_iff]
      exact hP _ _ _ _ _ _ hr1 _ _ _ _ _ hr2 hn hr
    · exact h.elim
  case istore_n i =>
    simp only [zst] at h
    split at h
    · obtain ⟨r, hr1, hr2⟩ := zset_loc ls ls' _ _ _ hl h
      simp only [stp, List.map, zv, frc_iff]
      exact hP _ _ _ _ _ _ hr1 _ _ _ _ _ hr2 hn hr
    · exact h.elim
  case lstore i =>
    simp only [zst] at h
    split at h
    · obtain ⟨r, hr1, hr2⟩ := zset_loc ls ls' _ _ _ hl h
      simp only [stp, List.map, zv, frc_iff]
      exact hP _ _ _ _ _ _ hr1 _ _ _ _ _ hr2 hn hr
    · exact h.elim
  case lstore_n i =>
    simp only [zst] at h
    split at h
    · obtain ⟨r, hr1, hr2⟩ := zset_loc ls ls' _ _ _ hl h
      simp only [stp, List.map, zv, frc_iff]
      exact hP _ _ _ _ _ _ hr1 _ _ _ _ _ hr2 hn hr
    · exact h.elim
  case dstore i =>
    simp only [zst] at h
    split at h
    · obtain ⟨r, hr1, hr2⟩ := zset_loc ls ls' _ _ _ hl h
      simp only [stp, List.map, zv, frc_iff]
      exact hP _ _ _ _ _ _ hr1 _ _ _ _ _ hr2 hn hr
    · exact h.elim
  case dstore_n i =>
    simp only [zst] at h
    split at h
    · obtain ⟨r, hr1, hr2⟩ := zset_loc ls ls' _ _ _ hl h
      simp only [stp, List.map, zv, frc_iff]
      exact hP _ _ _ _ _ _ hr1 _ _ _ _ _ hr2 hn hr
    · exact h.elim
  case astore i =>
    simp only [zst] at h
    split at h
    · obtain ⟨r, hr1, hr2⟩ := zset_loc ls ls' _ _ _ hl h
      simp only [stp, List.map, zv, frc_iff]
      exact hP _ _ _ _ _ _ hr1 _ _ _ _ _ hr2 hn hr
    · exact h.elim
  case astore_n i =>
    simp only [zst] at h
    split at h
    · obtain ⟨r, hr1, hr2⟩ := zset_loc ls ls' _ _ _ hl h
      simp only [stp, List.map, zv, frc_iff]
      exact hP _ _ _ _ _ _ hr1 _ _ _ _ _ hr2 hn hr
    · exact h.elim
  case iinc i c =>
    have e : v = .int (i3 c) := of_decide_eq_true hE
    subst e
    simp only [zst] at h
    split at h
    · rename_i j
      have hg := zget_loc ls ls' j hl
      split at h
      · rename_i x e
        rw [e] at hg
        rcases hg with hg | hg
        · cases hg
        · obtain ⟨r, hr1, hr2⟩ := zset_loc ls ls' _ _ _ hl h
          simp only [stp, ← hg, zv, frc_iff]
          simp only [zv, i3_add] at hr2
          exact hP _ _ _ _ _ _ hr1 _ _ _ _ _ hr2 hn hr
      · exact h.elim
    · exact h.elim
  case dup =>
    simp only [zst] at h
    split at h
    · rename_i x r
      simp only [stp, List.map, isW_zv]
      cases hw : isWz x
      · rw [hw] at h
        exact hK _ (x :: x :: r) h
      · rw [hw] at h; exact h.elim
    · exact h.elim
  case dup2 =>
    simp only [zst] at h
    split at h
    · rename_i x y r
      simp only [stp, List.map, isW_zv]
      cases hw : isWz x || isWz y
      · rw [hw] at h
        exact hK _ (x :: y :: x :: y :: r) h
      · rw [hw] at h; exact h.elim
    · exact h.elim
  case iadd =>
    simp only [zst] at h
    split at h
    · simp only [stp, List.map, zv, ← i3_add]
      exact hK _ _ h
    · exact h.elim
  case isub =>
    simp only [zst] at h
    split at h
    · simp only [stp, List.map, zv, ← i3_sub]
      exact hK _ _ h
    · exact h.elim
  case imul =>
    simp only [zst] at h
    split at h
    · simp only [stp, List.map, zv, ← i3_mul]
      exact hK _ _ h
    · exact h.elim
  case ineg =>
    simp only [zst] at h
    split at h
    · simp only [stp, List.map, zv, ← i3_neg]
      exact hK _ _ h
    · exact h.elim
  case idiv =>
    simp only [zst] at h
    split at h
    · rename_i y x r
      obtain ⟨⟨hx, h0, hy⟩, h⟩ := h
      simp only [stp, List.map, zv]
      refine ⟨fun c => ?_, ?_⟩
      · have := (i3_eq (x := y) (y := 0) ⟨by omega, hy⟩ zR0).mp c
        omega
      · rcases h with ⟨hx0, h⟩ | h
        · rw [i3_div hx h0 hy, Int.tdiv_eq_ediv_of_nonneg hx0]
          exact hK _ (.inl (x / y) :: r) h
        · rw [i3_div hx h0 hy]
          by_cases hm : x = -2147483648
          · have h1 : -2147483648 ≤ x.tdiv y ∧ x.tdiv y ≤ 2147483648 := by
              have h1 := Int.natAbs_tdiv_le_natAbs x y
              omega
            by_cases h2 : x.tdiv y = 2147483648
            · have h3 : (-(-x)).tdiv y = -((-x).tdiv y) := Int.neg_tdiv (-x) y
              rw [Int.neg_neg] at h3
              have h4 : (-x).tdiv y = (-x) / y := Int.tdiv_eq_ediv_of_nonneg (by omega)
              have h5 : 0 ≤ (-x) / y := Int.ediv_nonneg (by omega) (by omega)
              omega
            · exact hK _ (.inl (x.tdiv y) :: r) (h (x.tdiv y) h1.1 (by omega) (fun c => Int.tdiv_eq_ediv_of_nonneg c))
          · have h1 := tdiv_b hx h0 hm
            exact hK _ (.inl (x.tdiv y) :: r) (h (x.tdiv y) h1.1 h1.2 (fun c => Int.tdiv_eq_ediv_of_nonneg c))
    · exact h.elim
  case irem =>
    simp only [zst] at h
    split at h
    · rename_i y x r
      obtain ⟨⟨hx0, hx, h0, hy⟩, h⟩ := h
      simp only [stp, List.map, zv]
      refine ⟨fun c => ?_, ?_⟩
      · have := (i3_eq (x := y) (y := 0) ⟨by omega, hy⟩ zR0).mp c
        omega
      · rw [i3_mod hx0 hx h0 hy]
        exact hK _ (.inl (x % y) :: r) h
    · exact h.elim
  case iand =>
    simp only [zst] at h
    split at h
    · rename_i y x r
      have := hK _ (.inl (zand x y) :: r) h
      simp only [List.map, zv, zand, i3_of] at this
      simp only [stp, List.map, zv]
      exact this
    · exact h.elim
  case ior =>
    simp only [zst] at h
    split at h
    · rename_i y x r
      have := hK _ (.inl (zor x y) :: r) h
      simp only [List.map, zv, zor, i3_of] at this
      simp only [stp, List.map, zv]
      exact this
    · exact h.elim
  case ixor =>
    simp only [zst] at h
    split at h
    · rename_i y x r
      have := hK _ (.inl (zxor x y) :: r) h
      simp only [List.map, zv, zxor, i3_of] at this
      simp only [stp, List.map, zv]
      exact this
    · exact h.elim
  case ishl =>
    simp only [zst] at h
    split at h
    · rename_i y x r
      simp only [stp, List.map, zv]
      rw [i3_shl h.1.1 h.1.2]
      exact hK _ (.inl _ :: r) h.2
    · exact h.elim
  case ishr =>
    simp only [zst] at h
    split at h
    · rename_i y x r
      simp only [stp, List.map, zv]
      rw [i3_shr h.1.1 h.1.2.1 h.1.2.2]
      exact hK _ (.inl _ :: r) h.2
    · exact h.elim
  case iushr =>
    simp only [zst] at h
    split at h
    · rename_i y x r
      simp only [stp, List.map, zv]
      rw [i3_shu h.1.1 h.1.2]
      exact hK _ (.inl _ :: r) h.2
    · exact h.elim
  case ladd =>
    simp only [zst] at h
    split at h
    · simp only [stp, List.map, zv]
      exact hK _ _ h
    · exact h.elim
  case lsub =>
    simp only [zst] at h
    split at h
    · simp only [stp, List.map, zv]
      exact hK _ _ h
    · exact h.elim
  case lmul =>
    simp only [zst] at h
    split at h
    · simp only [stp, List.map, zv]
      exact hK _ _ h
    · exact h.elim
  case land =>
    simp only [zst] at h
    split at h
    · simp only [stp, List.map, zv]
      exact hK _ _ h
    · exact h.elim
  case lor =>
    simp only [zst] at h
    split at h
    · simp only [stp, List.map, zv]
      exact hK _ _ h
    · exact h.elim
  case lxor =>
    simp only [zst] at h
    split at h
    · simp only [stp, List.map, zv]
      exact hK _ _ h
    · exact h.elim
  case lneg =>
    simp only [zst] at h
    split at h
    · simp only [stp, List.map, zv]
      exact hK _ _ h
    · exact h.elim
  case lshl =>
    simp only [zst] at h
    split at h
    · simp only [stp, List.map, zv]
      rw [l6_shl h.1.1 h.1.2]
      exact hK _ (.inr (.long _, 0) :: _) h.2
    · exact h.elim
  case lushr =>
    simp only [zst] at h
    split at h
    · simp only [stp, List.map, zv]
      rw [l6_shr h.1.1 h.1.2]
      exact hK _ (.inr (.long _, 0) :: _) h.2
    · exact h.elim
  case i2l =>
    simp only [zst] at h
    split at h
    · simp only [stp, List.map, zv]
      rw [l6_of h.1]
      exact hK _ (.inr (.long _, 0) :: _) h.2
    · exact h.elim
  case l2i =>
    simp only [zst] at h
    split at h
    · have := hK _ _ h
      simp only [List.map, zv, i3_of] at this
      simp only [stp, List.map, zv]
      exact this
    · exact h.elim
  case i2b =>
    simp only [zst] at h
    split at h
    · simp only [stp, List.map, zv]
      rw [i3_byte]
      exact hK _ (.inl _ :: _) h
    · exact h.elim
  case i2d =>
    simp only [zst] at h
    split at h
    · simp only [stp, List.map, zv]
      exact hK _ _ h
    · exact h.elim
  case i2f =>
    simp only [zst] at h
    split at h
    · simp only [stp, List.map, zv]
      exact hK _ _ h
    · exact h.elim
  case f2d =>
    simp only [zst] at h
    split at h
    · simp only [stp, List.map, zv]
      exact ⟨h.1, hK _ (.inr _ :: _) h.2⟩
    · exact h.elim
  case fdiv =>
    simp only [zst] at h
    split at h
    · simp only [stp, List.map, zv]
      exact ⟨h.1, hK _ (.inr _ :: _) h.2⟩
    · exact h.elim
  case dmul =>
    simp only [zst] at h
    split at h
    · simp only [stp, List.map, zv]
      exact ⟨h.1, hK _ (.inr _ :: _) h.2⟩
    · exact h.elim
  case dadd =>
    simp only [zst] at h
    split at h
    · simp only [stp, List.map, zv]
      exact ⟨h.1, hK _ (.inr _ :: _) h.2⟩
    · exact h.elim
  case dcmp op =>
    simp only [zst] at h
    split at h
    · have := hK _ _ h
      simp only [List.map, zv, i3_of] at this
      simp only [stp, List.map, zv]
      exact this
    · exact h.elim
  case lcmp =>
    simp only [zst] at h
    split at h
    · rename_i y _ x _ r
      simp only [stp, List.map, zv]
      refine lcmp_tri (x := x) (y := y) (fun c => ?_) (fun c => ?_) (fun c => ?_)
      · rw [if_pos c]; exact hK _ (.inl (-1) :: r) (h.1 c)
      · rw [if_neg (by rw [c]; exact Int64.lt_irrefl), if_pos c]; exact hK _ (.inl 0 :: r) (h.2.1 c)
      · rw [if_neg (fun e => Int64.lt_asymm c e), if_neg (fun e => by rw [e] at c; exact Int64.lt_irrefl c)]; exact hK _ (.inl 1 :: r) (h.2.2 c)
    · exact h.elim
  case goto o =>
    simp only [zst] at h
    split at h
    · exact hK _ _ h
    · exact h.elim
  case ifCond c o =>
    simp only [zst] at h
    split at h
    · rename_i t x r
      simp only [stp, List.map, zv]
      cases c <;> simp only [] at h ⊢ <;> obtain ⟨hx, h1, h2⟩ := h <;> rw [i3_0]
      · exact ⟨fun c => hK _ r (h1 ((i3_eq hx zR0).mp c)), fun c => hK _ r (h2 (fun e => c ((i3_eq hx zR0).mpr e)))⟩
      · exact ⟨fun c => hK _ r (h1 (fun e => c ((i3_eq hx zR0).mpr e))), fun c => hK _ r (h2 ((i3_eq hx zR0).mp c))⟩
      · exact ⟨fun c => hK _ r (h1 ((i3_lt hx zR0).mp c)), fun c => hK _ r (h2 (Int.not_lt.mp (fun e => c ((i3_lt hx zR0).mpr e))))⟩
      · exact ⟨fun c => hK _ r (h1 ((i3_le zR0 hx).mp c)), fun c => hK _ r (h2 (Int.not_le.mp (fun e => c ((i3_le zR0 hx).mpr e))))⟩
      · exact ⟨fun c => hK _ r (h1 ((i3_lt zR0 hx).mp c)), fun c => hK _ r (h2 (Int.not_lt.mp (fun e => c ((i3_lt zR0 hx).mpr e))))⟩
      · exact ⟨fun c => hK _ r (h1 ((i3_le hx zR0).mp c)), fun c => hK _ r (h2 (Int.not_le.mp (fun e => c ((i3_le hx zR0).mpr e))))⟩
    · exact h.elim
  case if_icmp c o =>
    simp only [zst] at h
    split at h
    · rename_i t y x r
      simp only [stp, List.map, zv]
      cases c <;> simp only [] at h ⊢ <;> obtain ⟨⟨hx, hy⟩, h1, h2⟩ := h
      · exact ⟨fun c => hK _ r (h1 ((i3_eq hx hy).mp c)), fun c => hK _ r (h2 (fun e => c ((i3_eq hx hy).mpr e)))⟩
      · exact ⟨fun c => hK _ r (h1 (fun e => c ((i3_eq hx hy).mpr e))), fun c => hK _ r (h2 ((i3_eq hx hy).mp c))⟩
      · exact ⟨fun c => hK _ r (h1 ((i3_lt hx hy).mp c)), fun c => hK _ r (h2 (Int.not_lt.mp (fun e => c ((i3_lt hx hy).mpr e))))⟩
      · exact ⟨fun c => hK _ r (h1 ((i3_le hy hx).mp c)), fun c => hK _ r (h2 (Int.not_le.mp (fun e => c ((i3_le hy hx).mpr e))))⟩
      · exact ⟨fun c => hK _ r (h1 ((i3_lt hy hx).mp c)), fun c => hK _ r (h2 (Int.not_lt.mp (fun e => c ((i3_lt hy hx).mpr e))))⟩
      · exact ⟨fun c => hK _ r (h1 ((i3_le hx hy).mp c)), fun c => hK _ r (h2 (Int.not_le.mp (fun e => c ((i3_le hx hy).mpr e))))⟩
    · exact h.elim
  case if_acmp c o =>
    simp only [zst] at h
    split at h
    · rename_i t y ty x tx r
      simp only [stp, List.map, zv]
      cases hb : (Nat.beq tx 10 && Nat.beq ty 10)
      · rw [hb] at h; exact h.elim
      · rw [hb] at h
        cases c
        · exact ⟨fun c => hK _ r (h.1 c), fun c => hK _ r (h.2 c)⟩
        · exact ⟨fun c => hK _ r (h.1 c), fun c => hK _ r (h.2 c)⟩
    · exact h.elim
  case tableswitch d lo hi os =>
    have e : lo = tlo v := of_decide_eq_true hE
    simp only [zst] at h
    split at h
    · rename_i d m ts x r
      simp only [stp, List.map, zv]
      obtain ⟨hx, h1, h2⟩ := h
      rw [i3_toInt hx, ← e]
      exact ⟨fun c => hK _ r (h1 c), ztgs_tgs (fun t c => hK _ r c) hx ts lo h2⟩
    · exact h.elim
  case getstatic i =>
    simp only [zst] at h
    split at h
    · exact hK _ _ h
    · exact h.elim
  case getfield i =>
    simp only [zst] at h
    split at h
    · rename_i c j y ft r t rest
      simp only [stp, List.map, zv]
      cases hb : Nat.beq t (kObj c)
      · rw [hb] at h; exact h.elim
      · rw [hb] at h
        simp only [cond_true] at h ⊢
        split at h
        · have h2 := (zfj_iff _ _).mp h.2
          simp only []
          rw [hr.1 r j h.1.1 h.1.2]
          exact hK _ (.inl (I r j) :: rest) h2
        · obtain ⟨h1, a, ha, h2⟩ := h
          simp only []
          rw [hr.2.2.1 r j h1.1 h1.2, ha]
          exact hK _ (.inr (.ref a, ft) :: rest) h2
        · have := hK _ _ h
          simp only [List.map, zv, i3_of] at this
          exact this
        · exact hK _ (.inr (.ref _, 20) :: rest) h
        · exact h.elim
    · exact h.elim
  case putfield i =>
    simp only [zst] at h
    split at h
    · rename_i c j y ft w r t rest
      simp only [stp, List.map, zv]
      cases hb : Nat.beq t (kObj c)
      · rw [hb] at h; exact h.elim
      · rw [hb] at h
        simp only [cond_true] at h ⊢
        split at h
        · have h2 := (zfj_iff _ _).mp h.2
          exact hP _ _ _ _ _ _ h2 _ _ _ _ _ hl hn (zrel_v2 hr rfl h.1.1 h.1.2)
        · have h2 := (zfj_iff _ _).mp h.2
          refine ⟨?_, hP _ _ _ _ _ _ h2 _ _ _ _ _ hl hn (zrel_v2 hr rfl h.1.1 h.1.2.1)⟩
          rcases h.1.2.2 with e | e <;> rw [e]
          · exact Or.inl rfl
          · exact Or.inr rfl
        · exact h.elim
    · exact h.elim
  case arraylength =>
    simp only [zst] at h
    split at h
    · rename_i r t rest
      simp only [stp, List.map, zv]
      split at h
      · rename_i e
        rw [e]
        simp only []
        rw [← Int32.ofInt_eq_ofNat]
        exact hK _ (.inl _ :: rest) h
      · exact h.elim
      · rename_i h8 h0
        split
        · rename_i e; exact (h8 e).elim
        · rename_i e; exact (h0 e).elim
        · rw [← Int32.ofInt_eq_ofNat]
          exact hK _ (.inl _ :: rest) h
    · exact h.elim
  case iaload =>
    simp only [zst] at h
    split at h
    · rename_i i r t rest
      simp only [stp, List.map, zv]
      split at h
      · rename_i e
        rw [e]
        simp only []
        obtain ⟨h1, h2, h3⟩ := h
        have h4 : ((t % 10000 : Nat) : Int) ≤ 10000 := by omega
        obtain ⟨hb, hc⟩ := i3_inb (n := kLen t) h1.1 h1.2 (by omega)
        refine ⟨hb, ?_⟩
        rw [hr.1 _ _ h2.1 h2.2, hc]
        exact hK _ (.inl (I r i) :: rest) h3
      · rename_i e
        rw [e]
        simp only []
        obtain ⟨h1, h3⟩ := h
        have h4 : ((t % 10000 : Nat) : Int) ≤ 10000 := by omega
        obtain ⟨hb, hc⟩ := i3_inb (n := kLen t) h1.1 h1.2 (by omega)
        refine ⟨hb, ?_⟩
        have := hK _ _ h3
        simp only [List.map, zv, zs, i3_of] at this
        rw [i3_clamp h1.1 (by omega)]
        exact this
      · rename_i e
        rw [e]
        simp only []
        obtain ⟨h1, h3⟩ := h
        obtain ⟨hb, hc⟩ := i3_inb (n := X.2.2.2.2.2) h1.1 h1.2.1 h1.2.2
        refine ⟨hb, ?_⟩
        have := hK _ _ h3
        simp only [List.map, zv, zs, i3_of] at this
        rw [i3_clamp h1.1 h1.2.2]
        exact this
      · exact h.elim
    · exact h.elim
  case baload =>
    simp only [zst] at h
    split at h
    · rename_i i r t rest
      simp only [stp, List.map, zv]
      split at h
      all_goals first | exact h.elim | skip
      all_goals
        rename_i e
        rw [e]
        simp only []
        obtain ⟨h1, h2, h3⟩ := h
        have h4 : ((t % 10000 : Nat) : Int) ≤ 10000 := by omega
        obtain ⟨hb, hc⟩ := i3_inb (n := kLen t) h1.1 h1.2 (by omega)
        refine ⟨hb, ?_⟩
        rw [hr.1 _ _ h2.1 h2.2, hc]
        exact hK _ (.inl (I r i) :: rest) h3
    · exact h.elim
  case laload =>
    simp only [zst] at h
    split at h
    · rename_i i r t rest
      simp only [stp, List.map, zv]
      split at h
      · rename_i e
        rw [e]
        simp only []
        obtain ⟨h1, h3⟩ := h
        have h4 : ((t % 10000 : Nat) : Int) ≤ 10000 := by omega
        obtain ⟨hb, hc⟩ := i3_inb (n := kLen t) h1.1 h1.2 (by omega)
        refine ⟨hb, ?_⟩
        rw [hr.2.1, hc]
        exact hK _ (.inr (.long (L r i), 0) :: rest) h3
      · exact h.elim
    · exact h.elim
  case aaload =>
    simp only [zst] at h
    split at h
    · rename_i i r t rest
      simp only [stp, List.map, zv]
      cases hb7 : Nat.beq (kSort t) 7
      · rw [hb7] at h
        simp only [cond_false] at h ⊢
        cases h18 : Nat.beq t 180008
        · rw [h18] at h
          simp only [cond_false] at h
          cases h19 : Nat.beq t 190701
          · rw [h19] at h
            simp only [cond_false] at h
            cases h10 : Nat.ble 10 (kSort t)
            · rw [h10] at h; exact h.elim
            · rw [h10] at h
              obtain ⟨h1, h2, a, ha, h3⟩ := h
              have h4 : ((t % 10000 : Nat) : Int) ≤ 10000 := by omega
              obtain ⟨hb, hc⟩ := i3_inb (n := kLen t) h1.1 h1.2 (by omega)
              refine ⟨hb, ?_⟩
              rw [hr.2.2.1 _ _ h2.1 h2.2, i3_clamp h1.1 (by omega), ha]
              exact hK _ (.inr (.ref a, _) :: rest) h3
          · rw [h19] at h
            obtain ⟨⟨h0, h1, h2⟩, h3⟩ := h
            have e := Nat.eq_of_beq_eq_true h19
            subst e
            obtain ⟨hb, hc⟩ := i3_inb (n := kLen 190701) h1 h2 (by omega)
            refine ⟨hb, ?_⟩
            have e1 : A' r (i3 i).toNatClampNeg = (I r i).toNat + 1 := by
              rw [h0, hr.2.2.2.2 _ hb.2, hc]
            show match A' r (i3 i).toNatClampNeg with | 0 => False | a + 1 => _
            rw [e1]
            exact hK _ (.inr (.ref _, 10) :: rest) h3
        · rw [h18] at h
          obtain ⟨⟨h0, h1, h2⟩, h3⟩ := h
          have e := Nat.eq_of_beq_eq_true h18
          subst e
          obtain ⟨hb, hc⟩ := i3_inb (n := kLen 180008) h1 h2 (by omega)
          refine ⟨hb, ?_⟩
          have e1 : A' r (i3 i).toNatClampNeg = (I r i).toNat + 1 := by
            rw [h0, hr.2.2.2.1 _ hb.2, hc]
          show match A' r (i3 i).toNatClampNeg with | 0 => False | a + 1 => _
          rw [e1]
          exact hK _ (.inr (.ref _, 9) :: rest) h3
      · rw [hb7] at h
        obtain ⟨h1, h3⟩ := h
        have h4 : ((t % 10000 : Nat) : Int) ≤ 10000 := by omega
        obtain ⟨hb, hc⟩ := i3_inb (n := kLen t) h1.1 h1.2 (by omega)
        refine ⟨hb, ?_⟩
        rw [i3_clamp h1.1 (by omega)]
        exact hK _ (.inr (.ref _, 10) :: rest) h3
    · exact h.elim
  case iastore =>
    simp only [zst] at h
    split at h
    · rename_i x i r t rest
      simp only [stp, List.map, zv]
      split at h
      · rename_i e
        rw [e]
        simp only []
        obtain ⟨h1, h2, h3⟩ := h
        have h4 : ((t % 10000 : Nat) : Int) ≤ 10000 := by omega
        obtain ⟨hb, hc⟩ := i3_inb (n := kLen t) h1.1 h1.2 (by omega)
        exact ⟨hb, hP _ _ _ _ _ _ h3 _ _ _ _ _ hl hn (zrel_v2 hr hc.symm h2.1 h2.2)⟩
      · exact h.elim
    · exact h.elim
  case bastore =>
    simp only [zst] at h
    split at h
    · rename_i x i r t rest
      simp only [stp, List.map, zv]
      split at h
      · rename_i e
        rw [e]
        simp only []
        obtain ⟨h1, h2, h3⟩ := h
        have h4 : ((t % 10000 : Nat) : Int) ≤ 10000 := by omega
        obtain ⟨hb, hc⟩ := i3_inb (n := kLen t) h1.1 h1.2 (by omega)
        refine ⟨hb, ?_, hP _ _ _ _ _ _ h3 _ _ _ _ _ hl hn (zrel_v2 hr hc.symm h2.1 h2.2.1)⟩
        rcases h2.2.2 with e | e <;> rw [e]
        · exact Or.inl rfl
        · exact Or.inr rfl
      · rename_i e
        rw [e]
        simp only []
        obtain ⟨h1, h2, h3⟩ := h
        have h4 : ((t % 10000 : Nat) : Int) ≤ 10000 := by omega
        obtain ⟨hb, hc⟩ := i3_inb (n := kLen t) h1.1 h1.2 (by omega)
        refine ⟨hb, ?_, hP _ _ _ _ _ _ h3 _ _ _ _ _ hl hn (zrel_v2 hr hc.symm h2.1 h2.2.1)⟩
        rw [i3_byte, Int.emod_eq_of_lt (by omega) (by omega)]
        congr 1
        omega
      · exact h.elim
    · exact h.elim
  case lastore =>
    simp only [zst] at h
    split at h
    · rename_i x _ i r t rest
      simp only [stp, List.map, zv]
      split at h
      · rename_i e
        rw [e]
        simp only []
        obtain ⟨h1, h3⟩ := h
        have h4 : ((t % 10000 : Nat) : Int) ≤ 10000 := by omega
        obtain ⟨hb, hc⟩ := i3_inb (n := kLen t) h1.1 h1.2 (by omega)
        exact ⟨hb, hP _ _ _ _ _ _ h3 _ _ _ _ _ hl hn (zrel_w2 hr hc.symm)⟩
      · exact h.elim
    · exact h.elim
  case aastore =>
    simp only [zst] at h
    split at h
    · rename_i x tx i r t rest
      simp only [stp, List.map, zv]
      cases h18 : (Nat.beq t 180008 && Nat.beq tx 9)
      · rw [h18] at h
        simp only [cond_false] at h
        cases h19 : (Nat.beq t 190701 && Nat.beq tx 10)
        · rw [h19] at h; exact h.elim
        · rw [h19] at h
          obtain ⟨⟨h0, h1, h2⟩, h3⟩ := h
          obtain ⟨e1, e2⟩ := Bool.and_eq_true_iff.mp h19
          have e := Nat.eq_of_beq_eq_true e1
          subst e
          have e := Nat.eq_of_beq_eq_true e2
          subst e
          obtain ⟨hb, hc⟩ := i3_inb (n := kLen 190701) h1 h2 (by omega)
          exact ⟨hb, hP _ _ _ _ _ _ h3 _ _ _ _ _ hl hn (zrel_d hr hc.symm (Or.inr h0))⟩
      · rw [h18] at h
        obtain ⟨⟨h0, h1, h2⟩, h3⟩ := h
        obtain ⟨e1, e2⟩ := Bool.and_eq_true_iff.mp h18
        have e := Nat.eq_of_beq_eq_true e1
        subst e
        have e := Nat.eq_of_beq_eq_true e2
        subst e
        obtain ⟨hb, hc⟩ := i3_inb (n := kLen 180008) h1 h2 (by omega)
        exact ⟨hb, hP _ _ _ _ _ _ h3 _ _ _ _ _ hl hn (zrel_d hr hc.symm (Or.inl h0))⟩
    · exact h.elim
  case new i =>
    simp only [zst] at h
    split at h
    · rename_i e
      simp only [stp, zcat_eq]
      cases hb : Nat.ble (zcat st) 8
      · rw [hb] at h; exact h.elim
      · rw [hb] at h
        exact ⟨h.1, by have := h.1; omega, kdF_out hn, fun n' hn' => ⟨.inr e, I, L, rfl, by omega, hr, h.2⟩⟩
    · exact h.elim
  case invokevirtual i =>
    simp only [zst] at h
    split at h
    · split at h
      · rename_i a t rest
        simp only [stp, List.map, zv, zcat_eq]
        cases hb : Nat.ble (zcat rest) 8
        · rw [hb] at h; exact h.elim
        · rw [hb] at h; exact hK _ rest h
      · exact h.elim
    · split at h
      · rename_i l q b2 tb p a ta rest
        simp only [stp, List.map, zv, zcat_eq]
        cases hb : Nat.ble (zcat rest) 8
        · rw [hb] at h; exact h.elim
        · rw [hb] at h
          simp only [cond_true] at h ⊢
          obtain ⟨⟨⟨hp, hq, hl0, h1, h2⟩, d1, d2, d3, d4⟩, h⟩ := h
          have h3 : ((ta % 10000 : Nat) : Int) ≤ 10000 := by omega
          have h4 : ((tb % 10000 : Nat) : Int) ≤ 10000 := by omega
          have h5 : ((kLen ta : Nat) : Int) = ((ta % 10000 : Nat) : Int) := rfl
          have h6 : ((kLen tb : Nat) : Int) = ((tb % 10000 : Nat) : Int) := rfl
          rw [i3_clamp hp (by omega), i3_clamp hq (by omega), i3_clamp hl0 (by omega), i3_0]
          refine ⟨(i3_le zR0 ⟨by omega, by omega⟩).mpr hp, (i3_le zR0 ⟨by omega, by omega⟩).mpr hq, (i3_le zR0 ⟨by omega, by omega⟩).mpr hl0, by omega, by omega, ?_⟩
          split at h
          · rename_i e1 e2
            rw [e1, e2]
            refine hP _ _ _ _ _ _ h _ _ _ _ _ hl hn ⟨fun x y hx hy => ?_, hr.2.1, hr.2.2.1, fun y hy => ?_, fun y hy => ?_⟩
            · show (if x = b2 then _ else I' x) y = i3 ((if x = b2 then _ else I x) (y : Int))
              by_cases e : x = b2
              · rw [if_pos e, if_pos e]
                rw [zcpy_va (f := fun z => i3 (I a z)) (g := fun z => i3 (I b2 z)) (fun z => hr.1 a z d1 d2) (fun z => hr.1 b2 z d3 d4) hp hq hl0 y]
                show (if _ then _ else _) = i3 (if _ then _ else _)
                split <;> rfl
              · rw [if_neg e, if_neg e]; exact hr.1 x y hx hy
            · show _ = ((if 304 = b2 then _ else I 304) (y : Int)).toNat + 1
              rw [if_neg (fun e => d3 e.symm)]; exact hr.2.2.2.1 y hy
            · show _ = ((if 578 = b2 then _ else I 578) (y : Int)).toNat + 1
              rw [if_neg (fun e => d4 e.symm)]; exact hr.2.2.2.2 y hy
          · rename_i e1 e2
            rw [e1, e2]
            refine hP _ _ _ _ _ _ h _ _ _ _ _ hl hn ⟨hr.1, fun x y => ?_, hr.2.2⟩
            show (if x = b2 then _ else L' x) y = (if x = b2 then _ else L x) (y : Int)
            by_cases e : x = b2
            · rw [if_pos e, if_pos e]
              exact zcpy_va (fun z => hr.2.1 a z) (fun z => hr.2.1 b2 z) hp hq hl0 y
            · rw [if_neg e, if_neg e]; exact hr.2.1 x y
          · exact h.elim
      · exact h.elim
    · split at h
      · rename_i r t rest
        simp only [stp, List.map, zv, zcat_eq]
        cases hb : (Nat.beq t 20 && Nat.ble (zcat rest) 8)
        · rw [hb] at h; exact h.elim
        · rw [hb] at h
          rw [← Int32.ofInt_eq_ofNat]
          exact hK _ (.inl _ :: rest) h
      · exact h.elim
    · split at h
      · rename_i i r t rest
        simp only [stp, List.map, zv, zcat_eq]
        cases hb : (Nat.beq t 20 && Nat.ble (zcat rest) 8)
        · rw [hb] at h; exact h.elim
        · rw [hb] at h
          obtain ⟨h1, h3⟩ := h
          obtain ⟨hb, hc⟩ := i3_inb h1.1 h1.2.1 h1.2.2
          refine ⟨hb, ?_⟩
          have := hK _ _ h3
          simp only [List.map, zv, i3_of] at this
          rw [i3_clamp h1.1 h1.2.2]
          exact this
      · exact h.elim
    · split at h
      · rename_i x rest
        simp only [stp, List.map, zv, zcat_eq]
        cases hb : Nat.ble (zcat rest) 8
        · rw [hb] at h; exact h.elim
        · rw [hb] at h
          simp only [cond_true] at h ⊢
          have := hK _ _ h.2
          simp only [List.map, zv] at this
          rw [i3_0]
          by_cases e : 0 ≤ x
          · rw [if_pos ((i3_le zR0 h.1).mpr e)]
            rw [if_pos e] at this
            exact this
          · rw [if_neg (fun c => e ((i3_le zR0 h.1).mp c)), ← i3_sub, Int.zero_sub]
            rw [if_neg e] at this
            exact this
      · exact h.elim
    · split at h
      · rename_i y x rest
        simp only [stp, List.map, zv, zcat_eq]
        cases hb : Nat.ble (zcat rest) 8
        · rw [hb] at h; exact h.elim
        · rw [hb] at h
          simp only [cond_true] at h ⊢
          have := hK _ _ h.2
          simp only [List.map, zv] at this
          by_cases e : x < y
          · rw [if_pos ((i3_lt h.1.1 h.1.2).mpr e)]
            rw [Int.max_eq_right (by omega)] at this
            exact this
          · rw [if_neg (fun c => e ((i3_lt h.1.1 h.1.2).mp c))]
            rw [Int.max_eq_left (by omega)] at this
            exact this
      · exact h.elim
    · split at h
      · rename_i y x rest
        simp only [stp, List.map, zv, zcat_eq]
        cases hb : Nat.ble (zcat rest) 8
        · rw [hb] at h; exact h.elim
        · rw [hb] at h
          simp only [cond_true] at h ⊢
          have := hK _ _ h.2
          simp only [List.map, zv] at this
          by_cases e : y < x
          · rw [if_pos ((i3_lt h.1.2 h.1.1).mpr e)]
            rw [Int.min_eq_right (by omega)] at this
            exact this
          · rw [if_neg (fun c => e ((i3_lt h.1.2 h.1.1).mp c))]
            rw [Int.min_eq_left (by omega)] at this
            exact this
      · exact h.elim
    · rename_i k na hs d1 d2 d3 d4 d5 d6 d7
      simp only [stp]
      refine zspl_spl na st [] _ _ (fun as rest hz => ?_) h
      rw [zcat_eq]
      cases hb : Nat.ble (zcat rest) 8
      · rw [hb] at hz; exact hz.elim
      · rw [hb] at hz
        obtain ⟨mb, hmb, hz⟩ := hz
        refine ⟨mb, 8 * mb, hmb, by omega, hM _ _ _ _ _ _ _ _ _ _ (fun o n2 I2 L2 A2 hq => ?_) (hC _ _ _ _ _ _ hz n I' L' A' hn hr)⟩
        obtain ⟨oz, Iz, Lz, ho, hn2, hr2, hq⟩ := hq
        subst ho
        rw [← Nat.mul_sub]
        rcases oz with (_ | w) | e
        · exact hP _ _ _ _ _ _ hq _ _ _ _ _ hl hn2 hr2
        · exact hP _ _ _ _ _ _ hq _ _ _ _ _ hl hn2 hr2
        · simp only [zback] at hq
          simp only [zo, back]
          cases hf : hfind hs e with
          | none => rw [hf] at hq; exact ⟨.inr e, Iz, Lz, rfl, hn2, hr2, hq⟩
          | some tj =>
            rw [hf] at hq
            simp only [frc_iff] at hq ⊢
            obtain ⟨r, hr3, hr4⟩ := zset_loc ls ls' _ _ _ hl hq
            exact hP _ _ _ _ _ _ hr3 _ _ _ _ _ hr4 hn2 hr2
    · exact h.elim
  case invokestatic i =>
    simp only [zst] at h
    split at h
    · split at h
      · rename_i a t rest
        simp only [stp, List.map, zv, zcat_eq]
        cases hb : Nat.ble (zcat rest) 8
        · rw [hb] at h; exact h.elim
        · rw [hb] at h; exact hK _ rest h
      · exact h.elim
    · split at h
      · rename_i l q b2 tb p a ta rest
        simp only [stp, List.map, zv, zcat_eq]
        cases hb : Nat.ble (zcat rest) 8
        · rw [hb] at h; exact h.elim
        · rw [hb] at h
          simp only [cond_true] at h ⊢
          obtain ⟨⟨⟨hp, hq, hl0, h1, h2⟩, d1, d2, d3, d4⟩, h⟩ := h
          have h3 : ((ta % 10000 : Nat) : Int) ≤ 10000 := by omega
          have h4 : ((tb % 10000 : Nat) : Int) ≤ 10000 := by omega
          have h5 : ((kLen ta : Nat) : Int) = ((ta % 10000 : Nat) : Int) := rfl
          have h6 : ((kLen tb : Nat) : Int) = ((tb % 10000 : Nat) : Int) := rfl
          rw [i3_clamp hp (by omega), i3_clamp hq (by omega), i3_clamp hl0 (by omega), i3_0]
          refine ⟨(i3_le zR0 ⟨by omega, by omega⟩).mpr hp, (i3_le zR0 ⟨by omega, by omega⟩).mpr hq, (i3_le zR0 ⟨by omega, by omega⟩).mpr hl0, by omega, by omega, ?_⟩
          split at h
          · rename_i e1 e2
            rw [e1, e2]
            refine hP _ _ _ _ _ _ h _ _ _ _ _ hl hn ⟨fun x y hx hy => ?_, hr.2.1, hr.2.2.1, fun y hy => ?_, fun y hy => ?_⟩
            · show (if x = b2 then _ else I' x) y = i3 ((if x = b2 then _ else I x) (y : Int))
              by_cases e : x = b2
              · rw [if_pos e, if_pos e]
                rw [zcpy_va (f := fun z => i3 (I a z)) (g := fun z => i3 (I b2 z)) (fun z => hr.1 a z d1 d2) (fun z => hr.1 b2 z d3 d4) hp hq hl0 y]
                show (if _ then _ else _) = i3 (if _ then _ else _)
                split <;> rfl
              · rw [if_neg e, if_neg e]; exact hr.1 x y hx hy
            · show _ = ((if 304 = b2 then _ else I 304) (y : Int)).toNat + 1
              rw [if_neg (fun e => d3 e.symm)]; exact hr.2.2.2.1 y hy
            · show _ = ((if 578 = b2 then _ else I 578) (y : Int)).toNat + 1
              rw [if_neg (fun e => d4 e.symm)]; exact hr.2.2.2.2 y hy
          · rename_i e1 e2
            rw [e1, e2]
            refine hP _ _ _ _ _ _ h _ _ _ _ _ hl hn ⟨hr.1, fun x y => ?_, hr.2.2⟩
            show (if x = b2 then _ else L' x) y = (if x = b2 then _ else L x) (y : Int)
            by_cases e : x = b2
            · rw [if_pos e, if_pos e]
              exact zcpy_va (fun z => hr.2.1 a z) (fun z => hr.2.1 b2 z) hp hq hl0 y
            · rw [if_neg e, if_neg e]; exact hr.2.1 x y
          · exact h.elim
      · exact h.elim
    · split at h
      · rename_i r t rest
        simp only [stp, List.map, zv, zcat_eq]
        cases hb : (Nat.beq t 20 && Nat.ble (zcat rest) 8)
        · rw [hb] at h; exact h.elim
        · rw [hb] at h
          rw [← Int32.ofInt_eq_ofNat]
          exact hK _ (.inl _ :: rest) h
      · exact h.elim
    · split at h
      · rename_i i r t rest
        simp only [stp, List.map, zv, zcat_eq]
        cases hb : (Nat.beq t 20 && Nat.ble (zcat rest) 8)
        · rw [hb] at h; exact h.elim
        · rw [hb] at h
          obtain ⟨h1, h3⟩ := h
          obtain ⟨hb, hc⟩ := i3_inb h1.1 h1.2.1 h1.2.2
          refine ⟨hb, ?_⟩
          have := hK _ _ h3
          simp only [List.map, zv, i3_of] at this
          rw [i3_clamp h1.1 h1.2.2]
          exact this
      · exact h.elim
    · split at h
      · rename_i x rest
        simp only [stp, List.map, zv, zcat_eq]
        cases hb : Nat.ble (zcat rest) 8
        · rw [hb] at h; exact h.elim
        · rw [hb] at h
          simp only [cond_true] at h ⊢
          have := hK _ _ h.2
          simp only [List.map, zv] at this
          rw [i3_0]
          by_cases e : 0 ≤ x
          · rw [if_pos ((i3_le zR0 h.1).mpr e)]
            rw [if_pos e] at this
            exact this
          · rw [if_neg (fun c => e ((i3_le zR0 h.1).mp c)), ← i3_sub, Int.zero_sub]
            rw [if_neg e] at this
            exact this
      · exact h.elim
    · split at h
      · rename_i y x rest
        simp only [stp, List.map, zv, zcat_eq]
        cases hb : Nat.ble (zcat rest) 8
        · rw [hb] at h; exact h.elim
        · rw [hb] at h
          simp only [cond_true] at h ⊢
          have := hK _ _ h.2
          simp only [List.map, zv] at this
          by_cases e : x < y
          · rw [if_pos ((i3_lt h.1.1 h.1.2).mpr e)]
            rw [Int.max_eq_right (by omega)] at this
            exact this
          · rw [if_neg (fun c => e ((i3_lt h.1.1 h.1.2).mp c))]
            rw [Int.max_eq_left (by omega)] at this
            exact this
      · exact h.elim
    · split at h
      · rename_i y x rest
        simp only [stp, List.map, zv, zcat_eq]
        cases hb : Nat.ble (zcat rest) 8
        · rw [hb] at h; exact h.elim
        · rw [hb] at h
          simp only [cond_true] at h ⊢
          have := hK _ _ h.2
          simp only [List.map, zv] at this
          by_cases e : y < x
          · rw [if_pos ((i3_lt h.1.2 h.1.1).mpr e)]
            rw [Int.min_eq_right (by omega)] at this
            exact this
          · rw [if_neg (fun c => e ((i3_lt h.1.2 h.1.1).mp c))]
            rw [Int.min_eq_left (by omega)] at this
            exact this
      · exact h.elim
    · rename_i k na hs d1 d2 d3 d4 d5 d6 d7
      simp only [stp]
      refine zspl_spl na st [] _ _ (fun as rest hz => ?_) h
      rw [zcat_eq]
      cases hb : Nat.ble (zcat rest) 8
      · rw [hb] at hz; exact hz.elim
      · rw [hb] at hz
        obtain ⟨mb, hmb, hz⟩ := hz
        refine ⟨mb, 8 * mb, hmb, by omega, hM _ _ _ _ _ _ _ _ _ _ (fun o n2 I2 L2 A2 hq => ?_) (hC _ _ _ _ _ _ hz n I' L' A' hn hr)⟩
        obtain ⟨oz, Iz, Lz, ho, hn2, hr2, hq⟩ := hq
        subst ho
        rw [← Nat.mul_sub]
        rcases oz with (_ | w) | e
        · exact hP _ _ _ _ _ _ hq _ _ _ _ _ hl hn2 hr2
        · exact hP _ _ _ _ _ _ hq _ _ _ _ _ hl hn2 hr2
        · simp only [zback] at hq
          simp only [zo, back]
          cases hf : hfind hs e with
          | none => rw [hf] at hq; exact ⟨.inr e, Iz, Lz, rfl, hn2, hr2, hq⟩
          | some tj =>
            rw [hf] at hq
            simp only [frc_iff] at hq ⊢
            obtain ⟨r, hr3, hr4⟩ := zset_loc ls ls' _ _ _ hl hq
            exact hP _ _ _ _ _ _ hr3 _ _ _ _ _ hr4 hn2 hr2
    · exact h.elim
  case invokespecial i =>
    simp only [zst] at h
    split at h
    · split at h
      · rename_i a t rest
        simp only [stp, List.map, zv, zcat_eq]
        cases hb : Nat.ble (zcat rest) 8
        · rw [hb] at h; exact h.elim
        · rw [hb] at h; exact hK _ rest h
      · exact h.elim
    · split at h
      · rename_i l q b2 tb p a ta rest
        simp only [stp, List.map, zv, zcat_eq]
        cases hb : Nat.ble (zcat rest) 8
        · rw [hb] at h; exact h.elim
        · rw [hb] at h
          simp only [cond_true] at h ⊢
          obtain ⟨⟨⟨hp, hq, hl0, h1, h2⟩, d1, d2, d3, d4⟩, h⟩ := h
          have h3 : ((ta % 10000 : Nat) : Int) ≤ 10000 := by omega
          have h4 : ((tb % 10000 : Nat) : Int) ≤ 10000 := by omega
          have h5 : ((kLen ta : Nat) : Int) = ((ta % 10000 : Nat) : Int) := rfl
          have h6 : ((kLen tb : Nat) : Int) = ((tb % 10000 : Nat) : Int) := rfl
          rw [i3_clamp hp (by omega), i3_clamp hq (by omega), i3_clamp hl0 (by omega), i3_0]
          refine ⟨(i3_le zR0 ⟨by omega, by omega⟩).mpr hp, (i3_le zR0 ⟨by omega, by omega⟩).mpr hq, (i3_le zR0 ⟨by omega, by omega⟩).mpr hl0, by omega, by omega, ?_⟩
          split at h
          · rename_i e1 e2
            rw [e1, e2]
            refine hP _ _ _ _ _ _ h _ _ _ _ _ hl hn ⟨fun x y hx hy => ?_, hr.2.1, hr.2.2.1, fun y hy => ?_, fun y hy => ?_⟩
            · show (if x = b2 then _ else I' x) y = i3 ((if x = b2 then _ else I x) (y : Int))
              by_cases e : x = b2
              · rw [if_pos e, if_pos e]
                rw [zcpy_va (f := fun z => i3 (I a z)) (g := fun z => i3 (I b2 z)) (fun z => hr.1 a z d1 d2) (fun z => hr.1 b2 z d3 d4) hp hq hl0 y]
                show (if _ then _ else _) = i3 (if _ then _ else _)
                split <;> rfl
              · rw [if_neg e, if_neg e]; exact hr.1 x y hx hy
            · show _ = ((if 304 = b2 then _ else I 304) (y : Int)).toNat + 1
              rw [if_neg (fun e => d3 e.symm)]; exact hr.2.2.2.1 y hy
            · show _ = ((if 578 = b2 then _ else I 578) (y : Int)).toNat + 1
              rw [if_neg (fun e => d4 e.symm)]; exact hr.2.2.2.2 y hy
          · rename_i e1 e2
            rw [e1, e2]
            refine hP _ _ _ _ _ _ h _ _ _ _ _ hl hn ⟨hr.1, fun x y => ?_, hr.2.2⟩
            show (if x = b2 then _ else L' x) y = (if x = b2 then _ else L x) (y : Int)
            by_cases e : x = b2
            · rw [if_pos e, if_pos e]
              exact zcpy_va (fun z => hr.2.1 a z) (fun z => hr.2.1 b2 z) hp hq hl0 y
            · rw [if_neg e, if_neg e]; exact hr.2.1 x y
          · exact h.elim
      · exact h.elim
    · split at h
      · rename_i r t rest
        simp only [stp, List.map, zv, zcat_eq]
        cases hb : (Nat.beq t 20 && Nat.ble (zcat rest) 8)
        · rw [hb] at h; exact h.elim
        · rw [hb] at h
          rw [← Int32.ofInt_eq_ofNat]
          exact hK _ (.inl _ :: rest) h
      · exact h.elim
    · split at h
      · rename_i i r t rest
        simp only [stp, List.map, zv, zcat_eq]
        cases hb : (Nat.beq t 20 && Nat.ble (zcat rest) 8)
        · rw [hb] at h; exact h.elim
        · rw [hb] at h
          obtain ⟨h1, h3⟩ := h
          obtain ⟨hb, hc⟩ := i3_inb h1.1 h1.2.1 h1.2.2
          refine ⟨hb, ?_⟩
          have := hK _ _ h3
          simp only [List.map, zv, i3_of] at this
          rw [i3_clamp h1.1 h1.2.2]
          exact this
      · exact h.elim
    · split at h
      · rename_i x rest
        simp only [stp, List.map, zv, zcat_eq]
        cases hb : Nat.ble (zcat rest) 8
        · rw [hb] at h; exact h.elim
        · rw [hb] at h
          simp only [cond_true] at h ⊢
          have := hK _ _ h.2
          simp only [List.map, zv] at this
          rw [i3_0]
          by_cases e : 0 ≤ x
          · rw [if_pos ((i3_le zR0 h.1).mpr e)]
            rw [if_pos e] at this
            exact this
          · rw [if_neg (fun c => e ((i3_le zR0 h.1).mp c)), ← i3_sub, Int.zero_sub]
            rw [if_neg e] at this
            exact this
      · exact h.elim
    · split at h
      · rename_i y x rest
        simp only [stp, List.map, zv, zcat_eq]
        cases hb : Nat.ble (zcat rest) 8
        · rw [hb] at h; exact h.elim
        · rw [hb] at h
          simp only [cond_true] at h ⊢
          have := hK _ _ h.2
          simp only [List.map, zv] at this
          by_cases e : x < y
          · rw [if_pos ((i3_lt h.1.1 h.1.2).mpr e)]
            rw [Int.max_eq_right (by omega)] at this
            exact this
          · rw [if_neg (fun c => e ((i3_lt h.1.1 h.1.2).mp c))]
            rw [Int.max_eq_left (by omega)] at this
            exact this
      · exact h.elim
    · split at h
      · rename_i y x rest
        simp only [stp, List.map, zv, zcat_eq]
        cases hb : Nat.ble (zcat rest) 8
        · rw [hb] at h; exact h.elim
        · rw [hb] at h
          simp only [cond_true] at h ⊢
          have := hK _ _ h.2
          simp only [List.map, zv] at this
          by_cases e : y < x
          · rw [if_pos ((i3_lt h.1.2 h.1.1).mpr e)]
            rw [Int.min_eq_right (by omega)] at this
            exact this
          · rw [if_neg (fun c => e ((i3_lt h.1.2 h.1.1).mp c))]
            rw [Int.min_eq_left (by omega)] at this
            exact this
      · exact h.elim
    · rename_i k na hs d1 d2 d3 d4 d5 d6 d7
      simp only [stp]
      refine zspl_spl na st [] _ _ (fun as rest hz => ?_) h
      rw [zcat_eq]
      cases hb : Nat.ble (zcat rest) 8
      · rw [hb] at hz; exact hz.elim
      · rw [hb] at hz
        obtain ⟨mb, hmb, hz⟩ := hz
        refine ⟨mb, 8 * mb, hmb, by omega, hM _ _ _ _ _ _ _ _ _ _ (fun o n2 I2 L2 A2 hq => ?_) (hC _ _ _ _ _ _ hz n I' L' A' hn hr)⟩
        obtain ⟨oz, Iz, Lz, ho, hn2, hr2, hq⟩ := hq
        subst ho
        rw [← Nat.mul_sub]
        rcases oz with (_ | w) | e
        · exact hP _ _ _ _ _ _ hq _ _ _ _ _ hl hn2 hr2
        · exact hP _ _ _ _ _ _ hq _ _ _ _ _ hl hn2 hr2
        · simp only [zback] at hq
          simp only [zo, back]
          cases hf : hfind hs e with
          | none => rw [hf] at hq; exact ⟨.inr e, Iz, Lz, rfl, hn2, hr2, hq⟩
          | some tj =>
            rw [hf] at hq
            simp only [frc_iff] at hq ⊢
            obtain ⟨r, hr3, hr4⟩ := zset_loc ls ls' _ _ _ hl hq
            exact hP _ _ _ _ _ _ hr3 _ _ _ _ _ hr4 hn2 hr2
    · exact h.elim
  case ireturn =>
    simp only [zst] at h
    split at h
    · exact hQ _ h
    · rename_i x
      simp only [stp, List.map, zv]
      refine ⟨?_, hQ (.inl (some (.inl x))) h.2⟩
      rcases h.1 with e | e <;> rw [e]
      · exact Or.inl rfl
      · exact Or.inr rfl
    · exact h.elim
  case lreturn =>
    simp only [zst] at h
    split at h
    · exact hQ _ h
    · exact h.elim
  case freturn =>
    simp only [zst] at h
    split at h
    · exact hQ _ h
    · exact h.elim
  case dreturn =>
    simp only [zst] at h
    split at h
    · exact hQ _ h
    · exact h.elim
  case areturn =>
    simp only [zst] at h
    split at h
    · exact hQ _ h
    · exact h.elim
  case return_ =>
    simp only [zst] at h
    split at h
    · exact hQ _ h
    · exact h.elim
  all_goals exact h.elim
end
