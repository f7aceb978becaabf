/-! SOUNDNESS, 2: locals, and which values stand for something -/
def lcs (G : GE) : Nat → List AV → List (Nat × Value)
  | _, [] => []
  | i, x :: xs => match x.1 with
    | .retAddr _ => lcs G (i + 1) xs
    | _ => (i, cv G x) :: lcs G (i + 1) xs
def isJ (v : Value) : Bool := match v with
  | .retAddr _ => true
  | _ => false
section
variable {G : GE}
theorem lcs_mem (ls : List AV) : ∀ (i : Nat) (q : Nat × Value), q ∈ lcs G i ls ↔ ∃ (j : Nat) (x : AV), ls[j]? = some x ∧ isJ x.1 = false ∧ q = (i + j, cv G x) := by
  induction ls with
  | nil => intro i q; simp [lcs]
  | cons x xs ih =>
    intro i q
    have hs : (∃ (j : Nat) (y : AV), (x :: xs)[j]? = some y ∧ isJ y.1 = false ∧ q = (i + j, cv G y)) ↔ ((isJ x.1 = false ∧ q = (i, cv G x)) ∨ ∃ (j : Nat) (y : AV), xs[j]? = some y ∧ isJ y.1 = false ∧ q = (i + 1 + j, cv G y)) := by
      constructor
      · rintro ⟨j, y, h1, h2, h3⟩
        cases j with
        | zero => rw [List.getElem?_cons_zero] at h1; cases h1; exact Or.inl ⟨h2, h3⟩
        | succ j => rw [List.getElem?_cons_succ] at h1; exact Or.inr ⟨j, y, h1, h2, by rw [h3, show i + (j + 1) = i + 1 + j by omega]⟩
      · rintro (⟨h2, h3⟩ | ⟨j, y, h1, h2, h3⟩)
        · exact ⟨0, x, rfl, h2, h3⟩
        · exact ⟨j + 1, y, h1, h2, by rw [h3, show i + (j + 1) = i + 1 + j by omega]⟩
    rw [hs, ← ih (i + 1) q]
    obtain ⟨v, t⟩ := x
    cases v <;> simp [lcs, isJ]
theorem lset_len (ls : List AV) : ∀ (i : Nat) (v : AV), (lset ls i v).length = ls.length := by
  induction ls with
  | nil => intro i v; cases i <;> rfl
  | cons x xs ih =>
    intro i v
    cases i with
    | zero =>
      show (v :: (bif isW v.1 then _ else xs)).length = _
      cases isW v.1
      · rfl
      · cases xs <;> rfl
    | succ i =>
      show (_ :: lset xs i v).length = _
      rw [List.length_cons, ih]; rfl
theorem lset_get (ls : List AV) : ∀ (i : Nat) (v : AV) (j : Nat) (x : AV), i < ls.length → (lset ls i v)[j]? = some x → (j = i ∧ x = v) ∨ x = jk ∨ (¬ j = i ∧ ls[j]? = some x ∧ ¬ (j + 1 = i ∧ isW x.1 = true) ∧ ¬ (isW v.1 = true ∧ j = i + 1)) := by
  induction ls with
  | nil => intro i v j x h; exact absurd h (Nat.not_lt_zero _)
  | cons y ys ih =>
    intro i v j x hi h
    cases i with
    | zero =>
      cases j with
      | zero => exact Or.inl ⟨rfl, (Option.some.inj h).symm⟩
      | succ j =>
        cases hw : isW v.1 with
        | false =>
          simp only [lset, hw, cond_false, List.getElem?_cons_succ] at h
          exact Or.inr (Or.inr ⟨by omega, h, fun q => by omega, fun q => by cases q.1⟩)
        | true =>
          simp only [lset, hw, cond_true, List.getElem?_cons_succ] at h
          cases ys with
          | nil => simp at h
          | cons z zs =>
            cases j with
            | zero => exact Or.inr (Or.inl (Option.some.inj h).symm)
            | succ j => exact Or.inr (Or.inr ⟨by omega, h, fun q => by omega, fun q => by omega⟩)
    | succ i =>
      cases j with
      | zero =>
        cases i with
        | zero =>
          cases hw : isW y.1 with
          | true =>
            simp only [lset, hw, cond_true, List.getElem?_cons_zero] at h
            exact Or.inr (Or.inl (Option.some.inj h).symm)
          | false =>
            simp only [lset, hw, cond_false, List.getElem?_cons_zero] at h
            cases h
            exact Or.inr (Or.inr ⟨by omega, rfl, fun q => by rw [hw] at q; exact absurd q.2 (fun z => by cases z), fun q => by omega⟩)
        | succ i =>
          simp only [lset, List.getElem?_cons_zero] at h
          cases h
          exact Or.inr (Or.inr ⟨by omega, rfl, fun q => by omega, fun q => by omega⟩)
      | succ j =>
        have h : (lset ys i v)[j]? = some x := by
          cases i <;> simpa only [lset, List.getElem?_cons_succ] using h
        rcases ih i v j x (Nat.lt_of_succ_lt_succ hi) h with h1 | h1 | ⟨h1, h2, h3, h4⟩
        · exact Or.inl ⟨by omega, h1.2⟩
        · exact Or.inr (Or.inl h1)
        · exact Or.inr (Or.inr ⟨by omega, h2, fun q => h3 ⟨by omega, q.2⟩, fun q => h4 ⟨q.1, by omega⟩⟩)
theorem cat_cv (v : AV) : ((cv G v).category = 2) ↔ isW v.1 = true := by
  obtain ⟨w, t⟩ := v
  cases w <;> simp [cv, isW, Value.category]
theorem cat_cv1 {v : AV} (h : isW v.1 = false) : (cv G v).category = 1 := by
  rcases lv_cat (cv G v) with h1 | h1
  · exact h1
  · rw [(cat_cv v).mp h1] at h; cases h
theorem lcs_st1 {arr : Array Slot} {nL i : Nat} {ls : List AV} {v : AV} (hi : i < ls.length) (hw : isW v.1 = false) (h : lv_has arr nL ((i, cv G v) :: (lcs G 0 ls).filter (fun q => !(q.1 == i) && !(q.1 + 1 == i && q.2.category == 2)))) : lv_has arr nL (lcs G 0 (lset ls i v)) := by
  refine ⟨h.1, h.2.1, fun q hq => ?_⟩
  obtain ⟨j, x, h1, h2, rfl⟩ := (lcs_mem _ _ _).mp hq
  rw [Nat.zero_add]
  rcases lset_get ls i v j x hi h1 with ⟨rfl, rfl⟩ | rfl | ⟨g1, g2, g3, g4⟩
  · exact h.2.2 _ List.mem_cons_self
  · cases h2
  · refine h.2.2 (j, cv G x) (List.mem_cons_of_mem _ (List.mem_filter.mpr ⟨(lcs_mem _ _ _).mpr ⟨j, x, g2, h2, by rw [Nat.zero_add]⟩, ?_⟩))
    have e1 : (j == i) = false := beq_false_of_ne g1
    simp only [e1, Bool.not_false, Bool.true_and, Bool.not_eq_true']
    cases e2 : (j + 1 == i) with
    | false => rfl
    | true =>
      cases e3 : ((cv G x).category == 2) with
      | false => rfl
      | true => exact absurd ⟨eq_of_beq e2, (cat_cv x).mp (eq_of_beq e3)⟩ g3
theorem lcs_st2 {arr : Array Slot} {nL i : Nat} {ls : List AV} {v : AV} (hi : i < ls.length) (hw : isW v.1 = true) (h : lv_has arr nL ((i, cv G v) :: (lcs G 0 ls).filter (fun q => !(q.1 == i) && (!(q.1 == i + 1) && !(q.1 + 1 == i && q.2.category == 2))))) : lv_has arr nL (lcs G 0 (lset ls i v)) := by
  refine ⟨h.1, h.2.1, fun q hq => ?_⟩
  obtain ⟨j, x, h1, h2, rfl⟩ := (lcs_mem _ _ _).mp hq
  rw [Nat.zero_add]
  rcases lset_get ls i v j x hi h1 with ⟨rfl, rfl⟩ | rfl | ⟨g1, g2, g3, g4⟩
  · exact h.2.2 _ List.mem_cons_self
  · cases h2
  · refine h.2.2 (j, cv G x) (List.mem_cons_of_mem _ (List.mem_filter.mpr ⟨(lcs_mem _ _ _).mpr ⟨j, x, g2, h2, by rw [Nat.zero_add]⟩, ?_⟩))
    have e1 : (j == i) = false := beq_false_of_ne g1
    have e4 : (j == i + 1) = false := beq_false_of_ne (fun q => g4 ⟨hw, q⟩)
    simp only [e1, e4, Bool.not_false, Bool.true_and, Bool.not_eq_true']
    cases e2 : (j + 1 == i) with
    | false => rfl
    | true =>
      cases e3 : ((cv G x).category == 2) with
      | false => rfl
      | true => exact absurd ⟨eq_of_beq e2, (cat_cv x).mp (eq_of_beq e3)⟩ g3
/-- a local that is no longer known -/
theorem lcs_drop {arr : Array Slot} {nL i : Nat} {ls : List AV} {v : AV} {w : Value} (hi : i < ls.length) (hv : isJ v.1 = true) (h : lv_has arr nL ((i, w) :: (lcs G 0 ls).filter (fun q => !(q.1 == i) && !(q.1 + 1 == i && q.2.category == 2)))) : lv_has arr nL (lcs G 0 (lset ls i v)) := by
  refine ⟨h.1, h.2.1, fun q hq => ?_⟩
  obtain ⟨j, x, h1, h2, rfl⟩ := (lcs_mem _ _ _).mp hq
  rw [Nat.zero_add]
  rcases lset_get ls i v j x hi h1 with ⟨rfl, rfl⟩ | rfl | ⟨g1, g2, g3, g4⟩
  · rw [h2] at hv; cases hv
  · cases h2
  · refine h.2.2 (j, cv G x) (List.mem_cons_of_mem _ (List.mem_filter.mpr ⟨(lcs_mem _ _ _).mpr ⟨j, x, g2, h2, by rw [Nat.zero_add]⟩, ?_⟩))
    have e1 : (j == i) = false := beq_false_of_ne g1
    simp only [e1, Bool.not_false, Bool.true_and, Bool.not_eq_true']
    cases e2 : (j + 1 == i) with
    | false => rfl
    | true =>
      cases e3 : ((cv G x).category == 2) with
      | false => rfl
      | true => exact absurd ⟨eq_of_beq e2, (cat_cv x).mp (eq_of_beq e3)⟩ g3
theorem lget_get {ls : List AV} : ∀ {i : Nat} {x : AV}, lget ls i = x → isJ x.1 = false → ls[i]? = some x := by
  induction ls with
  | nil => intro i x h hj; cases i <;> (subst h; cases hj)
  | cons y ys ih =>
    intro i x h hj
    cases i with
    | zero => exact congrArg some h
    | succ i => exact ih (i := i) h hj
theorem lcs_at {arr : Array Slot} {nL i : Nat} {ls : List AV} {x : AV} (h : lv_has arr nL (lcs G 0 ls)) (hg : lget ls i = x) (hj : isJ x.1 = false) : arr[i]? = some (.val (cv G x)) :=
  h.2.2 (i, cv G x) ((lcs_mem _ _ _).mpr ⟨i, x, lget_get hg hj, hj, by rw [Nat.zero_add]⟩)
end
/-! values -/
def statL : List (Nat × Nat) := [(10000, 60008), (10001, 60008), (10002, 60007), (10003, 60007), (10004, 60007), (10005, 60056), (10006, 60007), (10007, 60008), (10008, 60008), (10009, 70018), (10100, 80000)]
def wX (a t : Nat) : Prop := (t = 10 ∧ ∃ i, i < 18 ∧ a = 10020 + i) ∨ (t = 20 ∧ ∃ i, i < 15 ∧ a = 10050 + i) ∨ (a, t) ∈ statL
def wfv (G : GE) (n : Nat) (v : AV) : Prop := match v.1 with
  | .ref a => (ownT v.2 = true → a < n ∧ G.2.2.2 a = v.2) ∧ (ownT v.2 = false → wX a v.2)
  | .null => False
  | _ => True
def aT (t j : Nat) : Nat := bif Nat.ble t 13 then (match nth (fsl (t - 1)) j with
    | some (1, ft) => ft
    | _ => 0)
  else bif Nat.ble 10 (kSort t) then kSort t - 9 else 0
def wfA (G : GE) (n : Nat) (A : HA) : Prop := ∀ r j a, r < n → ¬ G.2.2.2 r = 0 → A r j = a + 1 → ¬ aT (G.2.2.2 r) j = 0 → wfv G n (.ref a, aT (G.2.2.2 r) j)
def wfl (G : GE) (n : Nat) (l : List AV) : Prop := ∀ v ∈ l, isJ v.1 = false → wfv G n v
section
variable {G : GE}
theorem wfv_mono {n n' : Nat} (h : n ≤ n') {v : AV} (hv : wfv G n v) : wfv G n' v := by
  obtain ⟨w, t⟩ := v
  cases w with
  | ref a => exact ⟨fun q => ⟨Nat.lt_of_lt_of_le (hv.1 q).1 h, (hv.1 q).2⟩, hv.2⟩
  | null => exact hv
  | _ => trivial
theorem wfl_mono {n n' : Nat} (h : n ≤ n') {l : List AV} (hv : wfl G n l) : wfl G n' l := fun v hm hj => wfv_mono h (hv v hm hj)
theorem wfl_cons {n : Nat} {v : AV} {l : List AV} (h1 : wfv G n v) (h2 : wfl G n l) : wfl G n (v :: l) := fun w hw hj => by
  rcases List.mem_cons.mp hw with rfl | h
  · exact h1
  · exact h2 w h hj
theorem wfl_hd {n : Nat} {v : AV} {l : List AV} (h : wfl G n (v :: l)) (hj : isJ v.1 = false) : wfv G n v := h v List.mem_cons_self hj
theorem wfl_tl {n : Nat} {v : AV} {l : List AV} (h : wfl G n (v :: l)) : wfl G n l := fun w hw hj => h w (List.mem_cons_of_mem _ hw) hj
theorem wfl_set {n i : Nat} {v : AV} {ls : List AV} (hi : i < ls.length) (h1 : isJ v.1 = false → wfv G n v) (h2 : wfl G n ls) : wfl G n (lset ls i v) := by
  intro w hw hj
  obtain ⟨j, hj2⟩ := List.getElem?_of_mem hw
  rcases lset_get ls i v j w hi hj2 with ⟨rfl, rfl⟩ | rfl | ⟨g1, g2, -, -⟩
  · exact h1 hj
  · cases hj
  · exact h2 w (List.mem_of_getElem? g2) hj
theorem wfl_lget {n i : Nat} {x : AV} {ls : List AV} (h : wfl G n ls) (hg : lget ls i = x) (hj : isJ x.1 = false) : wfv G n x := h x (List.mem_of_getElem? (lget_get hg hj)) hj
theorem wfl_app {n : Nat} {l1 l2 : List AV} (h1 : wfl G n l1) (h2 : wfl G n l2) : wfl G n (l1 ++ l2) := fun w hw hj => by
  rcases List.mem_append.mp hw with h | h
  · exact h1 w h hj
  · exact h2 w h hj
/-! the locals at a method's entry -/
theorem entL_len (as : List AV) : ∀ n, catS as ≤ n → (entL as n).length = n := by
  induction as with
  | nil => intro n _; simp [entL]
  | cons x xs ih =>
    intro n h
    have h : (bif isW x.1 then 2 else 1) + catS xs ≤ n := h
    show (bif isW x.1 then x :: jk :: entL xs (n - 2) else x :: entL xs (n - 1)).length = n
    cases hw : isW x.1 with
    | true =>
      rw [hw] at h
      have h : 2 + catS xs ≤ n := h
      show (x :: jk :: entL xs (n - 2)).length = n
      rw [List.length_cons, List.length_cons, ih (n - 2) (by omega)]; omega
    | false =>
      rw [hw] at h
      have h : 1 + catS xs ≤ n := h
      show (x :: entL xs (n - 1)).length = n
      rw [List.length_cons, ih (n - 1) (by omega)]; omega
theorem entL_lcs (as : List AV) : ∀ (i n : Nat), (∀ v ∈ as, isJ v.1 = false) → ∀ q ∈ lcs G i (entL as n), q ∈ lv_args i (as.map (cv G)) := by
  induction as with
  | nil =>
    intro i n _ q hq
    obtain ⟨j, x, h1, h2, -⟩ := (lcs_mem _ _ _).mp hq
    have h1 : (List.replicate n jk)[j]? = some x := h1
    have hx := List.eq_of_mem_replicate (List.mem_of_getElem? h1)
    subst hx
    cases h2
  | cons x xs ih =>
    intro i n hj q hq
    have hxs : ∀ v ∈ xs, isJ v.1 = false := fun v hv => hj v (List.mem_cons_of_mem _ hv)
    have hq : q ∈ lcs G i (bif isW x.1 then x :: jk :: entL xs (n - 2) else x :: entL xs (n - 1)) := hq
    show q ∈ (i, cv G x) :: lv_args (if (cv G x).category = 2 then i + 2 else i + 1) (xs.map (cv G))
    cases hw : isW x.1 with
    | true =>
      rw [hw] at hq
      rw [if_pos ((cat_cv x).mpr hw)]
      have hq : q ∈ lcs G i (x :: jk :: entL xs (n - 2)) := hq
      obtain ⟨j, y, h1, h2, rfl⟩ := (lcs_mem _ _ _).mp hq
      match j, h1 with
      | 0, h1 => cases h1; exact List.mem_cons_self
      | 1, h1 => cases h1; cases h2
      | j + 2, h1 =>
        refine List.mem_cons_of_mem _ (ih (i + 2) (n - 2) hxs _ ((lcs_mem _ _ _).mpr ⟨j, y, h1, h2, ?_⟩))
        rw [show i + (j + 2) = i + 2 + j by omega]
    | false =>
      rw [hw] at hq
      rw [if_neg (fun h => by rw [(cat_cv x).mp h] at hw; cases hw)]
      have hq : q ∈ lcs G i (x :: entL xs (n - 1)) := hq
      obtain ⟨j, y, h1, h2, rfl⟩ := (lcs_mem _ _ _).mp hq
      match j, h1 with
      | 0, h1 => cases h1; exact List.mem_cons_self
      | j + 1, h1 =>
        refine List.mem_cons_of_mem _ (ih (i + 1) (n - 1) hxs _ ((lcs_mem _ _ _).mpr ⟨j, y, h1, h2, ?_⟩))
        rw [show i + (j + 1) = i + 1 + j by omega]
theorem entL_wf (as : List AV) {m : Nat} : ∀ n, (∀ v ∈ as, wfv G m v) → wfl G m (entL as n) := by
  induction as with
  | nil =>
    intro n _ v hv hj
    have hv : v ∈ List.replicate n jk := hv
    have hx := List.eq_of_mem_replicate hv
    subst hx
    cases hj
  | cons x xs ih =>
    intro n h
    have hxs : ∀ v ∈ xs, wfv G m v := fun v hv => h v (List.mem_cons_of_mem _ hv)
    show wfl G m (bif isW x.1 then x :: jk :: entL xs (n - 2) else x :: entL xs (n - 1))
    cases isW x.1 with
    | true =>
      show wfl G m (x :: jk :: entL xs (n - 2))
      exact wfl_cons (h x List.mem_cons_self) (fun v hv hj => by
        rcases List.mem_cons.mp hv with rfl | h1
        · cases hj
        · exact ih (n - 2) hxs v h1 hj)
    | false => exact wfl_cons (h x List.mem_cons_self) (ih (n - 1) hxs)
theorem catS_sl (as : List AV) : (lg_sl (as.map (cv G))).length = catS as := by
  induction as with
  | nil => rfl
  | cons x xs ih =>
    show _ = (bif isW x.1 then 2 else 1) + catS xs
    rw [← ih]
    cases hw : isW x.1 with
    | true =>
      have h2 := (cat_cv (G := G) x).mpr hw
      simp [lg_sl, h2]; omega
    | false =>
      have h2 := cat_cv1 (G := G) hw
      simp [lg_sl, h2]; omega
theorem catS_sum (st : List AV) : ((st.map (cv G)).map fun v => v.category).sum = catS st := by
  induction st with
  | nil => rfl
  | cons x xs ih =>
    show (cv G x).category + ((xs.map (cv G)).map fun v => v.category).sum = (bif isW x.1 then 2 else 1) + catS xs
    rw [ih]
    cases hw : isW x.1 with
    | true => rw [(cat_cv (G := G) x).mpr hw]; rfl
    | false => rw [cat_cv1 (G := G) hw]; rfl
end
