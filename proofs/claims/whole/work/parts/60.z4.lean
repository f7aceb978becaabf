/-! THE Z MACHINE, 4: the theory in which methods are specified -/
def ZTh (X : Ext) (CZ : Nat → ZC) (RZ : Nat → Nat → ZQ → ZP) : Prop :=
  (∀ d k as b I L Q, argB k (as.map zv) = true → RZ d k Q 0 (zent as (tbm k).2) [] b I L → CZ (d + 1) k as b I L Q) ∧
  (∀ d k Q (P : ZP), (∀ pc ls st b I L, P pc ls st b I L → RZ d k Q pc ls st b I L) → ∀ pc ls st b I L, zA X (CZ d) k Q P pc ls st b I L → RZ d k Q pc ls st b I L) ∧
  (∀ d k as b I L (Q Q' : ZQ), (∀ o I L, Q o I L → Q' o I L) → CZ d k as b I L Q → CZ d k as b I L Q') ∧
  (∀ d k Q pc ks ls st b I L, RZ d k Q pc (zkl ks ls 0) st b I L → RZ d k Q pc ls st b I L)
def zRn (X : Ext) (d k : Nat) (Q : ZQ) : ZP := fun pc ls st b I L => ∀ ls' n I' L' A', zloc ls ls' → 644 ≤ n → zrel I L I' L' A' → RnD X kdF (CnD X kdF d) (tbm k).1 (zlq Q) pc ls' (st.map zv) b (8 * b) n I' L' A'
def zCn (X : Ext) (d : Nat) : ZC := fun k as b I L Q => ∀ n I' L' A', 644 ≤ n → zrel I L I' L' A' → CnD X kdF d k (as.map zv) b (8 * b) n I' L' A' (zlq Q)
theorem zEr_nth (l : List (Option Ent)) : ∀ i e, zEr l = true → nth l i = some (some e) → zE e = true := by
  induction l with
  | nil => intro i e _ h; cases h
  | cons x xs ih =>
    intro i e h hn
    cases x with
    | none => cases i with
      | zero => cases hn
      | succ i => exact ih i e h hn
    | some y =>
      rw [zEr] at h
      cases hy : zE y with
      | false => rw [hy] at h; cases h
      | true =>
        rw [hy] at h
        cases i with
        | zero => cases hn; exact hy
        | succ i => exact ih i e h hn
theorem zEt_nth (t : Tb) : ∀ i r, zEt t = true → nth t i = some r → zEr r = true := by
  induction t with
  | nil => intro i e _ h; cases h
  | cons x xs ih =>
    intro i r h hn
    rw [zEt] at h
    cases hy : zEr x with
    | false => rw [hy] at h; cases h
    | true =>
      rw [hy] at h
      cases i with
      | zero => cases hn; exact hy
      | succ i => exact ih i r h hn
theorem zE_lk {t : Tb} (h : zEt t = true) {pc : Nat} {e : Ent} (hl : lk t pc = some e) : zE e = true := by
  unfold lk at hl
  split at hl
  · rename_i r hr
    split at hl
    · rename_i e' he
      subst hl
      exact zEr_nth r _ e (zEt_nth t _ r h hr) he
    · cases hl
  · cases hl
theorem zE_am : (List.range 302).all (fun k => zEt (tbm k).1) = true := by decide +kernel
theorem zE_all (k : Nat) (hk : k < 302) : zEt (tbm k).1 = true := List.all_eq_true.mp zE_am k (List.mem_range.mpr hk)
theorem zE_tb (k : Nat) : zEt (tbm k).1 = true := by
  by_cases hk : k < 302
  · exact zE_all k hk
  · have h : tbm k = ([], 0) := by
      unfold tbm
      by_cases h1 : k / 16 = 18
      · rw [h1]
        have h2 : nth tball 18 = some tbr_18 := rfl
        rw [h2]
        have h3 : nth tbr_18 (k % 16) = none := by
          rw [nth_eq]
          exact List.getElem?_eq_none (by show 14 ≤ k % 16; omega)
        show (match nth tbr_18 (k % 16) with | some k => k | none => ([], 0)) = ([], 0)
        rw [h3]
      · have h2 : nth tball (k / 16) = none := by
          rw [nth_eq]
          exact List.getElem?_eq_none (by show 19 ≤ k / 16; omega)
        rw [h2]
    rw [h]
    rfl
theorem ZThD (X : Ext) : ZTh X (zCn X) (zRn X) := by
  refine ⟨fun d k as b I L Q hb h n I' L' A' hn hr => ?_, fun d k Q P hP pc ls st b I L h ls' n I' L' A' hl hn hr => ?_, fun d k as b I L Q Q' hQ h n I' L' A' hn hr => ?_, fun d k Q pc ks ls st b I L h ls' n I' L' A' hl hn hr => h ls' n I' L' A' (zkl_loc ks ls ls' 0 hl) hn hr⟩
  · exact (ThD (X := X) (kd := kdF)).1 _ _ _ _ _ _ _ _ _ _ hb (h _ n I' L' A' (zent_loc as _) hn hr)
  · refine (ThD (X := X) (kd := kdF)).2.1 d _ _ _ _ _ _ _ _ _ _ _ ?_
    unfold zA at h
    unfold stA
    cases hlk : lk (tbm k).1 pc with
    | none => rw [hlk] at h; exact h
    | some e =>
      rw [hlk] at h
      exact zst_stp (fun k as mb I L Q hc n I' L' A' hn hr => hc n I' L' A' hn hr) (CnD_mono d) (P := P) (P' := RnD X kdF (CnD X kdF d) (tbm k).1 (zlq Q)) (fun pc ls st b I L hp ls' n I' L' A' hl hn hr => hP pc ls st b I L hp ls' n I' L' A' hl hn hr) (zE_lk (zE_tb k) hlk) h hl hn hr
  · exact CnD_mono d _ _ _ _ _ _ _ _ _ _ (fun o n I L A hq => by
      obtain ⟨oz, Iz, Lz, ho, hn, hr, hq⟩ := hq
      exact ⟨oz, Iz, Lz, ho, hn, hr, hQ _ _ _ hq⟩) (h n I' L' A' hn hr)
section
variable {X : Ext} {CZ : Nat → ZC} {RZ : Nat → Nat → ZQ → ZP}
theorem ZTh.go (T : ZTh X CZ RZ) {d k : Nat} {Q : ZQ} (cuts : List Nat) (m : Nat) : ∀ {pc : Nat} {ls st : List ZV} {b : Nat} {I : ZI} {L : ZL}, zN X (CZ d) k Q cuts (RZ d k Q) m pc ls st b I L → RZ d k Q pc ls st b I L := by
  induction m with
  | zero => intro pc ls st b I L h; exact h
  | succ m ih =>
    intro pc ls st b I L h
    refine T.2.1 d k Q _ (fun pc ls st b I L h => ?_) _ _ _ _ _ _ h
    cases hb : elm pc cuts with
    | true => rw [hb] at h; exact h
    | false => rw [hb] at h; exact ih h
theorem ZTh.call (T : ZTh X CZ RZ) {d k : Nat} {as : List ZV} {b : Nat} {I : ZI} {L : ZL} {Q : ZQ} (hb : argB k (as.map zv) = true) (h : RZ d k Q 0 (zent as (tbm k).2) [] b I L) : CZ (d + 1) k as b I L Q := T.1 d k as b I L Q hb h
theorem ZTh.fg (T : ZTh X CZ RZ) {d k : Nat} {Q : ZQ} (ks : List Nat) {pc : Nat} {ls st : List ZV} {b : Nat} {I : ZI} {L : ZL} (h : RZ d k Q pc (zkl ks ls 0) st b I L) : RZ d k Q pc ls st b I L := T.2.2.2 _ _ _ _ ks _ _ _ _ _ h
theorem ZTh.mono (T : ZTh X CZ RZ) {d k : Nat} {as : List ZV} {b : Nat} {I : ZI} {L : ZL} {Q Q' : ZQ} (h : CZ d k as b I L Q) (hQ : ∀ o I L, Q o I L → Q' o I L) : CZ d k as b I L Q' := T.2.2.1 d k as b I L Q Q' hQ h
end
