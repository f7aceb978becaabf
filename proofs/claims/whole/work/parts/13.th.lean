/-- the theory: what it takes to answer a call, and to go one instruction on -/
def Th (X : Ext) (kd : Nat → Nat) (Cn : Nat → CT) (Rn : Nat → Tb → AQ → PT) : Prop :=
  (∀ d k as mc ms n I L A Q, argB k as = true → Rn d (tbm k).1 Q 0 (entL as (tbm k).2) [] mc ms n I L A → Cn (d + 1) k as mc ms n I L A Q) ∧
  (∀ d tb Q pc ls st rc rs n I L A, stA X kd (Cn d) tb Q (Rn d tb Q) pc ls st rc rs n I L A → Rn d tb Q pc ls st rc rs n I L A) ∧
  (∀ d k as mc ms n I L A (Q Q' : AQ), (∀ o n I L A, Q o n I L A → Q' o n I L A) → Cn d k as mc ms n I L A Q → Cn d k as mc ms n I L A Q')
section
variable {X : Ext} {kd : Nat → Nat}
theorem frc_iff (l : List AV) : ∀ (k : List AV → Prop), frc l k ↔ k l := by
  induction l with
  | nil => intro k; exact Iff.rfl
  | cons x xs ih => intro k; exact ih _
theorem tgs_mono {k k' : Nat → Prop} (hk : ∀ t, k t → k' t) (x : Int32) (ts : List Nat) : ∀ lo, tgs x lo ts k → tgs x lo ts k' := by
  induction ts with
  | nil => intro lo h; exact h
  | cons t ts ih => intro lo h; exact ⟨fun e => hk _ (h.1 e), ih _ h.2⟩
theorem spl_mono {k k' : List AV → List AV → Prop} (hk : ∀ a r, k a r → k' a r) (n : Nat) : ∀ (st acc : List AV), spl n st acc k → spl n st acc k' := by
  induction n with
  | zero => intro st acc h; exact hk _ _ h
  | succ n ih =>
    intro st acc h
    cases st with
    | nil => exact h
    | cons x st => exact ih _ _ h
theorem back_mono {Q Q' : AQ} {P P' : PT} (hQ : ∀ o n I L A, Q o n I L A → Q' o n I L A) (hP : ∀ pc ls st rc rs n I L A, P pc ls st rc rs n I L A → P' pc ls st rc rs n I L A) {nx : Nat} {hs : List Nat} {ls rest : List AV} {rc rs : Nat} {o : Out} {n : Nat} {I : HI} {L : HL} {A : HA} (h : back Q P nx hs ls rest rc rs o n I L A) : back Q' P' nx hs ls rest rc rs o n I L A := by
  match o with
  | .inl none => exact hP _ _ _ _ _ _ _ _ _ h
  | .inl (some v) => exact hP _ _ _ _ _ _ _ _ _ h
  | .inr e =>
    unfold back at h ⊢
    cases hf : hfind hs e with
    | none => simp only [hf] at h ⊢; exact hQ _ _ _ _ _ h
    | some tj => simp only [hf, frc_iff] at h ⊢; exact hP _ _ _ _ _ _ _ _ _ h
theorem inv_mono {C C' : CT} (hC : ∀ k as mc ms n I L A (Q Q' : AQ), (∀ o n I L A, Q o n I L A → Q' o n I L A) → C k as mc ms n I L A Q → C' k as mc ms n I L A Q') {F F' : Nat → Nat → AQ} (hF : ∀ rc rs o n I L A, F rc rs o n I L A → F' rc rs o n I L A) {k : Nat} {as : List AV} {rc rs n : Nat} {I : HI} {L : HL} {A : HA} (h : inv C k as rc rs n I L A F) : inv C' k as rc rs n I L A F' := by
  obtain ⟨mc, ms, h1, h2, h3⟩ := h
  exact ⟨mc, ms, h1, h2, hC _ _ _ _ _ _ _ _ _ _ (hF _ _) h3⟩
theorem bif_imp {b : Bool} {x x' y y' : Prop} (h1 : x → x') (h2 : y → y') : (bif b then x else y) → (bif b then x' else y') := by
  cases b
  · exact h2
  · exact h1
set_option maxHeartbeats 4000000 in
theorem stp_mono {C C' : CT} (hC : ∀ k as mc ms n I L A (Q Q' : AQ), (∀ o n I L A, Q o n I L A → Q' o n I L A) → C k as mc ms n I L A Q → C' k as mc ms n I L A Q') {Q Q' : AQ} (hQ : ∀ o n I L A, Q o n I L A → Q' o n I L A) {P P' : PT} (hP : ∀ pc ls st rc rs n I L A, P pc ls st rc rs n I L A → P' pc ls st rc rs n I L A) {ins : Instr} {nx : Nat} {sd : List Nat} {v : Value} {ls st : List AV} {rc rs n : Nat} {I : HI} {L : HL} {A : HA} : stp X kd C Q P ins nx sd v ls st rc rs n I L A → stp X kd C' Q' P' ins nx sd v ls st rc rs n I L A := by
  cases ins <;> simp only [stp, frc_iff] <;>
  (repeat' (first
    | exact id
    | exact hP _ _ _ _ _ _ _ _ _
    | exact hQ _ _ _ _ _
    | exact fun h => ⟨h.1, hP _ _ _ _ _ _ _ _ _ h.2⟩
    | exact fun h => ⟨h.1, h.2.1, hP _ _ _ _ _ _ _ _ _ h.2.2⟩
    | exact fun h => ⟨fun c => hP _ _ _ _ _ _ _ _ _ (h.1 c), fun c => hP _ _ _ _ _ _ _ _ _ (h.2 c)⟩
    | exact fun h => ⟨fun c => hP _ _ _ _ _ _ _ _ _ (h.1 c), tgs_mono (fun t => hP _ _ _ _ _ _ _ _ _) _ _ _ h.2⟩
    | exact fun h => ⟨h.1, h.2.1, h.2.2.1, h.2.2.2.1, hP _ _ _ _ _ _ _ _ _ h.2.2.2.2⟩
    | exact fun h => ⟨h.1, h.2.1, h.2.2.1, fun n' c => hQ _ _ _ _ _ (h.2.2.2 n' c)⟩
    | exact fun h => ⟨h.1, h.2.1, h.2.2.1, h.2.2.2.1, h.2.2.2.2.1, h.2.2.2.2.2.1, hP _ _ _ _ _ _ _ _ _ h.2.2.2.2.2.2⟩
    | exact fun h => ⟨h.1, hQ _ _ _ _ _ h.2⟩
    | exact fun h => ⟨h.1, h.2.1, h.2.2.1, h.2.2.2.1, h.2.2.2.2.1, hP _ _ _ _ _ _ _ _ _ h.2.2.2.2.2⟩
    | (refine spl_mono (fun a r => ?_) _ _ _)
    | exact inv_mono hC (fun rc rs o n I L A => back_mono hQ hP)
    | (refine bif_imp ?_ ?_)
    | (refine And.imp id ?_)
    | split))
theorem stA_mono {C C' : CT} (hC : ∀ k as mc ms n I L A (Q Q' : AQ), (∀ o n I L A, Q o n I L A → Q' o n I L A) → C k as mc ms n I L A Q → C' k as mc ms n I L A Q') {tb : Tb} {Q Q' : AQ} (hQ : ∀ o n I L A, Q o n I L A → Q' o n I L A) {P P' : PT} (hP : ∀ pc ls st rc rs n I L A, P pc ls st rc rs n I L A → P' pc ls st rc rs n I L A) {pc : Nat} {ls st : List AV} {rc rs n : Nat} {I : HI} {L : HL} {A : HA} (h : stA X kd C tb Q P pc ls st rc rs n I L A) : stA X kd C' tb Q' P' pc ls st rc rs n I L A := by
  unfold stA at h ⊢
  cases hl : lk tb pc with
  | none => rw [hl] at h; exact h
  | some e => rw [hl] at h; exact stp_mono hC hQ hP h
section
variable {Cn : Nat → CT} {Rn : Nat → Tb → AQ → PT}
theorem sN_Rn (T : Th X kd Cn Rn) {d : Nat} {tb : Tb} {Q : AQ} (cuts : List Nat) (m : Nat) : ∀ {pc : Nat} {ls st : List AV} {rc rs n : Nat} {I : HI} {L : HL} {A : HA}, sN X kd (Cn d) tb Q cuts (Rn d tb Q) m pc ls st rc rs n I L A → Rn d tb Q pc ls st rc rs n I L A := by
  induction m with
  | zero => intro pc ls st rc rs n I L A h; exact h
  | succ m ih =>
    intro pc ls st rc rs n I L A h
    refine T.2.1 _ _ _ _ _ _ _ _ _ _ _ _ (stA_mono (C := Cn d) (T.2.2 d) (Q := Q) (fun _ _ _ _ _ h => h) (P := fun pc ls st rc rs n I L A => bif elm pc cuts then Rn d tb Q pc ls st rc rs n I L A else sN X kd (Cn d) tb Q cuts (Rn d tb Q) m pc ls st rc rs n I L A) (fun pc ls st rc rs n I L A h => ?_) h)
    cases hb : elm pc cuts with
    | true => rw [hb] at h; exact h
    | false => rw [hb] at h; exact ih h
theorem Th.go (T : Th X kd Cn Rn) {d : Nat} {tb : Tb} {Q : AQ} (cuts : List Nat) (m : Nat) {pc : Nat} {ls st : List AV} {rc rs n : Nat} {I : HI} {L : HL} {A : HA} (h : sN X kd (Cn d) tb Q cuts (Rn d tb Q) m pc ls st rc rs n I L A) : Rn d tb Q pc ls st rc rs n I L A := sN_Rn T cuts m h
theorem Th.call (T : Th X kd Cn Rn) {d k : Nat} {as : List AV} {mc ms n : Nat} {I : HI} {L : HL} {A : HA} {Q : AQ} (hb : argB k as = true) (h : Rn d (tbm k).1 Q 0 (entL as (tbm k).2) [] mc ms n I L A) : Cn (d + 1) k as mc ms n I L A Q := T.1 d k as mc ms n I L A Q hb h
end
/-! the theory's own instance -/
def RnD (X : Ext) (kd : Nat → Nat) (C : CT) (tb : Tb) (Q : AQ) : PT := fun pc ls st rc rs n I L A => ∀ P : PT, (∀ pc ls st rc rs n I L A, stA X kd C tb Q P pc ls st rc rs n I L A → P pc ls st rc rs n I L A) → P pc ls st rc rs n I L A
def CnD (X : Ext) (kd : Nat → Nat) : Nat → CT
  | 0 => fun _ _ _ _ _ _ _ _ _ => False
  | d + 1 => fun k as mc ms n I L A Q => argB k as = true ∧ RnD X kd (CnD X kd d) (tbm k).1 Q 0 (entL as (tbm k).2) [] mc ms n I L A
theorem RnD_mono {C : CT} (hC : ∀ k as mc ms n I L A (Q Q' : AQ), (∀ o n I L A, Q o n I L A → Q' o n I L A) → C k as mc ms n I L A Q → C k as mc ms n I L A Q') {tb : Tb} {Q Q' : AQ} (hQ : ∀ o n I L A, Q o n I L A → Q' o n I L A) {pc : Nat} {ls st : List AV} {rc rs n : Nat} {I : HI} {L : HL} {A : HA} (h : RnD X kd C tb Q pc ls st rc rs n I L A) : RnD X kd C tb Q' pc ls st rc rs n I L A := by
  intro P hP
  exact h P fun pc ls st rc rs n I L A h1 => hP _ _ _ _ _ _ _ _ _ (stA_mono hC hQ (fun _ _ _ _ _ _ _ _ _ h => h) h1)
theorem CnD_mono (d : Nat) : ∀ k as mc ms n I L A (Q Q' : AQ), (∀ o n I L A, Q o n I L A → Q' o n I L A) → CnD X kd d k as mc ms n I L A Q → CnD X kd d k as mc ms n I L A Q' := by
  induction d with
  | zero => intro k as mc ms n I L A Q Q' _ h; exact h
  | succ d ih => intro k as mc ms n I L A Q Q' hQ h; exact ⟨h.1, RnD_mono ih hQ h.2⟩
theorem RnD_intro {C : CT} (hC : ∀ k as mc ms n I L A (Q Q' : AQ), (∀ o n I L A, Q o n I L A → Q' o n I L A) → C k as mc ms n I L A Q → C k as mc ms n I L A Q') {tb : Tb} {Q : AQ} {pc : Nat} {ls st : List AV} {rc rs n : Nat} {I : HI} {L : HL} {A : HA} (h : stA X kd C tb Q (RnD X kd C tb Q) pc ls st rc rs n I L A) : RnD X kd C tb Q pc ls st rc rs n I L A := by
  intro P hP
  exact hP _ _ _ _ _ _ _ _ _ (stA_mono hC (fun _ _ _ _ _ h => h) (fun pc ls st rc rs n I L A h1 => h1 P hP) h)
theorem ThD : Th X kd (CnD X kd) (fun d => RnD X kd (CnD X kd d)) :=
  ⟨fun _ _ _ _ _ _ _ _ _ _ hb h => ⟨hb, h⟩, fun d _ _ _ _ _ _ _ _ _ _ _ h => RnD_intro (CnD_mono d) h, CnD_mono⟩
end
