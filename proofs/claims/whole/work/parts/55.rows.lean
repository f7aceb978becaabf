/-! a long table, row by row -/
noncomputable def rowT (own : String) (cc : ByteArray) (pc : Nat) (tb : Tb) (ht : List (List Nat)) (j : Nat) : Bool := match nth tb j, nth ht j with
  | some r, some h => (Nat.beq (j + 1) tb.length || Nat.beq r.length 16) && okR own cc (pc + 16 * j) r h
  | _, _ => false
theorem okT_rows (own : String) (cc : ByteArray) (tb : Tb) : ∀ (pc : Nat) (ht : List (List Nat)), (∀ j, j < tb.length → rowT own cc pc tb ht j = true) → okT own cc pc tb ht = true := by
  induction tb with
  | nil => intro pc ht _; cases ht <;> rfl
  | cons r rs ih =>
    intro pc ht h
    have h0 := h 0 (Nat.succ_pos _)
    cases ht with
    | nil => cases h0
    | cons hh hs =>
      have h0 : ((Nat.beq 1 (rs.length + 1) || Nat.beq r.length 16) && okR own cc pc r hh) = true := h0
      rw [Bool.and_eq_true] at h0
      cases rs with
      | nil => exact h0.2
      | cons r2 rs =>
        have h1 : Nat.beq r.length 16 = true := by
          rcases Bool.or_eq_true _ _ ▸ h0.1 with h2 | h2
          · have := Nat.eq_of_beq_eq_true h2
            simp at this
          · exact h2
        show (Nat.beq r.length 16 && okR own cc pc r hh && okT own cc (pc + 16) (r2 :: rs) hs) = true
        rw [h1, h0.2, ih (pc + 16) hs (fun j hj => ?_)]
        · rfl
        · have h3 := h (j + 1) (Nat.succ_lt_succ hj)
          unfold rowT at h3 ⊢
          rw [show pc + 16 + 16 * j = pc + 16 * (j + 1) by omega]
          exact h3
noncomputable def rowY (k j : Nat) : Bool := match mtm k with
  | some (y, b, _, _, _, _, ht) => rowT y.cls b 0 (tbm k).1 ht j
  | none => false
noncomputable def okYr (k : Nat) : Bool := match mtm k with
  | some (y, b, rt, hh, st, [cw, q1, q2, q3, n], ht) => plainName y.cls && decide (y.cls ≠ "java/lang/invoke/MethodHandle" ∧ y.cls ≠ "java/lang/invoke/VarHandle") && decide ((parseMethodDescriptor y.desc).map (fun d => d.parameters.length) = some n) &&
    (bif st then decide (wt q1 = some (.static y)) else decide (wt q1 = some (.instanceMethod y)) && (decide (y.name = "<init>") || decide (wt q2 = some (.selects y.cls y y)))) && decide (wt q3 = some (.initialized y.cls)) &&
    (match hh with | [] => decide (wt cw = some (.code y b (tbm k).2 rt)) | _ => decide (wt cw = some (.codeWith y b (tbm k).2 rt hh)))
  | _ => false
theorem okY_rows {k n : Nat} (h : okYr k = true) (hn : (tbm k).1.length = n) (hr : ∀ j, j < n → rowY k j = true) : okY k = true := by
  subst hn
  unfold okYr at h
  unfold okY
  split at h
  · rename_i y b rt hh st cw q1 q2 q3 n ht e
    have hT : okT y.cls b 0 (tbm k).1 ht = true := okT_rows _ _ _ _ _ (fun j hj => by
      have h1 := hr j hj
      unfold rowY at h1
      rw [e] at h1
      exact h1)
    rw [e]
    simp only [Bool.and_eq_true] at h ⊢
    obtain ⟨⟨⟨⟨⟨a1, a2⟩, a3⟩, a4⟩, a5⟩, a6⟩ := h
    exact ⟨⟨⟨⟨⟨⟨a1, a2⟩, a3⟩, hT⟩, a4⟩, a5⟩, a6⟩
  · cases h
theorem rowS {P : Nat → Bool} {n : Nat} (h : ∀ j, j < n → P j = true) {l : List Nat} {k : Nat} (hl : l = List.range' n k) (hk : l.all P = true) : ∀ j, j < n + k → P j = true := by
  subst hl
  intro j hj
  by_cases h1 : j < n
  · exact h j h1
  · exact List.all_eq_true.mp hk j (List.mem_range'_1.mpr ⟨by omega, hj⟩)
