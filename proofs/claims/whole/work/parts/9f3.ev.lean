/-! THE START, 4: the evaluator's instructions hold -/
/-- what waits behind a call -/
def MQ9 (X : Ext) (Q0 : AQ) : Nat → List F9 → AQ
  | _, [] => Q0
  | d, f :: fs => fun o n I L A => match o with
    | .inl none => RnD X kdF (CnD X kdF d) (tbm f.k).1 (MQ9 X Q0 (d + 1) fs) f.nx f.ls f.st f.rc f.rs n I L A
    | .inl (some v) => RnD X kdF (CnD X kdF d) (tbm f.k).1 (MQ9 X Q0 (d + 1) fs) f.nx f.ls (v :: f.st) f.rc f.rs n I L A
    | .inr _ => False
/-- what is to be shown of a state -/
def Mn9 (X : Ext) (Q0 : AQ) (p : P9) (c : C9) : Prop := RnD X kdF (CnD X kdF c.d) (tbm c.k).1 (MQ9 X Q0 (c.d + 1) c.fs) p.pc p.ls p.st c.rc c.rs c.n (dHI c.I) (dHL c.L) (dHA c.A)
/-- an instruction that leaves the rest alone -/
def SnP (ins : Instr) (h : H9) : Prop := ∀ (X : Ext) (C : CT) (Q : AQ) (P : PT) (nx : Nat) (sd : List Nat) (v : Value) (ls st : List AV) (rc rs n : Nat) (I : HI) (L : HL) (A : HA) (p : P9), h nx sd v ls st = some p → P p.pc p.ls p.st rc rs n I L A → stp X kdF C Q P ins nx sd v ls st rc rs n I L A
/-- the outside's static rows are these -/
def XOk (X : Ext) : Prop := ∀ r i, Nat.beq r 10100 = false → X.1 r i = sv9 r i
def SnK (ins : Instr) (h : K9) : Prop := ∀ (X : Ext) (_ : XOk X) (C : CT) (Q : AQ) (P : PT) (nx : Nat) (sd : List Nat) (v : Value) (ls st : List AV) (c : C9) (p : P9) (c' : C9), h nx sd v ls st c = some (p, c') → (c'.d = c.d ∧ c'.k = c.k ∧ c'.fs = c.fs) ∧ (P p.pc p.ls p.st c'.rc c'.rs c'.n (dHI c'.I) (dHL c'.L) (dHA c'.A) → stp X kdF C Q P ins nx sd v ls st c.rc c.rs c.n (dHI c.I) (dHL c.L) (dHA c.A))
theorem sp_no (ins : Instr) : SnP ins h9_no := fun _ _ _ _ _ _ _ _ _ _ _ _ _ _ _ _ h _ => by cases h
theorem sp_iconst (i) : SnP (.iconst i) h9_iconst := by
  intro X C Q P nx sd v ls st rc rs n I L A p h hp
  cases h
  exact hp
theorem sp_bipush (i) : SnP (.bipush i) h9_iconst := by
  intro X C Q P nx sd v ls st rc rs n I L A p h hp
  cases h
  exact hp
theorem sp_sipush (i) : SnP (.sipush i) h9_iconst := by
  intro X C Q P nx sd v ls st rc rs n I L A p h hp
  cases h
  exact hp
theorem sp_lconst (i) : SnP (.lconst i) h9_iconst := by
  intro X C Q P nx sd v ls st rc rs n I L A p h hp
  cases h
  exact hp
theorem sp_ldc2 (i) : SnP (.ldc2_w i) h9_iconst := by
  intro X C Q P nx sd v ls st rc rs n I L A p h hp
  cases h
  exact hp
theorem sp_iload_n (i) : SnP (.iload_n i) h9_iload_n := by
  intro X C Q P nx sd v ls st rc rs n I L A p h hp
  unfold h9_iload_n at h
  split at h
  · rename_i j
    split at h
    · rename_i heq
      rw [lgR_eq] at heq
      cases h
      show (match lget ls j with
        | (.int x, _) => P nx ls ((.int x, 0) :: st) rc rs n I L A
        | _ => False)
      rw [heq]
      exact hp
    · cases h
  · cases h
theorem sp_iload (i) : SnP (.iload i) h9_iload_n := by
  intro X C Q P nx sd v ls st rc rs n I L A p h hp
  unfold h9_iload_n at h
  split at h
  · rename_i j
    split at h
    · rename_i heq
      rw [lgR_eq] at heq
      cases h
      show (match lget ls j with
        | (.int x, _) => P nx ls ((.int x, 0) :: st) rc rs n I L A
        | _ => False)
      rw [heq]
      exact hp
    · cases h
  · cases h
theorem sp_lload_n (i) : SnP (.lload_n i) h9_lload_n := by
  intro X C Q P nx sd v ls st rc rs n I L A p h hp
  unfold h9_lload_n at h
  split at h
  · rename_i j
    split at h
    · rename_i heq
      rw [lgR_eq] at heq
      cases h
      show (match lget ls j with
        | (.long x, _) => P nx ls ((.long x, 0) :: st) rc rs n I L A
        | _ => False)
      rw [heq]
      exact hp
    · cases h
  · cases h
theorem sp_lload (i) : SnP (.lload i) h9_lload_n := by
  intro X C Q P nx sd v ls st rc rs n I L A p h hp
  unfold h9_lload_n at h
  split at h
  · rename_i j
    split at h
    · rename_i heq
      rw [lgR_eq] at heq
      cases h
      show (match lget ls j with
        | (.long x, _) => P nx ls ((.long x, 0) :: st) rc rs n I L A
        | _ => False)
      rw [heq]
      exact hp
    · cases h
  · cases h
theorem sp_aload_n (i) : SnP (.aload_n i) h9_aload_n := by
  intro X C Q P nx sd v ls st rc rs n I L A p h hp
  unfold h9_aload_n at h
  split at h
  · rename_i j
    split at h
    · rename_i heq
      rw [lgR_eq] at heq
      cases h
      show (match lget ls j with
        | (.ref x, t) => P nx ls ((.ref x, t) :: st) rc rs n I L A
        | _ => False)
      rw [heq]
      exact hp
    · cases h
  · cases h
theorem sp_aload (i) : SnP (.aload i) h9_aload_n := by
  intro X C Q P nx sd v ls st rc rs n I L A p h hp
  unfold h9_aload_n at h
  split at h
  · rename_i j
    split at h
    · rename_i heq
      rw [lgR_eq] at heq
      cases h
      show (match lget ls j with
        | (.ref x, t) => P nx ls ((.ref x, t) :: st) rc rs n I L A
        | _ => False)
      rw [heq]
      exact hp
    · cases h
  · cases h
theorem sp_istore_n (i) : SnP (.istore_n i) h9_istore_n := by
  intro X C Q P nx sd v ls st rc rs n I L A p h hp
  unfold h9_istore_n at h
  split at h
  · cases h
    rw [lsR_eq] at hp
    exact (frc_iff _ _).mpr hp
  · cases h
theorem sp_istore (i) : SnP (.istore i) h9_istore_n := by
  intro X C Q P nx sd v ls st rc rs n I L A p h hp
  unfold h9_istore_n at h
  split at h
  · cases h
    rw [lsR_eq] at hp
    exact (frc_iff _ _).mpr hp
  · cases h
theorem sp_lstore_n (i) : SnP (.lstore_n i) h9_lstore_n := by
  intro X C Q P nx sd v ls st rc rs n I L A p h hp
  unfold h9_lstore_n at h
  split at h
  · cases h
    rw [lsR_eq] at hp
    exact (frc_iff _ _).mpr hp
  · cases h
theorem sp_lstore (i) : SnP (.lstore i) h9_lstore_n := by
  intro X C Q P nx sd v ls st rc rs n I L A p h hp
  unfold h9_lstore_n at h
  split at h
  · cases h
    rw [lsR_eq] at hp
    exact (frc_iff _ _).mpr hp
  · cases h
theorem sp_astore_n (i) : SnP (.astore_n i) h9_astore_n := by
  intro X C Q P nx sd v ls st rc rs n I L A p h hp
  unfold h9_astore_n at h
  split at h
  · cases h
    rw [lsR_eq] at hp
    exact (frc_iff _ _).mpr hp
  · cases h
theorem sp_astore (i) : SnP (.astore i) h9_astore_n := by
  intro X C Q P nx sd v ls st rc rs n I L A p h hp
  unfold h9_astore_n at h
  split at h
  · cases h
    rw [lsR_eq] at hp
    exact (frc_iff _ _).mpr hp
  · cases h
theorem sp_iinc (a b) : SnP (.iinc a b) h9_iinc := by
  intro X C Q P nx sd v ls st rc rs n I L A p h hp
  unfold h9_iinc at h
  split at h
  · rename_i j c
    split at h
    · rename_i heq
      rw [lgR_eq] at heq
      rw [z32_eq] at h
      cases h
      rw [lsR_eq] at hp
      show (match lget ls j with
        | (.int x, _) => frc (lset ls j (.int (x + c), 0)) fun ls' => P nx ls' st rc rs n I L A
        | _ => False)
      rw [heq]
      exact (frc_iff _ _).mpr hp
    · cases h
  · cases h
theorem sp_dup : SnP .dup h9_dup := by
  intro X C Q P nx sd v ls st rc rs n I L A p h hp
  unfold h9_dup at h
  split at h
  · rename_i x r
    show (bif isW x.1 then False else P nx ls (x :: x :: r) rc rs n I L A)
    cases e : isW x.1 with
    | true => rw [e] at h; cases h
    | false =>
      rw [e] at h
      cases h
      exact hp
  · cases h
theorem sp_dup2 : SnP .dup2 h9_dup2 := by
  intro X C Q P nx sd v ls st rc rs n I L A p h hp
  unfold h9_dup2 at h
  split at h
  · rename_i x y r
    show (bif isW x.1 || isW y.1 then False else P nx ls (x :: y :: x :: y :: r) rc rs n I L A)
    cases e : (isW x.1 || isW y.1) with
    | true => rw [e] at h; cases h
    | false =>
      rw [e] at h
      cases h
      exact hp
  · cases h
theorem sp_isub : SnP .isub h9_isub := by
  intro X C Q P nx sd v ls st rc rs n I L A p h hp
  unfold h9_isub at h
  split at h
  · cases h
    exact hp
  · cases h
theorem sp_iadd : SnP .iadd h9_iadd := by
  intro X C Q P nx sd v ls st rc rs n I L A p h hp
  unfold h9_iadd at h
  split at h
  · cases h
    exact hp
  · cases h
theorem sp_imul : SnP .imul h9_imul := by
  intro X C Q P nx sd v ls st rc rs n I L A p h hp
  unfold h9_imul at h
  split at h
  · cases h
    exact hp
  · cases h
theorem sp_iand : SnP .iand h9_iand := by
  intro X C Q P nx sd v ls st rc rs n I L A p h hp
  unfold h9_iand at h
  split at h
  · cases h
    exact hp
  · cases h
theorem sp_ior : SnP .ior h9_ior := by
  intro X C Q P nx sd v ls st rc rs n I L A p h hp
  unfold h9_ior at h
  split at h
  · cases h
    exact hp
  · cases h
theorem sp_ishl : SnP .ishl h9_ishl := by
  intro X C Q P nx sd v ls st rc rs n I L A p h hp
  unfold h9_ishl at h
  split at h
  · cases h
    exact hp
  · cases h
theorem sp_ishr : SnP .ishr h9_ishr := by
  intro X C Q P nx sd v ls st rc rs n I L A p h hp
  unfold h9_ishr at h
  split at h
  · cases h
    exact hp
  · cases h
theorem sp_iushr : SnP .iushr h9_iushr := by
  intro X C Q P nx sd v ls st rc rs n I L A p h hp
  unfold h9_iushr at h
  split at h
  · cases h
    exact hp
  · cases h
theorem sp_ineg : SnP .ineg h9_ineg := by
  intro X C Q P nx sd v ls st rc rs n I L A p h hp
  unfold h9_ineg at h
  split at h
  · cases h
    exact hp
  · cases h
theorem sp_ladd : SnP .ladd h9_ladd := by
  intro X C Q P nx sd v ls st rc rs n I L A p h hp
  unfold h9_ladd at h
  split at h
  · cases h
    exact hp
  · cases h
theorem sp_lsub : SnP .lsub h9_lsub := by
  intro X C Q P nx sd v ls st rc rs n I L A p h hp
  unfold h9_lsub at h
  split at h
  · cases h
    exact hp
  · cases h
theorem sp_land : SnP .land h9_land := by
  intro X C Q P nx sd v ls st rc rs n I L A p h hp
  unfold h9_land at h
  split at h
  · cases h
    exact hp
  · cases h
theorem sp_lor : SnP .lor h9_lor := by
  intro X C Q P nx sd v ls st rc rs n I L A p h hp
  unfold h9_lor at h
  split at h
  · cases h
    exact hp
  · cases h
theorem sp_lxor : SnP .lxor h9_lxor := by
  intro X C Q P nx sd v ls st rc rs n I L A p h hp
  unfold h9_lxor at h
  split at h
  · cases h
    exact hp
  · cases h
theorem sp_lneg : SnP .lneg h9_lneg := by
  intro X C Q P nx sd v ls st rc rs n I L A p h hp
  unfold h9_lneg at h
  split at h
  · cases h
    exact hp
  · cases h
theorem sp_lshl : SnP .lshl h9_lshl := by
  intro X C Q P nx sd v ls st rc rs n I L A p h hp
  unfold h9_lshl at h
  split at h
  · cases h
    exact hp
  · cases h
theorem sp_lushr : SnP .lushr h9_lushr := by
  intro X C Q P nx sd v ls st rc rs n I L A p h hp
  unfold h9_lushr at h
  split at h
  · cases h
    exact hp
  · cases h
theorem sp_i2l : SnP .i2l h9_i2l := by
  intro X C Q P nx sd v ls st rc rs n I L A p h hp
  unfold h9_i2l at h
  split at h
  · cases h
    exact hp
  · cases h
theorem sp_l2i : SnP .l2i h9_l2i := by
  intro X C Q P nx sd v ls st rc rs n I L A p h hp
  unfold h9_l2i at h
  split at h
  · cases h
    exact hp
  · cases h
theorem sp_lcmp : SnP .lcmp h9_lcmp := by
  intro X C Q P nx sd v ls st rc rs n I L A p h hp
  unfold h9_lcmp at h
  split at h
  · cases h
    exact hp
  · cases h
theorem sp_idiv : SnP .idiv h9_idiv := by
  intro X C Q P nx sd v ls st rc rs n I L A p h hp
  unfold h9_idiv at h
  split at h
  · rename_i y _ x _ r
    cases e : decide (y = 0) with
    | true => rw [e] at h; cases h
    | false =>
      rw [e] at h
      cases h
      exact ⟨of_decide_eq_false e, hp⟩
  · cases h
theorem sp_irem : SnP .irem h9_irem := by
  intro X C Q P nx sd v ls st rc rs n I L A p h hp
  unfold h9_irem at h
  split at h
  · rename_i y _ x _ r
    cases e : decide (y = 0) with
    | true => rw [e] at h; cases h
    | false =>
      rw [e] at h
      cases h
      exact ⟨of_decide_eq_false e, hp⟩
  · cases h
theorem sp_goto (i) : SnP (.goto i) h9_goto := by
  intro X C Q P nx sd v ls st rc rs n I L A p h hp
  unfold h9_goto at h
  split at h
  · cases h
    exact hp
  · cases h
theorem sp_getstatic (i) : SnP (.getstatic i) h9_getstatic := by
  intro X C Q P nx sd v ls st rc rs n I L A p h hp
  unfold h9_getstatic at h
  split at h
  · cases h
    exact hp
  · cases h
theorem sp_if_eq (i) : SnP (.ifCond .eq i) h9_if_eq := by
  intro X C Q P nx sd v ls st rc rs n I L A p h hp
  unfold h9_if_eq at h
  split at h
  · rename_i _ x _ r
    cases e : decide (x = 0) with
    | true =>
      rw [e] at h
      cases h
      exact ⟨fun _ => hp, fun g => absurd (of_decide_eq_true e) g⟩
    | false =>
      rw [e] at h
      cases h
      exact ⟨fun g => absurd g (of_decide_eq_false e), fun _ => hp⟩
  · cases h
theorem sp_if_ne (i) : SnP (.ifCond .ne i) h9_if_ne := by
  intro X C Q P nx sd v ls st rc rs n I L A p h hp
  unfold h9_if_ne at h
  split at h
  · rename_i _ x _ r
    cases e : decide (x = 0) with
    | true =>
      rw [e] at h
      cases h
      exact ⟨fun g => absurd (of_decide_eq_true e) g, fun _ => hp⟩
    | false =>
      rw [e] at h
      cases h
      exact ⟨fun _ => hp, fun g => absurd g (of_decide_eq_false e)⟩
  · cases h
theorem sp_if_lt (i) : SnP (.ifCond .lt i) h9_if_lt := by
  intro X C Q P nx sd v ls st rc rs n I L A p h hp
  unfold h9_if_lt at h
  split at h
  · rename_i _ x _ r
    cases e : decide (x < 0) with
    | true =>
      rw [e] at h
      cases h
      exact ⟨fun _ => hp, fun g => absurd (of_decide_eq_true e) g⟩
    | false =>
      rw [e] at h
      cases h
      exact ⟨fun g => absurd g (of_decide_eq_false e), fun _ => hp⟩
  · cases h
theorem sp_if_ge (i) : SnP (.ifCond .ge i) h9_if_ge := by
  intro X C Q P nx sd v ls st rc rs n I L A p h hp
  unfold h9_if_ge at h
  split at h
  · rename_i _ x _ r
    cases e : decide (0 ≤ x) with
    | true =>
      rw [e] at h
      cases h
      exact ⟨fun _ => hp, fun g => absurd (of_decide_eq_true e) g⟩
    | false =>
      rw [e] at h
      cases h
      exact ⟨fun g => absurd g (of_decide_eq_false e), fun _ => hp⟩
  · cases h
theorem sp_if_gt (i) : SnP (.ifCond .gt i) h9_if_gt := by
  intro X C Q P nx sd v ls st rc rs n I L A p h hp
  unfold h9_if_gt at h
  split at h
  · rename_i _ x _ r
    cases e : decide (0 < x) with
    | true =>
      rw [e] at h
      cases h
      exact ⟨fun _ => hp, fun g => absurd (of_decide_eq_true e) g⟩
    | false =>
      rw [e] at h
      cases h
      exact ⟨fun g => absurd g (of_decide_eq_false e), fun _ => hp⟩
  · cases h
theorem sp_if_le (i) : SnP (.ifCond .le i) h9_if_le := by
  intro X C Q P nx sd v ls st rc rs n I L A p h hp
  unfold h9_if_le at h
  split at h
  · rename_i _ x _ r
    cases e : decide (x ≤ 0) with
    | true =>
      rw [e] at h
      cases h
      exact ⟨fun _ => hp, fun g => absurd (of_decide_eq_true e) g⟩
    | false =>
      rw [e] at h
      cases h
      exact ⟨fun g => absurd g (of_decide_eq_false e), fun _ => hp⟩
  · cases h
theorem sp_ic_eq (i) : SnP (.if_icmp .eq i) h9_ic_eq := by
  intro X C Q P nx sd v ls st rc rs n I L A p h hp
  unfold h9_ic_eq at h
  split at h
  · rename_i _ y _ x _ r
    cases e : decide (x = y) with
    | true =>
      rw [e] at h
      cases h
      exact ⟨fun _ => hp, fun g => absurd (of_decide_eq_true e) g⟩
    | false =>
      rw [e] at h
      cases h
      exact ⟨fun g => absurd g (of_decide_eq_false e), fun _ => hp⟩
  · cases h
theorem sp_ic_ne (i) : SnP (.if_icmp .ne i) h9_ic_ne := by
  intro X C Q P nx sd v ls st rc rs n I L A p h hp
  unfold h9_ic_ne at h
  split at h
  · rename_i _ y _ x _ r
    cases e : decide (x = y) with
    | true =>
      rw [e] at h
      cases h
      exact ⟨fun g => absurd (of_decide_eq_true e) g, fun _ => hp⟩
    | false =>
      rw [e] at h
      cases h
      exact ⟨fun _ => hp, fun g => absurd g (of_decide_eq_false e)⟩
  · cases h
theorem sp_ic_lt (i) : SnP (.if_icmp .lt i) h9_ic_lt := by
  intro X C Q P nx sd v ls st rc rs n I L A p h hp
  unfold h9_ic_lt at h
  split at h
  · rename_i _ y _ x _ r
    cases e : decide (x < y) with
    | true =>
      rw [e] at h
      cases h
      exact ⟨fun _ => hp, fun g => absurd (of_decide_eq_true e) g⟩
    | false =>
      rw [e] at h
      cases h
      exact ⟨fun g => absurd g (of_decide_eq_false e), fun _ => hp⟩
  · cases h
theorem sp_ic_ge (i) : SnP (.if_icmp .ge i) h9_ic_ge := by
  intro X C Q P nx sd v ls st rc rs n I L A p h hp
  unfold h9_ic_ge at h
  split at h
  · rename_i _ y _ x _ r
    cases e : decide (y ≤ x) with
    | true =>
      rw [e] at h
      cases h
      exact ⟨fun _ => hp, fun g => absurd (of_decide_eq_true e) g⟩
    | false =>
      rw [e] at h
      cases h
      exact ⟨fun g => absurd g (of_decide_eq_false e), fun _ => hp⟩
  · cases h
theorem sp_ic_gt (i) : SnP (.if_icmp .gt i) h9_ic_gt := by
  intro X C Q P nx sd v ls st rc rs n I L A p h hp
  unfold h9_ic_gt at h
  split at h
  · rename_i _ y _ x _ r
    cases e : decide (y < x) with
    | true =>
      rw [e] at h
      cases h
      exact ⟨fun _ => hp, fun g => absurd (of_decide_eq_true e) g⟩
    | false =>
      rw [e] at h
      cases h
      exact ⟨fun g => absurd g (of_decide_eq_false e), fun _ => hp⟩
  · cases h
theorem sp_ic_le (i) : SnP (.if_icmp .le i) h9_ic_le := by
  intro X C Q P nx sd v ls st rc rs n I L A p h hp
  unfold h9_ic_le at h
  split at h
  · rename_i _ y _ x _ r
    cases e : decide (x ≤ y) with
    | true =>
      rw [e] at h
      cases h
      exact ⟨fun _ => hp, fun g => absurd (of_decide_eq_true e) g⟩
    | false =>
      rw [e] at h
      cases h
      exact ⟨fun g => absurd g (of_decide_eq_false e), fun _ => hp⟩
  · cases h
theorem sp_arraylength : SnP .arraylength h9_arraylength := by
  intro X C Q P nx sd v ls st rc rs n I L A p h hp
  unfold h9_arraylength at h
  split at h
  · rename_i r t rest
    split at h
    · cases h
    · cases h
    · rename_i h8 h0
      cases h
      show (match kSort t with
        | 8 => P nx ls ((.int (Int32.ofNat X.2.2.2.2.2), 0) :: rest) rc rs n I L A
        | 0 => False
        | _ => P nx ls ((.int (Int32.ofNat (kLen t)), 0) :: rest) rc rs n I L A)
      split
      · rename_i e; exact absurd e h8
      · rename_i e; exact absurd e h0
      · exact hp
  · cases h
theorem sp_invokevirtual (i) : SnP (.invokevirtual i) h9_invokevirtual := by
  intro X C Q P nx sd v ls st rc rs n I L A p h hp
  unfold h9_invokevirtual at h
  split at h
  all_goals first
    | (cases h; done)
    | (split at h
       · rename_i rest
         cases e : Nat.ble (catS rest) 8 with
         | false => rw [e] at h; cases h
         | true =>
           rw [e] at h
           cases h
           show (bif Nat.ble (catS rest) 8 then _ else False)
           rw [e]
           exact hp
       · cases h)
theorem sp_invokestatic (i) : SnP (.invokestatic i) h9_invokevirtual := by
  intro X C Q P nx sd v ls st rc rs n I L A p h hp
  unfold h9_invokevirtual at h
  split at h
  all_goals first
    | (cases h; done)
    | (split at h
       · rename_i rest
         cases e : Nat.ble (catS rest) 8 with
         | false => rw [e] at h; cases h
         | true =>
           rw [e] at h
           cases h
           show (bif Nat.ble (catS rest) 8 then _ else False)
           rw [e]
           exact hp
       · cases h)
theorem sp_invokespecial (i) : SnP (.invokespecial i) h9_invokevirtual := by
  intro X C Q P nx sd v ls st rc rs n I L A p h hp
  unfold h9_invokevirtual at h
  split at h
  all_goals first
    | (cases h; done)
    | (split at h
       · rename_i rest
         cases e : Nat.ble (catS rest) 8 with
         | false => rw [e] at h; cases h
         | true =>
           rw [e] at h
           cases h
           show (bif Nat.ble (catS rest) 8 then _ else False)
           rw [e]
           exact hp
       · cases h)
