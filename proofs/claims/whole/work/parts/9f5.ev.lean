/-! THE START, 6: the evaluator holds -/
theorem spl_L : ∀ (n : Nat) (st acc : List AV) (as rest : List AV) (k : List AV → List AV → Prop), splL n st acc = some (as, rest) → k as rest → spl n st acc k
  | 0, st, acc, as, rest, k, h, hk => by cases h; exact hk
  | n + 1, [], acc, as, rest, k, h, hk => by cases h
  | n + 1, x :: st, acc, as, rest, k, h, hk => spl_L n st (x :: acc) as rest k h hk
/-- an instruction, with what waits -/
def Sn9 (ins : Instr) : Prop := ∀ (X : Ext) (_ : XOk X) (Q0 : AQ) (nx : Nat) (sd : List Nat) (v : Value) (ls st : List AV) (c : C9) (p : P9) (c' : C9), st9 (some (ins, nx, sd, v)) ls st c = some (p, c') → Mn9 X Q0 p c' → stp X kdF (CnD X kdF c.d) (MQ9 X Q0 (c.d + 1) c.fs) (RnD X kdF (CnD X kdF c.d) (tbm c.k).1 (MQ9 X Q0 (c.d + 1) c.fs)) ins nx sd v ls st c.rc c.rs c.n (dHI c.I) (dHL c.L) (dHA c.A)
theorem sm9_p {ins : Instr} {h : H9} (e : dsB ins = .inl h) (hs : SnP ins h) : Sn9 ins := by
  intro X hX Q0 nx sd v ls st c p c' h1 h2
  unfold st9 at h1
  dsimp only at h1
  rw [e] at h1
  dsimp only at h1
  split at h1
  · rename_i p' hp'
    cases h1
    exact hs X _ _ _ nx sd v ls st _ _ _ _ _ _ p hp' h2
  · cases h1
theorem sm9_k {ins : Instr} {h : K9} (e : dsB ins = .inr h) (hs : SnK ins h) : Sn9 ins := by
  intro X hX Q0 nx sd v ls st c p c' h1 h2
  unfold st9 at h1
  dsimp only at h1
  rw [e] at h1
  obtain ⟨⟨g1, g2, g3⟩, g4⟩ := hs X hX (CnD X kdF c.d) (MQ9 X Q0 (c.d + 1) c.fs) (RnD X kdF (CnD X kdF c.d) (tbm c.k).1 (MQ9 X Q0 (c.d + 1) c.fs)) nx sd v ls st c p c' h1
  refine g4 ?_
  unfold Mn9 at h2
  rw [g1, g2, g3] at h2
  exact h2
theorem ret_s {X : Ext} {Q0 : AQ} {c : C9} {o : Option AV} {p : P9} {c' : C9} (h : ret9 c o = some (p, c')) (h2 : Mn9 X Q0 p c') : MQ9 X Q0 (c.d + 1) c.fs (.inl o) c.n (dHI c.I) (dHL c.L) (dHA c.A) := by
  obtain ⟨d, k, rc, rs, n, I, L, A, fs⟩ := c
  unfold ret9 at h
  dsimp only at h
  split at h
  · cases h
  · rename_i kf nx ls st rcf rsf fs
    cases o with
    | none => cases h; exact h2
    | some v => cases h; exact h2
theorem sm9_ireturn : Sn9 .ireturn := by
  intro X hX Q0 nx sd v ls st c p c' h1 h2
  replace h1 : k9_ireturn nx sd v ls st c = some (p, c') := h1
  unfold k9_ireturn at h1
  split at h1
  · exact ret_s h1 h2
  · rename_i x _
    cases e : (decide (x = 0) || decide (x = 1)) with
    | false => rw [e] at h1; cases h1
    | true =>
      rw [e] at h1
      rw [Bool.or_eq_true, decide_eq_true_iff, decide_eq_true_iff] at e
      exact ⟨e, ret_s h1 h2⟩
  · cases h1
theorem sm9_areturn : Sn9 .areturn := by
  intro X hX Q0 nx sd v ls st c p c' h1 h2
  replace h1 : k9_areturn nx sd v ls st c = some (p, c') := h1
  unfold k9_areturn at h1
  split at h1
  · exact ret_s h1 h2
  · cases h1
theorem sm9_return : Sn9 .return_ := by
  intro X hX Q0 nx sd v ls st c p c' h1 h2
  replace h1 : k9_return nx sd v ls st c = some (p, c') := h1
  unfold k9_return at h1
  split at h1
  · exact ret_s h1 h2
  · cases h1
/-- a call -/
theorem call_s {X : Ext} {Q0 : AQ} {k' na nx : Nat} {hs : List Nat} {ls st : List AV} {c : C9} {p : P9} {c' : C9} (h : call9 k' na nx ls st c = some (p, c')) (h2 : Mn9 X Q0 p c') : spl na st [] fun as rest => bif Nat.ble (catS rest) 8 then inv (CnD X kdF c.d) k' as c.rc c.rs c.n (dHI c.I) (dHL c.L) (dHA c.A) (back (MQ9 X Q0 (c.d + 1) c.fs) (RnD X kdF (CnD X kdF c.d) (tbm c.k).1 (MQ9 X Q0 (c.d + 1) c.fs)) nx hs ls rest) else False := by
  obtain ⟨d, k, rc, rs, n, I, L, A, fs⟩ := c
  unfold call9 at h
  dsimp only at h
  split at h
  · cases h
  · rename_i d
    split at h
    · cases h
    · rename_i as rest hsp
      refine spl_L na st [] as rest _ hsp ?_
      rcases hadv : adv9 k' n with ⟨mc, ms⟩
      rw [hadv] at h
      dsimp only at h
      cases e : (Nat.ble (catS rest) 8 && Nat.ble mc rc && Nat.ble ms rs && argB k' as) with
      | false => rw [e] at h; cases h
      | true =>
        rw [e] at h
        rw [Bool.and_eq_true, Bool.and_eq_true, Bool.and_eq_true] at e
        obtain ⟨⟨⟨e1, e2⟩, e3⟩, e4⟩ := e
        dsimp only [cond] at h
        rw [fNk_eq, fNk_eq] at h
        cases h
        rw [e1]
        refine ⟨mc, ms, Nat.le_of_ble_eq_true e2, Nat.le_of_ble_eq_true e3, CnD_mono (d + 1) _ _ _ _ _ _ _ _ (MQ9 X Q0 (d + 1) (⟨k, nx, ls, rest, rc - mc, rs - ms⟩ :: fs)) _ (fun o n I L A hq => ?_) ⟨e4, h2⟩⟩
        cases o with
        | inl o => cases o with
          | none => exact hq
          | some v => exact hq
        | inr e => exact hq.elim
theorem sm9_invokevirtual (i) : Sn9 (.invokevirtual i) := by
  intro X hX Q0 nx sd v ls st c p c' h1 h2
  replace h1 : k9_inv nx sd v ls st c = some (p, c') := h1
  unfold k9_inv at h1
  split at h1
  · rename_i k' na hs
    cases e : Nat.ble 900 k' with
    | true =>
      rw [e] at h1
      dsimp only [cond] at h1
      split at h1
      · rename_i p' hp'
        cases h1
        exact sp_invokevirtual i X _ _ _ nx _ v ls st _ _ _ _ _ _ p hp' h2
      · cases h1
    | false =>
      rw [e] at h1
      have hk : ¬ 900 ≤ k' := fun g => by rw [Nat.ble_eq_true_of_le g] at e; cases e
      have hc := call_s (hs := hs) h1 h2
      unfold stp
      dsimp only
      split
      all_goals first
        | (exfalso; rename_i q; omega)
        | (exfalso; rename_i q _; omega)
        | (rename_i heq; cases heq; first | (exfalso; omega) | exact hc)
        | (exfalso; rename_i q; exact q _ _ _ rfl)
        | exact hc
  · split at h1
    · rename_i p' hp'
      cases h1
      exact sp_invokevirtual i X _ _ _ nx _ v ls st _ _ _ _ _ _ p hp' h2
    · cases h1
theorem sm9_invokestatic (i) : Sn9 (.invokestatic i) := by
  intro X hX Q0 nx sd v ls st c p c' h1 h2
  replace h1 : k9_inv nx sd v ls st c = some (p, c') := h1
  unfold k9_inv at h1
  split at h1
  · rename_i k' na hs
    cases e : Nat.ble 900 k' with
    | true =>
      rw [e] at h1
      dsimp only [cond] at h1
      split at h1
      · rename_i p' hp'
        cases h1
        exact sp_invokestatic i X _ _ _ nx _ v ls st _ _ _ _ _ _ p hp' h2
      · cases h1
    | false =>
      rw [e] at h1
      have hk : ¬ 900 ≤ k' := fun g => by rw [Nat.ble_eq_true_of_le g] at e; cases e
      have hc := call_s (hs := hs) h1 h2
      unfold stp
      dsimp only
      split
      all_goals first
        | (exfalso; rename_i q; omega)
        | (exfalso; rename_i q _; omega)
        | (rename_i heq; cases heq; first | (exfalso; omega) | exact hc)
        | (exfalso; rename_i q; exact q _ _ _ rfl)
        | exact hc
  · split at h1
    · rename_i p' hp'
      cases h1
      exact sp_invokestatic i X _ _ _ nx _ v ls st _ _ _ _ _ _ p hp' h2
    · cases h1
theorem sm9_invokespecial (i) : Sn9 (.invokespecial i) := by
  intro X hX Q0 nx sd v ls st c p c' h1 h2
  replace h1 : k9_inv nx sd v ls st c = some (p, c') := h1
  unfold k9_inv at h1
  split at h1
  · rename_i k' na hs
    cases e : Nat.ble 900 k' with
    | true =>
      rw [e] at h1
      dsimp only [cond] at h1
      split at h1
      · rename_i p' hp'
        cases h1
        exact sp_invokespecial i X _ _ _ nx _ v ls st _ _ _ _ _ _ p hp' h2
      · cases h1
    | false =>
      rw [e] at h1
      have hk : ¬ 900 ≤ k' := fun g => by rw [Nat.ble_eq_true_of_le g] at e; cases e
      have hc := call_s (hs := hs) h1 h2
      unfold stp
      dsimp only
      split
      all_goals first
        | (exfalso; rename_i q; omega)
        | (exfalso; rename_i q _; omega)
        | (rename_i heq; cases heq; first | (exfalso; omega) | exact hc)
        | (exfalso; rename_i q; exact q _ _ _ rfl)
        | exact hc
  · split at h1
    · rename_i p' hp'
      cases h1
      exact sp_invokespecial i X _ _ _ nx _ v ls st _ _ _ _ _ _ p hp' h2
    · cases h1
theorem sn_all (ins : Instr) : Sn9 ins := by
  cases ins
  all_goals first
    | exact sm9_p rfl (sp_no _)
    | exact sm9_p rfl (sp_iconst _)
    | exact sm9_p rfl (sp_bipush _)
    | exact sm9_p rfl (sp_sipush _)
    | exact sm9_p rfl (sp_lconst _)
    | exact sm9_p rfl (sp_ldc2 _)
    | exact sm9_p rfl (sp_iload_n _)
    | exact sm9_p rfl (sp_iload _)
    | exact sm9_p rfl (sp_lload_n _)
    | exact sm9_p rfl (sp_lload _)
    | exact sm9_p rfl (sp_aload_n _)
    | exact sm9_p rfl (sp_aload _)
    | exact sm9_p rfl (sp_istore_n _)
    | exact sm9_p rfl (sp_istore _)
    | exact sm9_p rfl (sp_lstore_n _)
    | exact sm9_p rfl (sp_lstore _)
    | exact sm9_p rfl (sp_astore_n _)
    | exact sm9_p rfl (sp_astore _)
    | exact sm9_p rfl (sp_iinc _ _)
    | exact sm9_p rfl (sp_dup)
    | exact sm9_p rfl (sp_dup2)
    | exact sm9_p rfl (sp_iadd)
    | exact sm9_p rfl (sp_isub)
    | exact sm9_p rfl (sp_imul)
    | exact sm9_p rfl (sp_idiv)
    | exact sm9_p rfl (sp_irem)
    | exact sm9_p rfl (sp_iand)
    | exact sm9_p rfl (sp_ior)
    | exact sm9_p rfl (sp_ishl)
    | exact sm9_p rfl (sp_ishr)
    | exact sm9_p rfl (sp_iushr)
    | exact sm9_p rfl (sp_ineg)
    | exact sm9_p rfl (sp_ladd)
    | exact sm9_p rfl (sp_lsub)
    | exact sm9_p rfl (sp_land)
    | exact sm9_p rfl (sp_lor)
    | exact sm9_p rfl (sp_lxor)
    | exact sm9_p rfl (sp_lneg)
    | exact sm9_p rfl (sp_lshl)
    | exact sm9_p rfl (sp_lushr)
    | exact sm9_p rfl (sp_i2l)
    | exact sm9_p rfl (sp_l2i)
    | exact sm9_p rfl (sp_lcmp)
    | exact sm9_p rfl (sp_goto _)
    | exact sm9_p rfl (sp_getstatic _)
    | exact sm9_k rfl (sk_getfield _)
    | exact sm9_k rfl (sk_putfield _)
    | exact sm9_p rfl (sp_arraylength)
    | exact sm9_k rfl (sk_iaload)
    | exact sm9_k rfl (sk_baload)
    | exact sm9_k rfl (sk_laload)
    | exact sm9_k rfl (sk_aaload)
    | exact sm9_k rfl (sk_iastore)
    | exact sm9_k rfl (sk_bastore)
    | exact sm9_k rfl (sk_lastore)
    | exact sm9_k rfl (sk_aastore)
    | exact sm9_k rfl (sk_new _)
    | exact sm9_k rfl (sk_newarray _)
    | exact sm9_k rfl (sk_anewarray _)
    | exact sm9_ireturn
    | exact sm9_areturn
    | exact sm9_return
    | exact sm9_invokevirtual _
    | exact sm9_invokestatic _
    | exact sm9_invokespecial _
    | (rename_i c _; cases c <;> first | exact sm9_p rfl (sp_if_eq _) | exact sm9_p rfl (sp_if_ne _) | exact sm9_p rfl (sp_if_lt _) | exact sm9_p rfl (sp_if_ge _) | exact sm9_p rfl (sp_if_gt _) | exact sm9_p rfl (sp_if_le _) | exact sm9_p rfl (sp_ic_eq _) | exact sm9_p rfl (sp_ic_ne _) | exact sm9_p rfl (sp_ic_lt _) | exact sm9_p rfl (sp_ic_ge _) | exact sm9_p rfl (sp_ic_gt _) | exact sm9_p rfl (sp_ic_le _))
theorem ev9_s {X : Ext} (hX : XOk X) {Q0 : AQ} {pc : Nat} {ls st : List AV} {c : C9} {p : P9} {c' : C9} (h : ev9 pc ls st c = some (p, c')) (h2 : Mn9 X Q0 p c') : Mn9 X Q0 ⟨pc, ls, st⟩ c := by
  refine RnD_intro (CnD_mono _) ?_
  unfold stA
  obtain ⟨d, k, rc, rs, n, I, L, A, fs⟩ := c
  unfold ev9 at h
  dsimp only [C9.d, C9.k, C9.rc, C9.rs, C9.n, C9.I, C9.L, C9.A, C9.fs] at h ⊢
  cases hl : lk (tbm k).1 pc with
  | none => rw [hl] at h; cases h
  | some e =>
    obtain ⟨ins, nx, sd, v⟩ := e
    rw [hl] at h
    exact sn_all ins X hX Q0 nx sd v ls st ⟨d, k, rc, rs, n, I, L, A, fs⟩ p c' h h2
theorem evN_s {X : Ext} (hX : XOk X) {Q0 : AQ} : ∀ (m : Nat) (p : P9) (c : C9) (p' : P9) (c' : C9), evN m p c = some (p', c') → Mn9 X Q0 p' c' → Mn9 X Q0 p c
  | 0, p, c, p', c', h, h2 => by cases h; exact h2
  | m + 1, ⟨pc, ls, st⟩, c, p', c', h, h2 => by
    have h3 : (match ev9 pc ls st c with
      | none => none
      | some (⟨pc, ls, st⟩, c) => zTop st fun st => evN m ⟨pc, ls, st⟩ c) = some (p', c') := h
    cases he : ev9 pc ls st c with
    | none => rw [he] at h3; cases h3
    | some q =>
      obtain ⟨⟨pc1, ls1, st1⟩, c1⟩ := q
      rw [he] at h3
      dsimp only at h3
      rw [zTop_eq] at h3
      exact ev9_s hX he (evN_s hX m _ _ p' c' h3 h2)
