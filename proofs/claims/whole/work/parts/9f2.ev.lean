/-! THE START, 3: calls -/
def splL : Nat → List AV → List AV → Option (List AV × List AV)
  | 0, st, acc => some (acc, st)
  | n + 1, x :: st, acc => splL n st (x :: acc)
  | _ + 1, [], _ => none
/-- what a call may make: objects, cells -/
def advL : List (Nat × Nat × Nat) → Nat → Nat × Nat
  | [], _ => (0, 0)
  | (k', r) :: l, k => bif Nat.beq k k' then r else advL l k
def adv9 (k n : Nat) : Nat × Nat := bif Nat.beq k 89 then (bif Nat.beq n 304 then (177, 1456) else (45, 364)) else advL [(42, 1, 12), (6, 4, 26), (34, 3, 21), (67, 21, 176), (0, 12, 84), (9, 17, 152), (13, 10, 2786), (25, 27, 2990), (59, 5, 1746), (72, 4, 2803), (87, 602, 2467571), (88, 281, 1848), (144, 39, 22349)] k
noncomputable def ret9 (c : C9) (v : Option AV) : Option (P9 × C9) := match c with
  | ⟨d, _, _, _, n, I, L, A, fs⟩ => match fs with
    | [] => none
    | ⟨k, nx, ls, st, rc, rs⟩ :: fs => match v with
      | none => some (⟨nx, ls, st⟩, ⟨d + 1, k, rc, rs, n, I, L, A, fs⟩)
      | some v => some (⟨nx, ls, v :: st⟩, ⟨d + 1, k, rc, rs, n, I, L, A, fs⟩)
noncomputable def call9 (k' na nx : Nat) (ls st : List AV) (c : C9) : Option (P9 × C9) := match c with
  | ⟨d, k, rc, rs, n, I, L, A, fs⟩ => match d with
    | 0 => none
    | d + 1 => match splL na st [] with
      | none => none
      | some (as, rest) => match adv9 k' n with
        | (mc, ms) => bif Nat.ble (catS rest) 8 && Nat.ble mc rc && Nat.ble ms rs && argB k' as then
            fNk (rc - mc) fun rc' => fNk (rs - ms) fun rs' => some (⟨0, entL as (tbm k').2, []⟩, ⟨d, k', mc, ms, n, I, L, A, ⟨k, nx, ls, rest, rc', rs'⟩ :: fs⟩) else none
/-- an instruction's way, boxed -/
abbrev Bx9 : Type := H9 ⊕ K9
noncomputable def k9_inv : K9 := fun nx sd v ls st c => match sd with
  | k' :: na :: _ => bif Nat.ble 900 k' then (match h9_invokevirtual nx sd v ls st with | some p => some (p, c) | none => none) else call9 k' na nx ls st c
  | _ => match h9_invokevirtual nx sd v ls st with | some p => some (p, c) | none => none
noncomputable def k9_ireturn : K9 := fun nx sd v ls st c => match sd, st with
  | [], (.int x, _) :: [] => ret9 c (some (.int x, 0))
  | [_], (.int x, _) :: [] => bif decide (x = 0) || decide (x = 1) then ret9 c (some (.int x, 0)) else none
  | _, _ => none
noncomputable def k9_areturn : K9 := fun nx sd v ls st c => match st with
  | (.ref x, t) :: [] => ret9 c (some (.ref x, t))
  | _ => none
noncomputable def k9_return : K9 := fun nx sd v ls st c => match st with
  | [] => ret9 c none
  | _ => none
noncomputable def dsB (ins : Instr) : Bx9 := match ins with
  | .invokevirtual _ | .invokestatic _ | .invokespecial _ => .inr k9_inv
  | .ireturn => .inr k9_ireturn
  | .areturn => .inr k9_areturn
  | .return_ => .inr k9_return
  | .iconst _ | .bipush _ | .sipush _ | .lconst _ | .ldc2_w _ => .inl h9_iconst
  | .iload_n _ | .iload _ => .inl h9_iload_n
  | .lload_n _ | .lload _ => .inl h9_lload_n
  | .aload_n _ | .aload _ => .inl h9_aload_n
  | .istore_n _ | .istore _ => .inl h9_istore_n
  | .lstore_n _ | .lstore _ => .inl h9_lstore_n
  | .astore_n _ | .astore _ => .inl h9_astore_n
  | .iinc _ _ => .inl h9_iinc
  | .dup => .inl h9_dup
  | .dup2 => .inl h9_dup2
  | .iadd => .inl h9_iadd
  | .isub => .inl h9_isub
  | .imul => .inl h9_imul
  | .idiv => .inl h9_idiv
  | .irem => .inl h9_irem
  | .iand => .inl h9_iand
  | .ior => .inl h9_ior
  | .ishl => .inl h9_ishl
  | .ishr => .inl h9_ishr
  | .iushr => .inl h9_iushr
  | .ineg => .inl h9_ineg
  | .ladd => .inl h9_ladd
  | .lsub => .inl h9_lsub
  | .land => .inl h9_land
  | .lor => .inl h9_lor
  | .lxor => .inl h9_lxor
  | .lneg => .inl h9_lneg
  | .lshl => .inl h9_lshl
  | .lushr => .inl h9_lushr
  | .i2l => .inl h9_i2l
  | .l2i => .inl h9_l2i
  | .lcmp => .inl h9_lcmp
  | .goto _ => .inl h9_goto
  | .ifCond .eq _ => .inl h9_if_eq
  | .ifCond .ne _ => .inl h9_if_ne
  | .ifCond .lt _ => .inl h9_if_lt
  | .ifCond .ge _ => .inl h9_if_ge
  | .ifCond .gt _ => .inl h9_if_gt
  | .ifCond .le _ => .inl h9_if_le
  | .if_icmp .eq _ => .inl h9_ic_eq
  | .if_icmp .ne _ => .inl h9_ic_ne
  | .if_icmp .lt _ => .inl h9_ic_lt
  | .if_icmp .ge _ => .inl h9_ic_ge
  | .if_icmp .gt _ => .inl h9_ic_gt
  | .if_icmp .le _ => .inl h9_ic_le
  | .getstatic _ => .inl h9_getstatic
  | .getfield _ => .inr h9_getfield
  | .putfield _ => .inr h9_putfield
  | .arraylength => .inl h9_arraylength
  | .iaload => .inr h9_iaload
  | .baload => .inr h9_baload
  | .laload => .inr h9_laload
  | .aaload => .inr h9_aaload
  | .iastore => .inr h9_iastore
  | .bastore => .inr h9_bastore
  | .lastore => .inr h9_lastore
  | .aastore => .inr h9_aastore
  | .new _ => .inr h9_new
  | .newarray _ | .anewarray _ => .inr h9_newarray
  | _ => .inl h9_no
/-- a step, its instruction laid open -/
noncomputable def st9 (o : Option Ent) (ls st : List AV) (c : C9) : Option (P9 × C9) := match o with
  | none => none
  | some (ins, nx, sd, v) => match dsB ins with
    | .inl h => (match h nx sd v ls st with | some p => some (p, c) | none => none)
    | .inr h => h nx sd v ls st c
noncomputable def ev9 (pc : Nat) (ls st : List AV) (c : C9) : Option (P9 × C9) := match c with
  | ⟨d, k, rc, rs, n, I, L, A, fs⟩ => st9 (lk (tbm k).1 pc) ls st ⟨d, k, rc, rs, n, I, L, A, fs⟩
noncomputable def evN (m : Nat) : P9 → C9 → Option (P9 × C9) := @Nat.rec (fun _ => P9 → C9 → Option (P9 × C9)) (fun p c => some (p, c)) (fun _ ih p c => match p with
  | ⟨pc, ls, st⟩ => match ev9 pc ls st c with
    | none => none
    | some (⟨pc, ls, st⟩, c) => zTop st fun st => ih ⟨pc, ls, st⟩ c) m
noncomputable def isS (o : Option (P9 × C9)) : Bool := match o with | some _ => true | none => false
def P90 : P9 := ⟨0, entL [(.ref 10100, 80000)] 9, []⟩
def C90 : C9 := ⟨1669, 301, 601024, 7293034, 0, .leaf, .leaf, .leaf, []⟩
