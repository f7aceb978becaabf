/-! THE START, 3: calls -/
def splL : Nat → List AV → List AV → Option (List AV × List AV)
  | 0, st, acc => some (acc, st)
  | n + 1, x :: st, acc => splL n st (x :: acc)
  | _ + 1, [], _ => none
/-- what a call may make: objects, cells -/
def advL : List (Nat × Nat × Nat) → Nat → Nat × Nat
  | [], _ => (0, 0)
  | (k', r) :: l, k => bif Nat.beq k k' then r else advL l k
def adv9 (k n : Nat) : Nat × Nat := bif Nat.beq k 89 then (bif Nat.beq n 304 then (177, 1456) else (45, 364)) else advL [(42, 1, 12), (6, 4, 26), (34, 3, 21), (67, 21, 176), (0, 12, 84), (9, 17, 152), (13, 10, 2786), (25, 27, 2990), (59, 5, 1746), (72, 4, 2803), (87, 602, 11641), (88, 281, 1848), (144, 39, 22349)] k
noncomputable def ret9 (c : C9) (v : Option AV) : Option (P9 × C9) := match c with
  | ⟨d, _, _, _, n, I, L, A, fs⟩ => match fs with
    | [] => none
    | ⟨k, nx, ls, st, rc, rs⟩ :: fs => match v with
      | none => some (⟨nx, ls, st⟩, ⟨d + 1, k, rc, rs, n, I, L, A, fs⟩)
      | some v => some (⟨nx, ls, v :: st⟩, ⟨d + 1, k, rc, rs, n, I, L, A, fs⟩)
noncomputable def call9 (k' na nx : Nat) (ls st : List AV) (c : C9) : Option (P9 × C9) := match c with
  | ⟨d, k, rc, rs, n, I, L, A, fs⟩ => match d with
    | 0 => none
    | d + 1 => match splL na st [] with
      | none => none
      | some (as, rest) => match adv9 k' n with
        | (mc, ms) => bif Nat.ble (catS rest) 8 && Nat.ble mc rc && Nat.ble ms rs && argB k' as then
            fNk (rc - mc) fun rc' => fNk (rs - ms) fun rs' => some (⟨0, entL as (tbm k').2, []⟩, ⟨d, k', mc, ms, n, I, L, A, ⟨k, nx, ls, rest, rc', rs'⟩ :: fs⟩) else none
/-- an instruction's way, boxed -/
inductive Bx9 where
  | p (h : H9) : Bx9
  | k (h : K9) : Bx9
noncomputable def k9_inv : K9 := fun nx sd v ls st c => match sd with
  | k' :: na :: _ => bif Nat.ble 900 k' then (match h9_invokevirtual nx sd v ls st with | some p => some (p, c) | none => none) else call9 k' na nx ls st c
  | _ => match h9_invokevirtual nx sd v ls st with | some p => some (p, c) | none => none
noncomputable def k9_ireturn : K9 := fun nx sd v ls st c => match sd, st with
  | [], (.int x, _) :: [] => ret9 c (some (.int x, 0))
  | [_], (.int x, _) :: [] => bif decide (x = 0) || decide (x = 1) then ret9 c (some (.int x, 0)) else none
  | _, _ => none
noncomputable def k9_areturn : K9 := fun nx sd v ls st c => match st with
  | (.ref x, t) :: [] => ret9 c (some (.ref x, t))
  | _ => none
noncomputable def k9_return : K9 := fun nx sd v ls st c => match st with
  | [] => ret9 c none
  | _ => none
noncomputable def dsB (ins : Instr) : Bx9 := match ins with
  | .invokevirtual _ | .invokestatic _ | .invokespecial _ => .k k9_inv
  | .ireturn => .k k9_ireturn
  | .areturn => .k k9_areturn
  | .return_ => .k k9_return
  | .iconst _ | .bipush _ | .sipush _ | .lconst _ | .ldc2_w _ => .p h9_iconst
  | .iload_n _ | .iload _ => .p h9_iload_n
  | .lload_n _ | .lload _ => .p h9_lload_n
  | .aload_n _ | .aload _ => .p h9_aload_n
  | .istore_n _ | .istore _ => .p h9_istore_n
  | .lstore_n _ | .lstore _ => .p h9_lstore_n
  | .astore_n _ | .astore _ => .p h9_astore_n
  | .iinc _ _ => .p h9_iinc
  | .dup => .p h9_dup
  | .dup2 => .p h9_dup2
  | .iadd => .p h9_iadd
  | .isub => .p h9_isub
  | .imul => .p h9_imul
  | .idiv => .p h9_idiv
  | .irem => .p h9_irem
  | .iand => .p h9_iand
  | .ior => .p h9_ior
  | .ishl => .p h9_ishl
  | .ishr => .p h9_ishr
  | .iushr => .p h9_iushr
  | .ineg => .p h9_ineg
  | .ladd => .p h9_ladd
  | .lsub => .p h9_lsub
  | .land => .p h9_land
  | .lor => .p h9_lor
  | .lxor => .p h9_lxor
  | .lneg => .p h9_lneg
  | .lshl => .p h9_lshl
  | .lushr => .p h9_lushr
  | .i2l => .p h9_i2l
  | .l2i => .p h9_l2i
  | .lcmp => .p h9_lcmp
  | .goto _ => .p h9_goto
  | .ifCond .eq _ => .p h9_if_eq
  | .ifCond .ne _ => .p h9_if_ne
  | .ifCond .lt _ => .p h9_if_lt
  | .ifCond .ge _ => .p h9_if_ge
  | .ifCond .gt _ => .p h9_if_gt
  | .ifCond .le _ => .p h9_if_le
  | .if_icmp .eq _ => .p h9_ic_eq
  | .if_icmp .ne _ => .p h9_ic_ne
  | .if_icmp .lt _ => .p h9_ic_lt
  | .if_icmp .ge _ => .p h9_ic_ge
  | .if_icmp .gt _ => .p h9_ic_gt
  | .if_icmp .le _ => .p h9_ic_le
  | .getstatic _ => .p h9_getstatic
  | .getfield _ => .k h9_getfield
  | .putfield _ => .k h9_putfield
  | .arraylength => .p h9_arraylength
  | .iaload => .k h9_iaload
  | .baload => .k h9_baload
  | .laload => .k h9_laload
  | .aaload => .k h9_aaload
  | .iastore => .k h9_iastore
  | .bastore => .k h9_bastore
  | .lastore => .k h9_lastore
  | .aastore => .k h9_aastore
  | .new _ => .k h9_new
  | .newarray _ | .anewarray _ => .k h9_newarray
  | _ => .p h9_no
/-- a step, its instruction laid open -/
noncomputable def st9 (o : Option Ent) (ls st : List AV) (c : C9) : Option (P9 × C9) := match o with
  | none => none
  | some (ins, nx, sd, v) => match dsB ins with
    | .p h => (match h nx sd v ls st with | some p => some (p, c) | none => none)
    | .k h => h nx sd v ls st c
noncomputable def ev9 (pc : Nat) (ls st : List AV) (c : C9) : Option (P9 × C9) := match c with
  | ⟨d, k, rc, rs, n, I, L, A, fs⟩ => st9 (lk (tbm k).1 pc) ls st ⟨d, k, rc, rs, n, I, L, A, fs⟩
noncomputable def evN (m : Nat) : P9 → C9 → Option (P9 × C9) := @Nat.rec (fun _ => P9 → C9 → Option (P9 × C9)) (fun p c => some (p, c)) (fun _ ih p c => match p with
  | ⟨pc, ls, st⟩ => match ev9 pc ls st c with
    | none => none
    | some (⟨pc, ls, st⟩, c) => zTop st fun st => ih ⟨pc, ls, st⟩ c) m
noncomputable def isS (o : Option (P9 × C9)) : Bool := match o with | some _ => true | none => false
def P90 : P9 := ⟨0, entL [(.ref 10100, 80000)] 9, []⟩
def C90 : C9 := ⟨1669, 301, 601024, 7293034, 0, .e, .e, .e, []⟩
