/-! what is held of each entry against the class files' bytes and the tables' words -/
/-- the classes by number; the ninth is no object of ours -/
abbrev amCl : List vw_C := [(RX0, TX0, 6), (RX1, TX1, 6), (RX2, TX2, 1), (RX3, TX3, 13), (RX4, TX4, 6), (RX5, TX5, 3), (RX6, TX6, 6), (RX7, TX7, 6), (RX8, TX8, 5), (RX8, TX8, 5), (RX10, TX10, 6), (RX11, TX11, 11), (RX12, TX12, 62)]
/-- the classes' names -/
abbrev clN : List String := [RX0, RX1, RX2, RX3, RX4, RX5, RX6, RX7, RX8, RX9, RX10, RX11, RX12]
noncomputable def wt (q : Nat) : Option Jvm.Cond := match nth tblc (q / 1000) with
  | some r => nth r (q % 1000)
  | none => none
def fsr (c j : Nat) : Nat × Nat := match nth fsT c with
  | some r => match nth r j with
    | some x => x
    | none => (9, 0)
  | none => (9, 0)
noncomputable def wOK (q : Nat) (w : Jvm.Cond) : Bool := decide (wt q = some w) && goodWord w
noncomputable def lnkM (q : Nat) (own : String) (i : Nat) (y : MethodName) : Bool := match wt q with
  | some (.methodLink o i' y') => decide (o = own) && decide (i' = i) && decide (y' = y)
  | some (.methodLinkNest o i' y' _) => decide (o = own) && decide (i' = i) && decide (y' = y)
  | _ => false
noncomputable def lnkF (q : Nat) (own : String) (i : Nat) (r n d : String) : Bool := match wt q with
  | some (.fieldLink o i' r' n' d') => decide (o = own) && decide (i' = i) && decide (r' = r) && decide (n' = n) && decide (d' = d)
  | some (.fieldLinkNest o i' r' n' d' _) => decide (o = own) && decide (i' = i) && decide (r' = r) && decide (n' = n) && decide (d' = d)
  | _ => false
def dcd (cc : ByteArray) (pc : Nat) (ins : Instr) (len nx : Nat) : Bool := decide (decode cc pc = .ok (ins, len)) && Nat.beq nx (pc + len)
def tgt1 (pc : Nat) (off : Int) (t : Nat) : Bool := decide ((pc : Int) + off = (t : Int))
def tgtL (pc : Nat) : List Int → List Nat → Bool
  | [], [] => true
  | o :: os, t :: ts => tgt1 pc o t && tgtL pc os ts
  | _, _ => false
def okL1 (i : Nat) (sd : List Nat) : Bool := match sd with | [j] => Nat.beq i j | _ => false
noncomputable def okE (own : String) (cc : ByteArray) (h pc : Nat) (e : Ent) : Bool := match e with
  | (ins, nx, sd, v) => match ins with
    | .iconst i => dcd cc pc ins 1 nx && decide (v = .int (Int32.ofInt i))
    | .bipush i => dcd cc pc ins 2 nx && decide (v = .int (Int8.ofInt i).toInt32)
    | .sipush i => dcd cc pc ins 3 nx && decide (v = .int (Int16.ofInt i).toInt32)
    | .lconst i => dcd cc pc ins 1 nx && decide (v = .long (Int64.ofNat (i : Nat)))
    | .fconst i => dcd cc pc ins 1 nx && decide (v = .float 0) && decide (i = 0)
    | .ldc2_w i => dcd cc pc ins 3 nx && (match v with | .long x => wOK h (.constantLong own i x) | .double x => wOK h (.constantDouble own i x) | _ => false)
    | .ldc i => dcd cc pc ins 2 nx && (match sd with | [] => (match v with | .int x => wOK h (.constant own i x) | _ => false) | _ => true)
    | .ldc_w i => dcd cc pc ins 3 nx && (match sd with | [] => (match v with | .int x => wOK h (.constant own i x) | _ => false) | _ => true)
    | .iload_n k | .lload_n k | .dload_n k | .aload_n k | .istore_n k | .lstore_n k | .dstore_n k | .astore_n k => dcd cc pc ins 1 nx && okL1 k sd
    | .iload k | .lload k | .dload k | .aload k | .istore k | .lstore k | .dstore k | .astore k => dcd cc pc ins 2 nx && okL1 k sd
    | .iinc k i => dcd cc pc ins 3 nx && okL1 k sd && decide (v = .int (Int32.ofInt i))
    | .dup | .dup2 | .iadd | .isub | .imul | .idiv | .irem | .iand | .ior | .ixor | .ishl | .ishr | .iushr | .ineg | .ladd | .lsub | .lmul | .land | .lor | .lxor | .lneg | .lshl | .lushr | .i2l | .l2i | .i2b | .i2d | .i2f | .f2d | .fdiv | .dmul | .dadd | .dcmp _ | .lcmp
    | .arraylength | .iaload | .baload | .laload | .aaload | .iastore | .bastore | .lastore | .aastore => dcd cc pc ins 1 nx
    | .ireturn | .lreturn | .freturn | .dreturn | .areturn | .return_ => dcd cc pc ins 1 (pc + 1)
    | .athrow => true
    | .goto o => decide (decode cc pc = .ok (ins, 3)) && (match sd with | [t] => tgt1 pc o t | _ => false)
    | .ifCond _ o | .if_icmp _ o | .if_acmp _ o => dcd cc pc ins 3 nx && (match sd with | [t] => tgt1 pc o t | _ => false)
    | .tableswitch d lo hi offs => (match sd with
      | t :: m :: ts => decide (decode cc pc = .ok (ins, nx - pc)) && tgt1 pc d t && decide (hi = lo + (m : Int) - 1) && decide (lo = tlo v) && tgtL pc offs.toList ts && decide (offs.size = m)
      | _ => false)
    | .getstatic i => dcd cc pc ins 3 nx
    | .getfield i => dcd cc pc ins 3 nx && (match sd with
      | [c, j, y, ft] => bif Nat.beq c 9 then true else (match amCl[c]? with
        | some (_, T, N) => Nat.blt j N && lnkF h own i (T j).1 (T j).2.1 (T j).2.2.1 && decide (fsr c j = (y, ft)) && Nat.ble y 1
        | none => false)
      | _ => false)
    | .putfield i => dcd cc pc ins 3 nx && (match sd with
      | [c, j, y, ft] => (match amCl[c]? with
        | some (_, T, N) => Nat.blt j N && lnkF h own i (T j).1 (T j).2.1 (T j).2.2.1 && decide (fsr c j = (y % 4, ft)) && (match y with
          | 0 => decide ((T j).2.2.1 = "I")
          | 4 => decide ((T j).2.2.1 = "Z")
          | 1 => true
          | _ => false)
        | none => false)
      | _ => false)
    | .new i => (match sd with
      | [c, N] => dcd cc pc ins 3 nx && (match amCl[c]? with
        | some (C, _, N') => Nat.beq N N' && wOK h (.classLink own i C)
        | none => false)
      | [e] => decide (decode cc pc = .ok (ins, 3))
      | _ => false)
    | .newarray ty => dcd cc pc ins 2 nx && (match sd with
      | [s] => (match ty with | .int => Nat.beq s 1 | .boolean => Nat.beq s 2 | .byte => Nat.beq s 3 | .long => Nat.beq s 4 | _ => false)
      | _ => false)
    | .anewarray i => dcd cc pc ins 3 nx && (match sd with
      | [s] => Nat.ble 10 s && Nat.blt s 23 && (match nth clN (s - 10) with
        | some C => wOK h (.classLink own i C)
        | none => false)
      | _ => false)
    | .invokevirtual i | .invokestatic i | .invokespecial i => dcd cc pc ins 3 nx && (match sd with
      | [999] => lnkM h own i objectInit && (match ins with | .invokespecial _ => true | _ => false)
      | [998] => true
      | [900] => (match ins with | .invokestatic _ => true | _ => false)
      | [901] => (match ins with | .invokevirtual _ => true | _ => false)
      | [902] => (match ins with | .invokevirtual _ => true | _ => false)
      | [903] => (match ins with | .invokestatic _ => true | _ => false)
      | [904] => (match ins with | .invokestatic _ => true | _ => false)
      | [905] => (match ins with | .invokestatic _ => true | _ => false)
      | k :: na :: _ => Nat.blt k nMeth && (match mtm k with
        | some (y, _, _, _, st, ps, _) => lnkM h own i y && (match ins, st with
          | .invokevirtual _, false => decide (y.name ≠ "<init>") && decide (nth ps 4 = some (na - 1)) && Nat.ble 1 na
          | .invokestatic _, true => decide (nth ps 4 = some na)
          | .invokespecial _, false => decide (y.name = "<init>") && decide (nth ps 4 = some (na - 1)) && Nat.ble 1 na
          | _, _ => false)
        | none => false)
      | _ => false)
    | _ => false
noncomputable def okR (own : String) (cc : ByteArray) : Nat → List (Option Ent) → List Nat → Bool
  | _, [], _ => true
  | pc, none :: es, _ :: hs => okR own cc (pc + 1) es hs
  | pc, some e :: es, h :: hs => okE own cc h pc e && okR own cc (pc + 1) es hs
  | _, _, _ => false
noncomputable def okT (own : String) (cc : ByteArray) : Nat → Tb → List (List Nat) → Bool
  | _, [], _ => true
  | pc, [r], h :: _ => okR own cc pc r h
  | pc, r :: r2 :: rs, h :: hs => Nat.beq r.length 16 && okR own cc pc r h && okT own cc (pc + 16) (r2 :: rs) hs
  | _, _, _ => false
/-- a method's own words: its code, its kind, who selects it, its class -/
noncomputable def okY (k : Nat) : Bool := match mtm k with
  | some (y, b, rt, hh, st, [cw, q1, q2, q3, n], ht) => plainName y.cls && decide (y.cls ≠ "java/lang/invoke/MethodHandle" ∧ y.cls ≠ "java/lang/invoke/VarHandle") && decide ((parseMethodDescriptor y.desc).map (fun d => d.parameters.length) = some n) &&
    okT y.cls b 0 (tbm k).1 ht && (bif st then decide (wt q1 = some (.static y)) else decide (wt q1 = some (.instanceMethod y)) && (decide (y.name = "<init>") || decide (wt q2 = some (.selects y.cls y y)))) && decide (wt q3 = some (.initialized y.cls)) &&
    (match hh with | [] => decide (wt cw = some (.code y b (tbm k).2 rt)) | _ => decide (wt cw = some (.codeWith y b (tbm k).2 rt hh)))
  | _ => false
