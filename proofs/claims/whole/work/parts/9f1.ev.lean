/-! THE START, 2: its instructions -/
/-- what an instruction within a frame leaves -/
structure E9 where
  pc : Nat
  ls : List AV
  st : List AV
  rc : Nat
  rs : Nat
  n : Nat
  I : Hp Int32
  L : Hp Int64
  A : Hp Nat
abbrev dHI (T : Hp Int32) : HI := hpG 0 T
abbrev dHL (T : Hp Int64) : HL := hpG 0 T
abbrev dHA (T : Hp Nat) : HA := hpG 0 T
/-- the top of the stack, forced -/
def zTop {β : Type} : List AV → (List AV → β) → β
  | (.int x, t) :: r, k => z32 x fun y => k ((.int y, t) :: r)
  | (.long x, t) :: r, k => z64 x fun y => k ((.long y, t) :: r)
  | l, k => k l
theorem zTop_eq {β : Type} (l : List AV) (k : List AV → β) : zTop l k = k l := by
  unfold zTop
  split
  · rw [z32_eq]
  · rw [z64_eq]
  · rfl
def inbB (i : Int32) (n : Nat) : Bool := decide (0 ≤ i) && Nat.blt i.toNatClampNeg n
theorem inbB_iff {i : Int32} {n : Nat} (h : inbB i n = true) : inb i n := by
  unfold inbB at h
  rw [Bool.and_eq_true, decide_eq_true_iff, blt_d, decide_eq_true_iff] at h
  exact h
/-- a cell may be written -/
def okC (r j : Nat) : Bool := Nat.blt r 2000 && Nat.blt j 30000
theorem okC_iff {r j : Nat} (h : okC r j = true) : r < 2000 ∧ j < 30000 := by
  unfold okC at h
  rw [Bool.and_eq_true, blt_d, blt_d, decide_eq_true_iff, decide_eq_true_iff] at h
  exact h
def hpK {α β : Type} (z : α) (T : Hp α) (r j : Nat) (x : α) (k : Hp α → β) : β := trK z 16 (j + 1) x (trG .e 12 (r + 1) T) fun row => trK .e 12 (r + 1) row T k
theorem hpK_eq {α β : Type} (z : α) (T : Hp α) (r j : Nat) (x : α) (k : Hp α → β) : hpK z T r j x k = k (hpS z T r j x) := by
  unfold hpK
  rw [trK_eq, trK_eq]
  rfl
def hpM {α β : Type} (T : Hp α) (r : Nat) (k : Hp α → β) : β := trK .e 12 (r + 1) .e T k
theorem hpM_eq {α β : Type} (T : Hp α) (r : Nat) (k : Hp α → β) : hpM T r k = k (hpN T r) := by
  unfold hpM
  rw [trK_eq]
  rfl
noncomputable def evI (X : Ext) (ins : Instr) (nx : Nat) (sd : List Nat) (v : Value) (s : E9) : Option E9 := match s with
  | ⟨_, ls, st, rc, rs, n, I, L, A⟩ => match ins with
  | .iconst _ | .bipush _ | .sipush _ | .lconst _ | .ldc2_w _ => some ⟨nx, ls, (v, 0) :: st, rc, rs, n, I, L, A⟩
  | .iload_n _ | .iload _ => match sd with
    | [i] => match lget ls i with
      | (.int x, _) => some ⟨nx, ls, (.int x, 0) :: st, rc, rs, n, I, L, A⟩
      | _ => none
    | _ => none
  | .lload_n _ | .lload _ => match sd with
    | [i] => match lget ls i with
      | (.long x, _) => some ⟨nx, ls, (.long x, 0) :: st, rc, rs, n, I, L, A⟩
      | _ => none
    | _ => none
  | .aload_n _ | .aload _ => match sd with
    | [i] => match lget ls i with
      | (.ref r, t) => some ⟨nx, ls, (.ref r, t) :: st, rc, rs, n, I, L, A⟩
      | _ => none
    | _ => none
  | .istore_n _ | .istore _ => match sd, st with
    | [i], (.int x, _) :: r => some ⟨nx, lset ls i (.int x, 0), r, rc, rs, n, I, L, A⟩
    | _, _ => none
  | .lstore_n _ | .lstore _ => match sd, st with
    | [i], (.long x, _) :: r => some ⟨nx, lset ls i (.long x, 0), r, rc, rs, n, I, L, A⟩
    | _, _ => none
  | .astore_n _ | .astore _ => match sd, st with
    | [i], (.ref x, t) :: r => some ⟨nx, lset ls i (.ref x, t), r, rc, rs, n, I, L, A⟩
    | _, _ => none
  | .iinc _ _ => match sd, v with
    | [i], .int c => match lget ls i with
      | (.int x, _) => z32 (x + c) fun y => some ⟨nx, lset ls i (.int y, 0), st, rc, rs, n, I, L, A⟩
      | _ => none
    | _, _ => none
  | .dup => match st with
    | x :: r => bif isW x.1 then none else some ⟨nx, ls, x :: x :: r, rc, rs, n, I, L, A⟩
    | _ => none
  | .dup2 => match st with
    | x :: y :: r => bif isW x.1 || isW y.1 then none else some ⟨nx, ls, x :: y :: x :: y :: r, rc, rs, n, I, L, A⟩
    | _ => none
  | .iadd => match st with | (.int y, _) :: (.int x, _) :: r => some ⟨nx, ls, (.int (x + y), 0) :: r, rc, rs, n, I, L, A⟩ | _ => none
  | .isub => match st with | (.int y, _) :: (.int x, _) :: r => some ⟨nx, ls, (.int (x - y), 0) :: r, rc, rs, n, I, L, A⟩ | _ => none
  | .imul => match st with | (.int y, _) :: (.int x, _) :: r => some ⟨nx, ls, (.int (x * y), 0) :: r, rc, rs, n, I, L, A⟩ | _ => none
  | .idiv => match st with | (.int y, _) :: (.int x, _) :: r => bif decide (y = 0) then none else some ⟨nx, ls, (.int (x / y), 0) :: r, rc, rs, n, I, L, A⟩ | _ => none
  | .irem => match st with | (.int y, _) :: (.int x, _) :: r => bif decide (y = 0) then none else some ⟨nx, ls, (.int (x % y), 0) :: r, rc, rs, n, I, L, A⟩ | _ => none
  | .iand => match st with | (.int y, _) :: (.int x, _) :: r => some ⟨nx, ls, (.int (x &&& y), 0) :: r, rc, rs, n, I, L, A⟩ | _ => none
  | .ior => match st with | (.int y, _) :: (.int x, _) :: r => some ⟨nx, ls, (.int (x ||| y), 0) :: r, rc, rs, n, I, L, A⟩ | _ => none
  | .ishl => match st with | (.int y, _) :: (.int x, _) :: r => some ⟨nx, ls, (.int (x <<< (y &&& 31)), 0) :: r, rc, rs, n, I, L, A⟩ | _ => none
  | .ishr => match st with | (.int y, _) :: (.int x, _) :: r => some ⟨nx, ls, (.int (x >>> (y &&& 31)), 0) :: r, rc, rs, n, I, L, A⟩ | _ => none
  | .iushr => match st with | (.int y, _) :: (.int x, _) :: r => some ⟨nx, ls, (.int (x.toUInt32 >>> (y.toUInt32 &&& Int32.toUInt32 31)).toInt32, 0) :: r, rc, rs, n, I, L, A⟩ | _ => none
  | .ineg => match st with | (.int x, _) :: r => some ⟨nx, ls, (.int (-x), 0) :: r, rc, rs, n, I, L, A⟩ | _ => none
  | .ladd => match st with | (.long y, _) :: (.long x, _) :: r => some ⟨nx, ls, (.long (x + y), 0) :: r, rc, rs, n, I, L, A⟩ | _ => none
  | .lsub => match st with | (.long y, _) :: (.long x, _) :: r => some ⟨nx, ls, (.long (x - y), 0) :: r, rc, rs, n, I, L, A⟩ | _ => none
  | .land => match st with | (.long y, _) :: (.long x, _) :: r => some ⟨nx, ls, (.long (x &&& y), 0) :: r, rc, rs, n, I, L, A⟩ | _ => none
  | .lor => match st with | (.long y, _) :: (.long x, _) :: r => some ⟨nx, ls, (.long (x ||| y), 0) :: r, rc, rs, n, I, L, A⟩ | _ => none
  | .lxor => match st with | (.long y, _) :: (.long x, _) :: r => some ⟨nx, ls, (.long (x ^^^ y), 0) :: r, rc, rs, n, I, L, A⟩ | _ => none
  | .lneg => match st with | (.long x, _) :: r => some ⟨nx, ls, (.long (-x), 0) :: r, rc, rs, n, I, L, A⟩ | _ => none
  | .lshl => match st with | (.int y, _) :: (.long x, _) :: r => some ⟨nx, ls, (.long (x <<< (y.toInt64 &&& 63)), 0) :: r, rc, rs, n, I, L, A⟩ | _ => none
  | .lushr => match st with | (.int y, _) :: (.long x, _) :: r => some ⟨nx, ls, (.long (x.toUInt64 >>> (y.toInt64.toUInt64 &&& Int64.toUInt64 63)).toInt64, 0) :: r, rc, rs, n, I, L, A⟩ | _ => none
  | .i2l => match st with | (.int x, _) :: r => some ⟨nx, ls, (.long x.toInt64, 0) :: r, rc, rs, n, I, L, A⟩ | _ => none
  | .l2i => match st with | (.long x, _) :: r => some ⟨nx, ls, (.int x.toInt32, 0) :: r, rc, rs, n, I, L, A⟩ | _ => none
  | .lcmp => match st with | (.long y, _) :: (.long x, _) :: r => some ⟨nx, ls, (.int (if x < y then -1 else if x = y then 0 else 1), 0) :: r, rc, rs, n, I, L, A⟩ | _ => none
  | .goto _ => match sd with | [t] => some ⟨t, ls, st, rc, rs, n, I, L, A⟩ | _ => none
  | .ifCond c _ => match sd, st with
    | [t], (.int x, _) :: r => match c with
      | .eq => bif decide (x = 0) then some ⟨t, ls, r, rc, rs, n, I, L, A⟩ else some ⟨nx, ls, r, rc, rs, n, I, L, A⟩
      | .ne => bif decide (x = 0) then some ⟨nx, ls, r, rc, rs, n, I, L, A⟩ else some ⟨t, ls, r, rc, rs, n, I, L, A⟩
      | .lt => bif decide (x < 0) then some ⟨t, ls, r, rc, rs, n, I, L, A⟩ else some ⟨nx, ls, r, rc, rs, n, I, L, A⟩
      | .ge => bif decide (0 ≤ x) then some ⟨t, ls, r, rc, rs, n, I, L, A⟩ else some ⟨nx, ls, r, rc, rs, n, I, L, A⟩
      | .gt => bif decide (0 < x) then some ⟨t, ls, r, rc, rs, n, I, L, A⟩ else some ⟨nx, ls, r, rc, rs, n, I, L, A⟩
      | .le => bif decide (x ≤ 0) then some ⟨t, ls, r, rc, rs, n, I, L, A⟩ else some ⟨nx, ls, r, rc, rs, n, I, L, A⟩
    | _, _ => none
  | .if_icmp c _ => match sd, st with
    | [t], (.int y, _) :: (.int x, _) :: r => match c with
      | .eq => bif decide (x = y) then some ⟨t, ls, r, rc, rs, n, I, L, A⟩ else some ⟨nx, ls, r, rc, rs, n, I, L, A⟩
      | .ne => bif decide (x = y) then some ⟨nx, ls, r, rc, rs, n, I, L, A⟩ else some ⟨t, ls, r, rc, rs, n, I, L, A⟩
      | .lt => bif decide (x < y) then some ⟨t, ls, r, rc, rs, n, I, L, A⟩ else some ⟨nx, ls, r, rc, rs, n, I, L, A⟩
      | .ge => bif decide (y ≤ x) then some ⟨t, ls, r, rc, rs, n, I, L, A⟩ else some ⟨nx, ls, r, rc, rs, n, I, L, A⟩
      | .gt => bif decide (y < x) then some ⟨t, ls, r, rc, rs, n, I, L, A⟩ else some ⟨nx, ls, r, rc, rs, n, I, L, A⟩
      | .le => bif decide (x ≤ y) then some ⟨t, ls, r, rc, rs, n, I, L, A⟩ else some ⟨nx, ls, r, rc, rs, n, I, L, A⟩
    | _, _ => none
  | .getstatic _ => match sd with | [r, t] => some ⟨nx, ls, (.ref r, t) :: st, rc, rs, n, I, L, A⟩ | _ => none
  | .getfield _ => match sd, st with
    | [c, j, y, ft], (.ref r, t) :: rest => bif Nat.beq t (kObj c) then
        (match y with
        | 0 => some ⟨nx, ls, (.int (hpG 0 I r j), 0) :: rest, rc, rs, n, I, L, A⟩
        | 1 => match hpG 0 A r j with | 0 => none | a + 1 => some ⟨nx, ls, (.ref a, ft) :: rest, rc, rs, n, I, L, A⟩
        | _ => none) else none
    | _, _ => none
  | .putfield _ => match sd, st with
    | [c, j, y, ft], (x, tx) :: (.ref r, t) :: rest => bif Nat.beq t (kObj c) && okC r j then
        (match y, x with
        | 0, .int w => z32 w fun w => hpK 0 I r j w fun I => some ⟨nx, ls, rest, rc, rs, n, I, L, A⟩
        | 4, .int w => bif decide (w = 0) || decide (w = 1) then z32 w fun w => hpK 0 I r j w fun I => some ⟨nx, ls, rest, rc, rs, n, I, L, A⟩ else none
        | 1, .ref a => bif Nat.beq tx ft then fNk (a + 1) fun a1 => hpK 0 A r j a1 fun A => some ⟨nx, ls, rest, rc, rs, n, I, L, A⟩ else none
        | _, _ => none) else none
    | _, _ => none
  | .arraylength => match st with
    | (.ref r, t) :: rest => match kSort t with
      | 8 => none
      | 0 => none
      | _ => some ⟨nx, ls, (.int (Int32.ofNat (kLen t)), 0) :: rest, rc, rs, n, I, L, A⟩
    | _ => none
  | .iaload => match st with
    | (.int i, _) :: (.ref r, t) :: rest => match kSort t with
      | 1 => bif inbB i (kLen t) then some ⟨nx, ls, (.int (hpG 0 I r i.toNatClampNeg), 0) :: rest, rc, rs, n, I, L, A⟩ else none
      | 6 => bif inbB i (kLen t) then some ⟨nx, ls, (.int (X.1 r i.toNatClampNeg), 0) :: rest, rc, rs, n, I, L, A⟩ else none
      | _ => none
    | _ => none
  | .baload => match st with
    | (.int i, _) :: (.ref r, t) :: rest => match kSort t with
      | 2 => bif inbB i (kLen t) then some ⟨nx, ls, (.int (hpG 0 I r i.toNatClampNeg), 0) :: rest, rc, rs, n, I, L, A⟩ else none
      | _ => none
    | _ => none
  | .laload => match st with
    | (.int i, _) :: (.ref r, t) :: rest => match kSort t with
      | 4 => bif inbB i (kLen t) then some ⟨nx, ls, (.long (hpG 0 L r i.toNatClampNeg), 0) :: rest, rc, rs, n, I, L, A⟩ else none
      | _ => none
    | _ => none
  | .aaload => match st with
    | (.int i, _) :: (.ref r, t) :: rest => bif Nat.beq (kSort t) 7 then none
      else bif Nat.ble 10 (kSort t) && inbB i (kLen t) then (match hpG 0 A r i.toNatClampNeg with | 0 => none | a + 1 => some ⟨nx, ls, (.ref a, kSort t - 9) :: rest, rc, rs, n, I, L, A⟩) else none
    | _ => none
  | .iastore => match st with
    | (.int x, _) :: (.int i, _) :: (.ref r, t) :: rest => match kSort t with
      | 1 => bif inbB i (kLen t) && okC r i.toNatClampNeg then z32 x fun x => hpK 0 I r i.toNatClampNeg x fun I => some ⟨nx, ls, rest, rc, rs, n, I, L, A⟩ else none
      | _ => none
    | _ => none
  | .bastore => match st with
    | (.int x, _) :: (.int i, _) :: (.ref r, t) :: rest => match kSort t with
      | 2 => bif inbB i (kLen t) && okC r i.toNatClampNeg && (decide (x = 0) || decide (x = 1)) then z32 x fun x => hpK 0 I r i.toNatClampNeg x fun I => some ⟨nx, ls, rest, rc, rs, n, I, L, A⟩ else none
      | _ => none
    | _ => none
  | .lastore => match st with
    | (.long x, _) :: (.int i, _) :: (.ref r, t) :: rest => match kSort t with
      | 4 => bif inbB i (kLen t) && okC r i.toNatClampNeg then z64 x fun x => hpK 0 L r i.toNatClampNeg x fun L => some ⟨nx, ls, rest, rc, rs, n, I, L, A⟩ else none
      | _ => none
    | _ => none
  | .aastore => match st with
    | (.ref x, tx) :: (.int i, _) :: (.ref r, t) :: rest => bif Nat.ble 10 (kSort t) && Nat.beq tx (kSort t - 9) then (bif inbB i (kLen t) && okC r i.toNatClampNeg then fNk (x + 1) fun x1 => hpK 0 A r i.toNatClampNeg x1 fun A => some ⟨nx, ls, rest, rc, rs, n, I, L, A⟩ else none) else none
    | _ => none
  | .new _ => match sd with
    | [c, N] => match rc with
      | rc' + 1 => bif Nat.ble N rs && Nat.beq (kdF n) (kObj c) && Nat.blt n 2000 then fNk (rs - N) fun rs' => fNk (n + 1) fun n' => hpM I n fun I => hpM A n fun A => some ⟨nx, ls, (.ref n, kObj c) :: st, rc', rs', n', I, L, A⟩ else none
      | 0 => none
    | _ => none
  | .newarray _ | .anewarray _ => match sd, st with
    | [so], (.int l, _) :: r => match rc with
      | rc' + 1 => bif decide (0 ≤ l) && Nat.ble l.toNatClampNeg rs && Nat.beq (kdF n) (10000 * so + l.toNatClampNeg) && Nat.blt l.toNatClampNeg 10000 && Nat.blt n 2000 then fNk (rs - l.toNatClampNeg) fun rs' => fNk (n + 1) fun n' => fNk (10000 * so + l.toNatClampNeg) fun t => hpM I n fun I => hpM L n fun L => hpM A n fun A => some ⟨nx, ls, (.ref n, t) :: r, rc', rs', n', I, L, A⟩ else none
      | 0 => none
    | _, _ => none
  | .invokevirtual _ | .invokestatic _ | .invokespecial _ => match sd with
    | 999 :: _ => match st with
      | (.ref _, _) :: rest => bif Nat.ble (catS rest) 8 then some ⟨nx, ls, rest, rc, rs, n, I, L, A⟩ else none
      | _ => none
    | 903 :: _ => match st with
      | (.int x, _) :: rest => bif Nat.ble (catS rest) 8 then some ⟨nx, ls, (.int (if 0 ≤ x then x else 0 - x), 0) :: rest, rc, rs, n, I, L, A⟩ else none
      | _ => none
    | 904 :: _ => match st with
      | (.int y, _) :: (.int x, _) :: rest => bif Nat.ble (catS rest) 8 then some ⟨nx, ls, (.int (if x < y then y else x), 0) :: rest, rc, rs, n, I, L, A⟩ else none
      | _ => none
    | 905 :: _ => match st with
      | (.int y, _) :: (.int x, _) :: rest => bif Nat.ble (catS rest) 8 then some ⟨nx, ls, (.int (if y < x then y else x), 0) :: rest, rc, rs, n, I, L, A⟩ else none
      | _ => none
    | _ => none
  | _ => none
