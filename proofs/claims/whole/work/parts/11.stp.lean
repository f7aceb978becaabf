def tlo (v : Value) : Int := match v with | .int x => x.toInt | _ => 0
def stp (X : Ext) (kd : Nat → Nat) (C : CT) (Q : AQ) (P : PT) (ins : Instr) (nx : Nat) (sd : List Nat) (v : Value) (ls st : List AV) (rc rs n : Nat) (I : HI) (L : HL) (A : HA) : Prop := match ins with
  | .iconst _ | .bipush _ | .sipush _ | .lconst _ | .ldc2_w _ | .fconst _ => P nx ls ((v, 0) :: st) rc rs n I L A
  | .ldc _ | .ldc_w _ => match sd with
    | [] => P nx ls ((v, 0) :: st) rc rs n I L A
    | [r, t] => P nx ls ((.ref r, t) :: st) rc rs n I L A
    | _ => False
  | .iload_n _ | .iload _ => match sd with
    | [i] => match lget ls i with
      | (.int x, _) => P nx ls ((.int x, 0) :: st) rc rs n I L A
      | _ => False
    | _ => False
  | .lload_n _ | .lload _ => match sd with
    | [i] => match lget ls i with
      | (.long x, _) => P nx ls ((.long x, 0) :: st) rc rs n I L A
      | _ => False
    | _ => False
  | .dload_n _ | .dload _ => match sd with
    | [i] => match lget ls i with
      | (.double x, _) => P nx ls ((.double x, 0) :: st) rc rs n I L A
      | _ => False
    | _ => False
  | .aload_n _ | .aload _ => match sd with
    | [i] => match lget ls i with
      | (.ref r, t) => P nx ls ((.ref r, t) :: st) rc rs n I L A
      | _ => False
    | _ => False
  | .istore_n _ | .istore _ => match sd, st with
    | [i], (.int x, _) :: r => frc (lset ls i (.int x, 0)) fun ls' => P nx ls' r rc rs n I L A
    | _, _ => False
  | .lstore_n _ | .lstore _ => match sd, st with
    | [i], (.long x, _) :: r => frc (lset ls i (.long x, 0)) fun ls' => P nx ls' r rc rs n I L A
    | _, _ => False
  | .dstore_n _ | .dstore _ => match sd, st with
    | [i], (.double x, _) :: r => frc (lset ls i (.double x, 0)) fun ls' => P nx ls' r rc rs n I L A
    | _, _ => False
  | .astore_n _ | .astore _ => match sd, st with
    | [i], (.ref x, t) :: r => frc (lset ls i (.ref x, t)) fun ls' => P nx ls' r rc rs n I L A
    | _, _ => False
  | .iinc _ _ => match sd, v with
    | [i], .int c => match lget ls i with
      | (.int x, _) => frc (lset ls i (.int (x + c), 0)) fun ls' => P nx ls' st rc rs n I L A
      | _ => False
    | _, _ => False
  | .dup => match st with
    | x :: r => bif isW x.1 then False else P nx ls (x :: x :: r) rc rs n I L A
    | _ => False
  | .dup2 => match st with
    | x :: y :: r => bif isW x.1 || isW y.1 then False else P nx ls (x :: y :: x :: y :: r) rc rs n I L A
    | _ => False
  | .iadd => match st with | (.int y, _) :: (.int x, _) :: r => P nx ls ((.int (x + y), 0) :: r) rc rs n I L A | _ => False
  | .isub => match st with | (.int y, _) :: (.int x, _) :: r => P nx ls ((.int (x - y), 0) :: r) rc rs n I L A | _ => False
  | .imul => match st with | (.int y, _) :: (.int x, _) :: r => P nx ls ((.int (x * y), 0) :: r) rc rs n I L A | _ => False
  | .idiv => match st with | (.int y, _) :: (.int x, _) :: r => (¬ y = 0) ∧ P nx ls ((.int (x / y), 0) :: r) rc rs n I L A | _ => False
  | .irem => match st with | (.int y, _) :: (.int x, _) :: r => (¬ y = 0) ∧ P nx ls ((.int (x % y), 0) :: r) rc rs n I L A | _ => False
  | .iand => match st with | (.int y, _) :: (.int x, _) :: r => P nx ls ((.int (x &&& y), 0) :: r) rc rs n I L A | _ => False
  | .ior => match st with | (.int y, _) :: (.int x, _) :: r => P nx ls ((.int (x ||| y), 0) :: r) rc rs n I L A | _ => False
  | .ixor => match st with | (.int y, _) :: (.int x, _) :: r => P nx ls ((.int (x ^^^ y), 0) :: r) rc rs n I L A | _ => False
  | .ishl => match st with | (.int y, _) :: (.int x, _) :: r => P nx ls ((.int (x <<< (y &&& 31)), 0) :: r) rc rs n I L A | _ => False
  | .ishr => match st with | (.int y, _) :: (.int x, _) :: r => P nx ls ((.int (x >>> (y &&& 31)), 0) :: r) rc rs n I L A | _ => False
  | .iushr => match st with | (.int y, _) :: (.int x, _) :: r => P nx ls ((.int (x.toUInt32 >>> (y.toUInt32 &&& Int32.toUInt32 31)).toInt32, 0) :: r) rc rs n I L A | _ => False
  | .ineg => match st with | (.int x, _) :: r => P nx ls ((.int (-x), 0) :: r) rc rs n I L A | _ => False
  | .ladd => match st with | (.long y, _) :: (.long x, _) :: r => P nx ls ((.long (x + y), 0) :: r) rc rs n I L A | _ => False
  | .lsub => match st with | (.long y, _) :: (.long x, _) :: r => P nx ls ((.long (x - y), 0) :: r) rc rs n I L A | _ => False
  | .lmul => match st with | (.long y, _) :: (.long x, _) :: r => P nx ls ((.long (x * y), 0) :: r) rc rs n I L A | _ => False
  | .land => match st with | (.long y, _) :: (.long x, _) :: r => P nx ls ((.long (x &&& y), 0) :: r) rc rs n I L A | _ => False
  | .lor => match st with | (.long y, _) :: (.long x, _) :: r => P nx ls ((.long (x ||| y), 0) :: r) rc rs n I L A | _ => False
  | .lxor => match st with | (.long y, _) :: (.long x, _) :: r => P nx ls ((.long (x ^^^ y), 0) :: r) rc rs n I L A | _ => False
  | .lneg => match st with | (.long x, _) :: r => P nx ls ((.long (-x), 0) :: r) rc rs n I L A | _ => False
  | .lshl => match st with | (.int y, _) :: (.long x, _) :: r => P nx ls ((.long (x <<< (y.toInt64 &&& 63)), 0) :: r) rc rs n I L A | _ => False
  | .lushr => match st with | (.int y, _) :: (.long x, _) :: r => P nx ls ((.long (x.toUInt64 >>> (y.toInt64.toUInt64 &&& Int64.toUInt64 63)).toInt64, 0) :: r) rc rs n I L A | _ => False
  | .i2l => match st with | (.int x, _) :: r => P nx ls ((.long x.toInt64, 0) :: r) rc rs n I L A | _ => False
  | .l2i => match st with | (.long x, _) :: r => P nx ls ((.int x.toInt32, 0) :: r) rc rs n I L A | _ => False
  | .i2b => match st with | (.int x, _) :: r => P nx ls ((.int x.toInt8.toInt32, 0) :: r) rc rs n I L A | _ => False
  | .i2d => match st with | (.int x, _) :: r => P nx ls ((.double (FP.i2d x), 0) :: r) rc rs n I L A | _ => False
  | .i2f => match st with | (.int x, _) :: r => P nx ls ((.float (FP.i2f x), 0) :: r) rc rs n I L A | _ => False
  | .f2d => match st with | (.float x, _) :: r => vf_n64 (FP.f2d x) ∧ P nx ls ((.double (FP.f2d x), 0) :: r) rc rs n I L A | _ => False
  | .fdiv => match st with | (.float y, _) :: (.float x, _) :: r => vf_n32 (FP.fdiv x y) ∧ P nx ls ((.float (FP.fdiv x y), 0) :: r) rc rs n I L A | _ => False
  | .dmul => match st with | (.double y, _) :: (.double x, _) :: r => vf_n64 (FP.dmul x y) ∧ P nx ls ((.double (FP.dmul x y), 0) :: r) rc rs n I L A | _ => False
  | .dadd => match st with | (.double y, _) :: (.double x, _) :: r => vf_n64 (FP.dadd x y) ∧ P nx ls ((.double (FP.dadd x y), 0) :: r) rc rs n I L A | _ => False
  | .dcmp op => match st with | (.double y, _) :: (.double x, _) :: r => P nx ls ((.int (Op.cmpValue (FP.dcmp x y) op), 0) :: r) rc rs n I L A | _ => False
  | .lcmp => match st with | (.long y, _) :: (.long x, _) :: r => P nx ls ((.int (if x < y then -1 else if x = y then 0 else 1), 0) :: r) rc rs n I L A | _ => False
  | .goto _ => match sd with | [t] => P t ls st rc rs n I L A | _ => False
  | .ifCond c _ => match sd, st with
    | [t], (.int x, _) :: r => match c with
      | .eq => (x = 0 → P t ls r rc rs n I L A) ∧ (¬ x = 0 → P nx ls r rc rs n I L A)
      | .ne => (¬ x = 0 → P t ls r rc rs n I L A) ∧ (x = 0 → P nx ls r rc rs n I L A)
      | .lt => (x < 0 → P t ls r rc rs n I L A) ∧ (¬ x < 0 → P nx ls r rc rs n I L A)
      | .ge => (0 ≤ x → P t ls r rc rs n I L A) ∧ (¬ 0 ≤ x → P nx ls r rc rs n I L A)
      | .gt => (0 < x → P t ls r rc rs n I L A) ∧ (¬ 0 < x → P nx ls r rc rs n I L A)
      | .le => (x ≤ 0 → P t ls r rc rs n I L A) ∧ (¬ x ≤ 0 → P nx ls r rc rs n I L A)
    | _, _ => False
  | .if_icmp c _ => match sd, st with
    | [t], (.int y, _) :: (.int x, _) :: r => match c with
      | .eq => (x = y → P t ls r rc rs n I L A) ∧ (¬ x = y → P nx ls r rc rs n I L A)
      | .ne => (¬ x = y → P t ls r rc rs n I L A) ∧ (x = y → P nx ls r rc rs n I L A)
      | .lt => (x < y → P t ls r rc rs n I L A) ∧ (¬ x < y → P nx ls r rc rs n I L A)
      | .ge => (y ≤ x → P t ls r rc rs n I L A) ∧ (¬ y ≤ x → P nx ls r rc rs n I L A)
      | .gt => (y < x → P t ls r rc rs n I L A) ∧ (¬ y < x → P nx ls r rc rs n I L A)
      | .le => (x ≤ y → P t ls r rc rs n I L A) ∧ (¬ x ≤ y → P nx ls r rc rs n I L A)
    | _, _ => False
  | .if_acmp c _ => match sd, st with
    | [t], (.ref y, ty) :: (.ref x, tx) :: r => bif Nat.beq tx 10 && Nat.beq ty 10 then (match c with
      | .eq => (x = y → P t ls r rc rs n I L A) ∧ (¬ x = y → P nx ls r rc rs n I L A)
      | .ne => (¬ x = y → P t ls r rc rs n I L A) ∧ (x = y → P nx ls r rc rs n I L A)) else False
    | _, _ => False
  | .tableswitch _ _ _ _ => match sd, st with
    | d :: m :: ts, (.int x, _) :: r => (x.toInt < tlo v ∨ tlo v + (m : Int) ≤ x.toInt → P d ls r rc rs n I L A) ∧ tgs x (tlo v) ts (fun t => P t ls r rc rs n I L A)
    | _, _ => False
  | .getstatic _ => match sd with | [r, t] => P nx ls ((.ref r, t) :: st) rc rs n I L A | _ => False
  | .getfield _ => match sd, st with
    | [c, j, y, ft], (.ref r, t) :: rest => bif Nat.beq t (kObj c) then
        (match y with
        | 0 => P nx ls ((.int (I r j), 0) :: rest) rc rs n I L A
        | 1 => match A r j with | 0 => False | a + 1 => P nx ls ((.ref a, ft) :: rest) rc rs n I L A
        | 2 => P nx ls ((.int (X.2.1 r), 0) :: rest) rc rs n I L A
        | 3 => P nx ls ((.ref (X.2.2.1 r), 20) :: rest) rc rs n I L A
        | _ => False) else False
    | _, _ => False
  | .putfield _ => match sd, st with
    | [c, j, y, ft], (x, tx) :: (.ref r, t) :: rest => bif Nat.beq t (kObj c) then
        (match y, x with
        | 0, .int w => P nx ls rest rc rs n (u2 I r j w) L A
        | 4, .int w => (w = 0 ∨ w = 1) ∧ P nx ls rest rc rs n (u2 I r j w) L A
        | 1, .ref a => bif Nat.beq tx ft then P nx ls rest rc rs n I L (u2 A r j (a + 1)) else False
        | _, _ => False) else False
    | _, _ => False
  | .arraylength => match st with
    | (.ref r, t) :: rest => match kSort t with
      | 8 => P nx ls ((.int (Int32.ofNat X.2.2.2.2.2), 0) :: rest) rc rs n I L A
      | 0 => False
      | _ => P nx ls ((.int (Int32.ofNat (kLen t)), 0) :: rest) rc rs n I L A
    | _ => False
  | .iaload => match st with
    | (.int i, _) :: (.ref r, t) :: rest => match kSort t with
      | 1 => inb i (kLen t) ∧ P nx ls ((.int (I r i.toNatClampNeg), 0) :: rest) rc rs n I L A
      | 6 => inb i (kLen t) ∧ P nx ls ((.int (X.1 r i.toNatClampNeg), 0) :: rest) rc rs n I L A
      | 8 => inb i X.2.2.2.2.2 ∧ P nx ls ((.int (X.1 r i.toNatClampNeg), 0) :: rest) rc rs n I L A
      | _ => False
    | _ => False
  | .baload => match st with
    | (.int i, _) :: (.ref r, t) :: rest => match kSort t with
      | 2 => inb i (kLen t) ∧ P nx ls ((.int (I r i.toNatClampNeg), 0) :: rest) rc rs n I L A
      | 3 => inb i (kLen t) ∧ P nx ls ((.int (I r i.toNatClampNeg), 0) :: rest) rc rs n I L A
      | _ => False
    | _ => False
  | .laload => match st with
    | (.int i, _) :: (.ref r, t) :: rest => match kSort t with
      | 4 => inb i (kLen t) ∧ P nx ls ((.long (L r i.toNatClampNeg), 0) :: rest) rc rs n I L A
      | _ => False
    | _ => False
  | .aaload => match st with
    | (.int i, _) :: (.ref r, t) :: rest => bif Nat.beq (kSort t) 7 then inb i (kLen t) ∧ P nx ls ((.ref (10020 + i.toNatClampNeg), 10) :: rest) rc rs n I L A
      else bif Nat.ble 10 (kSort t) then inb i (kLen t) ∧ (match A r i.toNatClampNeg with | 0 => False | a + 1 => P nx ls ((.ref a, kSort t - 9) :: rest) rc rs n I L A) else False
    | _ => False
  | .iastore => match st with
    | (.int x, _) :: (.int i, _) :: (.ref r, t) :: rest => match kSort t with
      | 1 => inb i (kLen t) ∧ P nx ls rest rc rs n (u2 I r i.toNatClampNeg x) L A
      | _ => False
    | _ => False
  | .bastore => match st with
    | (.int x, _) :: (.int i, _) :: (.ref r, t) :: rest => match kSort t with
      | 2 => inb i (kLen t) ∧ (x = 0 ∨ x = 1) ∧ P nx ls rest rc rs n (u2 I r i.toNatClampNeg x) L A
      | 3 => inb i (kLen t) ∧ x.toInt8.toInt32 = x ∧ P nx ls rest rc rs n (u2 I r i.toNatClampNeg x) L A
      | _ => False
    | _ => False
  | .lastore => match st with
    | (.long x, _) :: (.int i, _) :: (.ref r, t) :: rest => match kSort t with
      | 4 => inb i (kLen t) ∧ P nx ls rest rc rs n I (u2 L r i.toNatClampNeg x) A
      | _ => False
    | _ => False
  | .aastore => match st with
    | (.ref x, tx) :: (.int i, _) :: (.ref r, t) :: rest => bif Nat.ble 10 (kSort t) && Nat.beq tx (kSort t - 9) then inb i (kLen t) ∧ P nx ls rest rc rs n I L (u2 A r i.toNatClampNeg (x + 1)) else False
    | _ => False
  | .new _ => match sd with
    | [c, N] => match rc with
      | rc' + 1 => N ≤ rs ∧ kd n = kObj c ∧ P nx ls ((.ref n, kObj c) :: st) rc' (rs - N) (n + 1) (ur I n fun _ => 0) L (ur A n fun _ => 0)
      | 0 => False
    | [e] => bif Nat.ble (catS st) 8 then 1 ≤ rc ∧ 8 ≤ rs ∧ kd n = 0 ∧ ∀ n', n ≤ n' → Q (.inr e) n' I L A else False
    | _ => False
  | .newarray _ | .anewarray _ => match sd, st with
    | [s], (.int l, _) :: r => match rc with
      | rc' + 1 => 0 ≤ l ∧ l.toNatClampNeg ≤ rs ∧ kd n = 10000 * s + l.toNatClampNeg ∧ l.toNatClampNeg < 10000 ∧ P nx ls ((.ref n, 10000 * s + l.toNatClampNeg) :: r) rc' (rs - l.toNatClampNeg) (n + 1) (ur I n fun _ => 0) (ur L n fun _ => 0) (ur A n fun _ => 0)
      | 0 => False
    | _, _ => False
  | .invokevirtual _ | .invokestatic _ | .invokespecial _ => match sd with
    | 999 :: _ => match st with
      | (.ref _, _) :: rest => bif Nat.ble (catS rest) 8 then P nx ls rest rc rs n I L A else False
      | _ => False
    | 900 :: _ => match st with
      | (.int l, _) :: (.int q, _) :: (.ref b, tb) :: (.int p, _) :: (.ref a, ta) :: rest => bif Nat.ble (catS rest) 8 then (0 ≤ p ∧ 0 ≤ q ∧ 0 ≤ l ∧ p.toNatClampNeg + l.toNatClampNeg ≤ kLen ta ∧ q.toNatClampNeg + l.toNatClampNeg ≤ kLen tb ∧ (match kSort ta, kSort tb with
        | 1, 1 => P nx ls rest rc rs n (ur I b (va_cpy (I a) (I b) p.toNatClampNeg q.toNatClampNeg l.toNatClampNeg)) L A
        | 4, 4 => P nx ls rest rc rs n I (ur L b (va_cpy (L a) (L b) p.toNatClampNeg q.toNatClampNeg l.toNatClampNeg)) A
        | _, _ => False)) else False
      | _ => False
    | 901 :: _ => match st with
      | (.ref r, t) :: rest => bif Nat.beq t 20 && Nat.ble (catS rest) 8 then P nx ls ((.int (Int32.ofNat (X.2.2.2.1 r)), 0) :: rest) rc rs n I L A else False
      | _ => False
    | 902 :: _ => match st with
      | (.int i, _) :: (.ref r, t) :: rest => bif Nat.beq t 20 && Nat.ble (catS rest) 8 then inb i (X.2.2.2.1 r) ∧ P nx ls ((.int (X.2.2.2.2.1 r i.toNatClampNeg), 0) :: rest) rc rs n I L A else False
      | _ => False
    | 903 :: _ => match st with
      | (.int x, _) :: rest => bif Nat.ble (catS rest) 8 then P nx ls ((.int (if 0 ≤ x then x else 0 - x), 0) :: rest) rc rs n I L A else False
      | _ => False
    | 904 :: _ => match st with
      | (.int y, _) :: (.int x, _) :: rest => bif Nat.ble (catS rest) 8 then P nx ls ((.int (if x < y then y else x), 0) :: rest) rc rs n I L A else False
      | _ => False
    | 905 :: _ => match st with
      | (.int y, _) :: (.int x, _) :: rest => bif Nat.ble (catS rest) 8 then P nx ls ((.int (if y < x then y else x), 0) :: rest) rc rs n I L A else False
      | _ => False
    | k :: na :: hs => spl na st [] fun as rest => bif Nat.ble (catS rest) 8 then inv C k as rc rs n I L A (back Q P nx hs ls rest) else False
    | _ => False
  | .ireturn => match sd, st with
    | [], (.int x, _) :: [] => Q (.inl (some (.int x, 0))) n I L A
    | [_], (.int x, _) :: [] => (x = 0 ∨ x = 1) ∧ Q (.inl (some (.int x, 0))) n I L A
    | _, _ => False
  | .lreturn => match st with | (.long x, _) :: [] => Q (.inl (some (.long x, 0))) n I L A | _ => False
  | .freturn => match st with | (.float x, _) :: [] => Q (.inl (some (.float x, 0))) n I L A | _ => False
  | .dreturn => match st with | (.double x, _) :: [] => Q (.inl (some (.double x, 0))) n I L A | _ => False
  | .areturn => match st with | (.ref x, t) :: [] => Q (.inl (some (.ref x, t))) n I L A | _ => False
  | .return_ => match st with | [] => Q (.inl none) n I L A | _ => False
  | _ => False
def stA (X : Ext) (kd : Nat → Nat) (C : CT) (tb : Tb) (Q : AQ) (P : PT) : PT := fun pc ls st rc rs n I L A => match lk tb pc with
  | some (ins, nx, sd, v) => stp X kd C Q P ins nx sd v ls st rc rs n I L A
  | none => False
def elm (p : Nat) : List Nat → Bool
  | [] => false
  | c :: cs => bif Nat.beq p c then true else elm p cs
def sN (X : Ext) (kd : Nat → Nat) (C : CT) (tb : Tb) (Q : AQ) (cuts : List Nat) (K : PT) : Nat → PT
  | 0 => K
  | m + 1 => stA X kd C tb Q (fun pc ls st rc rs n I L A => bif elm pc cuts then K pc ls st rc rs n I L A else sN X kd C tb Q cuts K m pc ls st rc rs n I L A)
