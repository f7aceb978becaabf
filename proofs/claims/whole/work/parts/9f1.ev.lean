/-! THE START, 2: its instructions -/
/-- what an instruction leaves of a frame -/
abbrev P9 : Type := Nat × List AV × List AV
abbrev P9.pc (c : P9) : Nat := c.1
abbrev P9.ls (c : P9) : List AV := c.2.1
abbrev P9.st (c : P9) : List AV := c.2.2
/-- a frame that waits -/
abbrev F9 : Type := Nat × Nat × List AV × List AV × Nat × Nat
abbrev F9.k (c : F9) : Nat := c.1
abbrev F9.nx (c : F9) : Nat := c.2.1
abbrev F9.ls (c : F9) : List AV := c.2.2.1
abbrev F9.st (c : F9) : List AV := c.2.2.2.1
abbrev F9.rc (c : F9) : Nat := c.2.2.2.2.1
abbrev F9.rs (c : F9) : Nat := c.2.2.2.2.2
/-- the rest -/
abbrev C9 : Type := Nat × Nat × Nat × Nat × Nat × Hp Int32 × Hp Int64 × Hp Nat × List F9
abbrev C9.d (c : C9) : Nat := c.1
abbrev C9.k (c : C9) : Nat := c.2.1
abbrev C9.rc (c : C9) : Nat := c.2.2.1
abbrev C9.rs (c : C9) : Nat := c.2.2.2.1
abbrev C9.n (c : C9) : Nat := c.2.2.2.2.1
abbrev C9.I (c : C9) : Hp Int32 := c.2.2.2.2.2.1
abbrev C9.L (c : C9) : Hp Int64 := c.2.2.2.2.2.2.1
abbrev C9.A (c : C9) : Hp Nat := c.2.2.2.2.2.2.2.1
abbrev C9.fs (c : C9) : List F9 := c.2.2.2.2.2.2.2.2
noncomputable abbrev dHI (T : Hp Int32) : HI := hpG 0 T
noncomputable abbrev dHL (T : Hp Int64) : HL := hpG 0 T
noncomputable abbrev dHA (T : Hp Nat) : HA := hpG 0 T
/-- the top of the stack, forced -/
def zTop {β : Type} : List AV → (List AV → β) → β
  | (.int x, t) :: r, k => z32 x fun y => k ((.int y, t) :: r)
  | (.long x, t) :: r, k => z64 x fun y => k ((.long y, t) :: r)
  | l, k => k l
theorem zTop_eq {β : Type} (l : List AV) (k : List AV → β) : zTop l k = k l := by
  unfold zTop
  split
  · rw [z32_eq]
  · rw [z64_eq]
  · rfl
def inbB (i : Int32) (n : Nat) : Bool := decide (0 ≤ i) && Nat.blt i.toNatClampNeg n
theorem inbB_iff {i : Int32} {n : Nat} (h : inbB i n = true) : inb i n := by
  unfold inbB at h
  rw [Bool.and_eq_true, decide_eq_true_iff, blt_d, decide_eq_true_iff] at h
  exact h
/-- a cell may be written -/
def okC9 (r j : Nat) : Bool := Nat.blt r 2000 && Nat.blt j 30000
theorem okC9_iff {r j : Nat} (h : okC9 r j = true) : r < 2000 ∧ j < 30000 := by
  unfold okC9 at h
  rw [Bool.and_eq_true, blt_d, blt_d, decide_eq_true_iff, decide_eq_true_iff] at h
  exact h
noncomputable def hpK {α β : Type} (z : α) (T : Hp α) (r j : Nat) (x : α) (k : Hp α → β) : β := trKr z 16 (j + 1) x (trGr .leaf 12 (r + 1) T) fun row => trKr .leaf 12 (r + 1) row T k
theorem hpK_eq {α β : Type} (z : α) (T : Hp α) (r j : Nat) (x : α) (k : Hp α → β) : hpK z T r j x k = k (hpS z T r j x) := by
  unfold hpK
  rw [trKr_eq, trK_eq, trKr_eq, trK_eq, trGr_eq]
  rfl
noncomputable def hpM {α β : Type} (T : Hp α) (r : Nat) (k : Hp α → β) : β := trKr .leaf 12 (r + 1) .leaf T k
theorem hpM_eq {α β : Type} (T : Hp α) (r : Nat) (k : Hp α → β) : hpM T r k = k (hpN T r) := by
  unfold hpM
  rw [trKr_eq, trK_eq]
  rfl
/-- locals, by the recursors themselves -/
noncomputable def lgR (l : List AV) : Nat → AV := @List.rec AV (fun _ => Nat → AV) (fun _ => jk) (fun x _ ih i => @Nat.rec (fun _ => AV) x (fun j _ => ih j) i) l
theorem lgR_eq : ∀ (l : List AV) (i : Nat), lgR l i = lget l i
  | [], _ => rfl
  | _ :: _, 0 => rfl
  | _ :: xs, i + 1 => lgR_eq xs i
noncomputable def lsR (l : List AV) : Nat → AV → List AV := @List.rec AV (fun _ => Nat → AV → List AV) (fun _ _ => []) (fun x xs ih i v => @Nat.rec (fun _ => List AV) (v :: (bif isW v.1 then (match xs with | [] => [] | _ :: ys => jk :: ys) else xs)) (fun j _ => @Nat.rec (fun _ => AV) (bif isW x.1 then jk else x) (fun _ _ => x) j :: ih j v) i) l
theorem lsR_eq : ∀ (l : List AV) (i : Nat) (v : AV), lsR l i v = lset l i v
  | [], _, _ => rfl
  | _ :: _, 0, _ => rfl
  | x :: xs, i + 1, v => by
    show @Nat.rec (fun _ => AV) (bif isW x.1 then jk else x) (fun _ _ => x) i :: lsR xs i v = (match i with | 0 => (bif isW x.1 then jk else x) | _ + 1 => x) :: lset xs i v
    rw [lsR_eq xs i v]
    cases i <;> rfl
/-- the static rows -/
def sv9 (r j : Nat) : Int32 := (sV.getD (r - 10000) []).getD j 0
/-- an instruction's way, where it leaves the rest alone -/
abbrev H9 : Type := Nat → List Nat → Value → List AV → List AV → Option P9
/-- where it doesn't -/
abbrev K9 : Type := Nat → List Nat → Value → List AV → List AV → C9 → Option (P9 × C9)
noncomputable def h9_iconst : H9 := fun nx sd v ls st => some ⟨nx, ls, (v, 0) :: st⟩
noncomputable def h9_iload_n : H9 := fun nx sd v ls st => match sd with
    | [i] => match lgR ls i with
      | (.int x, _) => some ⟨nx, ls, (.int x, 0) :: st⟩
      | _ => none
    | _ => none
noncomputable def h9_lload_n : H9 := fun nx sd v ls st => match sd with
    | [i] => match lgR ls i with
      | (.long x, _) => some ⟨nx, ls, (.long x, 0) :: st⟩
      | _ => none
    | _ => none
noncomputable def h9_aload_n : H9 := fun nx sd v ls st => match sd with
    | [i] => match lgR ls i with
      | (.ref r, t) => some ⟨nx, ls, (.ref r, t) :: st⟩
      | _ => none
    | _ => none
noncomputable def h9_istore_n : H9 := fun nx sd v ls st => match sd, st with
    | [i], (.int x, _) :: r => some ⟨nx, lsR ls i (.int x, 0), r⟩
    | _, _ => none
noncomputable def h9_lstore_n : H9 := fun nx sd v ls st => match sd, st with
    | [i], (.long x, _) :: r => some ⟨nx, lsR ls i (.long x, 0), r⟩
    | _, _ => none
noncomputable def h9_astore_n : H9 := fun nx sd v ls st => match sd, st with
    | [i], (.ref x, t) :: r => some ⟨nx, lsR ls i (.ref x, t), r⟩
    | _, _ => none
noncomputable def h9_iinc : H9 := fun nx sd v ls st => match sd, v with
    | [i], .int c => match lgR ls i with
      | (.int x, _) => z32 (x + c) fun y => some ⟨nx, lsR ls i (.int y, 0), st⟩
      | _ => none
    | _, _ => none
noncomputable def h9_dup : H9 := fun nx sd v ls st => match st with
    | x :: r => bif isW x.1 then none else some ⟨nx, ls, x :: x :: r⟩
    | _ => none
noncomputable def h9_dup2 : H9 := fun nx sd v ls st => match st with
    | x :: y :: r => bif isW x.1 || isW y.1 then none else some ⟨nx, ls, x :: y :: x :: y :: r⟩
    | _ => none
noncomputable def h9_iadd : H9 := fun nx sd v ls st => match st with | (.int y, _) :: (.int x, _) :: r => some ⟨nx, ls, (.int (x + y), 0) :: r⟩ | _ => none
noncomputable def h9_isub : H9 := fun nx sd v ls st => match st with | (.int y, _) :: (.int x, _) :: r => some ⟨nx, ls, (.int (x - y), 0) :: r⟩ | _ => none
noncomputable def h9_imul : H9 := fun nx sd v ls st => match st with | (.int y, _) :: (.int x, _) :: r => some ⟨nx, ls, (.int (x * y), 0) :: r⟩ | _ => none
noncomputable def h9_idiv : H9 := fun nx sd v ls st => match st with | (.int y, _) :: (.int x, _) :: r => bif decide (y = 0) then none else some ⟨nx, ls, (.int (x / y), 0) :: r⟩ | _ => none
noncomputable def h9_irem : H9 := fun nx sd v ls st => match st with | (.int y, _) :: (.int x, _) :: r => bif decide (y = 0) then none else some ⟨nx, ls, (.int (x % y), 0) :: r⟩ | _ => none
noncomputable def h9_iand : H9 := fun nx sd v ls st => match st with | (.int y, _) :: (.int x, _) :: r => some ⟨nx, ls, (.int (x &&& y), 0) :: r⟩ | _ => none
noncomputable def h9_ior : H9 := fun nx sd v ls st => match st with | (.int y, _) :: (.int x, _) :: r => some ⟨nx, ls, (.int (x ||| y), 0) :: r⟩ | _ => none
noncomputable def h9_ishl : H9 := fun nx sd v ls st => match st with | (.int y, _) :: (.int x, _) :: r => some ⟨nx, ls, (.int (x <<< (y &&& 31)), 0) :: r⟩ | _ => none
noncomputable def h9_ishr : H9 := fun nx sd v ls st => match st with | (.int y, _) :: (.int x, _) :: r => some ⟨nx, ls, (.int (x >>> (y &&& 31)), 0) :: r⟩ | _ => none
noncomputable def h9_iushr : H9 := fun nx sd v ls st => match st with | (.int y, _) :: (.int x, _) :: r => some ⟨nx, ls, (.int (x.toUInt32 >>> (y.toUInt32 &&& Int32.toUInt32 31)).toInt32, 0) :: r⟩ | _ => none
noncomputable def h9_ineg : H9 := fun nx sd v ls st => match st with | (.int x, _) :: r => some ⟨nx, ls, (.int (-x), 0) :: r⟩ | _ => none
noncomputable def h9_ladd : H9 := fun nx sd v ls st => match st with | (.long y, _) :: (.long x, _) :: r => some ⟨nx, ls, (.long (x + y), 0) :: r⟩ | _ => none
noncomputable def h9_lsub : H9 := fun nx sd v ls st => match st with | (.long y, _) :: (.long x, _) :: r => some ⟨nx, ls, (.long (x - y), 0) :: r⟩ | _ => none
noncomputable def h9_land : H9 := fun nx sd v ls st => match st with | (.long y, _) :: (.long x, _) :: r => some ⟨nx, ls, (.long (x &&& y), 0) :: r⟩ | _ => none
noncomputable def h9_lor : H9 := fun nx sd v ls st => match st with | (.long y, _) :: (.long x, _) :: r => some ⟨nx, ls, (.long (x ||| y), 0) :: r⟩ | _ => none
noncomputable def h9_lxor : H9 := fun nx sd v ls st => match st with | (.long y, _) :: (.long x, _) :: r => some ⟨nx, ls, (.long (x ^^^ y), 0) :: r⟩ | _ => none
noncomputable def h9_lneg : H9 := fun nx sd v ls st => match st with | (.long x, _) :: r => some ⟨nx, ls, (.long (-x), 0) :: r⟩ | _ => none
noncomputable def h9_lshl : H9 := fun nx sd v ls st => match st with | (.int y, _) :: (.long x, _) :: r => some ⟨nx, ls, (.long (x <<< (y.toInt64 &&& 63)), 0) :: r⟩ | _ => none
noncomputable def h9_lushr : H9 := fun nx sd v ls st => match st with | (.int y, _) :: (.long x, _) :: r => some ⟨nx, ls, (.long (x.toUInt64 >>> (y.toInt64.toUInt64 &&& Int64.toUInt64 63)).toInt64, 0) :: r⟩ | _ => none
noncomputable def h9_i2l : H9 := fun nx sd v ls st => match st with | (.int x, _) :: r => some ⟨nx, ls, (.long x.toInt64, 0) :: r⟩ | _ => none
noncomputable def h9_l2i : H9 := fun nx sd v ls st => match st with | (.long x, _) :: r => some ⟨nx, ls, (.int x.toInt32, 0) :: r⟩ | _ => none
noncomputable def h9_lcmp : H9 := fun nx sd v ls st => match st with | (.long y, _) :: (.long x, _) :: r => some ⟨nx, ls, (.int (if x < y then -1 else if x = y then 0 else 1), 0) :: r⟩ | _ => none
noncomputable def h9_goto : H9 := fun nx sd v ls st => match sd with | [t] => some ⟨t, ls, st⟩ | _ => none
noncomputable def h9_if_eq : H9 := fun nx sd v ls st => match sd, st with
    | [t], (.int x, _) :: r => bif decide (x = 0) then some ⟨t, ls, r⟩ else some ⟨nx, ls, r⟩
    | _, _ => none
noncomputable def h9_if_ne : H9 := fun nx sd v ls st => match sd, st with
    | [t], (.int x, _) :: r => bif decide (x = 0) then some ⟨nx, ls, r⟩ else some ⟨t, ls, r⟩
    | _, _ => none
noncomputable def h9_if_lt : H9 := fun nx sd v ls st => match sd, st with
    | [t], (.int x, _) :: r => bif decide (x < 0) then some ⟨t, ls, r⟩ else some ⟨nx, ls, r⟩
    | _, _ => none
noncomputable def h9_if_ge : H9 := fun nx sd v ls st => match sd, st with
    | [t], (.int x, _) :: r => bif decide (0 ≤ x) then some ⟨t, ls, r⟩ else some ⟨nx, ls, r⟩
    | _, _ => none
noncomputable def h9_if_gt : H9 := fun nx sd v ls st => match sd, st with
    | [t], (.int x, _) :: r => bif decide (0 < x) then some ⟨t, ls, r⟩ else some ⟨nx, ls, r⟩
    | _, _ => none
noncomputable def h9_if_le : H9 := fun nx sd v ls st => match sd, st with
    | [t], (.int x, _) :: r => bif decide (x ≤ 0) then some ⟨t, ls, r⟩ else some ⟨nx, ls, r⟩
    | _, _ => none
noncomputable def h9_ic_eq : H9 := fun nx sd v ls st => match sd, st with
    | [t], (.int y, _) :: (.int x, _) :: r => bif decide (x = y) then some ⟨t, ls, r⟩ else some ⟨nx, ls, r⟩
    | _, _ => none
noncomputable def h9_ic_ne : H9 := fun nx sd v ls st => match sd, st with
    | [t], (.int y, _) :: (.int x, _) :: r => bif decide (x = y) then some ⟨nx, ls, r⟩ else some ⟨t, ls, r⟩
    | _, _ => none
noncomputable def h9_ic_lt : H9 := fun nx sd v ls st => match sd, st with
    | [t], (.int y, _) :: (.int x, _) :: r => bif decide (x < y) then some ⟨t, ls, r⟩ else some ⟨nx, ls, r⟩
    | _, _ => none
noncomputable def h9_ic_ge : H9 := fun nx sd v ls st => match sd, st with
    | [t], (.int y, _) :: (.int x, _) :: r => bif decide (y ≤ x) then some ⟨t, ls, r⟩ else some ⟨nx, ls, r⟩
    | _, _ => none
noncomputable def h9_ic_gt : H9 := fun nx sd v ls st => match sd, st with
    | [t], (.int y, _) :: (.int x, _) :: r => bif decide (y < x) then some ⟨t, ls, r⟩ else some ⟨nx, ls, r⟩
    | _, _ => none
noncomputable def h9_ic_le : H9 := fun nx sd v ls st => match sd, st with
    | [t], (.int y, _) :: (.int x, _) :: r => bif decide (x ≤ y) then some ⟨t, ls, r⟩ else some ⟨nx, ls, r⟩
    | _, _ => none
noncomputable def h9_getstatic : H9 := fun nx sd v ls st => match sd with | [r, t] => some ⟨nx, ls, (.ref r, t) :: st⟩ | _ => none
noncomputable def h9_getfield : K9 := fun nx sd v ls st c => match c with
  | ⟨d, k, rc, rs, n, I, L, A, fs⟩ => match sd, st with
    | [c, j, y, ft], (.ref r, t) :: rest => bif Nat.beq t (kObj c) then
        (match y with
        | 0 => some (⟨nx, ls, (.int (hpG 0 I r j), 0) :: rest⟩, ⟨d, k, rc, rs, n, I, L, A, fs⟩)
        | 1 => match hpG 0 A r j with | 0 => none | a + 1 => some (⟨nx, ls, (.ref a, ft) :: rest⟩, ⟨d, k, rc, rs, n, I, L, A, fs⟩)
        | _ => none) else none
    | _, _ => none
noncomputable def h9_putfield : K9 := fun nx sd v ls st c => match c with
  | ⟨d, k, rc, rs, n, I, L, A, fs⟩ => match sd, st with
    | [c, j, y, ft], (x, tx) :: (.ref r, t) :: rest => bif Nat.beq t (kObj c) && okC9 r j then
        (match y, x with
        | 0, .int w => z32 w fun w => hpK 0 I r j w fun I => some (⟨nx, ls, rest⟩, ⟨d, k, rc, rs, n, I, L, A, fs⟩)
        | 4, .int w => bif decide (w = 0) || decide (w = 1) then z32 w fun w => hpK 0 I r j w fun I => some (⟨nx, ls, rest⟩, ⟨d, k, rc, rs, n, I, L, A, fs⟩) else none
        | 1, .ref a => bif Nat.beq tx ft then fNk (a + 1) fun a1 => hpK 0 A r j a1 fun A => some (⟨nx, ls, rest⟩, ⟨d, k, rc, rs, n, I, L, A, fs⟩) else none
        | _, _ => none) else none
    | _, _ => none
noncomputable def h9_arraylength : H9 := fun nx sd v ls st => match st with
    | (.ref r, t) :: rest => match kSort t with
      | 8 => none
      | 0 => none
      | _ => some ⟨nx, ls, (.int (Int32.ofNat (kLen t)), 0) :: rest⟩
    | _ => none
noncomputable def h9_iaload : K9 := fun nx sd v ls st c => match c with
  | ⟨d, k, rc, rs, n, I, L, A, fs⟩ => match st with
    | (.int i, _) :: (.ref r, t) :: rest => match kSort t with
      | 1 => bif inbB i (kLen t) then some (⟨nx, ls, (.int (hpG 0 I r i.toNatClampNeg), 0) :: rest⟩, ⟨d, k, rc, rs, n, I, L, A, fs⟩) else none
      | 6 => bif inbB i (kLen t) && !Nat.beq r 10100 then some (⟨nx, ls, (.int (sv9 r i.toNatClampNeg), 0) :: rest⟩, ⟨d, k, rc, rs, n, I, L, A, fs⟩) else none
      | _ => none
    | _ => none
noncomputable def h9_baload : K9 := fun nx sd v ls st c => match c with
  | ⟨d, k, rc, rs, n, I, L, A, fs⟩ => match st with
    | (.int i, _) :: (.ref r, t) :: rest => match kSort t with
      | 2 => bif inbB i (kLen t) then some (⟨nx, ls, (.int (hpG 0 I r i.toNatClampNeg), 0) :: rest⟩, ⟨d, k, rc, rs, n, I, L, A, fs⟩) else none
      | _ => none
    | _ => none
noncomputable def h9_laload : K9 := fun nx sd v ls st c => match c with
  | ⟨d, k, rc, rs, n, I, L, A, fs⟩ => match st with
    | (.int i, _) :: (.ref r, t) :: rest => match kSort t with
      | 4 => bif inbB i (kLen t) then some (⟨nx, ls, (.long (hpG 0 L r i.toNatClampNeg), 0) :: rest⟩, ⟨d, k, rc, rs, n, I, L, A, fs⟩) else none
      | _ => none
    | _ => none
noncomputable def h9_aaload : K9 := fun nx sd v ls st c => match c with
  | ⟨d, k, rc, rs, n, I, L, A, fs⟩ => match st with
    | (.int i, _) :: (.ref r, t) :: rest => bif Nat.beq (kSort t) 7 then none
      else bif Nat.ble 10 (kSort t) && inbB i (kLen t) then (match hpG 0 A r i.toNatClampNeg with | 0 => none | a + 1 => some (⟨nx, ls, (.ref a, kSort t - 9) :: rest⟩, ⟨d, k, rc, rs, n, I, L, A, fs⟩)) else none
    | _ => none
noncomputable def h9_iastore : K9 := fun nx sd v ls st c => match c with
  | ⟨d, k, rc, rs, n, I, L, A, fs⟩ => match st with
    | (.int x, _) :: (.int i, _) :: (.ref r, t) :: rest => match kSort t with
      | 1 => bif inbB i (kLen t) && okC9 r i.toNatClampNeg then z32 x fun x => hpK 0 I r i.toNatClampNeg x fun I => some (⟨nx, ls, rest⟩, ⟨d, k, rc, rs, n, I, L, A, fs⟩) else none
      | _ => none
    | _ => none
noncomputable def h9_bastore : K9 := fun nx sd v ls st c => match c with
  | ⟨d, k, rc, rs, n, I, L, A, fs⟩ => match st with
    | (.int x, _) :: (.int i, _) :: (.ref r, t) :: rest => match kSort t with
      | 2 => bif inbB i (kLen t) && okC9 r i.toNatClampNeg && (decide (x = 0) || decide (x = 1)) then z32 x fun x => hpK 0 I r i.toNatClampNeg x fun I => some (⟨nx, ls, rest⟩, ⟨d, k, rc, rs, n, I, L, A, fs⟩) else none
      | _ => none
    | _ => none
noncomputable def h9_lastore : K9 := fun nx sd v ls st c => match c with
  | ⟨d, k, rc, rs, n, I, L, A, fs⟩ => match st with
    | (.long x, _) :: (.int i, _) :: (.ref r, t) :: rest => match kSort t with
      | 4 => bif inbB i (kLen t) && okC9 r i.toNatClampNeg then z64 x fun x => hpK 0 L r i.toNatClampNeg x fun L => some (⟨nx, ls, rest⟩, ⟨d, k, rc, rs, n, I, L, A, fs⟩) else none
      | _ => none
    | _ => none
noncomputable def h9_aastore : K9 := fun nx sd v ls st c => match c with
  | ⟨d, k, rc, rs, n, I, L, A, fs⟩ => match st with
    | (.ref x, tx) :: (.int i, _) :: (.ref r, t) :: rest => bif Nat.ble 10 (kSort t) && Nat.beq tx (kSort t - 9) then (bif inbB i (kLen t) && okC9 r i.toNatClampNeg then fNk (x + 1) fun x1 => hpK 0 A r i.toNatClampNeg x1 fun A => some (⟨nx, ls, rest⟩, ⟨d, k, rc, rs, n, I, L, A, fs⟩) else none) else none
    | _ => none
noncomputable def h9_new : K9 := fun nx sd v ls st c => match c with
  | ⟨d, k, rc, rs, n, I, L, A, fs⟩ => match sd with
    | [c, N] => match rc with
      | rc' + 1 => bif Nat.ble N rs && Nat.beq (kdF n) (kObj c) && Nat.blt n 2000 then fNk (rs - N) fun rs' => fNk (n + 1) fun n' => hpM I n fun I => hpM A n fun A => some (⟨nx, ls, (.ref n, kObj c) :: st⟩, ⟨d, k, rc', rs', n', I, L, A, fs⟩) else none
      | 0 => none
    | _ => none
noncomputable def h9_newarray : K9 := fun nx sd v ls st c => match c with
  | ⟨d, k, rc, rs, n, I, L, A, fs⟩ => match sd, st with
    | [so], (.int l, _) :: r => match rc with
      | rc' + 1 => bif decide (0 ≤ l) && Nat.ble l.toNatClampNeg rs && Nat.beq (kdF n) (10000 * so + l.toNatClampNeg) && Nat.blt l.toNatClampNeg 10000 && Nat.blt n 2000 then fNk (rs - l.toNatClampNeg) fun rs' => fNk (n + 1) fun n' => fNk (10000 * so + l.toNatClampNeg) fun t => hpM I n fun I => hpM L n fun L => hpM A n fun A => some (⟨nx, ls, (.ref n, t) :: r⟩, ⟨d, k, rc', rs', n', I, L, A, fs⟩) else none
      | 0 => none
    | _, _ => none
noncomputable def h9_invokevirtual : H9 := fun nx sd v ls st => match sd with
    | 999 :: _ => match st with
      | (.ref _, _) :: rest => bif Nat.ble (catS rest) 8 then some ⟨nx, ls, rest⟩ else none
      | _ => none
    | 903 :: _ => match st with
      | (.int x, _) :: rest => bif Nat.ble (catS rest) 8 then some ⟨nx, ls, (.int (if 0 ≤ x then x else 0 - x), 0) :: rest⟩ else none
      | _ => none
    | 904 :: _ => match st with
      | (.int y, _) :: (.int x, _) :: rest => bif Nat.ble (catS rest) 8 then some ⟨nx, ls, (.int (if x < y then y else x), 0) :: rest⟩ else none
      | _ => none
    | 905 :: _ => match st with
      | (.int y, _) :: (.int x, _) :: rest => bif Nat.ble (catS rest) 8 then some ⟨nx, ls, (.int (if y < x then y else x), 0) :: rest⟩ else none
      | _ => none
    | _ => none
def h9_no : H9 := fun _ _ _ _ _ => none
