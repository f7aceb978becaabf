/-! THE START, 3: calls -/
structure F9 where
  k : Nat
  nx : Nat
  ls : List AV
  st : List AV
  rc : Nat
  rs : Nat
structure S9 where
  d : Nat
  k : Nat
  s : E9
  fs : List F9
def splL : Nat → List AV → List AV → Option (List AV × List AV)
  | 0, st, acc => some (acc, st)
  | n + 1, x :: st, acc => splL n st (x :: acc)
  | _ + 1, [], _ => none
/-- what a call may make: objects, cells -/
def advL : List (Nat × Nat × Nat) → Nat → Nat × Nat
  | [], _ => (0, 0)
  | (k', r) :: l, k => bif Nat.beq k k' then r else advL l k
def adv9 (k n : Nat) : Nat × Nat := bif Nat.beq k 89 then (bif Nat.beq n 304 then (177, 1456) else (45, 364)) else advL [(42, 1, 12), (6, 4, 26), (34, 3, 21), (67, 21, 176), (0, 12, 84), (9, 17, 152), (13, 10, 2786), (25, 27, 2990), (59, 5, 1746), (72, 4, 2803), (87, 602, 11641), (88, 281, 1848), (144, 39, 22349)] k
noncomputable def ret9 (d : Nat) (n : Nat) (I : Hp Int32) (L : Hp Int64) (A : Hp Nat) (fs : List F9) (v : Option AV) : Option S9 := match fs with
  | [] => none
  | ⟨k, nx, ls, st, rc, rs⟩ :: fs => match v with
    | none => some ⟨d + 1, k, ⟨nx, ls, st, rc, rs, n, I, L, A⟩, fs⟩
    | some v => some ⟨d + 1, k, ⟨nx, ls, v :: st, rc, rs, n, I, L, A⟩, fs⟩
noncomputable def ev9 (X : Ext) (s : S9) : Option S9 := match s with
  | ⟨d, k, ⟨pc, ls, st, rc, rs, n, I, L, A⟩, fs⟩ => match lk (tbm k).1 pc with
    | none => none
    | some (ins, nx, sd, v) => match ins with
      | .invokevirtual _ | .invokestatic _ | .invokespecial _ => match sd with
        | k' :: na :: _ => bif Nat.ble 900 k' then (match evI X ins nx sd v ⟨pc, ls, st, rc, rs, n, I, L, A⟩ with
            | some e => some ⟨d, k, e, fs⟩
            | none => none)
          else match d with
            | 0 => none
            | d + 1 => match splL na st [] with
              | none => none
              | some (as, rest) => match adv9 k' n with
                | (mc, ms) => bif Nat.ble (catS rest) 8 && Nat.ble mc rc && Nat.ble ms rs && argB k' as then
                    fNk (rc - mc) fun rc' => fNk (rs - ms) fun rs' => some ⟨d, k', ⟨0, entL as (tbm k').2, [], mc, ms, n, I, L, A⟩, ⟨k, nx, ls, rest, rc', rs'⟩ :: fs⟩ else none
        | _ => match evI X ins nx sd v ⟨pc, ls, st, rc, rs, n, I, L, A⟩ with
          | some e => some ⟨d, k, e, fs⟩
          | none => none
      | .ireturn => match sd, st with
        | [], (.int x, _) :: [] => ret9 d n I L A fs (some (.int x, 0))
        | [_], (.int x, _) :: [] => bif decide (x = 0) || decide (x = 1) then ret9 d n I L A fs (some (.int x, 0)) else none
        | _, _ => none
      | .areturn => match st with | (.ref x, t) :: [] => ret9 d n I L A fs (some (.ref x, t)) | _ => none
      | .lreturn => match st with | (.long x, _) :: [] => ret9 d n I L A fs (some (.long x, 0)) | _ => none
      | .return_ => match st with | [] => ret9 d n I L A fs none | _ => none
      | _ => match evI X ins nx sd v ⟨pc, ls, st, rc, rs, n, I, L, A⟩ with
        | some e => some ⟨d, k, e, fs⟩
        | none => none
noncomputable def evN (X : Ext) : Nat → S9 → Option S9
  | 0, s => some s
  | m + 1, s => match ev9 X s with
    | none => none
    | some ⟨d, k, ⟨pc, ls, st, rc, rs, n, I, L, A⟩, fs⟩ => zTop st fun st => evN X m ⟨d, k, ⟨pc, ls, st, rc, rs, n, I, L, A⟩, fs⟩
noncomputable def isS (o : Option S9) : Bool := match o with | some _ => true | none => false
def S90 : S9 := ⟨1669, 301, ⟨0, entL [(.ref 10100, 80000)] 9, [], 601024, 7293034, 0, .e, .e, .e⟩, []⟩
set_option maxRecDepth 100000 in
theorem tst1 : isS (evN (XX 0 (fun _ => 0)) 8000 S90) = true := by decide +kernel
