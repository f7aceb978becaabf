/-! THE ABSTRACT MACHINE: methods' code as tables of entries, a heap of numbers; 'stp' says what one instruction asks for; 'Th' is the theory in which methods are specified. -/
abbrev AV : Type := Value × Nat
abbrev HI : Type := Nat → Nat → Int32
abbrev HL : Type := Nat → Nat → Int64
abbrev HA : Type := Nat → Nat → Nat
abbrev Out : Type := Option AV ⊕ Nat
abbrev AQ : Type := Out → Nat → HI → HL → HA → Prop
abbrev CT : Type := Nat → List AV → Nat → Nat → Nat → HI → HL → HA → AQ → Prop
abbrev PT : Type := Nat → List AV → List AV → Nat → Nat → Nat → HI → HL → HA → Prop
abbrev Ent : Type := Instr × Nat × List Nat × Value
abbrev Tb : Type := List (List (Option Ent))
/-- what the outside is: the static rows, the constants' own fields, the texts, the script -/
abbrev Ext : Type := (Nat → Nat → Int32) × (Nat → Int32) × (Nat → Nat) × (Nat → Nat) × (Nat → Nat → Int32) × Nat
def nth {α : Type} : List α → Nat → Option α
  | [], _ => none
  | x :: _, 0 => some x
  | _ :: xs, i + 1 => nth xs i
def lk (tb : Tb) (pc : Nat) : Option Ent := match nth tb (pc / 16) with
  | some r => match nth r (pc % 16) with
    | some e => e
    | none => none
  | none => none
def jk : AV := (.retAddr 0, 0)
def lget : List AV → Nat → AV
  | [], _ => jk
  | x :: _, 0 => x
  | _ :: xs, i + 1 => lget xs i
def isW : Value → Bool
  | .long _ => true
  | .double _ => true
  | _ => false
/-- a value laid at a place; what it overlaps is gone -/
def lset : List AV → Nat → AV → List AV
  | [], _, _ => []
  | x :: xs, 0, v => v :: (bif isW v.1 then (match xs with | [] => [] | _ :: ys => jk :: ys) else xs)
  | x :: xs, i + 1, v => (match i with | 0 => (bif isW x.1 then jk else x) | _ + 1 => x) :: lset xs i v
def frc : List AV → (List AV → Prop) → Prop
  | [], k => k []
  | x :: xs, k => frc xs (fun r => k (x :: r))
def catS : List AV → Nat
  | [] => 0
  | x :: xs => (bif isW x.1 then 2 else 1) + catS xs
/-- the locals at a method's entry -/
def entL : List AV → Nat → List AV
  | [], n => List.replicate n jk
  | x :: xs, n => bif isW x.1 then x :: jk :: entL xs (n - 2) else x :: entL xs (n - 1)
def u1 {α : Type} (g : Nat → α) (i : Nat) (v : α) : Nat → α := fun b => if b = i then v else g b
def u2 {α : Type} (f : Nat → Nat → α) (r i : Nat) (v : α) : Nat → Nat → α := fun a => if a = r then u1 (f r) i v else f a
def ur {α : Type} (f : Nat → Nat → α) (r : Nat) (g : Nat → α) : Nat → Nat → α := fun a => if a = r then g else f a
def inb (i : Int32) (n : Nat) : Prop := 0 ≤ i ∧ i.toNatClampNeg < n
def hfind : List Nat → Nat → Option (Nat × Nat)
  | e :: t :: j :: r, x => bif Nat.beq e x then some (t, j) else hfind r x
  | _, _ => none
def spl : Nat → List AV → List AV → (List AV → List AV → Prop) → Prop
  | 0, st, acc, k => k acc st
  | n + 1, x :: st, acc, k => spl n st (x :: acc) k
  | _ + 1, [], _, _ => False
def tgs (x : Int32) (lo : Int) : List Nat → (Nat → Prop) → Prop
  | [], _ => True
  | t :: ts, k => (x.toInt = lo → k t) ∧ tgs x (lo + 1) ts k
/-- kinds by number: arrays 10000 * sort + length -/
def kSort (t : Nat) : Nat := t / 10000
def kLen (t : Nat) : Nat := t % 10000
def kObj (c : Nat) : Nat := c + 1
def Kd : Type := Nat → Nat
/-- a call: the callee's own need, then what comes back -/
def inv (C : CT) (k : Nat) (as : List AV) (rc rs n : Nat) (I : HI) (L : HL) (A : HA) (F : Nat → Nat → AQ) : Prop := ∃ mc ms : Nat, mc ≤ rc ∧ ms ≤ rs ∧ C k as mc ms n I L A (F (rc - mc) (rs - ms))
theorem inv0 {C : CT} {k : Nat} {as : List AV} {rc rs n : Nat} {I : HI} {L : HL} {A : HA} {F : Nat → Nat → AQ} (h : C k as 0 0 n I L A (F rc rs)) : inv C k as rc rs n I L A F := ⟨0, 0, Nat.zero_le _, Nat.zero_le _, h⟩
def back (Q : AQ) (P : PT) (nx : Nat) (hs : List Nat) (ls rest : List AV) : Nat → Nat → AQ := fun rc rs o n I L A => match o with
  | .inl none => P nx ls rest rc rs n I L A
  | .inl (some v) => P nx ls (v :: rest) rc rs n I L A
  | .inr e => match hfind hs e with
    | some (t, j) => frc (lset ls j jk) fun ls' => P t ls' [] rc rs n I L A
    | none => Q (.inr e) n I L A
