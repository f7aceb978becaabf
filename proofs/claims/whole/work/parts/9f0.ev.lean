/-! THE START, 1: an evaluator of the abstract machine -/
abbrev Tr (α : Type) : Type := Std.DTreeMap.Internal.Impl Unit (fun _ => α)
def trG {α : Type} (d : α) : Nat → Nat → Tr α → α
  | 0, _, _ => d
  | _ + 1, _, .leaf => d
  | f + 1, p, .inner _ _ v l r => bif Nat.beq p 1 then v else bif Nat.beq (p % 2) 0 then trG d f (p / 2) l else trG d f (p / 2) r
def trS {α : Type} (d : α) : Nat → Nat → α → Tr α → Tr α
  | 0, _, _, t => t
  | f + 1, p, x, .leaf => bif Nat.beq p 1 then .inner 0 () x .leaf .leaf else bif Nat.beq (p % 2) 0 then .inner 0 () d (trS d f (p / 2) x .leaf) .leaf else .inner 0 () d .leaf (trS d f (p / 2) x .leaf)
  | f + 1, p, x, .inner _ _ v l r => bif Nat.beq p 1 then .inner 0 () x l r else bif Nat.beq (p % 2) 0 then .inner 0 () v (trS d f (p / 2) x l) r else .inner 0 () v l (trS d f (p / 2) x r)
/-- the same, forced -/
def trK {α β : Type} (d : α) : Nat → Nat → α → Tr α → (Tr α → β) → β
  | 0, _, _, t, k => k t
  | f + 1, p, x, .leaf, k => bif Nat.beq p 1 then k (.inner 0 () x .leaf .leaf) else bif Nat.beq (p % 2) 0 then trK d f (p / 2) x .leaf (fun t => k (.inner 0 () d t .leaf)) else trK d f (p / 2) x .leaf (fun t => k (.inner 0 () d .leaf t))
  | f + 1, p, x, .inner _ _ v l r, k => bif Nat.beq p 1 then k (.inner 0 () x l r) else bif Nat.beq (p % 2) 0 then trK d f (p / 2) x l (fun t => k (.inner 0 () v t r)) else trK d f (p / 2) x r (fun t => k (.inner 0 () v l t))
theorem trK_eq {α β : Type} (d : α) : ∀ (f p : Nat) (x : α) (t : Tr α) (k : Tr α → β), trK d f p x t k = k (trS d f p x t)
  | 0, _, _, _, _ => rfl
  | f + 1, p, x, .leaf, k => by
    unfold trK trS
    cases Nat.beq p 1 with
    | true => rfl
    | false =>
      cases Nat.beq (p % 2) 0 with
      | true => exact trK_eq d f _ _ _ _
      | false => exact trK_eq d f _ _ _ _
  | f + 1, p, x, .inner _ _ v l r, k => by
    unfold trK trS
    cases Nat.beq p 1 with
    | true => rfl
    | false =>
      cases Nat.beq (p % 2) 0 with
      | true => exact trK_eq d f _ _ _ _
      | false => exact trK_eq d f _ _ _ _
theorem trG_e {α : Type} (d : α) (f q : Nat) : trG d f q (.leaf : Tr α) = d := by cases f <;> rfl
theorem trG_set {α : Type} (d : α) : ∀ (f p q : Nat) (x : α) (t : Tr α), 1 ≤ p → p < 2 ^ f → 1 ≤ q → q < 2 ^ f → trG d f q (trS d f p x t) = if q = p then x else trG d f q t
  | 0, p, q, x, t, h1, h2, _, _ => by
    exfalso
    have : p < 1 := h2
    omega
  | f + 1, p, q, x, t, h1, h2, h3, h4 => by
    have e2 : 2 ^ (f + 1) = 2 * 2 ^ f := by rw [Nat.pow_succ]; omega
    have ih := fun (s : Tr α) (g1 : ¬ p = 1) (g2 : ¬ q = 1) => trG_set d f (p / 2) (q / 2) x s (by omega) (by omega) (by omega) (by omega)
    have hb : ∀ m : Nat, Nat.beq m 1 = decide (m = 1) := fun m => by
      by_cases e : m = 1
      · rw [e]; rfl
      · rw [decide_eq_false e]
        cases c : Nat.beq m 1 with
        | false => rfl
        | true => exact absurd (Nat.eq_of_beq_eq_true c) e
    have hz : ∀ m : Nat, Nat.beq (m % 2) 0 = decide (m % 2 = 0) := fun m => by
      by_cases e : m % 2 = 0
      · rw [e]; rfl
      · rw [decide_eq_false e]
        cases c : Nat.beq (m % 2) 0 with
        | false => rfl
        | true => exact absurd (Nat.eq_of_beq_eq_true c) e
    cases t with
    | leaf =>
      unfold trS
      rw [hb, hz]
      by_cases p1 : p = 1
      · rw [decide_eq_true p1]
        show trG d (f + 1) q (.inner 0 () x .leaf .leaf) = _
        unfold trG
        rw [hb, hz]
        by_cases q1 : q = 1
        · rw [decide_eq_true q1, if_pos (by omega)]; rfl
        · rw [decide_eq_false q1, if_neg (by omega)]
          cases decide (q % 2 = 0) <;> exact trG_e d f _
      · rw [decide_eq_false p1]
        by_cases p2 : p % 2 = 0
        · rw [decide_eq_true p2]
          show trG d (f + 1) q (.inner 0 () d (trS d f (p / 2) x .leaf) .leaf) = _
          unfold trG
          rw [hb, hz]
          by_cases q1 : q = 1
          · rw [decide_eq_true q1, if_neg (by omega)]; rfl
          · rw [decide_eq_false q1]
            by_cases q2 : q % 2 = 0
            · rw [decide_eq_true q2]
              show trG d f (q / 2) (trS d f (p / 2) x .leaf) = _
              rw [ih .leaf p1 q1, trG_e]
              by_cases e : q = p
              · rw [if_pos e, if_pos (by omega)]
              · rw [if_neg e, if_neg (by omega)]
            · rw [decide_eq_false q2, if_neg (by omega)]
              exact trG_e d f _
        · rw [decide_eq_false p2]
          show trG d (f + 1) q (.inner 0 () d .leaf (trS d f (p / 2) x .leaf)) = _
          unfold trG
          rw [hb, hz]
          by_cases q1 : q = 1
          · rw [decide_eq_true q1, if_neg (by omega)]; rfl
          · rw [decide_eq_false q1]
            by_cases q2 : q % 2 = 0
            · rw [decide_eq_true q2, if_neg (by omega)]
              exact trG_e d f _
            · rw [decide_eq_false q2]
              show trG d f (q / 2) (trS d f (p / 2) x .leaf) = _
              rw [ih .leaf p1 q1, trG_e]
              by_cases e : q = p
              · rw [if_pos e, if_pos (by omega)]
              · rw [if_neg e, if_neg (by omega)]
    | inner _ _ v l r =>
      unfold trS
      rw [hb, hz]
      by_cases p1 : p = 1
      · rw [decide_eq_true p1]
        show trG d (f + 1) q (.inner 0 () x l r) = _
        unfold trG
        rw [hb, hz]
        by_cases q1 : q = 1
        · rw [decide_eq_true q1, if_pos (by omega)]; rfl
        · rw [decide_eq_false q1, if_neg (by omega)]; rfl
      · rw [decide_eq_false p1]
        by_cases p2 : p % 2 = 0
        · rw [decide_eq_true p2]
          show trG d (f + 1) q (.inner 0 () v (trS d f (p / 2) x l) r) = _
          unfold trG
          rw [hb, hz]
          by_cases q1 : q = 1
          · rw [decide_eq_true q1, if_neg (by omega)]; rfl
          · rw [decide_eq_false q1]
            by_cases q2 : q % 2 = 0
            · rw [decide_eq_true q2]
              show trG d f (q / 2) (trS d f (p / 2) x l) = if q = p then x else trG d f (q / 2) l
              rw [ih l p1 q1]
              by_cases e : q = p
              · rw [if_pos e, if_pos (by omega)]
              · rw [if_neg e, if_neg (by omega)]
            · rw [decide_eq_false q2, if_neg (by omega)]; rfl
        · rw [decide_eq_false p2]
          show trG d (f + 1) q (.inner 0 () v l (trS d f (p / 2) x r)) = _
          unfold trG
          rw [hb, hz]
          by_cases q1 : q = 1
          · rw [decide_eq_true q1, if_neg (by omega)]; rfl
          · rw [decide_eq_false q1]
            by_cases q2 : q % 2 = 0
            · rw [decide_eq_true q2, if_neg (by omega)]; rfl
            · rw [decide_eq_false q2]
              show trG d f (q / 2) (trS d f (p / 2) x r) = if q = p then x else trG d f (q / 2) r
              rw [ih r p1 q1]
              by_cases e : q = p
              · rw [if_pos e, if_pos (by omega)]
              · rw [if_neg e, if_neg (by omega)]
/-- the same by the recursors -/
noncomputable def trGr {α : Type} (d : α) (f : Nat) : Nat → Tr α → α := @Nat.rec (fun _ => Nat → Tr α → α) (fun _ _ => d) (fun _ ih p t => @Std.DTreeMap.Internal.Impl.casesOn Unit (fun _ => α) (fun _ => α) t (fun _ _ v l r => bif Nat.beq p 1 then v else bif Nat.beq (p % 2) 0 then ih (p / 2) l else ih (p / 2) r) d) f
theorem trGr_eq {α : Type} (d : α) : ∀ (f p : Nat) (t : Tr α), trGr d f p t = trG d f p t
  | 0, _, _ => rfl
  | f + 1, p, .leaf => rfl
  | f + 1, p, .inner _ _ v l r => by
    show (bif Nat.beq p 1 then v else bif Nat.beq (p % 2) 0 then trGr d f (p / 2) l else trGr d f (p / 2) r) = bif Nat.beq p 1 then v else bif Nat.beq (p % 2) 0 then trG d f (p / 2) l else trG d f (p / 2) r
    rw [trGr_eq d f, trGr_eq d f]
noncomputable def trKr {α β : Type} (d : α) (f : Nat) : Nat → α → Tr α → (Tr α → β) → β := @Nat.rec (fun _ => Nat → α → Tr α → (Tr α → β) → β) (fun _ _ t k => k t) (fun _ ih p x t k => @Std.DTreeMap.Internal.Impl.casesOn Unit (fun _ => α) (fun _ => β) t (fun _ _ v l r => bif Nat.beq p 1 then k (.inner 0 () x l r) else bif Nat.beq (p % 2) 0 then ih (p / 2) x l (fun t => k (.inner 0 () v t r)) else ih (p / 2) x r (fun t => k (.inner 0 () v l t))) (bif Nat.beq p 1 then k (.inner 0 () x .leaf .leaf) else bif Nat.beq (p % 2) 0 then ih (p / 2) x .leaf (fun t => k (.inner 0 () d t .leaf)) else ih (p / 2) x .leaf (fun t => k (.inner 0 () d .leaf t)))) f
theorem trKr_eq {α β : Type} (d : α) : ∀ (f p : Nat) (x : α) (t : Tr α) (k : Tr α → β), trKr d f p x t k = trK d f p x t k
  | 0, _, _, _, _ => rfl
  | f + 1, p, x, .leaf, k => by
    show (bif Nat.beq p 1 then k (.inner 0 () x .leaf .leaf) else bif Nat.beq (p % 2) 0 then trKr d f (p / 2) x .leaf (fun t => k (.inner 0 () d t .leaf)) else trKr d f (p / 2) x .leaf (fun t => k (.inner 0 () d .leaf t))) = _
    rw [trKr_eq d f, trKr_eq d f]
    rfl
  | f + 1, p, x, .inner _ _ v l r, k => by
    show (bif Nat.beq p 1 then k (.inner 0 () x l r) else bif Nat.beq (p % 2) 0 then trKr d f (p / 2) x l (fun t => k (.inner 0 () v t r)) else trKr d f (p / 2) x r (fun t => k (.inner 0 () v l t))) = _
    rw [trKr_eq d f, trKr_eq d f]
    rfl
/-- a heap of rows -/
abbrev Hp (α : Type) : Type := Tr (Tr α)
noncomputable def hpG {α : Type} (z : α) (T : Hp α) (r j : Nat) : α := bif Nat.blt r 2000 && Nat.blt j 30000 then trGr z 16 (j + 1) (trGr .leaf 12 (r + 1) T) else z
def hpS {α : Type} (z : α) (T : Hp α) (r j : Nat) (x : α) : Hp α := trS .leaf 12 (r + 1) (trS z 16 (j + 1) x (trG .leaf 12 (r + 1) T)) T
def hpN {α : Type} (T : Hp α) (r : Nat) : Hp α := trS .leaf 12 (r + 1) .leaf T
theorem blt_d (a b : Nat) : Nat.blt a b = decide (a < b) := by
  by_cases e : a < b
  · rw [decide_eq_true e]; exact Nat.ble_eq_true_of_le e
  · rw [decide_eq_false e]
    cases c : Nat.blt a b with
    | false => rfl
    | true => exact absurd (Nat.le_of_ble_eq_true c) e
theorem hpG_in {α : Type} {z : α} {T : Hp α} {r j : Nat} (h : r < 2000 ∧ j < 30000) : hpG z T r j = trG z 16 (j + 1) (trG .leaf 12 (r + 1) T) := by
  unfold hpG
  rw [blt_d, blt_d, decide_eq_true h.1, decide_eq_true h.2, trGr_eq, trGr_eq]
  rfl
theorem hpG_out {α : Type} {z : α} {T : Hp α} {r j : Nat} (h : ¬ (r < 2000 ∧ j < 30000)) : hpG z T r j = z := by
  unfold hpG
  rw [blt_d, blt_d]
  by_cases e : r < 2000
  · rw [decide_eq_true e, decide_eq_false (show ¬ j < 30000 by omega)]; rfl
  · rw [decide_eq_false e]; rfl
theorem hpS_u2 {α : Type} (z : α) (T : Hp α) {r j : Nat} (h : r < 2000 ∧ j < 30000) (x : α) : u2 (hpG z T) r j x = hpG z (hpS z T r j x) := by
  funext a b
  have e12 : (2 : Nat) ^ 12 = 4096 := by decide
  have e16 : (2 : Nat) ^ 16 = 65536 := by decide
  unfold u2 u1
  by_cases c : a < 2000 ∧ b < 30000
  · rw [hpG_in (T := hpS z T r j x) c]
    unfold hpS
    rw [trG_set (.leaf : Tr α) 12 (r + 1) (a + 1) _ _ (by omega) (by omega) (by omega) (by omega)]
    by_cases ea : a = r
    · subst ea
      rw [if_pos rfl, if_pos rfl, trG_set z 16 (j + 1) (b + 1) _ _ (by omega) (by omega) (by omega) (by omega)]
      by_cases eb : b = j
      · rw [if_pos eb, if_pos (by omega)]
      · rw [if_neg eb, if_neg (by omega), hpG_in c]
    · rw [if_neg ea, if_neg (by omega), hpG_in c]
  · rw [hpG_out c]
    by_cases ea : a = r
    · subst ea
      rw [if_pos rfl, if_neg (by omega), hpG_out c]
    · rw [if_neg ea, hpG_out c]
theorem hpN_ur {α : Type} (z : α) (T : Hp α) {r : Nat} (h : r < 2000) : ur (hpG z T) r (fun _ => z) = hpG z (hpN T r) := by
  funext a b
  have e12 : (2 : Nat) ^ 12 = 4096 := by decide
  unfold ur
  by_cases c : a < 2000 ∧ b < 30000
  · rw [hpG_in (T := hpN T r) c]
    unfold hpN
    rw [trG_set (.leaf : Tr α) 12 (r + 1) (a + 1) _ _ (by omega) (by omega) (by omega) (by omega)]
    by_cases ea : a = r
    · rw [if_pos ea, if_pos (by omega), trG_e]
    · rw [if_neg ea, if_neg (by omega), hpG_in c]
  · rw [hpG_out c]
    by_cases ea : a = r
    · rw [if_pos ea]
    · rw [if_neg ea, hpG_out c]
/-- numbers, forced -/
def fNk {β : Type} (n : Nat) (k : Nat → β) : β := Nat.rec (k 0) (fun m _ => k (m + 1)) n
theorem fNk_eq {β : Type} (n : Nat) (k : Nat → β) : fNk n k = k n := by cases n <;> rfl
def z32 {β : Type} (x : Int32) (k : Int32 → β) : β := fNk x.toBitVec.toNat (fun m => k (Int32.ofNat m))
def z64 {β : Type} (x : Int64) (k : Int64 → β) : β := fNk x.toBitVec.toNat (fun m => k (Int64.ofNat m))
theorem z32_eq {β : Type} (x : Int32) (k : Int32 → β) : z32 x k = k x := by
  unfold z32
  rw [fNk_eq]
  congr 1
  apply Int32.toBitVec.inj
  show BitVec.ofNat 32 x.toBitVec.toNat = x.toBitVec
  rw [BitVec.ofNat_toNat, BitVec.setWidth_eq]
theorem z64_eq {β : Type} (x : Int64) (k : Int64 → β) : z64 x k = k x := by
  unfold z64
  rw [fNk_eq]
  congr 1
  apply Int64.toBitVec.inj
  show BitVec.ofNat 64 x.toBitVec.toNat = x.toBitVec
  rw [BitVec.ofNat_toNat, BitVec.setWidth_eq]
