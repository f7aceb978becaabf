/-! EDGES, 1 -/
section
variable {Ln : Nat} {xs : Nat → Int32} {CZ : Nat → ZC} {RZ : Nat → Nat → ZQ → ZP}
def sg1 (x : Int) : Int := if 0 < x then 1 else if x < 0 then -1 else 0
theorem sg_run {x : Int} (h0 : -100 ≤ x) (h : x ≤ 100) : zor (x / 2 ^ (31 : Int).toNat) ((-x) % 4294967296 / 2 ^ (31 : Int).toNat) = sg1 x := by
  have e : (2 : Int) ^ (31 : Int).toNat = 2147483648 := by decide
  rw [e]
  unfold sg1
  by_cases c : 0 < x
  · rw [if_pos c, show x / 2147483648 = 0 by omega, show (-x) % 4294967296 / 2147483648 = 1 by omega]
    decide
  · rw [if_neg c]
    by_cases c2 : x < 0
    · rw [if_pos c2, show x / 2147483648 = -1 by omega, show (-x) % 4294967296 / 2147483648 = 0 by omega]
      decide
    · rw [if_neg c2, show x = 0 by omega]
      decide
/-- the quarters of a row that an edge has at its right or in its own cell -/
def pat (sx sy : Int) (c j : Nat) : Bool := decide (j < 4 * c) || (decide (j / 4 = c) && (if sx = 0 then false else if sx = sy then (decide (j % 4 = 2) || decide (j % 4 = 3)) else (decide (j % 4 = 0) || decide (j % 4 = 3))))
def eR (y sy : Int) (k : Nat) : Nat := (y + sy * (k : Int) + min sy 0).toNat
noncomputable def crP (x y sx sy : Int) (n q : Nat) : Bool := dc (∃ j, j < n ∧ eR y sy j = q / 48 ∧ pat sx sy (eR x sx j) (q % 48) = true)
theorem bt_ms : (List.range 13).all (fun c => (List.range 64).all fun i => decide (bt (zlsh 1 (4 * (c : Int)) - 1) i = decide (i < 4 * c)) && decide (bt (zlsh 0 (4 * (c : Int))) i = false)) = true := by decide +kernel
theorem bt_m12 : (List.range 12).all (fun c => (List.range 64).all fun i => decide (bt (zlsh 12 (4 * (c : Int))) i = (decide (i / 4 = c) && (decide (i % 4 = 2) || decide (i % 4 = 3)))) && decide (bt (zlsh 9 (4 * (c : Int))) i = (decide (i / 4 = c) && (decide (i % 4 = 0) || decide (i % 4 = 3))))) = true := by decide +kernel
theorem pat_0 {c i : Nat} {sx sy : Int} (hc : c ≤ 12) (h0 : sx = 0) : bt ((zlsh 1 (4 * (c : Int)) - 1) ||| zlsh 0 (4 * (c : Int))) i = (decide (i < 48) && pat sx sy c i) := by
  rw [bt_or]
  by_cases hi : i < 64
  · have h := List.all_eq_true.mp (List.all_eq_true.mp bt_ms c (List.mem_range.mpr (by omega))) i (List.mem_range.mpr hi)
    rw [Bool.and_eq_true, decide_eq_true_iff, decide_eq_true_iff] at h
    rw [h.1, h.2]
    unfold pat
    rw [if_pos h0]
    by_cases h1 : i < 4 * c
    · have h2 : i < 48 := by omega
      simp [h1, h2]
    · simp [h1]
  · rw [bt_ge (by omega), bt_ge (by omega)]
    have h2 : ¬ i < 48 := by omega
    simp [h2]
theorem pat_1 {c i : Nat} {sx sy : Int} (hc : c < 12) (h0 : ¬ sx = 0) (hs : sx = sy) : bt ((zlsh 1 (4 * (c : Int)) - 1) ||| zlsh 12 (4 * (c : Int))) i = (decide (i < 48) && pat sx sy c i) := by
  rw [bt_or]
  by_cases hi : i < 64
  · have h := List.all_eq_true.mp (List.all_eq_true.mp bt_ms c (List.mem_range.mpr (by omega))) i (List.mem_range.mpr hi)
    rw [Bool.and_eq_true, decide_eq_true_iff, decide_eq_true_iff] at h
    have h' := List.all_eq_true.mp (List.all_eq_true.mp bt_m12 c (List.mem_range.mpr (by omega))) i (List.mem_range.mpr hi)
    rw [Bool.and_eq_true, decide_eq_true_iff, decide_eq_true_iff] at h'
    rw [h.1, h'.1]
    unfold pat
    rw [if_neg h0, if_pos hs]
    by_cases h2 : i < 48
    · simp [h2]
    · have h3 : ¬ i < 4 * c := by omega
      have h4 : ¬ i / 4 = c := by omega
      simp [h2, h3, h4]
  · rw [bt_ge (by omega), bt_ge (by omega)]
    have h2 : ¬ i < 48 := by omega
    simp [h2]
theorem pat_2 {c i : Nat} {sx sy : Int} (hc : c < 12) (h0 : ¬ sx = 0) (hs : ¬ sx = sy) : bt ((zlsh 1 (4 * (c : Int)) - 1) ||| zlsh 9 (4 * (c : Int))) i = (decide (i < 48) && pat sx sy c i) := by
  rw [bt_or]
  by_cases hi : i < 64
  · have h := List.all_eq_true.mp (List.all_eq_true.mp bt_ms c (List.mem_range.mpr (by omega))) i (List.mem_range.mpr hi)
    rw [Bool.and_eq_true, decide_eq_true_iff, decide_eq_true_iff] at h
    have h' := List.all_eq_true.mp (List.all_eq_true.mp bt_m12 c (List.mem_range.mpr (by omega))) i (List.mem_range.mpr hi)
    rw [Bool.and_eq_true, decide_eq_true_iff, decide_eq_true_iff] at h'
    rw [h.1, h'.2]
    unfold pat
    rw [if_neg h0, if_neg hs]
    by_cases h2 : i < 48
    · simp [h2]
    · have h3 : ¬ i < 4 * c := by omega
      have h4 : ¬ i / 4 = c := by omega
      simp [h2, h3, h4]
  · rw [bt_ge (by omega), bt_ge (by omega)]
    have h2 : ¬ i < 48 := by omega
    simp [h2]
theorem crP_s {x y sx sy : Int} {n q : Nat} (hi : ∀ j, j < n → eR y sy j ≠ eR y sy n) : crP x y sx sy (n + 1) q = (crP x y sx sy n q ^^ (decide (eR y sy n = q / 48) && pat sx sy (eR x sx n) (q % 48))) := by
  by_cases h : eR y sy n = q / 48
  · have e : crP x y sx sy n q = false := dc_not.mpr (by
      rintro ⟨j, hj, h1, -⟩
      exact hi j hj (h1.trans h.symm))
    rw [e, decide_eq_true h, Bool.true_and, Bool.false_xor]
    cases hp : pat sx sy (eR x sx n) (q % 48) with
    | true => exact dc_iff.mpr ⟨n, by omega, h, hp⟩
    | false => exact dc_not.mpr (by
        rintro ⟨j, hj, h1, h2⟩
        by_cases ej : j = n
        · rw [ej, hp] at h2; cases h2
        · exact hi j (by omega) (h1.trans h.symm))
  · rw [decide_eq_false h, Bool.false_and, Bool.xor_false]
    refine dc_congr ⟨?_, ?_⟩
    · rintro ⟨j, hj, h1, h2⟩
      by_cases ej : j = n
      · rw [ej] at h1; exact absurd h1 h
      · exact ⟨j, by omega, h1, h2⟩
    · rintro ⟨j, hj, h1, h2⟩
      exact ⟨j, by omega, h1, h2⟩
/-- an edge's rows and columns -/
def EdK (x y sx sy : Int) (n : Nat) : Prop := ∀ k : Nat, k < n → (y + sy * (k : Int) + min sy 0 = (eR y sy k : Int) ∧ eR y sy k < 12) ∧ (x + sx * (k : Int) + min sx 0 = (eR x sx k : Int) ∧ eR x sx k ≤ 12 ∧ (¬ sx = 0 → eR x sx k < 12)) ∧ ∀ j, j < k → eR y sy j ≠ eR y sy k
theorem edK {x y sx sy : Int} {n : Nat} (hsx : sx = -1 ∨ sx = 0 ∨ sx = 1) (hsy : sy = -1 ∨ sy = 1) (hx : 0 ≤ x ∧ x ≤ 12) (hy : 0 ≤ y ∧ y ≤ 12) (hx2 : 0 ≤ x + sx * (n : Int) ∧ x + sx * (n : Int) ≤ 12) (hy2 : 0 ≤ y + sy * (n : Int) ∧ y + sy * (n : Int) ≤ 12) : EdK x y sx sy n := by
  intro k hk
  unfold eR
  rcases hsx with e | e | e <;> rcases hsy with e2 | e2 <;> subst e <;> subst e2 <;> (refine ⟨⟨by omega, by omega⟩, ⟨by omega, by omega, fun c => by omega⟩, fun j hj => by omega⟩)
theorem s_J6_signum_0f7a4 (T : ZTh (XX Ln xs) CZ RZ) {d b : Nat} {x : Int} {I : ZI} {L : ZL} {Q : ZQ} (h0 : -100 ≤ x) (h1 : x ≤ 100) (h : Q (.inl (some (.inl (sg1 x)))) I L) : CZ (d + 1) k_J6_signum_0f7a4 [.inl x] b I L Q := by
  refine T.call rfl ?_
  have key : ∀ z, z = sg1 x → Q (.inl (some (.inl z))) I L := fun z e => by rw [e]; exact h
  refine T.go [] 90 ?_
  conv => whnf
  refine ⟨by omega, ?_⟩
  conv => whnf
  refine ⟨by omega, ?_⟩
  conv => whnf
  exact key _ (sg_run h0 h1)
theorem l_cross (T : ZTh (XX Ln xs) CZ RZ) {d b : Nat} {Q : ZQ} {r : Nat} {x y sx sy : Int} {n : Nat} {S : Nat → Bool} {I : ZI} {L0 : ZL} (hz : za r 0 = r + 2) (hn : r ≠ 304 ∧ r ≠ 578) (hn12 : n ≤ 12) (hE : EdK x y sx sy n) (hsx : sx = -1 ∨ sx = 0 ∨ sx = 1) (hsy : sy = -1 ∨ sy = 0 ∨ sy = 1) (h : ∀ L', Fr (fun a _ => a = r + 1) L0 L' → RgS L' r (fun q => S q ^^ crP x y sx sy n q) → Q (.inl none) I L') (m : Nat) : ∀ (k : Nat) (L : ZL), (k ≤ n) → (Fr (fun a _ => a = r + 1) L0 L) → (RgS L r (fun q => S q ^^ crP x y sx sy k q)) → 12 - (k : Int) < (m : Int) → RZ (d + 1) k_X6_cross Q 38 [.inr (.ref r, 7), .inl x, .inl y, zj, zj, .inl sx, .inl sy, .inl ((n : Int)), .inl ((k : Int)), zj, zj, zj, zj] [] b I L := by
  induction m with
  | zero =>
    intro k L hk hfr hL hm
    exfalso
    omega
  | succ m ih =>
    intro k L hk hfr hL hm
    refine T.go [38] 90 ?_
    conv => whnf
    refine ⟨by omega, fun c42 => ?_, fun c42 => ?_⟩
    · conv => whnf
      obtain rfl : k = n := by omega
      exact h L hfr hL
    · conv => whnf
      refine ⟨by omega, ?_⟩
      conv => whnf
      refine ⟨by omega, ?_⟩
      conv => whnf
      obtain ⟨⟨kR, kR2⟩, ⟨kC, kC2, kC3⟩, kinj⟩ := hE k (by omega)
      rw [kR, kC]
      refine ⟨by omega, fun c79 => ?_, fun c79 => ?_⟩
      · conv => whnf
        refine ⟨by omega, fun c90 => ?_, fun c90 => ?_⟩
        · conv => whnf
          refine ⟨by omega, fun c106 => by exfalso; omega, fun c106 => ?_⟩
          conv => whnf
          refine ⟨by omega, fun c113 => by exfalso; omega, fun c113 => ?_⟩
          conv => whnf
          refine ⟨by omega, fun c118 => by exfalso; omega, fun c118 => ?_⟩
          conv => whnf
          refine ⟨by omega, fun c125 => by exfalso; omega, fun c125 => ?_⟩
          conv => whnf
          refine ⟨(show (¬ (_ : Nat) = _) ∧ (¬ (_ : Nat) = _) from by omega), _, (by assumption), ?_⟩
          conv => whnf
          refine ⟨by omega, ?_⟩
          conv => whnf
          refine ⟨by omega, ?_⟩
          conv => whnf
          refine ⟨by omega, ?_⟩
          conv => whnf
          refine ⟨by omega, ?_⟩
          conv => whnf
          refine T.fg [9, 10, 11] ?_
          refine ih (k + 1) _ (by omega) (hfr.w2 rfl) ?_ (by omega)
          intro Y hY j
          by_cases eY : Y = eR y sy k
          · subst eY
            rw [w2_eq, bt_xor, hL (eR y sy k) (by omega), pat_2 (c := eR x sx k) (sx := sx) (sy := sy) (kC3 c79) c79 c90]
            by_cases hj : j < 48
            · dsimp only
              rw [crP_s kinj]
              have f1 : (48 * eR y sy k + j) / 48 = eR y sy k := by omega
              have f2 : (48 * eR y sy k + j) % 48 = j := by omega
              simp only [f1, f2, hj, eq_self, decide_true, Bool.true_and, Bool.xor_assoc]
            · rw [decide_eq_false hj]; rfl
          · rw [w2_ne (by omega), hL Y hY]
            by_cases hj : j < 48
            · dsimp only
              rw [crP_s kinj]
              have f1 : (48 * Y + j) / 48 = Y := by omega
              rw [f1, decide_eq_false (show ¬ eR y sy k = Y from fun c => eY c.symm), Bool.false_and, Bool.xor_false]
            · rw [decide_eq_false hj]; rfl
        · conv => whnf
          refine ⟨by omega, fun c106 => by exfalso; omega, fun c106 => ?_⟩
          conv => whnf
          refine ⟨by omega, fun c113 => by exfalso; omega, fun c113 => ?_⟩
          conv => whnf
          refine ⟨by omega, fun c118 => by exfalso; omega, fun c118 => ?_⟩
          conv => whnf
          refine ⟨by omega, fun c125 => by exfalso; omega, fun c125 => ?_⟩
          conv => whnf
          refine ⟨(show (¬ (_ : Nat) = _) ∧ (¬ (_ : Nat) = _) from by omega), _, (by assumption), ?_⟩
          conv => whnf
          refine ⟨by omega, ?_⟩
          conv => whnf
          refine ⟨by omega, ?_⟩
          conv => whnf
          refine ⟨by omega, ?_⟩
          conv => whnf
          refine ⟨by omega, ?_⟩
          conv => whnf
          refine T.fg [9, 10, 11] ?_
          refine ih (k + 1) _ (by omega) (hfr.w2 rfl) ?_ (by omega)
          intro Y hY j
          by_cases eY : Y = eR y sy k
          · subst eY
            rw [w2_eq, bt_xor, hL (eR y sy k) (by omega), pat_1 (c := eR x sx k) (sx := sx) (sy := sy) (kC3 c79) c79 c90]
            by_cases hj : j < 48
            · dsimp only
              rw [crP_s kinj]
              have f1 : (48 * eR y sy k + j) / 48 = eR y sy k := by omega
              have f2 : (48 * eR y sy k + j) % 48 = j := by omega
              simp only [f1, f2, hj, eq_self, decide_true, Bool.true_and, Bool.xor_assoc]
            · rw [decide_eq_false hj]; rfl
          · rw [w2_ne (by omega), hL Y hY]
            by_cases hj : j < 48
            · dsimp only
              rw [crP_s kinj]
              have f1 : (48 * Y + j) / 48 = Y := by omega
              rw [f1, decide_eq_false (show ¬ eR y sy k = Y from fun c => eY c.symm), Bool.false_and, Bool.xor_false]
            · rw [decide_eq_false hj]; rfl
      · conv => whnf
        refine ⟨by omega, fun c106 => by exfalso; omega, fun c106 => ?_⟩
        conv => whnf
        refine ⟨by omega, fun c113 => by exfalso; omega, fun c113 => ?_⟩
        conv => whnf
        refine ⟨by omega, fun c118 => by exfalso; omega, fun c118 => ?_⟩
        conv => whnf
        refine ⟨by omega, fun c125 => by exfalso; omega, fun c125 => ?_⟩
        conv => whnf
        refine ⟨(show (¬ (_ : Nat) = _) ∧ (¬ (_ : Nat) = _) from by omega), _, (by assumption), ?_⟩
        conv => whnf
        refine ⟨by omega, ?_⟩
        conv => whnf
        refine ⟨by omega, ?_⟩
        conv => whnf
        refine ⟨by omega, ?_⟩
        conv => whnf
        refine ⟨by omega, ?_⟩
        conv => whnf
        refine T.fg [9, 10, 11] ?_
        refine ih (k + 1) _ (by omega) (hfr.w2 rfl) ?_ (by omega)
        intro Y hY j
        by_cases eY : Y = eR y sy k
        · subst eY
          rw [w2_eq, bt_xor, hL (eR y sy k) (by omega), pat_0 (c := eR x sx k) (sx := sx) (sy := sy) kC2 c79]
          by_cases hj : j < 48
          · dsimp only
            rw [crP_s kinj]
            have f1 : (48 * eR y sy k + j) / 48 = eR y sy k := by omega
            have f2 : (48 * eR y sy k + j) % 48 = j := by omega
            simp only [f1, f2, hj, eq_self, decide_true, Bool.true_and, Bool.xor_assoc]
          · rw [decide_eq_false hj]; rfl
        · rw [w2_ne (by omega), hL Y hY]
          by_cases hj : j < 48
          · dsimp only
            rw [crP_s kinj]
            have f1 : (48 * Y + j) / 48 = Y := by omega
            rw [f1, decide_eq_false (show ¬ eR y sy k = Y from fun c => eY c.symm), Bool.false_and, Bool.xor_false]
          · rw [decide_eq_false hj]; rfl
theorem s_X6_cross (T : ZTh (XX Ln xs) CZ RZ) {d b : Nat} {r : Nat} {x y sx sy tx ty : Int} {n : Nat} (S : Nat → Bool) {I : ZI} {L : ZL} {Q : ZQ} (hz : za r 0 = r + 2) (hn : r ≠ 304 ∧ r ≠ 578) (hS : RgS L r S) (hn12 : 1 ≤ n ∧ n ≤ 12) (hsx : sx = -1 ∨ sx = 0 ∨ sx = 1) (hsy : sy = -1 ∨ sy = 0 ∨ sy = 1) (htx : tx = x + sx * (n : Int)) (hty : ty = y + sy * (n : Int)) (hx : 0 ≤ x ∧ x ≤ 12) (hy : 0 ≤ y ∧ y ≤ 12) (hx2 : 0 ≤ tx ∧ tx ≤ 12) (hy2 : 0 ≤ ty ∧ ty ≤ 12) (h : ∀ L', Fr (fun a _ => a = r + 1) L L' → RgS L' r (fun q => S q ^^ (!decide (sy = 0) && crP x y sx sy n q)) → Q (.inl none) I L') : CZ (d + 2) k_X6_cross [.inr (.ref r, 7), .inl x, .inl y, .inl tx, .inl ty] b I L Q := by
  refine T.call rfl ?_
  have e5 : sg1 (tx - x) = sx := by
    unfold sg1
    rcases hsx with e | e | e <;> subst e
    · rw [if_neg (by omega), if_pos (by omega)]
    · rw [if_neg (by omega), if_neg (by omega)]
    · rw [if_pos (by omega)]
  have e6 : sg1 (ty - y) = sy := by
    unfold sg1
    rcases hsy with e | e | e <;> subst e
    · rw [if_neg (by omega), if_pos (by omega)]
    · rw [if_neg (by omega), if_neg (by omega)]
    · rw [if_pos (by omega)]
  refine T.go [38] 90 ?_
  conv => whnf
  refine zinv0 (s_J6_signum_0f7a4 T  (by omega) (by omega) ?_)
  rw [e5]
  conv => whnf
  refine zinv0 (s_J6_signum_0f7a4 T  (by omega) (by omega) ?_)
  rw [e6]
  conv => whnf
  refine ⟨by omega, fun c19 => ?_, fun c19 => ?_⟩
  · conv => whnf
    refine ⟨by omega, ?_⟩
    conv => whnf
    have e7 : (if 0 ≤ ty - y then ty - y else -(ty - y)) = (n : Int) := by
      rcases hsy with e | e | e <;> subst e
      · rw [if_neg (by omega)]; omega
      · exact absurd rfl c19
      · rw [if_pos (by omega)]; omega
    rw [e7]
    refine T.fg [3, 4] ?_
    refine l_cross T (n := n) (S := S) hz hn hn12.2 (edK hsx (by omega) hx hy (by omega) (by omega)) hsx hsy (fun L2 g2 s2 => h L2 g2 (s2.congr (fun q _ => ?_))) 13 0 L (by omega) (Fr.refl L) (hS.congr (fun q _ => ?_)) (by omega)
    · rw [decide_eq_false c19, Bool.not_false, Bool.true_and]
    · rw [show crP x y sx sy 0 q = false from dc_not.mpr (fun ⟨j, hj, _⟩ => absurd hj (by omega)), Bool.xor_false]
  · conv => whnf
    refine T.fg [3, 4] ?_
    refine l_cross T (n := 0) (S := S) hz hn (by omega) (fun k hk => absurd hk (by omega)) hsx hsy (fun L2 g2 s2 => h L2 g2 (s2.congr (fun q _ => ?_))) 13 0 L (by omega) (Fr.refl L) (hS.congr (fun q _ => ?_)) (by omega)
    · rw [decide_eq_true c19, show crP x y sx sy 0 q = false from dc_not.mpr (fun ⟨j, hj, _⟩ => absurd hj (by omega))]
      rfl
    · rw [show crP x y sx sy 0 q = false from dc_not.mpr (fun ⟨j, hj, _⟩ => absurd hj (by omega)), Bool.xor_false]
end
