/-! THE REFERENCE ANSWERS, 14: ways, the search -/
section
variable {Ln : Nat} {xs : Nat → Int32} {CZ : Nat → ZC} {RZ : Nat → Nat → ZQ → ZP}
/-- what is left, and what is placed, after j choices -/
noncomputable def skR (R : Nat → Bool) (c : Nat → Nat) : Nat → (Nat → Bool)
  | 0 => R
  | j + 1 => rmv (skR R c j) (c j) (qF (skR R c j) - fQ (c j))
noncomputable def skM (R : Nat → Bool) (c : Nat → Nat) : Nat → Mo
  | 0 => offM
  | j + 1 => putK (skM R c j) (qF (skR R c j)) (c j)
theorem skR_congr {R : Nat → Bool} {c c' : Nat → Nat} : ∀ {j : Nat}, (∀ i, i < j → c' i = c i) → skR R c' j = skR R c j
  | 0, _ => rfl
  | j + 1, h => by
    show rmv (skR R c' j) (c' j) (qF (skR R c' j) - fQ (c' j)) = rmv (skR R c j) (c j) (qF (skR R c j) - fQ (c j))
    rw [skR_congr (j := j) (fun i hi => h i (by omega)), h j (by omega)]
theorem skM_congr {R : Nat → Bool} {c c' : Nat → Nat} : ∀ {j : Nat}, (∀ i, i < j → c' i = c i) → skM R c' j = skM R c j
  | 0, _ => rfl
  | j + 1, h => by
    show putK (skM R c' j) (qF (skR R c' j)) (c' j) = putK (skM R c j) (qF (skR R c j)) (c j)
    rw [skM_congr (j := j) (fun i hi => h i (by omega)), skR_congr (j := j) (fun i hi => h i (by omega)), h j (by omega)]
/-- what comes of the search from choice k on at a level, and then from the levels before -/
noncomputable def FinS (most : Int) (R : Nat → Bool) (c : Nat → Nat) : Nat → Nat → Int × Mo → Int × Mo
  | 0, k, a => fk (gSW most 6 (skR R c 0) (skM R c 0) (qF (skR R c 0))) (56 - k) k a
  | l + 1, k, a => FinS most R c l (c l + 1) (fk (gSW most (6 - (l + 1)) (skR R c (l + 1)) (skM R c (l + 1)) (qF (skR R c (l + 1)))) (56 - k) k a)
theorem FinS_congr {most : Int} {R : Nat → Bool} {c c' : Nat → Nat} : ∀ {l : Nat} {k : Nat} {a : Int × Mo}, (∀ i, i < l → c' i = c i) → FinS most R c' l k a = FinS most R c l k a
  | 0, _, _, _ => rfl
  | l + 1, k, a, h => by
    show FinS most R c' l (c' l + 1) (fk (gSW most (6 - (l + 1)) (skR R c' (l + 1)) (skM R c' (l + 1)) (qF (skR R c' (l + 1)))) (56 - k) k a) = FinS most R c l (c l + 1) (fk (gSW most (6 - (l + 1)) (skR R c (l + 1)) (skM R c (l + 1)) (qF (skR R c (l + 1)))) (56 - k) k a)
    rw [skR_congr h, skM_congr h, h l (by omega), FinS_congr (l := l) (fun i hi => h i (by omega))]
theorem gSW_no {most : Int} {n : Nat} {R : Nat → Bool} {M : Mo} {q k : Nat} {a : Int × Mo} (h : okC R M q k = false) : gSW most n R M q a k = a := by
  unfold gSW
  rw [h, Bool.and_false]
  rfl
theorem gSW_end {most : Int} {n : Nat} {R : Nat → Bool} {M : Mo} {q k : Nat} {a : Int × Mo} (h : a.1 = most) : gSW most n R M q a k = a := by
  unfold gSW
  rw [decide_eq_false (by omega), Bool.false_and]
  rfl
theorem gSW_yes {most : Int} {n : Nat} {R : Nat → Bool} {M : Mo} {q k : Nat} {a : Int × Mo} (h : okC R M q k = true) (h1 : a.1 < most) : gSW most n R M q a k = SW most n (rmv R k (q - fQ k)) (putK M q k) a := by
  unfold gSW
  rw [h, decide_eq_true h1]
  rfl
/-- at a level nothing is found any more -/
theorem fk_none {most : Int} {n : Nat} {R : Nat → Bool} {M : Mo} {q k : Nat} {a : Int × Mo} (hk : k ≤ 56) (h : ∀ i, k ≤ i → i < 56 → okC R M q i = false) : fk (gSW most n R M q) (56 - k) k a = a := fk_id (fun i h1 h2 => gSW_no (h i h1 (by omega)))
theorem fk_found {most : Int} {n : Nat} {R : Nat → Bool} {M : Mo} {q k j : Nat} {a : Int × Mo} (hj : k ≤ j ∧ j < 56) (h : ∀ i, k ≤ i → i < j → okC R M q i = false) (ho : okC R M q j = true) (ha : a.1 < most) : fk (gSW most n R M q) (56 - k) k a = fk (gSW most n R M q) (56 - (j + 1)) (j + 1) (SW most n (rmv R j (q - fQ j)) (putK M q j) a) := by
  rw [show 56 - k = (j - k) + ((56 - (j + 1)) + 1) by omega, fk_add, fk_id (n := j - k) (k := k) (fun i h1 h2 => gSW_no (h i h1 (by omega))), show k + (j - k) = j by omega]
  show fk (gSW most n R M q) (56 - (j + 1)) (j + 1) (gSW most n R M q a j) = _
  rw [gSW_yes ho ha]
theorem fk_endS {most : Int} {n : Nat} {R : Nat → Bool} {M : Mo} {q k m : Nat} {a : Int × Mo} (h : a.1 = most) : fk (gSW most n R M q) m k a = a := fk_id (fun i h1 h2 => gSW_end h)
theorem FinS_end {most : Int} {R : Nat → Bool} {c : Nat → Nat} : ∀ {l k : Nat} {a : Int × Mo}, a.1 = most → FinS most R c l k a = a
  | 0, k, a, h => fk_endS h
  | l + 1, k, a, h => by
    show FinS most R c l (c l + 1) (fk _ (56 - k) k a) = a
    rw [fk_endS h, FinS_end h]
theorem fit576 {R : Nat → Bool} {i : Nat} (hi : i < 56) : fitC R 576 i = false := by
  cases e : fitC R 576 i with
  | false => rfl
  | true =>
    exfalso
    rw [fitC, dc_iff] at e
    obtain ⟨l1, l2, l3, l4, l5, l6, l7⟩ := lf_ok hi
    obtain ⟨c1, -⟩ := lz_in hi l1
    have := (e.2.2 _ (by have := fS_lt hi c1; omega) c1).1
    omega
theorem okC_q {R : Nat → Bool} {M : Mo} {q k : Nat} (hk : k < 56) (hq : q ≤ 576) (h : okC R M q k = true) : q < 576 := by
  apply Classical.byContradiction
  intro n
  obtain rfl : q = 576 := by omega
  have := (okC_iff.mp h).2.2.2
  rw [fit576 hk] at this
  cases this
theorem SW_q {most : Int} {n : Nat} {R : Nat → Bool} {M : Mo} {a : Int × Mo} : SW most (n + 1) R M a = fk (gSW most n R M (qF R)) 56 0 a := by
  rw [SW_s]
  by_cases e : fq R = -1
  · have e2 : qF R = 576 := if_pos e
    rw [if_pos e, e2]
    refine (fk_id (fun i h1 h2 => gSW_no ?_)).symm
    cases g : okC R M 576 i with
    | false => rfl
    | true => have := okC_q (by omega) (Nat.le_refl _) g; omega
  · have e2 : qF R = (fq R).toNat := if_neg e
    rw [if_neg e, e2]
/-- how much of the search is left, at most -/
def muB (c : Nat → Nat) : Nat → Nat
  | 0 => 0
  | j + 1 => muB c j + (56 - c j) * 58 ^ (6 - j)
theorem muB_congr {c c' : Nat → Nat} : ∀ {j : Nat}, (∀ i, i < j → c' i = c i) → muB c' j = muB c j
  | 0, _ => rfl
  | j + 1, h => by
    show muB c' j + (56 - c' j) * 58 ^ (6 - j) = muB c j + (56 - c j) * 58 ^ (6 - j)
    rw [muB_congr (j := j) (fun i hi => h i (by omega)), h j (by omega)]
def upN (c : Nat → Nat) (l k : Nat) : Nat → Nat := fun j => if j = l then k else c j
theorem upN_lt {c : Nat → Nat} {l k i : Nat} (h : i < l) : upN c l k i = c i := if_neg (by omega)
theorem upN_eq (c : Nat → Nat) (l k : Nat) : upN c l k l = k := if_pos rfl
/-- the search's arrays hold the choices -/
def SkS (I : ZI) (R : Nat → Bool) (c : Nat → Nat) (l n : Nat) : Prop := ArB I 637 (skR R c n) ∧ (∀ p : Nat, p < 7 → I 640 (p : Int) = bi (!decide (mF (skM R c n) p = -1))) ∧
  (∀ j, j < n → c j < 56 ∧ okC (skR R c j) (skM R c j) (qF (skR R c j)) (c j) = true) ∧ (∀ j : Nat, j < l → I 638 (j : Int) = c j) ∧ (∀ j : Nat, j ≤ l → I 639 (j : Int) = qF (skR R c j))
theorem putK_F (M : Mo) (q k : Nat) (j : Int) : mF (putK M q k) j = if j = ((k / 8 : Nat) : Int) then ((k % 8 : Nat) : Int) else mF M j := rfl
theorem SkS.put {I I' : ZI} {R : Nat → Bool} {c : Nat → Nat} {l k : Nat} (h : SkS I R c l l) (hk : k < 56) (ho : okC (skR R c l) (skM R c l) (qF (skR R c l)) k = true)
    (h1 : ∀ z : Nat, z < 576 → I' 637 (z : Int) = if shf (fS k) (qF (skR R c l) - fQ k) z = true then 0 else I 637 (z : Int)) (h2 : ∀ j : Int, I' 640 j = if j = ((k / 8 : Nat) : Int) then 1 else I 640 j)
    (h3 : ∀ j : Nat, j < l → I' 638 (j : Int) = I 638 (j : Int)) (h4 : ∀ j : Nat, j ≤ l → I' 639 (j : Int) = I 639 (j : Int)) : SkS I' R (upN c l k) l (l + 1) := by
  obtain ⟨a1, a2, a3, a4, a5⟩ := h
  have eR : ∀ j, j ≤ l → skR R (upN c l k) j = skR R c j := fun j hj => skR_congr (fun i hi => upN_lt (by omega))
  have eM : ∀ j, j ≤ l → skM R (upN c l k) j = skM R c j := fun j hj => skM_congr (fun i hi => upN_lt (by omega))
  refine ⟨fun z hz => ?_, fun p hp => ?_, fun j hj => ?_, fun j hj => ?_, fun j hj => ?_⟩
  · show _ = bi (rmv (skR R (upN c l k) l) (upN c l k l) (qF (skR R (upN c l k) l) - fQ (upN c l k l)) z)
    rw [upN_eq, eR l (Nat.le_refl _), h1 z hz, a1 z hz]
    unfold rmv
    cases e : shf (fS k) (qF (skR R c l) - fQ k) z with
    | true => rw [if_pos rfl, Bool.not_true, Bool.and_false]; rfl
    | false => rw [if_neg (by decide), Bool.not_false, Bool.and_true]
  · show _ = bi (!decide (mF (putK (skM R (upN c l k) l) (qF (skR R (upN c l k) l)) (upN c l k l)) p = -1))
    rw [upN_eq, eR l (Nat.le_refl _), eM l (Nat.le_refl _), putK_F, h2, a2 p hp]
    by_cases e : (p : Int) = ((k / 8 : Nat) : Int)
    · rw [if_pos e, if_pos e, decide_eq_false (by omega)]; rfl
    · rw [if_neg e, if_neg e]
  · by_cases e : j = l
    · subst e
      rw [upN_eq, eR _ (Nat.le_refl _), eM _ (Nat.le_refl _)]
      exact ⟨hk, ho⟩
    · rw [upN_lt (by omega), eR j (by omega), eM j (by omega)]
      exact a3 j (by omega)
  · rw [h3 j hj, upN_lt hj]; exact a4 j hj
  · rw [h4 j hj, eR j hj]; exact a5 j hj
theorem SkS.undo {I I' : ZI} {R : Nat → Bool} {c : Nat → Nat} {l : Nat} (h : SkS I R c l (l + 1))
    (h1 : ∀ z : Nat, z < 576 → I' 637 (z : Int) = if shf (fS (c l)) (qF (skR R c l) - fQ (c l)) z = true then 1 else I 637 (z : Int)) (h2 : ∀ j : Int, I' 640 j = if j = ((c l / 8 : Nat) : Int) then 0 else I 640 j)
    (h3 : ∀ j : Nat, j < l → I' 638 (j : Int) = I 638 (j : Int)) (h4 : ∀ j : Nat, j ≤ l → I' 639 (j : Int) = I 639 (j : Int)) : SkS I' R c l l := by
  obtain ⟨a1, a2, a3, a4, a5⟩ := h
  obtain ⟨b1, b2⟩ := a3 l (by omega)
  obtain ⟨o1, o2, o3, o4⟩ := okC_iff.mp b2
  refine ⟨fun z hz => ?_, fun p hp => ?_, fun j hj => a3 j (by omega), fun j hj => by rw [h3 j hj]; exact a4 j hj, fun j hj => by rw [h4 j hj]; exact a5 j hj⟩
  · rw [h1 z hz, a1 z hz]
    show _ = bi (skR R c l z)
    show (if _ then 1 else bi (rmv (skR R c l) (c l) (qF (skR R c l) - fQ (c l)) z)) = _
    unfold rmv
    cases e : shf (fS (c l)) (qF (skR R c l) - fQ (c l)) z with
    | true =>
      rw [if_pos rfl]
      unfold shf at e
      rw [Bool.and_eq_true, decide_eq_true_iff] at e
      rw [fitC, dc_iff] at o4
      have := (o4.2.2 (z - (qF (skR R c l) - fQ (c l))) (by omega) e.2).2.2
      rw [show z - (qF (skR R c l) - fQ (c l)) + (qF (skR R c l) - fQ (c l)) = z by omega] at this
      rw [this]
      rfl
    | false => rw [if_neg (by decide), Bool.not_false, Bool.and_true]
  · rw [h2, a2 p hp]
    show (if _ then 0 else bi (!decide (mF (putK (skM R c l) (qF (skR R c l)) (c l)) p = -1))) = _
    rw [putK_F]
    by_cases e : (p : Int) = ((c l / 8 : Nat) : Int)
    · rw [if_pos e, e, decide_eq_true o1]; rfl
    · rw [if_neg e, if_neg e]
theorem SkS.fr {I I' : ZI} {R : Nat → Bool} {c : Nat → Nat} {l n : Nat} (h : SkS I R c l n) (h1 : ∀ (a : Nat) (b : Int), 637 ≤ a → a ≤ 640 → I' a b = I a b) : SkS I' R c l n := by
  obtain ⟨a1, a2, a3, a4, a5⟩ := h
  exact ⟨fun z hz => by rw [h1 _ _ (by omega) (by omega)]; exact a1 z hz, fun p hp => by rw [h1 _ _ (by omega) (by omega)]; exact a2 p hp, a3, fun j hj => by rw [h1 _ _ (by omega) (by omega)]; exact a4 j hj, fun j hj => by rw [h1 _ _ (by omega) (by omega)]; exact a5 j hj⟩
/-- at the search's head -/
def SkH (most : Int) (R : Nat → Bool) (TG : Int × Mo) (I : ZI) (x : Int) (mu : Nat) : Prop := ∃ a : Int × Mo, I 603 49 = a.1 ∧ (0 ≤ a.1 ∧ a.1 < most) ∧ ((x = -1 ∧ a = TG) ∨ ∃ (l n : Nat) (c : Nat → Nat), x = l ∧ l ≤ 6 ∧ SkS I R c l n ∧
  ((n = l ∧ I 638 (l : Int) = -1 ∧ FinS most R c l 0 a = TG ∧ mu = muB c l + 57 * 58 ^ (6 - l)) ∨ (n = l + 1 ∧ I 638 (l : Int) = c l ∧ FinS most R c l (c l + 1) a = TG ∧ mu = muB c l + (56 - c l) * 58 ^ (6 - l))))
/-- the first way stands in the search's arrays -/
def WayM (I : ZI) (R : Nat → Bool) (M' : Mo) : Prop := ∃ c : Nat → Nat, M' = skM R c 7 ∧ ∀ j : Nat, j < 7 → c j < 56 ∧ I 638 (j : Int) = c j ∧ I 639 (j : Int) = qF (skR R c j) ∧ okC (skR R c j) (skM R c j) (qF (skR R c j)) (c j) = true
def PSk : Nat → Int → Prop := fun a b => a = 620 ∨ (637 ≤ a ∧ a ≤ 640) ∨ (a = 603 ∧ b = 49)
theorem PSk_c : ∀ a b, PSk a b → PSc a b := fun a b h => by unfold PSk at h; unfold PSc; omega
theorem mu_up {X e k0 k : Nat} (hX : 0 < X) (h : k0 ≤ k) (hk : k < 56) : e + (56 - k) * (58 * X) + 57 * X < e + (57 - k0) * (58 * X) := by
  have h1 : (57 - k) * (58 * X) ≤ (57 - k0) * (58 * X) := Nat.mul_le_mul_right _ (by omega)
  have h2 : (57 - k) * (58 * X) = (56 - k) * (58 * X) + 58 * X := by
    rw [show 57 - k = (56 - k) + 1 by omega, Nat.succ_mul]
  omega
theorem mu_lt {X e k0 k : Nat} (hX : 0 < X) (h : k0 ≤ k) (hk : k < 56) : e + (56 - k) * X < e + (57 - k0) * X := by
  have h1 : (57 - k) * X ≤ (57 - k0) * X := Nat.mul_le_mul_right _ (by omega)
  have h2 : (57 - k) * X = (56 - k) * X + X := by
    rw [show 57 - k = (56 - k) + 1 by omega, Nat.succ_mul]
  omega
theorem mu_dn {X e k0 : Nat} (hX : 0 < X) (h : k0 ≤ 56) : e < e + (57 - k0) * X := by
  have h1 : 1 * X ≤ (57 - k0) * X := Nat.mul_le_mul_right _ (by omega)
  omega
theorem l_skB (T : ZTh (XX Ln xs) CZ RZ) {d b : Nat} {Q : ZQ} {l k0 : Nat} {most : Int} {R : Nat → Bool} {c : Nat → Nat} {a TG : Int × Mo} {I0 I : ZI} {L : ZL} (hT0 : TabOK I0) (hfr : Fr PSk I0 I) (hS : SkS I R c l l) (hl : l ≤ 6) (hk0 : k0 ≤ 56) (h638 : I 638 (l : Int) = (k0 : Int) - 1) (ha : I 603 49 = a.1) (h0 : 0 ≤ a.1 ∧ a.1 < most) (hTG : FinS most R c l k0 a = TG) (hm : zR most) (hn : ∀ (I' : ZI) (x : Int) (mu : Nat), Fr PSk I0 I' → SkH most R TG I' x mu → mu < muB c l + (57 - k0) * 58 ^ (6 - l) → RZ (d + 4) k_X12_seeks Q 67 [.inr (.ref 603, 13), zj, .inl most, .inl x] [] b I' L) (hr : ∀ I', Fr PSk I0 I' → I' 603 49 = TG.1 → TG.1 = most → (most = 1 → WayM I' R TG.2) → Q (.inl none) I' L) : RZ (d + 4) k_X12_seeks Q 87 [.inr (.ref 603, 13), zj, .inl most, .inl ((l : Int))] [] b I L := by
  have hT := hT0.fr (fun a b g1 g2 => hfr a b (by unfold PSk; omega))
  have hqle := qF_le (skR R c l)
  have hX : 0 < 58 ^ (6 - l) := Nat.pow_pos (by decide)
  refine T.go [67] 150 ?_
  conv => whnf
  refine ⟨by decide, _, rfl, ?_⟩
  conv => whnf
  refine ⟨by decide, _, rfl, ?_⟩
  conv => whnf
  refine ⟨by omega, by decide, ?_⟩
  conv => whnf
  refine ⟨by decide, _, rfl, ?_⟩
  conv => whnf
  refine ⟨by omega, by decide, ?_⟩
  conv => whnf
  rw [h638, show (k0 : Int) - 1 + 1 = (k0 : Int) by omega, hS.2.2.2.2 l (Nat.le_refl _)]
  refine zinv0 (s_X12_choiceFrom T (q := qF (skR R c l)) (c := k0) (skR R c l) (skM R c l) (by exact hT) (by exact hS.2.1) (by exact hqle) (by exact hS.1) (by exact hk0) ?_)
  intro k_107 hk1_107 hk2_107 hno_107 hok_107
  conv => whnf
  refine ⟨by omega, by decide, ?_⟩
  conv => whnf
  refine ⟨by decide, _, rfl, ?_⟩
  conv => whnf
  refine ⟨by omega, by decide, ?_⟩
  conv => whnf
  rw [v2_eq]
  refine ⟨by exact ⟨by omega, by omega⟩, fun c119 => ?_, fun c119 => ?_⟩
  · conv => whnf
    have hk9 : k_107 < 56 := by omega
    have hok := hok_107 hk9
    have hq9 := okC_q hk9 hqle hok
    refine zinv0 (s_X12_changesChoice T (c := l) (k := k_107) (q := qF (skR R c l)) (f := 1) (skR R c l) (by exact hT.fr (fun a b g1 g2 => v2_ne (by omega))) (by omega) (by exact hk9) (by exact hq9) (by exact v2_eq _ _ _ _) (by rw [v2_ne (by omega)]; exact hS.2.2.2.2 l (Nat.le_refl _)) (by exact (okC_iff.mp hok).2.2.2) (by exact Or.inr rfl) ?_)
    intro I_131 hf_131 hv_131 hu_131
    have hfr1 : Fr PSk I0 I_131 := (hfr.v2 (by unfold PSk; omega)).trans (hf_131.mono (fun a b g => by unfold PCc at g; unfold PSk; omega))
    have hS1 : SkS I_131 R (upN c l k_107) l (l + 1) := hS.put hk9 hok (fun z hz => by rw [hv_131 z hz, v2_ne (by omega)]; rfl) (fun j => by rw [hu_131 j, v2_ne (by omega)]) (fun j hj => by rw [hf_131 _ _ (by unfold PCc; omega), v2_ne (by omega)]) (fun j hj => by rw [hf_131 _ _ (by unfold PCc; omega), v2_ne (by omega)])
    have e38 : I_131 638 (l : Int) = k_107 := by rw [hf_131 _ _ (by unfold PCc; omega), v2_eq]
    have e49 : I_131 603 49 = a.1 := by rw [hf_131 _ _ (by unfold PCc; omega), v2_ne (by omega)]; exact ha
    have hcg : ∀ i, i < l → upN c l k_107 i = c i := fun i hi => upN_lt hi
    have hF2 : FinS most R c l k0 a = FinS most R (upN c l k_107) l (k_107 + 1) (SW most (6 - l) (skR R (upN c l k_107) (l + 1)) (skM R (upN c l k_107) (l + 1)) a) := by
      rw [FinS_congr hcg]
      have e1 : skR R (upN c l k_107) (l + 1) = rmv (skR R c l) k_107 (qF (skR R c l) - fQ k_107) := by
        show rmv (skR R (upN c l k_107) l) (upN c l k_107 l) (qF (skR R (upN c l k_107) l) - fQ (upN c l k_107 l)) = _
        rw [skR_congr hcg, upN_eq]
      have e2 : skM R (upN c l k_107) (l + 1) = putK (skM R c l) (qF (skR R c l)) k_107 := by
        show putK (skM R (upN c l k_107) l) (qF (skR R (upN c l k_107) l)) (upN c l k_107 l) = _
        rw [skR_congr hcg, skM_congr hcg, upN_eq]
      rw [e1, e2]
      cases l with
      | zero =>
        show fk (gSW most 6 _ _ _) (56 - k0) k0 a = fk (gSW most 6 _ _ _) (56 - (k_107 + 1)) (k_107 + 1) _
        exact fk_found ⟨hk1_107, hk9⟩ hno_107 hok h0.2
      | succ l =>
        show FinS most R c l (c l + 1) (fk _ (56 - k0) k0 a) = FinS most R c l (c l + 1) (fk _ (56 - (k_107 + 1)) (k_107 + 1) _)
        rw [fk_found ⟨hk1_107, hk9⟩ hno_107 hok h0.2]
    conv => whnf
    refine ⟨by decide, ?_⟩
    conv => whnf
    refine ⟨by omega, fun c142 => ?_, fun c142 => ?_⟩
    · conv => whnf
      refine ⟨by decide, ?_⟩
      conv => whnf
      refine ⟨by decide, ?_⟩
      conv => whnf
      rw [v2_eq, e49]
      refine ⟨by omega, fun c159 => ?_, fun c159 => by exfalso; omega⟩
      conv => whnf
      refine ⟨by omega, fun c166 => by exfalso; omega, fun c166 => ?_⟩
      conv => whnf
      refine ⟨by decide, _, rfl, ?_⟩
      conv => whnf
      refine zinv0 (s_X12_firstLeft T (skR R (upN c l k_107) (l + 1)) (by exact fun z hz => by rw [v2_ne (by omega)]; exact hS1.1 z hz) ?_)
      conv => whnf
      refine ⟨by omega, by decide, ?_⟩
      conv => whnf
      refine ⟨by decide, _, rfl, ?_⟩
      conv => whnf
      refine ⟨by omega, by decide, ?_⟩
      conv => whnf
      obtain ⟨X, hXe⟩ : ∃ X, X = 58 ^ (6 - (l + 1)) := ⟨_, rfl⟩
      have hXs : 58 ^ (6 - l) = 58 * 58 ^ (6 - (l + 1)) := by
        rw [show 6 - l = (6 - (l + 1)) + 1 by omega, Nat.pow_succ, Nat.mul_comm]
      have hX2 : 0 < 58 ^ (6 - (l + 1)) := Nat.pow_pos (by decide)
      obtain ⟨a1, a2, a3, a4, a5⟩ := id hS1
      refine hn _ _ (muB (upN c l k_107) (l + 1) + 57 * 58 ^ (6 - (l + 1))) (((hfr1.v2 (by unfold PSk; omega)).v2 (by unfold PSk; omega)).v2 (by unfold PSk; omega)) ⟨a, by rw [v2_ne (by omega), v2_ne (by omega), v2_eq]; omega, h0, Or.inr ⟨l + 1, l + 1, upN c l k_107, by omega, by omega, ⟨fun z hz => ?_, fun p hp => ?_, a3, fun j hj => ?_, fun j hj => ?_⟩, Or.inl ⟨rfl, ?_, ?_, rfl⟩⟩⟩ ?_
      · rw [v2_ne (by omega), v2_ne (by omega), v2_ne (by omega)]; exact a1 z hz
      · rw [v2_ne (by omega), v2_ne (by omega), v2_ne (by omega)]; exact a2 p hp
      · rw [v2_ne (by omega), v2_ne (by omega), v2_ne (by omega)]
        by_cases e : j = l
        · rw [e, upN_eq]; exact e38
        · exact a4 j (by omega)
      · rw [v2_ne (by omega)]
        by_cases e : j = l + 1
        · rw [e, show ((l + 1 : Nat) : Int) = (l : Int) + 1 by omega, v2_eq]
        · rw [v2_ne (by omega), v2_ne (by omega)]; exact a5 j (by omega)
      · rw [show ((l + 1 : Nat) : Int) = (l : Int) + 1 by omega, v2_eq]
      · rw [← hTG, hF2, show 6 - l = (6 - (l + 1)) + 1 by omega, SW_q]
        show FinS most R (upN c l k_107) l (upN c l k_107 l + 1) _ = _
        rw [upN_eq]
      · show muB (upN c l k_107) l + (56 - upN c l k_107 l) * 58 ^ (6 - l) + 57 * 58 ^ (6 - (l + 1)) < _
        rw [muB_congr hcg, upN_eq, hXs]
        exact mu_up hX2 hk1_107 hk9
    · conv => whnf
      refine ⟨by decide, ?_⟩
      conv => whnf
      refine ⟨by decide, ?_⟩
      conv => whnf
      rw [v2_eq, e49]
      refine ⟨by omega, fun c159 => ?_, fun c159 => ?_⟩
      · conv => whnf
        refine ⟨by omega, fun c166 => ?_, fun c166 => by exfalso; omega⟩
        conv => whnf
        obtain rfl : l = 6 := by omega
        refine hn _ _ (muB (upN c 6 k_107) 6 + (56 - upN c 6 k_107 6) * 58 ^ (6 - 6)) (hfr1.v2 (by unfold PSk; omega)) ⟨(a.1 + 1, if a.1 = 0 then skM R (upN c 6 k_107) 7 else a.2), v2_eq _ _ _ _, ⟨by show 0 ≤ a.1 + 1; omega, by show a.1 + 1 < most; omega⟩, Or.inr ⟨6, 7, upN c 6 k_107, rfl, by omega, hS1.fr (fun a b g1 g2 => v2_ne (by omega)), Or.inr ⟨rfl, by rw [v2_ne (by omega), upN_eq]; exact e38, ?_, rfl⟩⟩⟩ ?_
        · rw [← hTG, hF2, upN_eq]
          rfl
        · rw [muB_congr hcg, upN_eq]
          exact mu_lt hX hk1_107 hk9
      · conv => whnf
        obtain rfl : l = 6 := by omega
        have e7 : TG = (a.1 + 1, if a.1 = 0 then skM R (upN c 6 k_107) 7 else a.2) := by
          rw [← hTG, hF2]
          exact FinS_end (by show a.1 + 1 = most; omega)
        refine hr _ (hfr1.v2 (by unfold PSk; omega)) (by rw [v2_eq, e7]) (by rw [e7]; show a.1 + 1 = most; omega) (fun e1 => ?_)
        obtain ⟨a1, a2, a3, a4, a5⟩ := id hS1
        rw [e7]
        refine ⟨upN c 6 k_107, if_pos (by omega), fun j hj => ⟨(a3 j hj).1, ?_, ?_, (a3 j hj).2⟩⟩
        · rw [v2_ne (by omega)]
          by_cases e : j = 6
          · rw [e, upN_eq]; exact e38
          · exact a4 j (by omega)
        · rw [v2_ne (by omega)]; exact a5 j (by omega)
  · conv => whnf
    have e56 : k_107 = 56 := by omega
    have hne : ∀ i, k0 ≤ i → i < 56 → okC (skR R c l) (skM R c l) (qF (skR R c l)) i = false := fun i h1 h2 => hno_107 i h1 (by omega)
    cases l with
    | zero =>
      refine hn _ _ 0 (hfr.v2 (by unfold PSk; omega)) ⟨a, by rw [v2_ne (by omega)]; exact ha, h0, Or.inl ⟨by omega, ?_⟩⟩ (Nat.lt_of_le_of_lt (Nat.zero_le _) (mu_dn hX hk0))
      rw [← hTG]
      exact (fk_none hk0 hne).symm
    | succ l =>
      obtain ⟨a1, a2, a3, a4, a5⟩ := hS
      refine hn _ _ (muB c (l + 1)) (hfr.v2 (by unfold PSk; omega)) ⟨a, by rw [v2_ne (by omega)]; exact ha, h0, Or.inr ⟨l, l + 1, c, by omega, by omega, ⟨fun z hz => by rw [v2_ne (by omega)]; exact a1 z hz, fun p hp => by rw [v2_ne (by omega)]; exact a2 p hp, a3, fun j hj => by rw [v2_ne (by omega)]; exact a4 j (by omega), fun j hj => by rw [v2_ne (by omega)]; exact a5 j (by omega)⟩, Or.inr ⟨rfl, by rw [v2_ne (by omega)]; exact a4 l (by omega), ?_, rfl⟩⟩⟩ (mu_dn hX hk0)
      rw [← hTG]
      show _ = FinS most R c l (c l + 1) (fk _ (56 - k0) k0 a)
      rw [fk_none hk0 hne]
end
