/-! THE REFERENCE, 2: rows -/
section
variable {Ln : Nat} {xs : Nat → Int32} {CZ : Nat → ZC} {RZ : Nat → Nat → ZQ → ZP}
theorem zand_1 (w : Int) : zand w 1 = w % 2 := by
  unfold zand
  have h : (i3 w &&& i3 1).toBitVec.toNat = (w % 2).toNat := by
    show ((BitVec.ofInt 32 w) &&& (1#32)).toNat = _
    rw [BitVec.toNat_and, BitVec.toNat_ofInt]
    show (w % (2 ^ 32 : Nat)).toNat &&& 1 = _
    rw [show (1 : Nat) = 2 ^ 1 - 1 from rfl, Nat.and_two_pow_sub_one_eq_mod]
    have e0 : ((2 ^ 32 : Nat) : Int) = 4294967296 := by decide
    rw [e0]
    omega
  have h2 : (i3 w &&& i3 1).toInt = (((i3 w &&& i3 1).toBitVec.toNat : Nat) : Int) := by
    show (i3 w &&& i3 1).toBitVec.toInt = _
    rw [BitVec.toInt_eq_toNat_of_lt]
    rw [h]
    omega
  rw [h2, h]
  omega
/-- a number's 32 bits -/
def n3 (x : Int) : Nat := (x % 4294967296).toNat
theorem n3_i3 (x : Int) : (i3 x).toBitVec.toNat = n3 x := by
  show (BitVec.ofInt 32 x).toNat = _
  rw [BitVec.toNat_ofInt]
  have e0 : ((2 ^ 32 : Nat) : Int) = 4294967296 := by decide
  rw [e0]
  rfl
theorem n3_zor (x y : Int) : n3 (zor x y) = n3 x ||| n3 y := by
  have h : i3 (zor x y) = i3 x ||| i3 y := i3_of _
  rw [← n3_i3, h]
  show ((i3 x).toBitVec ||| (i3 y).toBitVec).toNat = _
  rw [BitVec.toNat_or, n3_i3, n3_i3]
theorem par_k (x : Int) {k : Nat} (hk : k < 32) : x / 2 ^ k % 2 = ((n3 x / 2 ^ k : Nat) : Int) % 2 := by
  obtain ⟨j, hj⟩ : ∃ j, 32 = k + (1 + j) := ⟨31 - k, by omega⟩
  have e1 : x = ((n3 x : Nat) : Int) + 4294967296 * (x / 4294967296) := by
    unfold n3
    omega
  have e2 : (4294967296 : Int) = 2 ^ k * (2 * 2 ^ j) := by
    have : (4294967296 : Int) = 2 ^ 32 := by decide
    rw [this, hj, Int.pow_add, Int.pow_add]
    rfl
  have hp : (2 : Int) ^ k ≠ 0 := by
    have : (0 : Int) < 2 ^ k := Int.pow_pos (by decide)
    omega
  have e3 : x / 2 ^ k = ((n3 x : Nat) : Int) / 2 ^ k + 2 * (2 ^ j * (x / 4294967296)) := by
    have e4 : ((n3 x : Nat) : Int) + 4294967296 * (x / 4294967296) = ((n3 x : Nat) : Int) + 2 ^ k * (2 * (2 ^ j * (x / 4294967296))) := by
      rw [e2, Int.mul_assoc, Int.mul_assoc, ← e2]
    rw [show x / 2 ^ k = (((n3 x : Nat) : Int) + 4294967296 * (x / 4294967296)) / 2 ^ k from by rw [← e1], e4, Int.add_mul_ediv_left _ _ hp]
  rw [e3, Int.natCast_ediv, Int.natCast_pow]
  show (((n3 x : Nat) : Int) / 2 ^ k + 2 * (2 ^ j * (x / 4294967296))) % 2 = ((n3 x : Nat) : Int) / 2 ^ k % 2
  generalize 2 ^ j * (x / 4294967296) = c
  omega
theorem bW1_n3 (x : Int) {k : Nat} (hk : k < 32) : bW1 x k = (n3 x).testBit k := by
  unfold bW1
  rw [zand_1, par_k x hk, Nat.testBit_eq_decide_div_mod_eq]
  refine decide_eq_decide.mpr ?_
  omega
theorem bW1_or (x y : Int) {k : Nat} (hk : k < 32) : bW1 (zor x y) k = (bW1 x k || bW1 y k) := by
  rw [bW1_n3 _ hk, bW1_n3 _ hk, bW1_n3 _ hk, n3_zor, Nat.testBit_or]
theorem bW1_am : (List.range 32).all (fun m => (List.range 32).all fun k => decide (bW1 (1 * 2 ^ m) k = decide (k = m))) = true := by decide +kernel
theorem bW1_p {m k : Nat} (hm : m < 32) (hk : k < 32) : bW1 (1 * 2 ^ m) k = decide (k = m) := of_decide_eq_true (List.all_eq_true.mp (List.all_eq_true.mp bW1_am m (List.mem_range.mpr hm)) k (List.mem_range.mpr hk))
theorem zor_R (x y : Int) : zR (zor x y) := zR_of _
theorem s_X12_puts (T : ZTh (XX Ln xs) CZ RZ) {d b : Nat} {r p : Nat} {x y t f : Int} {I : ZI} {L : ZL} {Q : ZQ} (hn : r ≠ 304 ∧ r ≠ 578) (hp : p < 7) (h : Q (.inl none) (v2 (v2 (v2 (v2 I r (1 + 4 * (p : Int) + 0) x) r (1 + 4 * (p : Int) + 1) y) r (1 + 4 * (p : Int) + 2) t) r (1 + 4 * (p : Int) + 3) f) L) : CZ (d + 1) k_X12_puts [.inr (.ref r, 10173), .inl ((p : Int)), .inl x, .inl y, .inl t, .inl f] b I L Q := by
  refine T.call rfl ?_
  refine T.go [] 90 ?_
  conv => whnf
  refine ⟨by omega, (show (¬ (_ : Nat) = _) ∧ (¬ (_ : Nat) = _) from by omega), ?_⟩
  conv => whnf
  refine ⟨by omega, (show (¬ (_ : Nat) = _) ∧ (¬ (_ : Nat) = _) from by omega), ?_⟩
  conv => whnf
  refine ⟨by omega, (show (¬ (_ : Nat) = _) ∧ (¬ (_ : Nat) = _) from by omega), ?_⟩
  conv => whnf
  refine ⟨by omega, (show (¬ (_ : Nat) = _) ∧ (¬ (_ : Nat) = _) from by omega), ?_⟩
  conv => whnf
  exact h
theorem s_X12_putsOff (T : ZTh (XX Ln xs) CZ RZ) {d b : Nat} {r p : Nat} {I : ZI} {L : ZL} {Q : ZQ} (hn : r ≠ 304 ∧ r ≠ 578) (hp : p < 7) (h : Q (.inl none) (v2 (v2 (v2 (v2 I r (1 + 4 * (p : Int) + 0) (-1)) r (1 + 4 * (p : Int) + 1) (-1)) r (1 + 4 * (p : Int) + 2) (-1)) r (1 + 4 * (p : Int) + 3) (-1)) L) : CZ (d + 2) k_X12_putsOff [.inr (.ref r, 10173), .inl ((p : Int))] b I L Q := by
  refine T.call rfl ?_
  refine T.go [] 90 ?_
  conv => whnf
  refine zinv0 (s_X12_puts T  (by show (¬ (_ : Nat) = _) ∧ (¬ (_ : Nat) = _); omega) (by exact hp) ?_)
  conv => whnf
  exact h
theorem RowM.putg {I : ZI} {r : Nat} {M M' : Mo} (h : RowM I r 0 M) (hm : mN M ≤ 8) {p : Nat} {x y t f : Int} (hp : p < 7) (hN : mN M' = mN M) (hS : mS M' = mS M) (ho : ∀ j w : Nat, j < 7 → w < 4 → j ≠ p → tlM M' j w = tlM M j w) (h0 : tlM M' p (0 : Nat) = x) (h1 : tlM M' p (1 : Nat) = y) (h2 : tlM M' p (2 : Nat) = t) (h3 : tlM M' p (3 : Nat) = f) : RowM (v2 (v2 (v2 (v2 I r (1 + 4 * (p : Int) + 0) x) r (1 + 4 * (p : Int) + 1) y) r (1 + 4 * (p : Int) + 2) t) r (1 + 4 * (p : Int) + 3) f) r 0 M' := by
  obtain ⟨a1, a2, a3⟩ := h
  refine ⟨?_, fun j w hj hw => ?_, fun k hk q hq => ?_⟩
  · rw [hN, v2_ne (by omega), v2_ne (by omega), v2_ne (by omega), v2_ne (by omega)]; exact a1
  · by_cases e : j = p
    · subst e
      rcases (show w = 0 ∨ w = 1 ∨ w = 2 ∨ w = 3 by omega) with e | e | e | e <;> subst e
      · rw [h0, v2_ne (by omega), v2_ne (by omega), v2_ne (by omega), show (0 : Int) + ((1 + 4 * j + 0 : Nat) : Int) = 1 + 4 * (j : Int) + 0 by omega, v2_eq]
      · rw [h1, v2_ne (by omega), v2_ne (by omega), show (0 : Int) + ((1 + 4 * j + 1 : Nat) : Int) = 1 + 4 * (j : Int) + 1 by omega, v2_eq]
      · rw [h2, v2_ne (by omega), show (0 : Int) + ((1 + 4 * j + 2 : Nat) : Int) = 1 + 4 * (j : Int) + 2 by omega, v2_eq]
      · rw [h3, show (0 : Int) + ((1 + 4 * j + 3 : Nat) : Int) = 1 + 4 * (j : Int) + 3 by omega, v2_eq]
    · rw [v2_ne (by omega), v2_ne (by omega), v2_ne (by omega), v2_ne (by omega), ho j w hj hw e]
      exact a2 j w hj hw
  · rw [hN] at hk
    rw [hS, v2_ne (by omega), v2_ne (by omega), v2_ne (by omega), v2_ne (by omega)]
    exact a3 k hk q hq
theorem tlM_put {M : Mo} {p j w : Nat} {x y f : Int} (hf : ¬ f = -1) : tlM (putM M p x y f) j w = if j = p then (if (w : Int) = 0 then x else if (w : Int) = 1 then y else if (w : Int) = 2 then f / 2 else f % 2) else tlM M j w := by
  unfold tlM
  rw [putM_F, putM_X, putM_Y]
  by_cases e : j = p
  · rw [if_pos e, if_pos e, if_pos e, if_pos e, if_neg hf]
  · rw [if_neg e, if_neg e, if_neg e, if_neg e]
theorem tlM_off {M : Mo} {p j w : Nat} : tlM (offP M p) j w = if j = p then -1 else tlM M j w := by
  unfold tlM offP
  rw [putM_F, putM_X, putM_Y]
  by_cases e : j = p
  · rw [if_pos e, if_pos e, if_pos rfl, if_pos e]
  · rw [if_neg e, if_neg e, if_neg e, if_neg e]
theorem RowM.put {I : ZI} {r : Nat} {M : Mo} (h : RowM I r 0 M) (hm : mN M ≤ 8) {p : Nat} {x y t f : Int} (hp : p < 7) (ht : 0 ≤ t) (hf : f = 0 ∨ f = 1) : RowM (v2 (v2 (v2 (v2 I r (1 + 4 * (p : Int) + 0) x) r (1 + 4 * (p : Int) + 1) y) r (1 + 4 * (p : Int) + 2) t) r (1 + 4 * (p : Int) + 3) f) r 0 (putM M p x y (2 * t + f)) := by
  refine h.putg hm hp rfl rfl (fun j w hj hw e => ?_) ?_ ?_ ?_ ?_
  · rw [tlM_put (by omega), if_neg e]
  · rw [tlM_put (by omega), if_pos rfl, if_pos (by omega)]
  · rw [tlM_put (by omega), if_pos rfl, if_neg (by omega), if_pos (by omega)]
  · rw [tlM_put (by omega), if_pos rfl, if_neg (by omega), if_neg (by omega), if_pos (by omega)]
    omega
  · rw [tlM_put (by omega), if_pos rfl, if_neg (by omega), if_neg (by omega), if_neg (by omega)]
    omega
theorem RowM.off {I : ZI} {r : Nat} {M : Mo} (h : RowM I r 0 M) (hm : mN M ≤ 8) {p : Nat} (hp : p < 7) : RowM (v2 (v2 (v2 (v2 I r (1 + 4 * (p : Int) + 0) (-1)) r (1 + 4 * (p : Int) + 1) (-1)) r (1 + 4 * (p : Int) + 2) (-1)) r (1 + 4 * (p : Int) + 3) (-1)) r 0 (offP M p) := by
  refine h.putg hm hp rfl rfl (fun j w hj hw e => ?_) ?_ ?_ ?_ ?_
  · rw [tlM_off, if_neg e]
  all_goals rw [tlM_off, if_pos rfl]
theorem l_cp10173_11384 (T : ZTh (XX Ln xs) CZ RZ) {d b : Nat} {Q : ZQ} {r o : Nat} {a z : Int} {I0 : ZI} {L : ZL} (hn : r ≠ 304 ∧ r ≠ 578) (ho : o ≠ 304 ∧ o ≠ 578) (hd : r ≠ o) (ha : 0 ≤ a ∧ a + 173 ≤ 173) (hb9 : 0 ≤ z ∧ z + 173 ≤ 1384) (h : ∀ I', Fr (fun c d => c = r ∧ z ≤ d ∧ d < z + 173) I0 I' → (∀ j : Int, 0 ≤ j → j < 173 → I' r (z + j) = I0 o (a + j)) → Q (.inl none) I' L) (m : Nat) : ∀ (i : Int) (I : ZI), (0 ≤ i ∧ i ≤ 173) → (Fr (fun c d => c = r ∧ z ≤ d ∧ d < z + 173) I0 I) → (∀ j : Int, 0 ≤ j → j < i → I r (z + j) = I0 o (a + j)) → 173 - i < (m : Int) → RZ d k_X12_copies Q 3 [.inr (.ref o, 10173), .inl a, .inr (.ref r, 11384), .inl z, .inl i] [] b I L := by
  induction m with
  | zero =>
    intro i I hi hfr hv hm
    exfalso
    omega
  | succ m ih =>
    intro i I hi hfr hv hm
    refine T.go [3] 90 ?_
    conv => whnf
    refine ⟨by omega, fun c8 => ?_, fun c8 => ?_⟩
    · conv => whnf
      exact h I hfr (fun j j0 j1 => hv j j0 (by omega))
    · conv => whnf
      refine ⟨by omega, (show (¬ (_ : Nat) = _) ∧ (¬ (_ : Nat) = _) from by omega), ?_⟩
      conv => whnf
      refine ⟨by omega, (show (¬ (_ : Nat) = _) ∧ (¬ (_ : Nat) = _) from by omega), ?_⟩
      conv => whnf
      refine ih (i + 1) _ (by omega) (hfr.v2 ⟨rfl, by omega, by omega⟩) (fun j j0 j1 => ?_) (by omega)
      by_cases e : j = i
      · rw [e, v2_eq]
        exact hfr _ _ (fun c => hd c.1.symm)
      · rw [v2_ne (by omega)]
        exact hv j j0 (by omega)
theorem s_cp10173_11384 (T : ZTh (XX Ln xs) CZ RZ) {d b : Nat} {r o : Nat} {a z : Int} {I : ZI} {L : ZL} {Q : ZQ} (hn : r ≠ 304 ∧ r ≠ 578) (ho : o ≠ 304 ∧ o ≠ 578) (hd : r ≠ o) (ha : 0 ≤ a ∧ a + 173 ≤ 173) (hb9 : 0 ≤ z ∧ z + 173 ≤ 1384) (h : ∀ I', Fr (fun c d => c = r ∧ z ≤ d ∧ d < z + 173) I I' → (∀ j : Int, 0 ≤ j → j < 173 → I' r (z + j) = I o (a + j)) →  Q (.inl none) I' L) : CZ (d + 1) k_X12_copies [.inr (.ref o, 10173), .inl a, .inr (.ref r, 11384), .inl z] b I L Q := by
  refine T.call rfl ?_
  refine T.go [3] 90 ?_
  conv => whnf
  exact l_cp10173_11384 T hn ho hd ha hb9 h 174 0 I (by omega) (Fr.refl I) (fun j j0 j1 => by omega) (by omega)
theorem l_cp10173_10173 (T : ZTh (XX Ln xs) CZ RZ) {d b : Nat} {Q : ZQ} {r o : Nat} {a z : Int} {I0 : ZI} {L : ZL} (hn : r ≠ 304 ∧ r ≠ 578) (ho : o ≠ 304 ∧ o ≠ 578) (hd : r ≠ o) (ha : 0 ≤ a ∧ a + 173 ≤ 173) (hb9 : 0 ≤ z ∧ z + 173 ≤ 173) (h : ∀ I', Fr (fun c d => c = r ∧ z ≤ d ∧ d < z + 173) I0 I' → (∀ j : Int, 0 ≤ j → j < 173 → I' r (z + j) = I0 o (a + j)) → Q (.inl none) I' L) (m : Nat) : ∀ (i : Int) (I : ZI), (0 ≤ i ∧ i ≤ 173) → (Fr (fun c d => c = r ∧ z ≤ d ∧ d < z + 173) I0 I) → (∀ j : Int, 0 ≤ j → j < i → I r (z + j) = I0 o (a + j)) → 173 - i < (m : Int) → RZ d k_X12_copies Q 3 [.inr (.ref o, 10173), .inl a, .inr (.ref r, 10173), .inl z, .inl i] [] b I L := by
  induction m with
  | zero =>
    intro i I hi hfr hv hm
    exfalso
    omega
  | succ m ih =>
    intro i I hi hfr hv hm
    refine T.go [3] 90 ?_
    conv => whnf
    refine ⟨by omega, fun c8 => ?_, fun c8 => ?_⟩
    · conv => whnf
      exact h I hfr (fun j j0 j1 => hv j j0 (by omega))
    · conv => whnf
      refine ⟨by omega, (show (¬ (_ : Nat) = _) ∧ (¬ (_ : Nat) = _) from by omega), ?_⟩
      conv => whnf
      refine ⟨by omega, (show (¬ (_ : Nat) = _) ∧ (¬ (_ : Nat) = _) from by omega), ?_⟩
      conv => whnf
      refine ih (i + 1) _ (by omega) (hfr.v2 ⟨rfl, by omega, by omega⟩) (fun j j0 j1 => ?_) (by omega)
      by_cases e : j = i
      · rw [e, v2_eq]
        exact hfr _ _ (fun c => hd c.1.symm)
      · rw [v2_ne (by omega)]
        exact hv j j0 (by omega)
theorem s_cp10173_10173 (T : ZTh (XX Ln xs) CZ RZ) {d b : Nat} {r o : Nat} {a z : Int} {I : ZI} {L : ZL} {Q : ZQ} (hn : r ≠ 304 ∧ r ≠ 578) (ho : o ≠ 304 ∧ o ≠ 578) (hd : r ≠ o) (ha : 0 ≤ a ∧ a + 173 ≤ 173) (hb9 : 0 ≤ z ∧ z + 173 ≤ 173) (h : ∀ I', Fr (fun c d => c = r ∧ z ≤ d ∧ d < z + 173) I I' → (∀ j : Int, 0 ≤ j → j < 173 → I' r (z + j) = I o (a + j)) →  Q (.inl none) I' L) : CZ (d + 1) k_X12_copies [.inr (.ref o, 10173), .inl a, .inr (.ref r, 10173), .inl z] b I L Q := by
  refine T.call rfl ?_
  refine T.go [3] 90 ?_
  conv => whnf
  exact l_cp10173_10173 T hn ho hd ha hb9 h 174 0 I (by omega) (Fr.refl I) (fun j j0 j1 => by omega) (by omega)
theorem l_cp11384_10173 (T : ZTh (XX Ln xs) CZ RZ) {d b : Nat} {Q : ZQ} {r o : Nat} {a z : Int} {I0 : ZI} {L : ZL} (hn : r ≠ 304 ∧ r ≠ 578) (ho : o ≠ 304 ∧ o ≠ 578) (hd : r ≠ o) (ha : 0 ≤ a ∧ a + 173 ≤ 1384) (hb9 : 0 ≤ z ∧ z + 173 ≤ 173) (h : ∀ I', Fr (fun c d => c = r ∧ z ≤ d ∧ d < z + 173) I0 I' → (∀ j : Int, 0 ≤ j → j < 173 → I' r (z + j) = I0 o (a + j)) → Q (.inl none) I' L) (m : Nat) : ∀ (i : Int) (I : ZI), (0 ≤ i ∧ i ≤ 173) → (Fr (fun c d => c = r ∧ z ≤ d ∧ d < z + 173) I0 I) → (∀ j : Int, 0 ≤ j → j < i → I r (z + j) = I0 o (a + j)) → 173 - i < (m : Int) → RZ d k_X12_copies Q 3 [.inr (.ref o, 11384), .inl a, .inr (.ref r, 10173), .inl z, .inl i] [] b I L := by
  induction m with
  | zero =>
    intro i I hi hfr hv hm
    exfalso
    omega
  | succ m ih =>
    intro i I hi hfr hv hm
    refine T.go [3] 90 ?_
    conv => whnf
    refine ⟨by omega, fun c8 => ?_, fun c8 => ?_⟩
    · conv => whnf
      exact h I hfr (fun j j0 j1 => hv j j0 (by omega))
    · conv => whnf
      refine ⟨by omega, (show (¬ (_ : Nat) = _) ∧ (¬ (_ : Nat) = _) from by omega), ?_⟩
      conv => whnf
      refine ⟨by omega, (show (¬ (_ : Nat) = _) ∧ (¬ (_ : Nat) = _) from by omega), ?_⟩
      conv => whnf
      refine ih (i + 1) _ (by omega) (hfr.v2 ⟨rfl, by omega, by omega⟩) (fun j j0 j1 => ?_) (by omega)
      by_cases e : j = i
      · rw [e, v2_eq]
        exact hfr _ _ (fun c => hd c.1.symm)
      · rw [v2_ne (by omega)]
        exact hv j j0 (by omega)
theorem s_cp11384_10173 (T : ZTh (XX Ln xs) CZ RZ) {d b : Nat} {r o : Nat} {a z : Int} {I : ZI} {L : ZL} {Q : ZQ} (hn : r ≠ 304 ∧ r ≠ 578) (ho : o ≠ 304 ∧ o ≠ 578) (hd : r ≠ o) (ha : 0 ≤ a ∧ a + 173 ≤ 1384) (hb9 : 0 ≤ z ∧ z + 173 ≤ 173) (h : ∀ I', Fr (fun c d => c = r ∧ z ≤ d ∧ d < z + 173) I I' → (∀ j : Int, 0 ≤ j → j < 173 → I' r (z + j) = I o (a + j)) →  Q (.inl none) I' L) : CZ (d + 1) k_X12_copies [.inr (.ref o, 11384), .inl a, .inr (.ref r, 10173), .inl z] b I L Q := by
  refine T.call rfl ?_
  refine T.go [3] 90 ?_
  conv => whnf
  exact l_cp11384_10173 T hn ho hd ha hb9 h 174 0 I (by omega) (Fr.refl I) (fun j j0 j1 => by omega) (by omega)
theorem l_cp10173_10346 (T : ZTh (XX Ln xs) CZ RZ) {d b : Nat} {Q : ZQ} {r o : Nat} {a z : Int} {I0 : ZI} {L : ZL} (hn : r ≠ 304 ∧ r ≠ 578) (ho : o ≠ 304 ∧ o ≠ 578) (hd : r ≠ o) (ha : 0 ≤ a ∧ a + 173 ≤ 173) (hb9 : 0 ≤ z ∧ z + 173 ≤ 346) (h : ∀ I', Fr (fun c d => c = r ∧ z ≤ d ∧ d < z + 173) I0 I' → (∀ j : Int, 0 ≤ j → j < 173 → I' r (z + j) = I0 o (a + j)) → Q (.inl none) I' L) (m : Nat) : ∀ (i : Int) (I : ZI), (0 ≤ i ∧ i ≤ 173) → (Fr (fun c d => c = r ∧ z ≤ d ∧ d < z + 173) I0 I) → (∀ j : Int, 0 ≤ j → j < i → I r (z + j) = I0 o (a + j)) → 173 - i < (m : Int) → RZ d k_X12_copies Q 3 [.inr (.ref o, 10173), .inl a, .inr (.ref r, 10346), .inl z, .inl i] [] b I L := by
  induction m with
  | zero =>
    intro i I hi hfr hv hm
    exfalso
    omega
  | succ m ih =>
    intro i I hi hfr hv hm
    refine T.go [3] 90 ?_
    conv => whnf
    refine ⟨by omega, fun c8 => ?_, fun c8 => ?_⟩
    · conv => whnf
      exact h I hfr (fun j j0 j1 => hv j j0 (by omega))
    · conv => whnf
      refine ⟨by omega, (show (¬ (_ : Nat) = _) ∧ (¬ (_ : Nat) = _) from by omega), ?_⟩
      conv => whnf
      refine ⟨by omega, (show (¬ (_ : Nat) = _) ∧ (¬ (_ : Nat) = _) from by omega), ?_⟩
      conv => whnf
      refine ih (i + 1) _ (by omega) (hfr.v2 ⟨rfl, by omega, by omega⟩) (fun j j0 j1 => ?_) (by omega)
      by_cases e : j = i
      · rw [e, v2_eq]
        exact hfr _ _ (fun c => hd c.1.symm)
      · rw [v2_ne (by omega)]
        exact hv j j0 (by omega)
theorem s_cp10173_10346 (T : ZTh (XX Ln xs) CZ RZ) {d b : Nat} {r o : Nat} {a z : Int} {I : ZI} {L : ZL} {Q : ZQ} (hn : r ≠ 304 ∧ r ≠ 578) (ho : o ≠ 304 ∧ o ≠ 578) (hd : r ≠ o) (ha : 0 ≤ a ∧ a + 173 ≤ 173) (hb9 : 0 ≤ z ∧ z + 173 ≤ 346) (h : ∀ I', Fr (fun c d => c = r ∧ z ≤ d ∧ d < z + 173) I I' → (∀ j : Int, 0 ≤ j → j < 173 → I' r (z + j) = I o (a + j)) →  Q (.inl none) I' L) : CZ (d + 1) k_X12_copies [.inr (.ref o, 10173), .inl a, .inr (.ref r, 10346), .inl z] b I L Q := by
  refine T.call rfl ?_
  refine T.go [3] 90 ?_
  conv => whnf
  exact l_cp10173_10346 T hn ho hd ha hb9 h 174 0 I (by omega) (Fr.refl I) (fun j j0 j1 => by omega) (by omega)
theorem l_cp10346_10173 (T : ZTh (XX Ln xs) CZ RZ) {d b : Nat} {Q : ZQ} {r o : Nat} {a z : Int} {I0 : ZI} {L : ZL} (hn : r ≠ 304 ∧ r ≠ 578) (ho : o ≠ 304 ∧ o ≠ 578) (hd : r ≠ o) (ha : 0 ≤ a ∧ a + 173 ≤ 346) (hb9 : 0 ≤ z ∧ z + 173 ≤ 173) (h : ∀ I', Fr (fun c d => c = r ∧ z ≤ d ∧ d < z + 173) I0 I' → (∀ j : Int, 0 ≤ j → j < 173 → I' r (z + j) = I0 o (a + j)) → Q (.inl none) I' L) (m : Nat) : ∀ (i : Int) (I : ZI), (0 ≤ i ∧ i ≤ 173) → (Fr (fun c d => c = r ∧ z ≤ d ∧ d < z + 173) I0 I) → (∀ j : Int, 0 ≤ j → j < i → I r (z + j) = I0 o (a + j)) → 173 - i < (m : Int) → RZ d k_X12_copies Q 3 [.inr (.ref o, 10346), .inl a, .inr (.ref r, 10173), .inl z, .inl i] [] b I L := by
  induction m with
  | zero =>
    intro i I hi hfr hv hm
    exfalso
    omega
  | succ m ih =>
    intro i I hi hfr hv hm
    refine T.go [3] 90 ?_
    conv => whnf
    refine ⟨by omega, fun c8 => ?_, fun c8 => ?_⟩
    · conv => whnf
      exact h I hfr (fun j j0 j1 => hv j j0 (by omega))
    · conv => whnf
      refine ⟨by omega, (show (¬ (_ : Nat) = _) ∧ (¬ (_ : Nat) = _) from by omega), ?_⟩
      conv => whnf
      refine ⟨by omega, (show (¬ (_ : Nat) = _) ∧ (¬ (_ : Nat) = _) from by omega), ?_⟩
      conv => whnf
      refine ih (i + 1) _ (by omega) (hfr.v2 ⟨rfl, by omega, by omega⟩) (fun j j0 j1 => ?_) (by omega)
      by_cases e : j = i
      · rw [e, v2_eq]
        exact hfr _ _ (fun c => hd c.1.symm)
      · rw [v2_ne (by omega)]
        exact hv j j0 (by omega)
theorem s_cp10346_10173 (T : ZTh (XX Ln xs) CZ RZ) {d b : Nat} {r o : Nat} {a z : Int} {I : ZI} {L : ZL} {Q : ZQ} (hn : r ≠ 304 ∧ r ≠ 578) (ho : o ≠ 304 ∧ o ≠ 578) (hd : r ≠ o) (ha : 0 ≤ a ∧ a + 173 ≤ 346) (hb9 : 0 ≤ z ∧ z + 173 ≤ 173) (h : ∀ I', Fr (fun c d => c = r ∧ z ≤ d ∧ d < z + 173) I I' → (∀ j : Int, 0 ≤ j → j < 173 → I' r (z + j) = I o (a + j)) →  Q (.inl none) I' L) : CZ (d + 1) k_X12_copies [.inr (.ref o, 10346), .inl a, .inr (.ref r, 10173), .inl z] b I L Q := by
  refine T.call rfl ?_
  refine T.go [3] 90 ?_
  conv => whnf
  exact l_cp10346_10173 T hn ho hd ha hb9 h 174 0 I (by omega) (Fr.refl I) (fun j j0 j1 => by omega) (by omega)
end
