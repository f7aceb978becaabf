/-! THE REFERENCE ANSWERS, 9: parts -/
section
variable {Ln : Nat} {xs : Nat → Int32} {CZ : Nat → ZC} {RZ : Nat → Nat → ZQ → ZP}
/-- the marks: each stands for a quarter of the same part, none behind it -/
def MkM (I : ZI) (M : Mo) : Prop := ∀ q : Nat, q < 576 → ∃ m : Nat, I 632 (q : Int) = m ∧ m ≤ q ∧ (sil M q = true → sil M m = true ∧ cc (sil M) m q) ∧ (sil M q = false → m = q)
/-- no mark is above one beside it, of the quarters below q, and of q's sides below s -/
def StM (I : ZI) (M : Mo) (q s : Nat) : Prop := ∀ q' s' : Nat, q' < 576 → s' < 3 → sil M q' = true → (q' < q ∨ (q' = q ∧ s' < s)) → ∀ z : Nat, nb q' s' = z → sil M z = true → I 632 (q' : Int) ≤ I 632 (z : Int)
theorem StM.q {I : ZI} {M : Mo} {q : Nat} (h : StM I M q 3) : StM I M (q + 1) 0 := fun q' s' h1 h2 h3 h4 => h q' s' h1 h2 h3 (by omega)
theorem StM.off {I : ZI} {M : Mo} {q : Nat} (hO : sil M q = false) (h : StM I M q 0) : StM I M (q + 1) 0 := fun q' s' h1 h2 h3 h4 => h q' s' h1 h2 h3 (by
  by_cases e : q' = q
  · rw [e, hO] at h3; cases h3
  · omega)
theorem StM.no {I : ZI} {M : Mo} {q s : Nat} (hn : fil (sil M) (nb q s) = false) (h : StM I M q s) : StM I M q (s + 1) := fun q' s' h1 h2 h3 h4 z hz hs => by
  by_cases e : q' = q ∧ s' = s
  · rw [e.1, e.2] at hz
    rw [hz, fil_n, hs] at hn
    cases hn
  · exact h q' s' h1 h2 h3 (by omega) z hz hs
theorem StM.le {I : ZI} {M : Mo} {q s z : Nat} (hn : nb q s = z) (hle : I 632 (q : Int) ≤ I 632 (z : Int)) (h : StM I M q s) : StM I M q (s + 1) := fun q' s' h1 h2 h3 h4 z' hz hs => by
  by_cases e : q' = q ∧ s' = s
  · rw [e.1, e.2] at hz
    obtain rfl : z' = z := by omega
    rw [e.1]
    exact hle
  · exact h q' s' h1 h2 h3 (by omega) z' hz hs
theorem MkM.put {I : ZI} {M : Mo} {q s z : Nat} (h : MkM I M) (hq : q < 576) (hs : s < 3) (hn : nb q s = z) (h1 : sil M q = true) (h2 : sil M z = true) (hlt : I 632 (z : Int) < I 632 (q : Int)) : MkM (v2 I 632 (q : Int) (I 632 (z : Int))) M := by
  have had : adj (sil M) q z := ⟨h1, h2, (s : Int), by omega, by omega, hn⟩
  have hz := adj_lt hq had
  obtain ⟨mz, a1, a2, a3, -⟩ := h z hz
  obtain ⟨mq, b1, b2, -, -⟩ := h q hq
  intro i hi
  by_cases e : i = q
  · subst e
    refine ⟨mz, by rw [v2_eq]; exact a1, by omega, fun _ => ⟨(a3 h2).1, (a3 h2).2.step (adj_sym hq had)⟩, fun g => ?_⟩
    rw [h1] at g
    cases g
  · obtain ⟨m, c1, c2⟩ := h i hi
    exact ⟨m, by rw [v2_ne (by omega)]; exact c1, c2⟩
theorem MkM.nn {I : ZI} {M : Mo} (h : MkM I M) : 0 ≤ smI (fun i => I 632 (i : Int)) 576 := (smI_bn (f := fun i => I 632 (i : Int)) (c := 576) (k := 576) (fun i hi => by
  obtain ⟨m, c1, c2, -⟩ := h i hi
  show 0 ≤ I 632 (i : Int) ∧ I 632 (i : Int) ≤ 576
  omega) 576 (Nat.le_refl _)).1
theorem smI_put {f g : Nat → Int} {k : Nat} (h : ∀ i, i ≠ k → g i = f i) : ∀ n, k < n → smI g n = smI f n - f k + g k
  | 0, hn => absurd hn (Nat.not_lt_zero k)
  | n + 1, hn => by
    show smI g n + g n = smI f n + f n - f k + g k
    by_cases e : k = n
    · rw [smI_congr (f := g) (g := f) n (fun i hi => h i (by omega)), ← e]; omega
    · rw [smI_put h n (by omega), h n (by omega)]; omega
theorem mk_fin {I : ZI} {M : Mo} (h : MkM I M) (hs : StM I M 576 0) {q : Nat} (hq : q < 576) (hO : sil M q = true) : (I 632 (q : Int) = q ↔ ∀ p, p < q → sil M p = true → ¬ cc (sil M) p q) := by
  have key : ∀ a b : Nat, a < 576 → sil M a = true → cc (sil M) a b → I 632 (a : Int) ≤ I 632 (b : Int) := fun a b ha hO h => (h (fun x => x < 576 ∧ I 632 (a : Int) ≤ I 632 (x : Int)) ⟨ha, Int.le_refl _⟩ (fun x y hx hy => by
    obtain ⟨g1, g2, s, s0, s2, g3⟩ := id hy
    refine ⟨adj_lt hx.1 hy, Int.le_trans hx.2 ?_⟩
    obtain ⟨sn, rfl⟩ := Int.eq_ofNat_of_zero_le s0
    exact hs x sn hx.1 (by omega) g1 (Or.inl hx.1) y g3 g2)).2
  obtain ⟨m, a1, a2, a3, a4⟩ := h q hq
  constructor
  · intro e p hp hp2 hc
    have := key q p hq hO (cc_sym (by omega) hc)
    obtain ⟨mp, b1, b2, -⟩ := h p (by omega)
    omega
  · intro g
    apply Classical.byContradiction
    intro e
    exact g m (by omega) (a3 hO).1 (a3 hO).2
theorem parts_fin {I : ZI} {M : Mo} (h : MkM I M) (hs : StM I M 576 0) : cn (fun q => sil M q && decide (I 632 (q : Int) = q)) 576 = partsO (sil M) := by
  unfold partsO
  refine cn_congr 576 (fun q hq => ?_)
  cases e : sil M q with
  | false => rfl
  | true =>
    rw [Bool.true_and, Bool.true_and]
    have := mk_fin h hs hq e
    by_cases g : I 632 (q : Int) = q
    · rw [decide_eq_true g]; exact (dc_iff.mpr (this.mp g)).symm
    · rw [decide_eq_false g]; exact (dc_not.mpr (fun c => g (this.mpr c))).symm
def PMk : Nat → Int → Prop := fun a _ => a = 632
/-- what parts may change -/
def PPt : Nat → Int → Prop := fun a _ => a = 620 ∨ a = 632
theorem PPt_c : ∀ a b, PPt a b → PSc a b := fun a b h => by unfold PPt at h; unfold PSc; omega
theorem l_mpaI (T : ZTh (XX Ln xs) CZ RZ) {d b : Nat} {Q : ZQ} {q W H : Nat} {S0 : Int} {M : Mo} {I0 : ZI} {L : ZL} (hw : Wq W H M) (hW : I0 603 5 = W) (hH : I0 603 6 = H) (hO : OwM I0 M) (hq : q < 576) (hk : ∀ (I' : ZI) (y : Int), Fr PMk I0 I' → MkM I' M → (y = 0 ∨ y = 1) → (y = 0 → StM I' M (q + 1) 0) → smI (fun i => I' 632 (i : Int)) 576 + y ≤ S0 → RZ (d + 3) k_X12_parts Q 40 [.inr (.ref 603, 13), .inl y, .inl ((q : Int) + 1), zj, zj] [] b I' L) (m : Nat) : ∀ (s : Nat) (x : Int) (I : ZI), (s ≤ 3) → (Fr PMk I0 I) → (MkM I M) → (x = 0 ∨ x = 1) → (x = 0 → StM I M q s) → (s = 0 ∨ sil M q = true) → (smI (fun i => I 632 (i : Int)) 576 + x ≤ S0) → 3 - (s : Int) < (m : Int) → RZ (d + 3) k_X12_parts Q 49 [.inr (.ref 603, 13), .inl x, .inl ((q : Int)), .inl ((s : Int)), zj] [] b I L := by
  induction m with
  | zero =>
    intro s x I hs hfr hK hx hSt hz hsum hm
    exfalso
    omega
  | succ m ih =>
    intro s x I hs hfr hK hx hSt hz hsum hm
    have hO2 : OwM I M := fun z hz9 => by rw [hfr _ _ (by unfold PMk; omega)]; exact hO z hz9
    have hbq := bi_b (fil (sil M) (q : Int))
    have hnb := nb_b (q := (q : Int)) (s := (s : Int)) (by omega) (by omega)
    obtain ⟨⟨w1, w2, w3, w4⟩, -, -⟩ := id hw
    have hW2 : I 603 5 = W := (hfr _ _ (by unfold PMk; omega)).trans hW
    have hH2 : I 603 6 = H := (hfr _ _ (by unfold PMk; omega)).trans hH
    obtain ⟨mq, q1, q2, q3, q4⟩ := hK q hq
    have hsq : bi (fil (sil M) (q : Int)) ≠ 0 → sil M q = true := fun g => by
      cases e : sil M q with
      | true => rfl
      | false => rw [fil_n, e] at g; exact absurd rfl g
    refine T.go [40, 49] 90 ?_
    conv => whnf
    refine ⟨by omega, fun c51 => ?_, fun c51 => ?_⟩
    · conv => whnf
      refine T.fg [3] ?_
      obtain rfl : s = 3 := by omega
      exact hk I x hfr hK hx (fun g => (hSt g).q) hsum
    · conv => whnf
      refine zinv0 (s_X12_isFilled T (q := (q : Int)) (M := M) (by omega) (by exact hO2) ?_)
      conv => whnf
      refine ⟨by omega, fun c59 => ?_, fun c59 => ?_⟩
      · conv => whnf
        refine T.fg [3] ?_
        have hsq : sil M q = false := by
          cases e : sil M q with
          | false => rfl
          | true => rw [fil_n, e] at c59; exact absurd c59 (by decide)
        have h0 : s = 0 := hz.resolve_right (by rw [hsq]; decide)
        subst h0
        exact hk I x hfr hK hx (fun g => (hSt g).off hsq) hsum
      · conv => whnf
        refine zinv0 (s_X12_across T (q := (q : Int)) (s := (s : Int)) (W := W) (H := H) (by omega) (by omega) (by exact ⟨hW2, w2⟩) (by exact ⟨hH2, w4⟩) ?_)
        have hsq2 := hsq c59
        have hab := acr_b (W := W) (H := H) (q := (q : Int)) (s := (s : Int)) (by omega) (by omega)
        have hfa := fil_acr hw (q := (q : Int)) (s := (s : Int)) (by omega) (by omega)
        have hno := nb_on (W := W) (H := H) (q := (q : Int)) (s := (s : Int)) (by omega) (by omega)
        obtain ⟨o, ho⟩ : ∃ o, o = acr W H (q : Int) (s : Int) := ⟨_, rfl⟩
        rw [← ho] at hab hfa hno
        rw [← ho]
        have hbn := bi_b (fil (sil M) o)
        conv => whnf
        refine zinv0 (s_X12_isFilled T (q := o) (M := M) (by exact hab) (by exact hO2) ?_)
        conv => whnf
        refine ⟨by omega, fun c76 => ?_, fun c76 => ?_⟩
        · conv => whnf
          refine T.fg [4] ?_
          have hn : fil (sil M) (nb q s) = false := by
            cases e : fil (sil M) (nb q s) with
            | false => rfl
            | true => rw [hfa, e] at c76; exact absurd c76 (by decide)
          exact ih (s + 1) x I (by omega) hfr hK hx (fun g => (hSt g).no hn) (Or.inr hsq2) hsum (by omega)
        · conv => whnf
          refine ⟨by decide, _, rfl, ?_⟩
          conv => whnf
          have hfo : fil (sil M) o = true := by
            cases e : fil (sil M) o with
            | true => rfl
            | false => rw [e] at c76; exact absurd rfl c76
          have ho0 : 0 ≤ o := by
            unfold fil at hfo
            rw [Bool.and_eq_true, decide_eq_true_iff] at hfo
            exact hfo.1
          obtain ⟨z, rfl⟩ := Int.eq_ofNat_of_zero_le ho0
          have hzs : sil M z = true := by rw [fil_n] at hfo; exact hfo
          have hnz : nb (q : Int) (s : Int) = z := by rcases hno with e | ⟨e, -⟩ <;> omega
          obtain ⟨mz, z1, z2, z3, z4⟩ := hK z (by omega)
          refine ⟨by omega, by decide, ?_⟩
          conv => whnf
          refine ⟨by decide, _, rfl, ?_⟩
          conv => whnf
          refine ⟨by omega, by decide, ?_⟩
          conv => whnf
          refine ⟨by omega, fun c92 => ?_, fun c92 => ?_⟩
          · conv => whnf
            refine T.fg [4] ?_
            exact ih (s + 1) x I (by omega) hfr hK hx (fun g => (hSt g).le hnz (by omega)) (Or.inr hsq2) hsum (by omega)
          · conv => whnf
            refine ⟨by decide, _, rfl, ?_⟩
            conv => whnf
            refine ⟨by decide, _, rfl, ?_⟩
            conv => whnf
            refine ⟨by omega, by decide, ?_⟩
            conv => whnf
            refine ⟨by omega, by decide, ?_⟩
            conv => whnf
            refine T.fg [4] ?_
            refine ih (s + 1) 1 _ (by omega) (hfr.v2 rfl) (hK.put hq (by omega) hnz hsq2 hzs c92) (Or.inr rfl) (fun g => absurd g (by decide)) (Or.inr hsq2) ?_ (by omega)
            have := smI_put (f := fun i => I 632 (i : Int)) (g := fun i => v2 I 632 (q : Int) (I 632 (z : Int)) 632 (i : Int)) (k := q) (fun i hi => v2_ne (by omega)) 576 hq
            rw [this]
            show smI (fun i => I 632 (i : Int)) 576 - I 632 (q : Int) + v2 I 632 (q : Int) (I 632 (z : Int)) 632 (q : Int) + 1 ≤ S0
            rw [v2_eq]
            generalize smI (fun i => I 632 (i : Int)) 576 = S at *
            omega
theorem l_mpaO (T : ZTh (XX Ln xs) CZ RZ) {d b : Nat} {Q : ZQ} {W H : Nat} {S0 : Int} {M : Mo} {I0 : ZI} {L : ZL} (hw : Wq W H M) (hW : I0 603 5 = W) (hH : I0 603 6 = H) (hO : OwM I0 M) (hk : ∀ (I' : ZI) (y : Int), Fr PMk I0 I' → MkM I' M → (y = 0 ∨ y = 1) → (y = 0 → StM I' M 576 0) → smI (fun i => I' 632 (i : Int)) 576 + y ≤ S0 → RZ (d + 3) k_X12_parts Q 32 [.inr (.ref 603, 13), .inl y, zj, zj, zj] [] b I' L) (m : Nat) : ∀ (q : Nat) (x : Int) (I : ZI), (q ≤ 576) → (Fr PMk I0 I) → (MkM I M) → (x = 0 ∨ x = 1) → (x = 0 → StM I M q 0) → (smI (fun i => I 632 (i : Int)) 576 + x ≤ S0) → 576 - (q : Int) < (m : Int) → RZ (d + 3) k_X12_parts Q 40 [.inr (.ref 603, 13), .inl x, .inl ((q : Int)), zj, zj] [] b I L := by
  induction m with
  | zero =>
    intro q x I hq hfr hK hx hSt hsum hm
    exfalso
    omega
  | succ m ih =>
    intro q x I hq hfr hK hx hSt hsum hm
    refine T.go [32, 49] 90 ?_
    conv => whnf
    refine ⟨by omega, fun c44 => ?_, fun c44 => ?_⟩
    · conv => whnf
      refine T.fg [2] ?_
      obtain rfl : q = 576 := by omega
      exact hk I x hfr hK hx hSt hsum
    · conv => whnf
      exact l_mpaI T (W := W) (H := H) (I0 := I0) (S0 := S0) hw hW hH hO (by omega) (fun I2 y f2 k2 y2 s2 u2 => ih (q + 1) y I2 (by omega) f2 k2 y2 s2 u2 (by omega)) 4 0 x I (by omega) hfr hK hx hSt (Or.inl rfl) hsum (by omega)
theorem l_mpaC (T : ZTh (XX Ln xs) CZ RZ) {d b : Nat} {Q : ZQ} {M : Mo} {I : ZI} {L : ZL} (hO : OwM I M) (hK : MkM I M) (h : Q (.inl (some (.inl (cn (fun q => sil M q && decide (I 632 (q : Int) = q)) 576)))) I L) (m : Nat) : ∀ (q : Nat) (c : Int), (q ≤ 576) → (c = cn (fun q => sil M q && decide (I 632 (q : Int) = q)) q) → 576 - (q : Int) < (m : Int) → RZ (d + 3) k_X12_parts Q 129 [.inr (.ref 603, 13), zj, .inl c, .inl ((q : Int)), zj] [] b I L := by
  induction m with
  | zero =>
    intro q c hq hc hm
    exfalso
    omega
  | succ m ih =>
    intro q c hq hc hm
    have hbq := bi_b (fil (sil M) (q : Int))
    have hkq := fun g : q < 576 => hK q g
    refine T.go [129] 90 ?_
    conv => whnf
    refine ⟨by omega, fun c133 => ?_, fun c133 => ?_⟩
    · conv => whnf
      obtain rfl : q = 576 := by omega
      rw [hc]
      exact h
    · conv => whnf
      refine zinv0 (s_X12_isFilled T (q := (q : Int)) (M := M) (by omega) (by exact hO) ?_)
      conv => whnf
      refine ⟨by omega, fun c142 => ?_, fun c142 => ?_⟩
      · conv => whnf
        refine ih (q + 1) _ (by omega) ?_ (by omega)
        rw [hc]
        show _ = cn (fun q => sil M q && decide (I 632 (q : Int) = q)) q + (bif sil M q && decide (I 632 (q : Int) = q) then 1 else 0)
        rw [fil_n] at c142
        cases e : sil M q with
        | true => rw [e] at c142; exact absurd c142 (by decide)
        | false => rfl
      · conv => whnf
        refine ⟨by decide, _, rfl, ?_⟩
        conv => whnf
        refine ⟨by omega, by decide, ?_⟩
        conv => whnf
        refine ⟨by obtain ⟨mq, q1, q2, -⟩ := hkq (by omega); rw [q1]; exact ⟨⟨by omega, by omega⟩, ⟨by omega, by omega⟩⟩, fun c152 => ?_, fun c152 => ?_⟩
        · conv => whnf
          refine ih (q + 1) _ (by omega) ?_ (by omega)
          rw [hc]
          show _ = cn (fun q => sil M q && decide (I 632 (q : Int) = q)) q + (bif sil M q && decide (I 632 (q : Int) = q) then 1 else 0)
          rw [fil_n] at c142
          cases e : sil M q with
          | false => rw [e] at c142; exact absurd rfl c142
          | true =>
            rw [decide_eq_false c152]
            rfl
        · conv => whnf
          refine ih (q + 1) _ (by omega) ?_ (by omega)
          rw [hc]
          show _ = cn (fun q => sil M q && decide (I 632 (q : Int) = q)) q + (bif sil M q && decide (I 632 (q : Int) = q) then 1 else 0)
          rw [fil_n] at c142
          cases e : sil M q with
          | false => rw [e] at c142; exact absurd rfl c142
          | true =>
            rw [decide_eq_true c152]
            rfl
theorem l_mpaW (T : ZTh (XX Ln xs) CZ RZ) {d b : Nat} {Q : ZQ} {W H : Nat} {M : Mo} {I0 : ZI} {L : ZL} (hw : Wq W H M) (hW : I0 603 5 = W) (hH : I0 603 6 = H) (hO : OwM I0 M) (h : ∀ I', Fr PMk I0 I' → Q (.inl (some (.inl (partsO (sil M))))) I' L) (m : Nat) : ∀ (x : Int) (I : ZI), (Fr PMk I0 I) → (MkM I M) → (x = 0 ∨ x = 1) → (x = 0 → StM I M 576 0) → 2 * smI (fun i => I 632 (i : Int)) 576 + x < (m : Int) → RZ (d + 3) k_X12_parts Q 32 [.inr (.ref 603, 13), .inl x, zj, zj, zj] [] b I L := by
  induction m with
  | zero =>
    intro x I hfr hK hx hSt hm
    have := hK.nn
    exfalso
    omega
  | succ m ih =>
    intro x I hfr hK hx hSt hm
    refine T.go [40, 129] 90 ?_
    conv => whnf
    refine ⟨by omega, fun c33 => ?_, fun c33 => ?_⟩
    · conv => whnf
      refine T.fg [1] ?_
      have hO2 : OwM I M := fun z hz9 => by rw [hfr _ _ (by unfold PMk; omega)]; exact hO z hz9
      refine l_mpaC T (M := M) hO2 hK ?_ 577 0 0 (by omega) rfl (by omega)
      rw [parts_fin hK (hSt c33)]
      exact h I hfr
    · conv => whnf
      obtain rfl : x = 1 := by omega
      refine l_mpaO T (W := W) (H := H) (I0 := I0) (S0 := smI (fun i => I 632 (i : Int)) 576) hw hW hH hO (fun I2 y f2 k2 y2 s2 u2 => ih y I2 f2 k2 y2 s2 ?_) 577 0 0 I (by omega) hfr hK (Or.inl rfl) (fun _ q' s' _ _ _ g => absurd g (by omega)) (by omega) (by omega)
      generalize smI (fun i => I 632 (i : Int)) 576 = S at *
      generalize smI (fun i => I2 632 (i : Int)) 576 = S2 at *
      omega
theorem l_mpa0 (T : ZTh (XX Ln xs) CZ RZ) {d b : Nat} {Q : ZQ} {I0 : ZI} {L : ZL} (hk2 : ∀ I', Fr PMk I0 I' → (∀ e : Nat, e < 576 → I' 632 e = e) → RZ (d + 3) k_X12_parts Q 32 [.inr (.ref 603, 13), .inl 1, zj, zj, zj] [] b I' L) (m : Nat) : ∀ (k : Nat) (I : ZI), (k ≤ 576) → (Fr PMk I0 I) → (∀ e : Nat, e < k → I 632 e = e) → 576 - (k : Int) < (m : Int) → RZ (d + 3) k_X12_parts Q 10 [.inr (.ref 603, 13), .inl ((k : Int)), zj, zj, zj] [] b I L := by
  induction m with
  | zero =>
    intro k I hk hfr hv hm
    exfalso
    omega
  | succ m ih =>
    intro k I hk hfr hv hm
    refine T.go [10, 32] 90 ?_
    conv => whnf
    refine ⟨by omega, fun c14 => ?_, fun c14 => ?_⟩
    · conv => whnf
      obtain rfl : k = 576 := by omega
      exact hk2 I hfr hv
    · conv => whnf
      refine ⟨by decide, _, rfl, ?_⟩
      conv => whnf
      refine ⟨by omega, by decide, ?_⟩
      conv => whnf
      refine ih (k + 1) _ (by omega) (hfr.v2 rfl) (fun e he => ?_) (by omega)
      by_cases c : e = k
      · rw [c, v2_eq]
      · rw [v2_ne (by omega)]
        exact hv e (by omega)
theorem s_X12_parts (T : ZTh (XX Ln xs) CZ RZ) {d b : Nat} {W H n bl : Nat} {M : Mo} {P SL : Nat → Mo} {v u : Nat → Int}  {I : ZI} {L : ZL} {Q : ZQ} (hC : MB I W H M P n SL v bl u) (hA : WfA W H M P n SL v) (h : ∀ I', Fr PPt I I' → Q (.inl (some (.inl (partsO (sil M))))) I' L) : CZ (d + 4) k_X12_parts [.inr (.ref 603, 13)] b I L Q := by
  refine T.call rfl ?_
  obtain ⟨mT, mR, ⟨mW, mH⟩, ⟨mn, mn8⟩, mP, mS9, ⟨mb1, mb2, mb3⟩, mz⟩ := id hC
  obtain ⟨⟨⟨⟨w1, w2, w3, w4⟩, -⟩, w5, w6⟩, wP, wS⟩ := id hA
  refine T.go [10] 90 ?_
  conv => whnf
  refine ⟨by decide, _, rfl, ?_⟩
  conv => whnf
  refine zinv0 (s_X12_laysOwners T (W := W) (H := H) (M := M) (by exact mT) (by decide) (by exact mR) (by exact hA.1.1) ?_)
  intro I_5 hf_5 hv_5
  conv => whnf
  refine l_mpa0 T (I0 := I_5) (fun I1 f1 z1 => ?_) 577 0 I_5 (by omega) (Fr.refl _) (fun e he => absurd he (Nat.not_lt_zero e)) (by omega)
  have e1 : ∀ (a : Nat) (b : Int), ¬ PPt a b → I1 a b = I a b := fun a b g => by
    unfold PPt at g
    rw [f1 a b (by unfold PMk; omega)]
    exact hf_5 a b (by omega)
  have hK1 : MkM I1 M := fun q hq => ⟨q, z1 q hq, Nat.le_refl _, fun g => ⟨g, cc.refl _ _⟩, fun _ => rfl⟩
  have hnn := hK1.nn
  refine l_mpaW T (W := W) (H := H) (I0 := I1) (M := M) hA.1.1 ((e1 _ _ (by unfold PPt; omega)).trans mW) ((e1 _ _ (by unfold PPt; omega)).trans mH) (fun z hz9 => by rw [f1 _ _ (by unfold PMk; omega)]; exact hv_5 z hz9) (fun I2 f2 => h I2 (fun a b g => ?_)) (2 * smI (fun i => I1 632 (i : Int)) 576 + 2).toNat 1 I1 (Fr.refl _) hK1 (Or.inr rfl) (fun g => absurd g (by decide)) (by omega)
  rw [f2 a b (by unfold PPt at g; unfold PMk; omega)]
  exact e1 a b g
end
