/-! A WAY IS A PLACING -/
section
variable {Ln : Nat} {xs : Nat → Int32} {CZ : Nat → ZC} {RZ : Nat → Nat → ZQ → ZP}
theorem fW_l0 : (List.range 56).all (fun i => (List.range 192).any fun z => fS i z && decide (z % 48 / 4 = fW i - 1)) = true := by decide +kernel
theorem fW_last {i : Nat} (hi : i < 56) : ∃ z, z < 576 ∧ fS i z = true ∧ z % 48 / 4 = fW i - 1 := by
  obtain ⟨z, hz, h⟩ := List.any_eq_true.mp (List.all_eq_true.mp fW_l0 i (List.mem_range.mpr hi))
  rw [Bool.and_eq_true, decide_eq_true_iff] at h
  have := List.mem_range.mp hz
  exact ⟨z, by omega, h.1, h.2⟩
/-- a placing within S -/
def GdP (S : Nat → Bool) (M : Mo) : Prop := (∀ j : Nat, j < 7 → mF M j = -1 ∨ (0 ≤ mF M j ∧ mF M j < 8 ∧ InB 12 12 (fi M j) (mX M j) (mY M j) ∧ ∀ q, cvr M j q = true → S q = true)) ∧
  (∀ i j : Nat, i < 7 → j < 7 → i ≠ j → mF M i ≠ -1 → mF M j ≠ -1 → ∀ q, cvr M i q = true → cvr M j q = true → False)
def GdR (S R : Nat → Bool) (M : Mo) : Prop := GdP S M ∧ (∀ q, R q = true → S q = true) ∧ ∀ j : Nat, j < 7 → mF M j ≠ -1 → ∀ q, cvr M j q = true → R q = true → False
theorem fV_ge {k : Nat} (h : fV k = 1) : k < 56 := by
  apply Classical.byContradiction
  intro c
  have e : fV k = 0 := by
    unfold fV
    rw [List.getD_eq_getElem?_getD, List.getElem?_eq_none (by show 56 ≤ k; omega)]
    rfl
  omega
theorem GdR.put {S R : Nat → Bool} {M : Mo} (h : GdR S R M) {q k : Nat} (hq : q < 576) (ho : okC R M q k = true) : GdR S (rmv R k (q - fQ k)) (putK M q k) := by
  unfold okC at ho
  rw [Bool.and_eq_true, Bool.and_eq_true, Bool.and_eq_true, decide_eq_true_iff, decide_eq_true_iff] at ho
  obtain ⟨⟨o1, -⟩, o2, o3⟩ := ho
  have hk := fV_ge o2
  obtain ⟨g1, g2, g3⟩ := dc_iff.mp o3
  obtain ⟨⟨a1, a2⟩, a3, a4⟩ := h
  have hp : k / 8 < 7 := by omega
  have eF : ∀ j : Nat, mF (putK M q k) j = if j = k / 8 then ((k % 8 : Nat) : Int) else mF M j := fun j => putM_F j
  have eX : ∀ j : Nat, mX (putK M q k) j = if j = k / 8 then (((q % 48 - fQ k) / 4 : Nat) : Int) else mX M j := fun j => putM_X j
  have eY : ∀ j : Nat, mY (putK M q k) j = if j = k / 8 then ((q / 48 : Nat) : Int) else mY M j := fun j => putM_Y j
  have efi : fi (putK M q k) (k / 8) = k := by
    unfold fi
    rw [eF, if_pos rfl, Int.toNat_natCast]
    omega
  have efo : fo (putK M q k) (k / 8) = q - fQ k := by
    unfold fo
    rw [eX, eY, if_pos rfl, if_pos rfl, Int.toNat_natCast, Int.toNat_natCast]
    omega
  have ecp : ∀ z, cvr (putK M q k) (k / 8) z = shf (fS k) (q - fQ k) z := fun z => by
    unfold cvr
    rw [efi, efo]
  have efi2 : ∀ j, j ≠ k / 8 → fi (putK M q k) j = fi M j := fun j hj => by
    unfold fi
    rw [eF, if_neg hj]
  have ecn : ∀ j z, j ≠ k / 8 → cvr (putK M q k) j z = cvr M j z := fun j z hj => by
    unfold cvr fo
    rw [efi2 j hj, eX, eY, if_neg hj, if_neg hj]
  have hnew : ∀ z, shf (fS k) (q - fQ k) z = true → R z = true := fun z hz => by
    unfold shf at hz
    rw [Bool.and_eq_true, decide_eq_true_iff] at hz
    have h9 := (g3 (z - (q - fQ k)) (by have := fS_lt hk hz.2; omega) hz.2).2.2
    rw [Nat.sub_add_cancel hz.1] at h9
    exact h9
  refine ⟨⟨fun j hj => ?_, fun i j hi hj hij hfi hfj z hci hcj => ?_⟩, fun z hz => ?_, fun j hj hf z hc hz => ?_⟩
  · by_cases e : j = k / 8
    · rw [e, efi, eF, eX, eY, if_pos rfl, if_pos rfl, if_pos rfl]
      refine Or.inr ⟨by omega, by omega, ?_, fun z hz => a3 z (hnew z (by rw [← ecp]; exact hz))⟩
      obtain ⟨z1, z2, z3, z4⟩ := fW_last hk
      obtain ⟨y1, y2, y3, y4⟩ := fH_last hk
      have k1 := g3 z1 z2 z3
      have k2 := g3 y1 y2 y3
      have k3 := fW_b hk
      exact ⟨by omega, by omega, by omega, by omega⟩
    · rw [efi2 j e, eF, eX, eY, if_neg e, if_neg e, if_neg e]
      rcases a1 j hj with c | ⟨c1, c2, c3, c4⟩
      · exact Or.inl c
      · exact Or.inr ⟨c1, c2, c3, fun z hz => c4 z (by rw [← ecn j z e]; exact hz)⟩
  · rw [eF] at hfi hfj
    by_cases e : i = k / 8
    · have ej : j ≠ k / 8 := by omega
      rw [if_neg ej] at hfj
      rw [ecn j z ej] at hcj
      rw [e, ecp] at hci
      exact a4 j hj hfj z hcj (hnew z hci)
    · rw [if_neg e] at hfi
      rw [ecn i z e] at hci
      by_cases ej : j = k / 8
      · rw [ej, ecp] at hcj
        exact a4 i hi hfi z hci (hnew z hcj)
      · rw [if_neg ej] at hfj
        rw [ecn j z ej] at hcj
        exact a2 i j hi hj hij hfi hfj z hci hcj
  · unfold rmv at hz
    rw [Bool.and_eq_true] at hz
    exact a3 z hz.1
  · unfold rmv at hz
    rw [Bool.and_eq_true] at hz
    by_cases e : j = k / 8
    · rw [e, ecp] at hc
      rw [hc] at hz
      exact absurd hz.2 (by decide)
    · rw [eF, if_neg e] at hf
      rw [ecn j z e] at hc
      exact a4 j hj hf z hc hz.1
theorem SW_gd {most : Int} {S : Nat → Bool} : ∀ {n : Nat} {R : Nat → Bool} {M : Mo} {a : Int × Mo}, GdR S R M → GdP S a.2 → GdP S (SW most n R M a).2
  | 0, R, M, a, hM, ha => by
    show GdP S (if a.1 = 0 then M else a.2)
    by_cases e : a.1 = 0
    · rw [if_pos e]; exact hM.1
    · rw [if_neg e]; exact ha
  | n + 1, R, M, a, hM, ha => by
    rw [SW_s]
    by_cases e : fq R = -1
    · rw [if_pos e]; exact ha
    · rw [if_neg e]
      have hq : (fq R).toNat < 576 := by
        rcases fq_spec R with ⟨c, _⟩ | ⟨k, c1, c2, _⟩
        · exact absurd c e
        · omega
      refine fk_inv (g := gSW most n R M (fq R).toNat) (P := fun a => GdP S a.2) (fun a k ha => ?_) 56 0 a ha
      show GdP S (gSW most n R M (fq R).toNat a k).2
      unfold gSW
      cases ho : decide (a.1 < most) && okC R M (fq R).toNat k with
      | false => exact ha
      | true =>
        rw [Bool.and_eq_true] at ho
        exact SW_gd (hM.put hq ho.2) ha
theorem offM_Gd (S : Nat → Bool) : GdP S offM := ⟨fun _ _ => Or.inl rfl, fun _ _ _ _ _ h => absurd rfl h⟩
theorem waysR_gd (most : Int) (S : Nat → Bool) : GdP S (waysR most S).2 := by
  unfold waysR
  by_cases e : cn S 576 = 64
  · rw [if_pos e]
    exact SW_gd ⟨offM_Gd S, fun _ h => h, fun _ _ h => absurd rfl h⟩ (offM_Gd S)
  · rw [if_neg e]
    exact offM_Gd S
theorem GdP.wq {S : Nat → Bool} {M : Mo} {W H : Nat} (h : GdP S M) (hb : 4 ≤ W ∧ W ≤ 12 ∧ 4 ≤ H ∧ H ≤ 12) (hS : ∀ q, S q = true → q < 576 ∧ q % 48 / 4 < W ∧ q / 48 < H) : Wq W H M := by
  obtain ⟨a1, a2⟩ := h
  refine ⟨hb, fun j hj => ?_, a2⟩
  rcases a1 j hj with c | ⟨c1, c2, ⟨d1, d2, d3, d4⟩, c4⟩
  · exact Or.inl c
  · refine Or.inr ⟨c1, c2, ?_⟩
    have hfi : fi M j = 8 * j + (mF M j).toNat := rfl
    have hk : fi M j < 56 := by omega
    have hfo : fo M j = 48 * (mY M j).toNat + 4 * (mX M j).toNat := rfl
    obtain ⟨z1, z2, z3, z4⟩ := fW_last hk
    obtain ⟨y1, y2, y3, y4⟩ := fH_last hk
    have k3 := fW_b hk
    have b1 := fS_in hk z3
    have b2 := fS_in hk y3
    have k1 := hS (z1 + fo M j) (c4 _ (by unfold cvr shf; rw [Bool.and_eq_true, decide_eq_true_iff, Nat.add_sub_cancel]; exact ⟨Nat.le_add_left _ _, z3⟩))
    have k2 := hS (y1 + fo M j) (c4 _ (by unfold cvr shf; rw [Bool.and_eq_true, decide_eq_true_iff, Nat.add_sub_cancel]; exact ⟨Nat.le_add_left _ _, y3⟩))
    exact ⟨d1, by omega, d3, by omega⟩
/-- M with the placing of w; with the first way to fill shape k -/
def plcM (M w : Mo) : Mo := (mX w, mY w, mF w, mN M, mS M)
noncomputable def slM (M : Mo) (k : Nat) : Mo := plcM M (waysR 1000 (mS M k)).2
theorem plcM_is (M w : Mo) : mX (plcM M w) = mX w ∧ mY (plcM M w) = mY w ∧ mF (plcM M w) = mF w ∧ mN (plcM M w) = mN M ∧ mS (plcM M w) = mS M := ⟨rfl, rfl, rfl, rfl, rfl⟩
theorem Wq.pl {W H : Nat} {M M' : Mo} (h : Wq W H M) (hX : mX M' = mX M) (hY : mY M' = mY M) (hF : mF M' = mF M) : Wq W H M' := by
  have e1 : ∀ j, fi M' j = fi M j := fun j => by unfold fi; rw [hF]
  have e2 : ∀ j, fo M' j = fo M j := fun j => by unfold fo; rw [hX, hY]
  have e3 : ∀ j q, cvr M' j q = cvr M j q := fun j q => by unfold cvr; rw [e1, e2]
  obtain ⟨a1, a2, a3⟩ := h
  refine ⟨a1, fun j hj => ?_, fun i j hi hj hij hfi hfj q => ?_⟩
  · rw [hF, hX, hY, e1]
    exact a2 j hj
  · rw [e3, e3]
    rw [hF] at hfi hfj
    exact a3 i j hi hj hij hfi hfj q
theorem Ws.pl {W H : Nat} {M M' : Mo} (h : Ws W H M) (hN : mN M' = mN M) (hS : mS M' = mS M) : Ws W H M' := by
  unfold Ws
  rw [hN, hS]
  exact h
theorem Wf.pl {W H : Nat} {M w : Mo} (h : Wf W H M) (hw : Wq W H w) : Wf W H (plcM M w) := by
  obtain ⟨e1, e2, e3, e4, e5⟩ := plcM_is M w
  exact ⟨hw.pl e1 e2 e3, h.2.pl e4 e5⟩
theorem Wf.sl {W H : Nat} {M : Mo} (h : Wf W H M) {k : Nat} (hk : k < mN M) : Wf W H (slM M k) := Wf.pl h ((waysR_gd 1000 (mS M k)).wq h.1.1 (h.2.2 k hk).1)
end
