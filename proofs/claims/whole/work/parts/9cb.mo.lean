/-! LOOKS, COMPARED -/
section
variable {Ln : Nat} {xs : Nat → Int32} {CZ : Nat → ZC} {RZ : Nat → Nat → ZQ → ZP}
theorem lkq_iff {A B : Nat → Bool} {k : Nat} : lkq A B k = true ↔ lk8 A k = nrm B := by
  unfold lkq
  rw [dc_iff]
  constructor
  · intro h
    exact (lk8_Nz A k).ext (nrm_Nz B) h
  · intro h z _
    rw [h]
    rfl
theorem nrm_0 {S : Nat → Bool} (h : cn S 576 = 0) : nrm S = fun _ => false := by
  funext z
  exact lk8_0 h (its := 0) (by decide) z
theorem nrm_ne {S : Nat → Bool} (h : ¬ cn S 576 = 0) : ¬ cn (nrm S) 576 = 0 := by
  obtain ⟨-, ⟨q, c1, c2, -⟩, -⟩ := nrm_ext h
  exact cn_ex c1 c2
theorem cn_nrm (S : Nat → Bool) : cn (nrm S) 576 = cn S 576 := by
  by_cases h0 : cn S 576 = 0
  · rw [nrm_0 h0, h0]
    exact cn_false (fun _ _ => rfl)
  · obtain ⟨g0, -⟩ := ext_of h0
    have hbx := box_le S
    have h1 : cn (nrm S) 576 ≤ cn S 576 := cn_image (g := mNq S) (fun z hz h => (nrm_im h0 z).mp h)
    have h2 : cn S 576 ≤ cn (nrm S) 576 := cn_image (g := fun z => 48 * (z / 48 + tp S) + (z % 48 + 4 * lt S)) (fun q hq h => by
      have k := g0 q hq h
      have hm : nrm S (mNq S q) = true := (nrm_im h0 _).mpr ⟨q, hq, h, rfl⟩
      refine ⟨mNq S q, nrm_Nz S _ hm, hm, ?_⟩
      unfold mNq gx gy
      unfold gx gy at k
      omega)
    omega
theorem AL_iff {A B : Nat → Bool} : AL A B ↔ nrm A = nrm B := by
  constructor
  · rintro ⟨-, -, -, h⟩
    exact (nrm_Nz A).ext (nrm_Nz B) h
  · intro h
    have hc : cn A 576 = cn B 576 := by rw [← cn_nrm A, ← cn_nrm B, h]
    have ha := box_le A
    have hb := box_le B
    by_cases h0 : cn A 576 = 0
    · have e1 := box_0 h0
      have e2 := box_0 (S := B) (by rw [← hc]; exact h0)
      exact ⟨hc, by omega, by omega, fun z _ => by rw [h]⟩
    · have e1 := (nrm_ext h0).box
      have e2 := (nrm_ext (S := B) (by rw [← hc]; exact h0)).box
      rw [h] at e1
      exact ⟨hc, by omega, by omega, fun z _ => by rw [h]⟩
theorem nrm_lk8 (S : Nat → Bool) {k : Nat} (hk : k < 8) : nrm (lk8 S k) = lk8 S k := by
  by_cases h0 : cn S 576 = 0
  · have e : lk8 S k = fun _ => false := by
      funext z
      exact lk8_0 h0 hk z
    rw [e]
    exact nrm_0 (cn_false (fun _ _ => rfl))
  · obtain ⟨w, h, g⟩ := lk8_ext h0 k
    have hb := g.box
    exact nrm_id hb.1 hb.2.1 (lk8_Nz S k)
theorem AL_lkq (A B : Nat → Bool) {k : Nat} (hk : k < 8) : dc (AL (lk8 A k) B) = lkq A B k := by
  apply Bool.eq_iff_iff.mpr
  rw [dc_iff, AL_iff, nrm_lk8 A hk, lkq_iff]
theorem flk_lik (A B : Nat → Bool) : ∀ m k, k + m ≤ 8 → flk A B m k = likA A B m k
  | 0, _, _ => rfl
  | m + 1, k, h => by
    show (bif dc (AL (lk8 A k) B) then (k : Int) else flk A B m (k + 1)) = if lkq A B k = true then (k : Int) else likA A B m (k + 1)
    rw [AL_lkq A B (by omega), flk_lik A B m (k + 1) (by omega)]
    cases lkq A B k <;> rfl
/-- the look back -/
def ivL (k : Nat) : Nat := if k = 0 then 0 else if k < 4 then 4 - k else k
theorem lkq_sym {A B : Nat → Bool} {k : Nat} (hk : k < 8) (h : lkq A B k = true) : lkq B A (ivL k) = true := by
  rw [lkq_iff] at h ⊢
  have hik : ivL k < 8 := by
    unfold ivL
    split
    · omega
    · split <;> omega
  by_cases h0 : cn A 576 = 0
  · have e : nrm B = fun _ => false := by
      rw [← h]
      funext z
      exact lk8_0 h0 hk z
    have hB : cn B 576 = 0 := by
      rw [← cn_nrm, e]
      exact cn_false (fun _ _ => rfl)
    rw [nrm_0 h0]
    funext z
    exact lk8_0 hB hik z
  · have hB : ¬ cn B 576 = 0 := by
      rw [← cn_nrm, ← h]
      obtain ⟨w, h9, g⟩ := lk8_ext h0 k
      obtain ⟨-, ⟨q, c1, c2, -⟩, -⟩ := g
      exact cn_ex c1 c2
    have hnA := nrm_ext h0
    by_cases h4 : k < 4
    · have e1 : trI (nrm A) k = nrm B := by
        rw [← h]
        unfold lk8
        rw [if_pos h4]
      by_cases hz : k = 0
      · subst hz
        exact e1.symm
      · have e2 : ivL k = 4 - k := by unfold ivL; rw [if_neg hz, if_pos h4]
        rw [e2]
        unfold lk8
        rw [if_pos (by omega), ← e1, trI_add, show k + (4 - k) = 4 by omega]
        exact trn4 hnA (nrm_Nz A)
    · have e1 : trI (flp A) (k - 4) = nrm B := by
        rw [← h]
        unfold lk8
        rw [if_neg h4]
      have e2 : ivL k = k := by unfold ivL; rw [if_neg (by omega), if_neg h4]
      rw [e2]
      unfold lk8
      rw [if_neg h4, ← flp_nrm hB, ← e1, flp_trI (flp_ext h0) (flp_Nz A), ← flp_nrm h0]
      exact flp2 hnA (nrm_Nz A)
theorem lik_spec (A B : Nat → Bool) : ∀ m k, (likA A B m k = -1 ∧ ∀ j, k ≤ j → j < k + m → lkq A B j = false) ∨ ∃ j, k ≤ j ∧ j < k + m ∧ likA A B m k = j ∧ lkq A B j = true ∧ ∀ i, k ≤ i → i < j → lkq A B i = false
  | 0, k => Or.inl ⟨rfl, fun j h1 h2 => absurd h2 (by omega)⟩
  | m + 1, k => by
    have hs : likA A B (m + 1) k = (if lkq A B k = true then (k : Int) else likA A B m (k + 1)) := rfl
    rw [hs]
    by_cases e : lkq A B k = true
    · rw [if_pos e]
      exact Or.inr ⟨k, by omega, by omega, rfl, e, fun i h1 h2 => absurd h2 (by omega)⟩
    · rw [if_neg e]
      have ef : lkq A B k = false := by
        cases g : lkq A B k with
        | true => exact absurd g e
        | false => rfl
      rcases lik_spec A B m (k + 1) with ⟨a, b⟩ | ⟨j, a, b, c, d, f⟩
      · refine Or.inl ⟨a, fun j h1 h2 => ?_⟩
        by_cases ej : j = k
        · rw [ej]; exact ef
        · exact b j (by omega) (by omega)
      · refine Or.inr ⟨j, by omega, by omega, c, d, fun i h1 h2 => ?_⟩
        by_cases ei : i = k
        · rw [ei]; exact ef
        · exact f i (by omega) h2
/-- how two sets are alike, by the first look -/
def clsL (l : Int) : Int := if l = -1 then 0 else if l = 0 then 2 else if l < 4 then 3 else 4
theorem cls_sym (A B : Nat → Bool) : clsL (likA A B 8 0) = clsL (likA B A 8 0) := by
  have iv : ∀ k, k < 8 → (k = 0 ∧ ivL k = 0) ∨ (1 ≤ k ∧ k < 4 ∧ 1 ≤ ivL k ∧ ivL k < 4) ∨ (4 ≤ k ∧ 4 ≤ ivL k ∧ ivL k < 8) := fun k hk => by
    unfold ivL
    by_cases e : k = 0
    · rw [if_pos e]; omega
    · rw [if_neg e]
      by_cases e2 : k < 4
      · rw [if_pos e2]; omega
      · rw [if_neg e2]; omega
  rcases lik_spec A B 8 0 with ⟨a, b⟩ | ⟨j, a, b, c, d, f⟩
  · rcases lik_spec B A 8 0 with ⟨a', b'⟩ | ⟨j', a', b', c', d', f'⟩
    · rw [a, a']
    · have h1 := lkq_sym (by omega) d'
      have h2 := iv j' (by omega)
      rw [b (ivL j') (by omega) (by omega)] at h1
      cases h1
  · have h1 := lkq_sym (by omega) d
    have h2 := iv j (by omega)
    rcases lik_spec B A 8 0 with ⟨a', b'⟩ | ⟨j', a', b', c', d', f'⟩
    · rw [b' (ivL j) (by omega) (by omega)] at h1
      cases h1
    · have h3 := lkq_sym (by omega) d'
      have h4 := iv j' (by omega)
      have g1 : ¬ ivL j < j' := fun g => by rw [f' _ (by omega) g] at h1; cases h1
      have g2 : ¬ ivL j' < j := fun g => by rw [f _ (by omega) g] at h3; cases h3
      rw [c, c']
      have e : ∀ j : Nat, clsL (j : Int) = if j = 0 then 2 else if j < 4 then 3 else 4 := fun j => by
        unfold clsL
        repeat' split
        all_goals omega
      rw [e, e]
      repeat' split
      all_goals omega
theorem nrm_congr {A B : Nat → Bool} (h : ∀ q, q < 576 → A q = B q) : nrm A = nrm B := by
  have h1 : ∀ x, x < 12 → colO A x = colO B x := fun x hx => by
    unfold colO
    refine dc_congr ⟨?_, ?_⟩
    · rintro ⟨y, hy, k, hk, g⟩
      exact ⟨y, hy, k, hk, by rw [← h _ (by omega)]; exact g⟩
    · rintro ⟨y, hy, k, hk, g⟩
      exact ⟨y, hy, k, hk, by rw [h _ (by omega)]; exact g⟩
  have h2 : ∀ y, y < 12 → rowO A y = rowO B y := fun y hy => by
    unfold rowO
    refine dc_congr ⟨?_, ?_⟩
    · rintro ⟨i, hi, g⟩
      exact ⟨i, hi, by rw [← h _ (by omega)]; exact g⟩
    · rintro ⟨i, hi, g⟩
      exact ⟨i, hi, by rw [h _ (by omega)]; exact g⟩
  have e1 : lt A = lt B := by unfold lt; rw [lo_congr h1]
  have e2 : tp A = tp B := by unfold tp; rw [lo_congr h2]
  funext z
  unfold nrm
  rw [e1, e2]
  by_cases c1 : z / 48 + tp B < 12
  · by_cases c2 : z % 48 + 4 * lt B < 48
    · rw [h _ (by omega)]
    · rw [decide_eq_false c2]
      rfl
  · rw [decide_eq_false c1]
    rfl
theorem nrm_as_lk (B : Nat → Bool) : lk8 B 0 = nrm B := rfl
/-- the reference's alike -/
noncomputable def alkR (M : Mo) (k : Nat) : Int := if dc (∀ q, q < 576 → mS M k q = sil M q) = true then 1 else clsL (likA (mS M k) (sil M) 8 0)
theorem alk_eq (M : Mo) (k : Nat) : alkR M k = alikeA M k := by
  unfold alkR alikeA
  rw [flk_lik _ _ 8 0 (by omega), cls_sym]
  rfl
theorem alk_0 (M : Mo) (k : Nat) : alkR M k = 0 ↔ flk (sil M) (mS M k) 8 0 = -1 := by
  rw [alk_eq]
  unfold alikeA
  by_cases e : dc (∀ q, q < 576 → mS M k q = sil M q) = true
  · rw [if_pos e]
    have h1 : lkq (sil M) (mS M k) 0 = true := by
      rw [lkq_iff, nrm_as_lk]
      exact nrm_congr (fun q hq => (dc_iff.mp e q hq).symm)
    refine ⟨fun h => absurd h (by decide), fun h => ?_⟩
    rw [flk_lik _ _ 8 0 (by omega)] at h
    have h2 : likA (sil M) (mS M k) 8 0 = 0 := if_pos h1
    rw [h2] at h
    exact absurd h (by decide)
  · rw [if_neg e]
    repeat' split
    all_goals omega
end
