/-! REFRESH AND REMEMBER, 1 -/
section
variable {Ln : Nat} {xs : Nat → Int32} {CZ : Nat → ZC} {RZ : Nat → Nat → ZQ → ZP}
/-- how many quarters a piece covers -/
def pN (j : Nat) : Nat := [16, 16, 8, 8, 8, 4, 4].getD j 0
theorem fN_p0 : (List.range 56).all (fun i => decide (fN i = pN (i / 8))) = true := by decide +kernel
theorem fN_p {i : Nat} (hi : i < 56) : fN i = pN (i / 8) := of_decide_eq_true (List.all_eq_true.mp fN_p0 i (List.mem_range.mpr hi))
theorem cn_or {f g h : Nat → Bool} (hf : ∀ i, f i = true → g i = true ∨ h i = true) : ∀ n, cn f n ≤ cn g n + cn h n
  | 0 => by simp [cn]
  | n + 1 => by
    have ih := cn_or hf n
    rw [cn_s, cn_s, cn_s]
    cases e : f n with
    | false => cases g n <;> cases h n <;> simp only [cond_true, cond_false] <;> omega
    | true => rcases hf n e with k | k <;> rw [k] <;> simp only [cond_true] <;> (first | (cases g n <;> simp only [cond_true, cond_false] <;> omega) | (cases h n <;> simp only [cond_true, cond_false] <;> omega))
theorem cvr_cn {W H : Nat} {M : Mo} (hw : Wq W H M) {j : Nat} (hj : j < 7) (hf : mF M j ≠ -1) : cn (cvr M j) 576 ≤ pN j := by
  obtain ⟨f1, f2, f3, f4, _⟩ := hw.form hj hf
  have h1 : cn (cvr M j) 576 ≤ cn (fS (fi M j)) 576 := cn_image (g := fun i => i + fo M j) (fun e he hb => by
    obtain ⟨c1, c2, c3, c4, c5, c6, c7⟩ := cvr_in hw hj hf hb
    exact ⟨e - fo M j, by omega, c5, by omega⟩)
  rw [(fS_box f1).2.2.2.2, fN_p f1, show fi M j / 8 = j by have : fi M j = 8 * j + (mF M j).toNat := rfl; omega] at h1
  exact h1
theorem ow_cn {W H : Nat} {M : Mo} (hw : Wq W H M) : ∀ {p : Nat}, p ≤ 7 → cn (fun q => !decide (ow M p q = -1)) 576 ≤ ((List.range p).map (fun j => (pN j : Int))).sum
  | 0, _ => by
    rw [cn_false (fun i _ => by show (!decide ((-1 : Int) = -1)) = false; simp)]
    decide
  | p + 1, hp => by
    have ih := ow_cn hw (p := p) (by omega)
    rw [List.range_succ, List.map_append, List.sum_append]
    simp only [List.map_cons, List.map_nil, List.sum_cons, List.sum_nil, Int.add_zero]
    by_cases hf : mF M p = -1
    · have e : ∀ q, ow M (p + 1) q = ow M p q := fun q => by rw [ow_s, if_neg (fun c => c.1 hf)]
      simp only [e]
      have : (0 : Int) ≤ (pN p : Int) := Int.natCast_nonneg _
      omega
    · have h1 := cn_or (f := fun q => !decide (ow M (p + 1) q = -1)) (g := fun q => !decide (ow M p q = -1)) (h := cvr M p) (fun q hq => by
        rw [ow_s] at hq
        by_cases e : mF M p ≠ -1 ∧ cvr M p q = true
        · exact Or.inr e.2
        · rw [if_neg e] at hq; exact Or.inl hq) 576
      have h2 := cvr_cn hw (j := p) (by omega) hf
      omega
theorem sil_cn {W H : Nat} {M : Mo} (hw : Wq W H M) : cn (sil M) 576 ≤ 64 := ow_cn hw (Nat.le_refl 7)
/-- the silhouette and its outlines stand for M -/
def SilOK (I : ZI) (L : ZL) (M : Mo) : Prop := (∀ q : Nat, q < 576 → I 530 q = own M q) ∧ RgS L 528 (sil M) ∧ RgM I 528 (sil M) ∧ I 527 2 = partsO (sil M) ∧
  OSr I (runO (sil M) 5000) (oL (runO (sil M) 5000)) ∧ BI (runO (sil M) 5000) (oL (runO (sil M) 5000)) ∧ (I 533 12 = 0 ∨ I 533 12 = 1) ∧ (I 533 12 = 1 ↔ crs (bs (sil M)))
theorem SilOK.fr {I I' : ZI} {L L' : ZL} {M : Mo} (h : SilOK I L M) (h1 : ∀ a b, 527 ≤ a → a ≤ 543 → I' a b = I a b) (h2 : ∀ b, L' 529 b = L 529 b) : SilOK I' L' M := by
  obtain ⟨a1, a2, a3, a4, ⟨b1, b2, b3, b4, b5⟩, a6, a7, a8⟩ := h
  refine ⟨fun q hq => ?_, a2.row h2, a3.row (fun b => h1 _ _ (by omega) (by omega)), ?_, ⟨b1.fr (fun b => h1 _ _ (by omega) (by omega)), ?_, ?_, fun i hi => ?_, fun i hi => ?_⟩, a6, ?_, ?_⟩
  · rw [h1 _ _ (by omega) (by omega)]; exact a1 q hq
  · rw [h1 _ _ (by omega) (by omega)]; exact a4
  · rw [h1 _ _ (by omega) (by omega)]; exact b2
  · rw [h1 _ _ (by omega) (by omega)]; exact b3
  · rw [h1 _ _ (by omega) (by omega), h1 _ _ (by omega) (by omega), h1 _ _ (by omega) (by omega)]; exact b4 i hi
  · rw [h1 _ _ (by omega) (by omega), h1 _ _ (by omega) (by omega), h1 _ _ (by omega) (by omega), h1 _ _ (by omega) (by omega), h1 _ _ (by omega) (by omega)]; exact b5 i hi
  · rw [h1 _ _ (by omega) (by omega)]; exact a7
  · rw [h1 _ _ (by omega) (by omega)]; exact a8
/-- the silhouette's and the outlines' cells -/
def PSil : Nat → Int → Prop := fun a _ => 527 ≤ a ∧ a ≤ 543
theorem own_zR (M : Mo) (q : Nat) : zR (own M q) := by
  have := ow_b M q 7
  unfold own
  exact ⟨by omega, by omega⟩
theorem own_sil (M : Mo) (q : Nat) : own M q ≠ -1 ↔ sil M q = true := by
  unfold sil
  simp
theorem s_X11_refresh (T : ZTh (XX Ln xs) CZ RZ) {d b : Nat} {W H : Nat} (M : Mo) {I : ZI} {L : ZL} {Q : ZQ} (hF : FormOK I L) (hw : Wq W H M) (hP : PlC I 283 M) (h : ∀ I' L', Fr PSil I I' → Fr (fun a _ => a = 529) L L' → SilOK I' L' M → Q (.inl none) I' L') : CZ (d + 5) k_X11_refresh [.inr (.ref 0, 12)] b I L Q := by
  refine T.call rfl ?_
  refine T.go [] 90 ?_
  conv => whnf
  refine ⟨by decide, _, rfl, ?_⟩
  conv => whnf
  refine ⟨by decide, _, rfl, ?_⟩
  conv => whnf
  refine ⟨by decide, _, rfl, ?_⟩
  conv => whnf
  refine ⟨by decide, _, rfl, ?_⟩
  conv => whnf
  refine zinv0 (s_X7_make T (W := W) (H := H) M (by first | assumption | omega | rfl | decide) (by first | assumption | omega | rfl | decide) (by first | assumption | omega | rfl | decide) ?_)
  intro I_15 L_15 hf_15 hg_15 hv_15 hS_15 hM_15
  conv => whnf
  refine ⟨by decide, _, rfl, ?_⟩
  conv => whnf
  refine zinv0 (s_X7_countParts T (sil M) (by intro q hq; rw [hv_15 q hq]; exact ⟨own_zR M q, own_sil M q⟩) ?_)
  intro I_22 hf_22 hp_22
  conv => whnf
  refine ⟨by decide, _, rfl, ?_⟩
  conv => whnf
  refine ⟨by decide, _, rfl, ?_⟩
  conv => whnf
  refine zinv0 (s_X3_make T (sil M) (by intro q hq; rw [hf_22 _ _ (by omega), hv_15 q hq]; exact ⟨own_zR M q, own_sil M q⟩) (by exact sil_cn hw) ?_)
  intro I_33 hf_33 hB_33 hS_33 hBI_33 ht_33 hc_33
  conv => whnf
  refine h _ L_15 (((hf_15.mono (fun a b c => by unfold PSil; omega)).trans (hf_22.mono (fun a b c => by unfold PSil; omega))).trans (hf_33.mono (fun a b c => by unfold PSil; unfold PO at c; omega))) hg_15 ⟨fun q hq => ?_, hS_15, hM_15.row (fun b => ?_), ?_, hS_33, hBI_33, ht_33, hc_33⟩
  · rw [hf_33 _ _ (by unfold PO; omega), hf_22 _ _ (by omega)]; exact hv_15 q hq
  · rw [hf_33 _ _ (by unfold PO; omega), hf_22 _ _ (by omega)]
  · rw [hf_33 _ _ (by unfold PO; omega)]; exact hp_22
/-- the references of the states for undo -/
def paR : List Nat := [305, 327, 349, 371, 393, 415, 437, 459]
theorem pa_st {s : Nat} (h : s ∈ paR) : s ∈ stR ∧ 305 ≤ s ∧ s ≤ 459 := by
  have : paR.all (fun s => decide (s ∈ stR ∧ 305 ≤ s ∧ s ≤ 459)) = true := by decide +kernel
  exact of_decide_eq_true (List.all_eq_true.mp this s h)
/-- the row of states for undo holds each of them once; the first n are the past -/
def PaOK (I : ZI) (L : ZL) (W H : Nat) (P : Nat → Mo) (n : Nat) : Prop := n ≤ 8 ∧ I 0 3 = n ∧
  (∀ i : Nat, i < 8 → ∃ s : Nat, s ∈ paR ∧ I 304 i = s) ∧ (∀ i j : Nat, i < 8 → j < 8 → i ≠ j → I 304 i ≠ I 304 j) ∧
  (∀ i, i < n → mN (P i) ≤ 8 ∧ StC I L (I 304 i).toNat W H (P i))
theorem PaOK.fr {I I' : ZI} {L L' : ZL} {W H : Nat} {P : Nat → Mo} {n : Nat} (h : PaOK I L W H P n) (h0 : I' 0 3 = I 0 3) (h1 : ∀ a b, 304 ≤ a → a ≤ 480 → I' a b = I a b) (h2 : ∀ a b, 304 ≤ a → a ≤ 480 → L' a b = L a b) : PaOK I' L' W H P n := by
  obtain ⟨a1, a2, a3, a4, a5⟩ := h
  refine ⟨a1, by rw [h0]; exact a2, fun i hi => ?_, fun i j hi hj hij => ?_, fun i hi => ⟨(a5 i hi).1, ?_⟩⟩
  · rw [h1 _ _ (by omega) (by omega)]; exact a3 i hi
  · rw [h1 _ _ (by omega) (by omega), h1 _ _ (by omega) (by omega)]; exact a4 i j hi hj hij
  · obtain ⟨s, s1, s2⟩ := a3 i (by omega)
    have := pa_st s1
    rw [h1 _ _ (by omega) (by omega)]
    have h9 := (a5 i hi).2
    rw [s2] at h9 ⊢
    exact h9.fr (a5 i hi).1 (fun a b _ _ => h1 _ _ (by omega) (by omega)) (fun a b _ _ => h2 _ _ (by omega) (by omega))
/-- one more state to go back to; the ninth pushes the oldest one out -/
def psh (P : Nat → Mo) (n : Nat) (M : Mo) : Nat → Mo := if n = 8 then (fun i => if i = 7 then M else P (i + 1)) else (fun i => if i = n then M else P i)
def psn (n : Nat) : Nat := if n = 8 then 8 else n + 1
/-- the past's cells -/
def PPa : Nat → Int → Prop := fun a b => (304 ≤ a ∧ a ≤ 480) ∨ (a = 0 ∧ b = 3)
theorem l_remB (T : ZTh (XX Ln xs) CZ RZ) {d b : Nat} {Q : ZQ} {W H n : Nat} {P : Nat → Mo} {M : Mo} {I0 I : ZI} {L : ZL} (hP : PaOK I L W H P n) (hn : n < 8) (hM : mN M ≤ 8 ∧ StC I L 282 W H M) (hfr : Fr PPa I0 I) (h : ∀ I' L', Fr PPa I0 I' → Fr (fun a _ => 304 ≤ a ∧ a ≤ 480) L L' → PaOK I' L' W H (fun i => if i = n then M else P i) (n + 1) → Q (.inl none) I' L') : RZ (d + 2) k_X11_remember Q 58 [.inr (.ref 0, 12), zj, zj] [] b I L := by
  obtain ⟨p1, p2, p3, p4, p5⟩ := id hP
  obtain ⟨s, s1, s2⟩ := p3 n hn
  obtain ⟨s3, s4, s5⟩ := pa_st s1
  have hI : I 304 (I 0 3) = s := by rw [p2]; exact s2
  refine T.go [] 90 ?_
  conv => whnf
  refine ⟨by decide, _, rfl, ?_⟩
  conv => whnf
  refine ⟨by decide, ?_⟩
  conv => whnf
  refine ⟨⟨rfl, by omega⟩, ?_⟩
  conv => whnf
  refine ⟨by decide, _, rfl, ?_⟩
  conv => whnf
  rw [hI]
  rw [show ((s : Nat) : Int).toNat = s from Int.toNat_natCast s]
  refine zinv0 (s_X8_copy T M (by exact s3) (by decide) (by omega) (by exact hM.1) (by exact hM.2) ?_)
  intro I_71 L_71 hf_71 hg_71 hM_71
  conv => whnf
  refine ⟨by decide, ?_⟩
  conv => whnf
  refine ⟨by decide, ?_⟩
  conv => whnf
  have hne : ∀ i : Nat, i < 8 → i ≠ n → ∀ t : Nat, t ∈ paR → I 304 i = t → t + 22 ≤ s ∨ s + 22 ≤ t := fun i hi hin t ht e => by
    have hts := pa_st ht
    have hd : t ≠ s := fun c => p4 i n hi hn hin (by rw [e, c, s2])
    have := st_apart hts.1 s3 hd
    omega
  have e304 : ∀ b, I_71 304 b = I 304 b := fun b => hf_71 _ _ (by unfold stP; omega)
  refine h _ L_71 ((hfr.trans (hf_71.mono (fun a b c => by unfold stP at c; unfold PPa; omega))).v2 (by unfold PPa; omega)) (hg_71.mono (fun a b c => by unfold stP at c; omega)) ⟨by omega, ?_, fun i hi => ?_, fun i j hi hj hij => ?_, fun i hi => ?_⟩
  · rw [v2_eq, hf_71 _ _ (by unfold stP; omega), p2]
    omega
  · rw [v2_ne (by omega), e304]; exact p3 i hi
  · rw [v2_ne (by omega), v2_ne (by omega), e304, e304]; exact p4 i j hi hj hij
  · rw [v2_ne (by omega), e304]
    by_cases e : i = n
    · subst e
      dsimp only
      rw [if_pos rfl, s2]
      exact ⟨hM.1, hM_71.fr hM.1 (fun a b _ _ => v2_ne (by intro c; omega)) (fun a b _ _ => rfl)⟩
    · dsimp only
      rw [if_neg e]
      obtain ⟨t, t1, t2⟩ := p3 i (by omega)
      have hap := hne i (by omega) e t t1 t2
      have ht := pa_st t1
      refine ⟨(p5 i (by omega)).1, ?_⟩
      have h9 := (p5 i (by omega)).2
      rw [t2] at h9 ⊢
      exact h9.fr (p5 i (by omega)).1 (fun a b h1 h2 => by
        have : a ≠ 0 := by omega
        rw [v2_ne (fun c => this c.1), hf_71 _ _ (by unfold stP; rw [Int.toNat_natCast] at h1 h2; omega)]) (fun a b h1 h2 => hg_71 _ _ (by unfold stP; rw [Int.toNat_natCast] at h1 h2; omega))
end
