/-! THE SILHOUETTE, 2: made anew -/
section
variable {Ln : Nat} {xs : Nat → Int32} {CZ : Nat → ZC} {RZ : Nat → Nat → ZQ → ZP}
theorem sil_step {W H : Nat} {M : Mo} (hw : Wq W H M) {p : Nat} (hp : p < 7) (hf : mF M p ≠ -1) (q : Nat) : ((!decide (ow M p q = -1)) ^^ cvr M p q) = !decide (ow M (p + 1) q = -1) := by
  rw [ow_s]
  cases hc : cvr M p q with
  | false => simp
  | true =>
    have e : ow M p q = -1 := by
      apply ow_none
      intro j hj hf2 hc2
      exact hw.2.2 j p (by omega) hp (by omega) hf2 hf q hc2 hc
    have e2 : ¬ ((p : Int) = -1) := by omega
    simp [e, hf, e2]
theorem l_make (T : ZTh (XX Ln xs) CZ RZ) {d b : Nat} {Q : ZQ} {W H : Nat} {M : Mo} {I0 : ZI} {L0 : ZL} (hF : FormOK I0 L0) (hw : Wq W H M) (hP : PlC I0 283 M) (h : ∀ I' L', Fr (fun a _ => a = 530 ∨ a = 528) I0 I' → Fr (fun a _ => a = 529) L0 L' → (∀ q : Nat, q < 576 → I' 530 (q : Int) = own M q) → RgS L' 528 (sil M) → RgM I' 528 (sil M) → Q (.inl none) I' L') (m : Nat) : ∀ (p : Nat) (I : ZI) (L : ZL), (p ≤ 7) → (Fr (fun a _ => a = 530) I0 I) → (Fr (fun a _ => a = 529) L0 L) → (∀ q : Nat, q < 576 → I 530 (q : Int) = ow M p q) → (RgS L 528 (fun q => !decide (ow M p q = -1))) → 7 - (p : Int) < (m : Int) → RZ (d + 2) k_X7_make Q 21 [.inr (.ref 527, 8), .inr (.ref 1, 110056), .inr (.ref 283, 6), .inl ((p : Int)), zj] [] b I L := by
  induction m with
  | zero =>
    intro p I L hp hfr hgr hv hS hm
    exfalso
    omega
  | succ m ih =>
    intro p I L hp hfr hgr hv hS hm
    have hF2 : FormOK I L := hF.fr (fun a b _ _ => hfr _ _ (by omega)) (fun a b _ _ => hgr _ _ (by omega))
    have hP2 : PlC I 283 M := hP.fr (fun a b _ _ => hfr _ _ (by omega))
    obtain ⟨⟨w1, w2, w3, w4⟩, -⟩ := id hw
    refine T.go [21] 90 ?_
    conv => whnf
    refine ⟨by omega, fun c24 => ?_, fun c24 => ?_⟩
    · conv => whnf
      refine ⟨by decide, _, rfl, ?_⟩
      conv => whnf
      refine zinv0 (s_X6_measure T (sil M) (by rfl) (by show (¬ (_ : Nat) = _) ∧ (¬ (_ : Nat) = _); omega) (by obtain rfl : p = 7 := (by omega); exact hS) ?_)
      intro I_107 hf_107 hM_107
      conv => whnf
      obtain rfl : p = 7 := by omega
      exact h _ L ((hfr.mono (fun a b c => Or.inl c)).trans (hf_107.mono (fun a b c => Or.inr c.1))) hgr (fun q hq => by rw [hf_107 _ _ (by omega)]; exact hv q hq) hS hM_107
    · conv => whnf
      refine zinv0 (s_X5_isOff T  (by rfl) (by omega) (by first | assumption | omega | rfl | decide) (by exact hP2.zR hw (by omega) (by omega)) ?_ ?_)
      · intro cha_29
        conv => whnf
        refine ⟨by decide, fun _ => ?_, fun c => absurd c (by decide)⟩
        conv => whnf
        have hFp : mF M p = -1 := (hP2 p (by omega) (by omega)).1.symm.trans cha_29
        have es : ∀ q, ow M (p + 1) q = ow M p q := fun q => by rw [ow_s, if_neg (fun c => c.1 hFp)]
        exact ih (p + 1) I L (by omega) hfr hgr (fun q hq => by rw [es]; exact hv q hq) (hS.congr (fun q hq => by simp only [es])) (by omega)
      · intro ch2a_29
        conv => whnf
        refine ⟨by decide, fun c => absurd c (by decide), fun _ => ?_⟩
        conv => whnf
        refine ⟨by decide, _, rfl, ?_⟩
        conv => whnf
        refine ⟨by omega, by decide, ?_⟩
        conv => whnf
        have hFp : mF M p ≠ -1 := fun e => ch2a_29 ((hP2 p (by omega) (by omega)).1.trans e)
        obtain ⟨f1, f2, f3, f4, f5⟩ := hw.form (by omega) hFp
        obtain ⟨fx, fy⟩ := (hP2 p (by omega) (by omega)).2 hFp
        have ff : I 286 p = mF M p := (hP2 p (by omega) (by omega)).1
        have fx : I 284 p = mX M p := fx
        have fy : I 285 p = mY M p := fy
        obtain ⟨gS, gM, -, -, -, -⟩ := hF2 (fi M p) f1
        obtain ⟨-, -, -, y3, y5⟩ := za_fm f1
        have y3' : za (2 + 5 * fi M p) 3 = 5 + 5 * fi M p + 1 := by rw [y3]; omega
        obtain ⟨v1, v2, v3, v4, v5⟩ := fS_box f1
        obtain ⟨i1, i2, i3, i4⟩ := id f5
        have fwb := fW_b f1
        have ex : mX M p = (((mX M p).toNat : Nat) : Int) := by omega
        have ey : mY M p = (((mY M p).toNat : Nat) : Int) := by omega
        have fo1 : fo M p = 48 * (mY M p).toNat + 4 * (mX M p).toNat := rfl
        rw [ff]
        refine zinv0 (s_X11_formAt T (fi M p) (by omega) (by exact f1) ?_)
        conv => whnf
        refine ⟨(show (¬ (_ : Nat) = _) ∧ (¬ (_ : Nat) = _) from by omega), _, y3', ?_⟩
        conv => whnf
        refine ⟨by decide, _, rfl, ?_⟩
        conv => whnf
        refine ⟨by decide, _, rfl, ?_⟩
        conv => whnf
        refine ⟨by omega, by decide, ?_⟩
        conv => whnf
        refine ⟨by decide, _, rfl, ?_⟩
        conv => whnf
        refine ⟨by omega, by decide, ?_⟩
        conv => whnf
        rw [fx, fy, ex, ey]
        refine zinv0 (s_X6_exchange T (fun q => !decide (ow M p q = -1)) (fS (fi M p)) (x := (mX M p).toNat) (y := (mY M p).toNat) (by rfl) (by show (¬ (_ : Nat) = _) ∧ (¬ (_ : Nat) = _); omega) (by exact y5) (by show (¬ (_ : Nat) = _) ∧ (¬ (_ : Nat) = _); omega) (by omega) (by exact hS) (by exact gS) (by exact gM.at.2.2.2) (by exact v1) (by rw [v2]; omega) (by exact fS_Bx f1 (by omega) (by omega)) ?_)
        intro L_69 hf_69 hS_69
        conv => whnf
        refine ⟨by decide, _, rfl, ?_⟩
        conv => whnf
        refine ⟨by omega, by decide, ?_⟩
        conv => whnf
        refine ⟨by decide, _, rfl, ?_⟩
        conv => whnf
        refine ⟨by omega, by decide, ?_⟩
        conv => whnf
        rw [show (48 : Int) * (I 285 p) + 4 * (I 284 p) = ((fo M p : Nat) : Int) by omega]
        refine zinv0 (s_X7_own T (fi M p) (mX M p).toNat (mY M p).toNat (f := fo M p) (by exact hF2.fr (fun a b _ _ => rfl) (fun a b _ _ => hf_69 _ _ (by omega))) (by exact f1) (by exact fo1) (by omega) (by omega) ?_)
        intro I_94 hf_94 hv_94
        conv => whnf
        refine T.fg [4] ?_
        refine ih (p + 1) _ _ (by omega) (hfr.trans (hf_94.mono (fun a b c => c))) (hgr.trans (hf_69.mono (fun a b c => c))) (fun q hq => ?_) (hS_69.congr (fun q hq => sil_step hw (by omega) hFp q)) (by omega)
        rw [hv_94 q hq, hv q hq, ow_s]
        have e : (shf (fS (fi M p)) (fo M p) q = true) ↔ (mF M p ≠ -1 ∧ cvr M p q = true) := ⟨fun c => ⟨hFp, c⟩, fun c => c.2⟩
        simp only [e]
theorem s_X7_make (T : ZTh (XX Ln xs) CZ RZ) {d b : Nat} {W H : Nat} (M : Mo) {I : ZI} {L : ZL} {Q : ZQ} (hF : FormOK I L) (hw : Wq W H M) (hP : PlC I 283 M) (h : ∀ I' L', Fr (fun a _ => a = 530 ∨ a = 528) I I' → Fr (fun a _ => a = 529) L L' → (∀ q : Nat, q < 576 → I' 530 (q : Int) = own M q) → RgS L' 528 (sil M) → RgM I' 528 (sil M) → Q (.inl none) I' L') : CZ (d + 3) k_X7_make [.inr (.ref 527, 8), .inr (.ref 1, 110056), .inr (.ref 283, 6)] b I L Q := by
  refine T.call rfl ?_
  refine T.go [21] 90 ?_
  conv => whnf
  refine ⟨by decide, _, rfl, ?_⟩
  conv => whnf
  refine zinv0 (s_fill576 T  (by show (¬ (_ : Nat) = _) ∧ (¬ (_ : Nat) = _); omega) ?_)
  intro I_5 hf_5 hv_5
  conv => whnf
  refine ⟨by decide, _, rfl, ?_⟩
  conv => whnf
  refine ⟨by decide, _, rfl, ?_⟩
  conv => whnf
  refine zinv0 (s_J7_fill_d0a16 T   ?_)
  intro L_16 hf_16 hv_16
  conv => whnf
  refine l_make T (hF.fr (fun a b _ _ => hf_5 _ _ (by omega)) (fun a b _ _ => hf_16 _ _ (by omega))) hw (hP.fr (fun a b _ _ => hf_5 _ _ (by omega))) (fun I2 L2 f1 f2 f3 f4 f5 => h I2 L2 ((hf_5.mono (fun a b c => Or.inl c)).trans f1) (Fr.trans hf_16 f2) f3 f4 f5) 8 0 _ _ (by omega) (Fr.refl _) (Fr.refl _) (fun q hq => ?_) (fun y hy i => ?_) (by omega)
  · exact hv_5 q (by omega) (by omega)
  · rw [hv_16 _ (by omega) (by omega), bt_zero]
    show false = (decide (i < 48) && !decide ((-1 : Int) = -1))
    simp

end
