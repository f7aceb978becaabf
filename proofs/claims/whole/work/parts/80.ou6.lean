/-! OUTLINES, 6: all walks -/
section
variable {Ln : Nat} {xs : Nat → Int32} {CZ : Nat → ZC} {RZ : Nat → Nat → ZQ → ZP}
theorem runO_skip {O : Nat → Bool} {k : Nat} (h : bs O k = false ∨ oW (runO O k) k = true) : runO O (k + 1) = runO O k := by
  rw [runO_s]
  rcases h with h | h <;> rw [h] <;> simp
theorem runO_walk {O : Nat → Bool} {k : Nat} (h : bs O k = true) (h2 : oW (runO O k) k = false) : runO O (k + 1) = walk1 O (runO O k) k := by
  rw [runO_s, h, h2]
  rfl
theorem runO_to {O : Nat → Bool} {p : Nat} (h : ∀ d, d < 8 → bs O (8 * p + d) = false) : ∀ {w : Nat}, w ≤ 8 → runO O (8 * p + w) = runO O (8 * p + 8)
  | w, hw => by
    have key : ∀ n w, w + n = 8 → runO O (8 * p + w) = runO O (8 * p + 8) := by
      intro n
      induction n with
      | zero => intro w e; rw [show w = 8 by omega]
      | succ n ih =>
        intro w e
        rw [← ih (w + 1) (by omega), show 8 * p + (w + 1) = 8 * p + w + 1 by omega, runO_skip (Or.inl (h w (by omega)))]
    exact key (8 - w) w (by omega)
theorem run_room {O : Nat → Bool} (hO : cn O 576 ≤ 64) {s : OS} {k : Nat} (h : WI O s) (hb : bs O k = true) (hw : oW s k = false) : oL s < 192 := ((GW.beg h hb hw).room hO).2
theorem l_wallI (T : ZTh (XX Ln xs) CZ RZ) {d b : Nat} {Q : ZQ} {O : Nat → Bool} {p : Nat} {I0 : ZI} {L : ZL} (hO : cn O 576 ≤ 64) (hB : Bits I0 534 (bs O)) (hp : p < 625) (hk : ∀ I', Fr PO I0 I' → OSr I' (runO O (8 * (p + 1))) (oL (runO O (8 * (p + 1)))) → BI (runO O (8 * (p + 1))) (oL (runO O (8 * (p + 1)))) → RZ (d + 2) k_X3_walkAll Q 2 [.inr (.ref 533, 4), .inl ((p : Int) + 1), zj, zj] [] b I' L) (m : Nat) : ∀ (w : Nat) (I : ZI), (w ≤ 8) → (Fr PO I0 I) → (OSr I (runO O (8 * p + w)) (oL (runO O (8 * p + w)))) → (BI (runO O (8 * p + w)) (oL (runO O (8 * p + w)))) → 8 - (w : Int) < (m : Int) → RZ (d + 2) k_X3_walkAll Q 11 [.inr (.ref 533, 4), .inl ((p : Int)), .inl ((w : Int)), zj] [] b I L := by
  induction m with
  | zero =>
    intro w I hw hfr hS hBI hm
    exfalso
    omega
  | succ m ih =>
    intro w I hw hfr hS hBI hm
    have hB2 : Bits I 534 (bs O) := hB.fr (fun b => hfr _ _ (by unfold PO; omega))
    obtain ⟨m0, m1, m2, m3⟩ := hB2 p hp
    obtain ⟨k0, k1, k2, k3⟩ := hS.1 p hp
    have hzb := hB2.zero hp
    have b1 := fun hd : w < 8 => zb m1 hd
    have b2 := fun hd : w < 8 => zb k1 hd
    have hWI := (runO_WI hO (8 * p + w)).1
    have h10 := hS.2.1
    refine T.go [2, 11] 90 ?_
    conv => whnf
    refine ⟨by omega, fun c14 => ?_, fun c14 => ?_⟩
    · conv => whnf
      refine T.fg [2] ?_
      have e8 : w = 8 := by omega
      subst e8
      exact hk I hfr hS hBI
    · conv => whnf
      refine ⟨by decide, _, rfl, ?_⟩
      conv => whnf
      refine ⟨by omega, by decide, ?_⟩
      conv => whnf
      refine ⟨by exact hzb.2, fun c23 => ?_, fun c23 => ?_⟩
      · conv => whnf
        refine T.fg [2] ?_
        have e8 := runO_to (fun d hd => (hzb.1.mp c23) d hd) hw
        rw [e8] at hS hBI
        exact hk I hfr hS hBI
      · conv => whnf
        refine ⟨by omega, ?_⟩
        conv => whnf
        refine ⟨by decide, _, rfl, ?_⟩
        conv => whnf
        refine ⟨by omega, by decide, ?_⟩
        conv => whnf
        rw [m2]
        refine ⟨by exact (b1 (by omega)).2.2.2.1, fun c38 => ?_, fun c38 => ?_⟩
        · conv => whnf
          refine T.fg [3] ?_
          have es := runO_skip (O := O) (k := 8 * p + w) (Or.inl (by rw [← m3 w (by omega)]; exact (b1 (by omega)).2.1.mp c38))
          exact ih (w + 1) I (by omega) hfr (by rw [show 8 * p + (w + 1) = 8 * p + w + 1 by omega, es]; exact hS) (by rw [show 8 * p + (w + 1) = 8 * p + w + 1 by omega, es]; exact hBI) (by omega)
        · conv => whnf
          refine ⟨by decide, _, rfl, ?_⟩
          conv => whnf
          refine ⟨by omega, by decide, ?_⟩
          conv => whnf
          rw [k2]
          refine ⟨by exact (b2 (by omega)).2.2.2.1, fun c49 => ?_, fun c49 => ?_⟩
          · conv => whnf
            refine T.fg [3] ?_
            have es := runO_skip (O := O) (k := 8 * p + w) (Or.inr (by
              rw [← k3 w (by omega)]
              cases e : k0.testBit w with
              | true => rfl
              | false => exact (c49 ((b2 (by omega)).2.1.mpr e)).elim))
            exact ih (w + 1) I (by omega) hfr (by rw [show 8 * p + (w + 1) = 8 * p + w + 1 by omega, es]; exact hS) (by rw [show 8 * p + (w + 1) = 8 * p + w + 1 by omega, es]; exact hBI) (by omega)
          · conv => whnf
            refine ⟨by decide, ?_⟩
            conv => whnf
            have hbk : bs O (8 * p + w) = true := by
              rw [← m3 w (by omega)]
              cases e : m0.testBit w with
              | true => rfl
              | false => exact (c38 ((b1 (by omega)).2.1.mpr e)).elim
            have hwk : oW (runO O (8 * p + w)) (8 * p + w) = false := by
              rw [← k3 w (by omega)]
              exact (b2 (by omega)).2.1.mp c49
            have hrm := run_room hO hWI hbk hwk
            refine ⟨by omega, fun c59 => by exfalso; omega, fun c59 => ?_⟩
            conv => whnf
            have e1 : (((8 * p + w) / 8 : Nat) : Int) = p := by omega
            have e2 : (((8 * p + w) % 8 : Nat) : Int) = w := by omega
            rw [← e1, ← e2]
            refine zinv0 (s_X3_walk T (f := 8 * p + w) O (runO O (8 * p + w)) (by exact hO) (by exact hB2) (by exact hWI) (by exact hS) (by exact hBI) (by exact ⟨hbk, hwk⟩) (by exact hrm) ?_)
            intro I_65 hf_65 hS_65 hBI_65
            rw [e1, e2]
            conv => whnf
            refine T.fg [3] ?_
            have es := runO_walk hbk hwk
            have el : oL (walk1 O (runO O (8 * p + w)) (8 * p + w)) = oL (runO O (8 * p + w)) + 1 := by
              show oL (wk O 192 (begL (runO O (8 * p + w))) (8 * p + w) (8 * p + w)) + 1 = _
              rw [wk_L]
              rfl
            exact ih (w + 1) _ (by omega) (hfr.trans hf_65) (by rw [show 8 * p + (w + 1) = 8 * p + w + 1 by omega, es, el]; exact hS_65) (by rw [show 8 * p + (w + 1) = 8 * p + w + 1 by omega, es, el]; exact hBI_65) (by omega)
theorem l_wallO (T : ZTh (XX Ln xs) CZ RZ) {d b : Nat} {Q : ZQ} {O : Nat → Bool} {I0 : ZI} {L : ZL} (hO : cn O 576 ≤ 64) (hB : Bits I0 534 (bs O)) (h : ∀ I', Fr PO I0 I' → OSr I' (runO O 5000) (oL (runO O 5000)) → BI (runO O 5000) (oL (runO O 5000)) → Q (.inl none) I' L) (m : Nat) : ∀ (p : Nat) (I : ZI), (p ≤ 625) → (Fr PO I0 I) → (OSr I (runO O (8 * p)) (oL (runO O (8 * p)))) → (BI (runO O (8 * p)) (oL (runO O (8 * p)))) → 625 - (p : Int) < (m : Int) → RZ (d + 2) k_X3_walkAll Q 2 [.inr (.ref 533, 4), .inl ((p : Int)), zj, zj] [] b I L := by
  induction m with
  | zero =>
    intro p I hp hfr hS hBI hm
    exfalso
    omega
  | succ m ih =>
    intro p I hp hfr hS hBI hm
    refine T.go [11] 90 ?_
    conv => whnf
    refine ⟨by omega, fun c6 => ?_, fun c6 => ?_⟩
    · conv => whnf
      obtain rfl : p = 625 := by omega
      exact h I hfr hS hBI
    · conv => whnf
      exact l_wallI T (I0 := I0) hO hB (by omega) (fun I2 f2 s2 b2 => ih (p + 1) I2 (by omega) f2 s2 b2 (by omega)) 9 0 I (by omega) hfr hS hBI (by omega)
theorem s_X3_walkAll (T : ZTh (XX Ln xs) CZ RZ) {d b : Nat} (O : Nat → Bool) {I : ZI} {L : ZL} {Q : ZQ} (hO : cn O 576 ≤ 64) (hB : Bits I 534 (bs O)) (hS : OSr I os0 0) (h : ∀ I', Fr PO I I' → OSr I' (runO O 5000) (oL (runO O 5000)) → BI (runO O 5000) (oL (runO O 5000)) → Q (.inl none) I' L) : CZ (d + 3) k_X3_walkAll [.inr (.ref 533, 4)] b I L Q := by
  refine T.call rfl ?_
  refine T.go [2] 90 ?_
  conv => whnf
  exact l_wallO T hO hB h 626 0 I (by omega) (Fr.refl I) hS ⟨fun i hi => absurd hi (Nat.not_lt_zero i), fun i hi => absurd hi (Nat.not_lt_zero i)⟩ (by omega)
theorem s_X3_addStartAt (T : ZTh (XX Ln xs) CZ RZ) {d b : Nat} {e : Nat} {x y w : Int} (B : Nat → Bool) {I : ZI} {L : ZL} {Q : ZQ} (he : e < 5000) (hx : 25 * y + x = (e / 8 : Nat)) (hw : w = (e % 8 : Nat)) (hB : Bits I 534 B) (ht : I 533 12 = 0 ∨ I 533 12 = 1) (h : ∀ I', Fr (fun a b => a = 534 ∨ (a = 533 ∧ b = 12)) I I' → Bits I' 534 (fun x => if x = e then true else B x) → (I' 533 12 = 0 ∨ I' 533 12 = 1) → (I' 533 12 = 1 ↔ I 533 12 = 1 ∨ ∃ d, d < 8 ∧ B (8 * (e / 8) + d) = true) → Q (.inl none) I' L) : CZ (d + 1) k_X3_addStartAt [.inr (.ref 533, 4), .inl x, .inl y, .inl w] b I L Q := by
  refine T.call rfl ?_
  subst hw
  have hzb := hB.zero (p := e / 8) (by omega)
  refine T.go [] 90 ?_
  conv => whnf
  rw [hx]
  refine ⟨by omega, fun c10 => by exfalso; omega, fun c10 => ?_⟩
  conv => whnf
  refine ⟨by omega, fun c18 => by exfalso; omega, fun c18 => ?_⟩
  conv => whnf
  refine ⟨by decide, ?_⟩
  conv => whnf
  refine ⟨by omega, fun c26 => ?_, fun c26 => ?_⟩
  · conv => whnf
    refine ⟨⟨by decide, by decide, by omega⟩, ?_⟩
    conv => whnf
    refine ⟨by decide, _, rfl, ?_⟩
    conv => whnf
    refine ⟨by (try simp [v2_ap]) <;> omega, by decide, ?_⟩
    conv => whnf
    refine ⟨by omega, ?_⟩
    conv => whnf
    refine ⟨by (try simp [v2_ap]) <;> omega, by decide, ?_⟩
    conv => whnf
    have hset := hB.set (p := e / 8) (d := e % 8) (I' := v2 (v2 I 533 12 1) 534 ((e / 8 : Nat) : Int) (zor (v2 I 533 12 1 534 ((e / 8 : Nat) : Int)) (1 * 2 ^ ((e % 8 : Nat) : Int).toNat))) (by omega) (by omega) (by simp [v2_ap]) (fun q hq => by simp [v2_ap]; omega)
    refine h _ (((Fr.refl I).v2 (by simp)).v2 (by simp)) (hset.congr (fun z hz => ?_)) ?_ ?_
    · rw [show 8 * (e / 8) + e % 8 = e by omega]
    · simp [v2_ap]
    · rw [v2_ne (by simp), v2_eq]
      simp only [true_iff]
      left
      omega
  · conv => whnf
    refine ⟨by decide, _, rfl, ?_⟩
    conv => whnf
    refine ⟨by omega, by decide, ?_⟩
    conv => whnf
    refine ⟨by exact hzb.2, fun c36 => ?_, fun c36 => ?_⟩
    · conv => whnf
      refine ⟨⟨by decide, by decide, by omega⟩, ?_⟩
      conv => whnf
      refine ⟨by decide, _, rfl, ?_⟩
      conv => whnf
      refine ⟨by (try simp [v2_ap]) <;> omega, by decide, ?_⟩
      conv => whnf
      refine ⟨by omega, ?_⟩
      conv => whnf
      refine ⟨by (try simp [v2_ap]) <;> omega, by decide, ?_⟩
      conv => whnf
      have hset := hB.set (p := e / 8) (d := e % 8) (I' := v2 (v2 I 533 12 0) 534 ((e / 8 : Nat) : Int) (zor (v2 I 533 12 0 534 ((e / 8 : Nat) : Int)) (1 * 2 ^ ((e % 8 : Nat) : Int).toNat))) (by omega) (by omega) (by simp [v2_ap]) (fun q hq => by simp [v2_ap]; omega)
      refine h _ (((Fr.refl I).v2 (by simp)).v2 (by simp)) (hset.congr (fun z hz => ?_)) ?_ ?_
      · rw [show 8 * (e / 8) + e % 8 = e by omega]
      · simp [v2_ap]
      · rw [v2_ne (by simp), v2_eq]
        constructor
        · intro c; omega
        · rintro (c | ⟨d, hd, hb⟩)
          · omega
          · rw [hzb.1.mp c36 d hd] at hb
            cases hb
    · conv => whnf
      refine ⟨⟨by decide, by decide, by omega⟩, ?_⟩
      conv => whnf
      refine ⟨by decide, _, rfl, ?_⟩
      conv => whnf
      refine ⟨by (try simp [v2_ap]) <;> omega, by decide, ?_⟩
      conv => whnf
      refine ⟨by omega, ?_⟩
      conv => whnf
      refine ⟨by (try simp [v2_ap]) <;> omega, by decide, ?_⟩
      conv => whnf
      have hset := hB.set (p := e / 8) (d := e % 8) (I' := v2 (v2 I 533 12 1) 534 ((e / 8 : Nat) : Int) (zor (v2 I 533 12 1 534 ((e / 8 : Nat) : Int)) (1 * 2 ^ ((e % 8 : Nat) : Int).toNat))) (by omega) (by omega) (by simp [v2_ap]) (fun q hq => by simp [v2_ap]; omega)
      refine h _ (((Fr.refl I).v2 (by simp)).v2 (by simp)) (hset.congr (fun z hz => ?_)) ?_ ?_
      · rw [show 8 * (e / 8) + e % 8 = e by omega]
      · simp [v2_ap]
      · rw [v2_ne (by simp), v2_eq]
        simp only [true_iff]
        right
        apply Classical.byContradiction
        intro c
        apply c36
        refine hzb.1.mpr (fun d hd => ?_)
        cases e9 : B (8 * (e / 8) + d) with
        | false => rfl
        | true => exact (c ⟨d, hd, e9⟩).elim
end
