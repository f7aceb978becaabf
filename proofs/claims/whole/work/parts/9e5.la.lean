/-! THE LAW, 1: answers are numbers -/
section
variable {Ln : Nat} {xs : Nat → Int32} {CZ : Nat → ZC} {RZ : Nat → Nat → ZQ → ZP}
theorem z_cn (f : Nat → Bool) (n : Nat) (hn : n ≤ 5000) : zR (cn f n) := by
  have h1 := cn_nonneg f n
  have h2 := cn_le f n
  exact ⟨by omega, by omega⟩
theorem z_size {I : ZI} {L : ZL} {W H : Nat} {M : Mo} {P : Nat → Mo} {n : Nat} {SL : Nat → Mo} {bl : Nat} {u : Nat → Int} (h : CB I L W H M P n SL bl u) {w : Int} (h0 : 0 ≤ w) (hw : w ≤ 10) : zR (aSize W H M n bl w) := by
  obtain ⟨k, rfl⟩ := Int.eq_ofNat_of_zero_le h0
  by_cases e : k < 9
  · exact aSize_z h e
  · have hn : n ≤ 8 := h.2.2.2.2.1.1
    have hb := h.by.2.1
    rcases (show k = 9 ∨ k = 10 by omega) with e | e <;> subst e
    · show zR (n : Int); exact ⟨by omega, by omega⟩
    · show zR (bl : Int); exact ⟨by omega, by omega⟩
theorem z_piece {W H : Nat} {M : Mo} (hw : Wq W H M) {p : Nat} (hp : p < 7) {w : Int} (h0 : 0 ≤ w) (h7 : w ≤ 7) : zR (aPiece M p w) := by
  obtain ⟨k, rfl⟩ := Int.eq_ofNat_of_zero_le h0
  by_cases e : k < 4
  · exact aPiece_z hw hp e
  · obtain ⟨kk, hk⟩ : ∃ kk, (if mF M p = -1 then 8 * p else fi M p) = kk := ⟨_, rfl⟩
    have hkk : kk < 56 := by
      rw [← hk]
      by_cases c : mF M p = -1
      · rw [if_pos c]; omega
      · rw [if_neg c]; exact (hw.form hp c).1
    obtain ⟨q1, q2, q3⟩ := aPiece_k hk
    have hb := fW_b hkk
    have hN := fN_p hkk
    have h16 := pN_16 (kk / 8)
    rcases (show k = 4 ∨ k = 5 ∨ k = 6 ∨ k = 7 by omega) with e | e | e | e <;> subst e
    · have : aPiece M p ((4 : Nat) : Int) = fW kk := q1
      rw [this]; exact ⟨by omega, by omega⟩
    · have : aPiece M p ((5 : Nat) : Int) = fH kk := q2
      rw [this]; exact ⟨by omega, by omega⟩
    · have : aPiece M p ((6 : Nat) : Int) = fN kk := q3
      rw [this]; exact ⟨by omega, by omega⟩
    · show zR (cn (fun k => decide (fV (8 * p + k) = 1)) 8)
      exact z_cn _ _ (by omega)
theorem z_owAt (M : Mo) (q : Int) : zR (owAt M q) := by
  unfold owAt
  split
  · have := own_b M q.toNat
    exact ⟨by omega, by omega⟩
  · decide
theorem z_why (W H : Nat) (M : Mo) (p x y t f : Int) : zR (aWhy W H M p x y t f) ∧ zR (-aWhy W H M p x y t f) := by
  have := @why_b W H M p.toNat (8 * p.toNat + (2 * t + f).toNat) x y
  have e : aWhy W H M p x y t f = why W H M p.toNat (8 * p.toNat + (2 * t + f).toNat) x y := rfl
  rw [e]
  exact ⟨⟨by omega, by omega⟩, by omega, by omega⟩
theorem z_places {W H : Nat} {M : Mo} (hW : W ≤ 12) (hH : H ≤ 12) (p : Nat) : zR (placesA W H M p) := by
  have h1 : ∀ k, 0 ≤ spotsA W H M p k ∧ spotsA W H M p k ≤ 144 := fun k => by
    have := smI_b (f := spotsR W H M p k) (c := 12) (fun y => spotsR_b hW y) H
    unfold spotsA
    omega
  have h2 := smI_b (f := fun k => if fV (8 * p + k) = 1 then spotsA W H M p k else 0) (c := 144) (fun k => by
    have := h1 k
    split
    · exact this
    · omega) 8
  unfold placesA
  exact ⟨by omega, by omega⟩
theorem z_seams (M : Mo) (p o l : Int) : zR (aSeams M p o l) := by
  unfold aSeams
  split
  · decide
  · have := seamA_b M p o l
    exact ⟨by omega, by omega⟩
theorem z_matches {W H : Nat} {M : Mo} (hw : Wq W H M) : zR (matchesA M) := by
  have h1 : ∀ p, p < 7 → 0 ≤ smI (mtC M p) 7 ∧ smI (mtC M p) 7 ≤ 112 := fun p hp => by
    have := smI_bn (f := mtC M p) (c := 16) (k := 7) (fun o ho => mtC_b hw hp ho) 7 (Nat.le_refl 7)
    omega
  have h2 := smI_bn (f := fun p => smI (mtC M p) 7) (c := 112) (k := 7) (fun p hp => h1 p hp) 7 (Nat.le_refl 7)
  unfold matchesA
  exact ⟨by omega, by omega⟩
theorem z_inner (M : Mo) : zR (innerA M) := by
  have h2 := smI_bn (f := innR M) (c := 64) (k := 7) (fun p hp => innR_b M hp) 7 (Nat.le_refl 7)
  unfold innerA
  exact ⟨by omega, by omega⟩
theorem z_loop {I : ZI} {L : ZL} {W H : Nat} {M : Mo} {P : Nat → Mo} {n : Nat} {SL : Nat → Mo} {bl : Nat} {u : Nat → Int} (h : CB I L W H M P n SL bl u) {l w : Int} (h0 : 0 ≤ l) (hl : l < oL (olM M)) (hw : 0 ≤ w ∧ w ≤ 5) : zR (aLoop (olM M) l.toNat w) := by
  obtain ⟨k, rfl⟩ := Int.eq_ofNat_of_zero_le hw.1
  exact aLoop_z h (by omega) (by omega)
theorem z_edge {I : ZI} {L : ZL} {W H : Nat} {M : Mo} {P : Nat → Mo} {n : Nat} {SL : Nat → Mo} {bl : Nat} {u : Nat → Int} (h : CB I L W H M P n SL bl u) {l e w : Int} (h0 : 0 ≤ l) (hl : l < oL (olM M)) (he0 : 0 ≤ e) (he : e < oEC (olM M) l.toNat) (hw : 0 ≤ w ∧ w ≤ 4) : zR (aEdge (olM M) l.toNat e.toNat w) := by
  obtain ⟨k, rfl⟩ := Int.eq_ofNat_of_zero_le hw.1
  obtain ⟨f, c, q1, q2, q3, q4, -⟩ := h.lo (l := l.toNat) (by omega)
  have hf : (oFE (olM M) l.toNat).toNat = f := by rw [q1]; exact Int.toNat_natCast f
  have hc : (oEC (olM M) l.toNat).toNat = c := by rw [q2]; exact Int.toNat_natCast c
  have hec : e.toNat < c := by omega
  obtain ⟨-, -, -, u4, u5, u6, u7, u8, u9⟩ := h.ed (e := f + e.toNat) (by omega)
  rcases (show k = 0 ∨ k = 1 ∨ k = 2 ∨ k = 3 ∨ k = 4 by omega) with e1 | e1 | e1 | e1 | e1 <;> subst e1
  · show zR (oD (olM M) ((oFE (olM M) l.toNat).toNat + e.toNat)); rw [hf]; exact ⟨by omega, by omega⟩
  · show zR (oC (olM M) ((oFE (olM M) l.toNat).toNat + e.toNat)); rw [hf]; exact ⟨by omega, by omega⟩
  · show zR (oK (olM M) ((oFE (olM M) l.toNat).toNat + e.toNat) % 25); rw [hf]; exact ⟨by omega, by omega⟩
  · show zR (oK (olM M) ((oFE (olM M) l.toNat).toNat + e.toNat) / 25); rw [hf]; exact ⟨by omega, by omega⟩
  · show zR ((oD (olM M) ((oFE (olM M) l.toNat).toNat + e.toNat) - oD (olM M) (if e.toNat = 0 then (oFE (olM M) l.toNat).toNat + (oEC (olM M) l.toNat).toNat - 1 else (oFE (olM M) l.toNat).toNat + e.toNat - 1) + 3) % 8 - 3)
    exact ⟨by omega, by omega⟩
theorem z_looks (M : Mo) : zR (looksA M) := by
  unfold looksA
  split
  · decide
  · exact z_cn _ _ (by omega)
theorem z_shape (S : Nat → Bool) {w : Int} (h0 : 0 ≤ w) (h4 : w ≤ 4) : zR (aShape S w) := by
  obtain ⟨k, rfl⟩ := Int.eq_ofNat_of_zero_le h0
  exact aShape_z S (by omega)
theorem z_alike (M : Mo) (k : Nat) : zR (alikeA M k) := by
  rw [← alk_eq]
  exact alk_z M k
theorem fnd_b {f : Nat → Int} : ∀ m k, fnd f m k = -1 ∨ ((k : Int) ≤ fnd f m k ∧ fnd f m k < (k : Int) + (m : Int))
  | 0, k => Or.inl rfl
  | m + 1, k => by
    by_cases e : f k = -1
    · rw [fnd_t e]
      rcases fnd_b m (k + 1) with g | g
      · exact Or.inl g
      · exact Or.inr (by omega)
    · rw [fnd_f e]
      exact Or.inr (by omega)
theorem z_find {M : Mo} (hm : mN M ≤ 8) : zR (findA M) := by
  unfold findA
  rcases fnd_b (f := fun k => flk (sil M) (mS M k) 8 0) (mN M) 0 with g | g
  · rw [g]; decide
  · exact ⟨by omega, by omega⟩
theorem z_kinds {M : Mo} (hm : mN M ≤ 8) : zR (kindsA M) := by
  unfold kindsA
  exact z_cn _ _ (by omega)
theorem z_ways (M : Mo) (k : Nat) : zR (waysA M k) := by
  have := waysR_b (most := 1000) (by omega) (mS M k)
  unfold waysA
  exact ⟨by omega, by omega⟩
theorem z_first (M : Mo) (k : Nat) {p : Nat} (hp : p < 7) (w : Int) : zR (firstA M k p w) := by
  have g := (waysR_gd 1000 (mS M k)).1 p hp
  unfold firstA tellM
  generalize (waysR 1000 (mS M k)).2 = A at g ⊢
  by_cases e : mF A p = -1
  · rw [if_pos e]; decide
  · rw [if_neg e]
    rcases g with g | ⟨g1, g2, ⟨g3, g4, g5, g6⟩, -⟩
    · exact absurd g e
    · repeat' split
      all_goals exact ⟨by omega, by omega⟩
/-- a place and an offset within the text -/
def OK9 (n : Nat) (s : PE) : Prop := pp s ≤ n ∧ po s ≤ n ∧ pc s ≤ 4
theorem nxT_n {u : Nat → Int} {n p : Nat} (h : p ≤ n) : nxT u n p ≤ n := by
  unfold nxT
  by_cases e : n ≤ p
  · rw [if_pos e]; exact h
  · rw [if_neg e]
    refine (eRn_b u n 0 _).2 ?_
    unfold tE
    by_cases c : bS (u p) = 3
    · rw [if_pos c]; omega
    · rw [if_neg c]; exact (eRn_b u n _ p).2 h
theorem ok_fl {n k o : Nat} {s : PE} (h : OK9 n s) (ho : o ≤ n) (hk : k ≤ 4) : OK9 n (pFl k o s) := by
  unfold pFl
  split
  · exact ⟨h.1, ho, hk⟩
  · exact h
theorem ok_kw {u : Nat → Int} {n w : Nat} {s : PE} (h : OK9 n s) : OK9 n (pKw u n w s) := by
  unfold pKw
  split
  · split
    · exact ⟨nxT_n h.1, h.2.1, Nat.zero_le _⟩
    · exact ⟨h.1, h.1, (show (1 : Nat) ≤ 4 by decide)⟩
  · exact h
theorem ok_nu {u : Nat → Int} {n : Nat} {a b : Int} {s : PE} (h : OK9 n s) : OK9 n (pNu u n a b s) := by
  unfold pNu
  split
  · split
    · split
      · exact ⟨h.1, h.1, (show (2 : Nat) ≤ 4 by decide)⟩
      · exact ⟨nxT_n h.1, h.2.1, Nat.zero_le _⟩
    · exact ⟨h.1, h.1, (show (1 : Nat) ≤ 4 by decide)⟩
  · exact h
theorem ok_ed {u : Nat → Int} {n W H : Nat} {a : PO4} (h : OK9 n a.1) : OK9 n (pEd u n W H a).1 := by
  have hs : OK9 n ((0, po a.1, nxT u n (pp a.1)) : PE) := ⟨nxT_n h.1, h.2.1, Nat.zero_le _⟩
  unfold pEd
  split
  · exact ok_fl h h.1 (by decide)
  · split
    · split
      · exact ok_nu hs
      · exact ok_fl (ok_nu hs) (nxT_n h.1) (by decide)
    · exact ok_nu hs
theorem ok_es {u : Nat → Int} {n W H : Nat} : ∀ (m : Nat) (a : PO4), OK9 n a.1 → OK9 n (pEs u n W H m a).1
  | 0, a, h => h
  | m + 1, a, h => by
    by_cases e : pc a.1 = 0 ∧ ¬ tkU u n (pp a.1) = 3
    · rw [pEs_s e.1 e.2]; exact ok_es m _ (ok_ed h)
    · rw [pEs_e e]; exact h
theorem ok_ol {u : Nat → Int} {n W H : Nat} {M : Mo} {x y : Int} {s : PE} (h : OK9 n s) : OK9 n (pOl u n W H M x y s).1 := by
  unfold pOl
  have ha : OK9 n (pEs u n W H 700 (pEd u n W H (s, x, y, fun _ => false))).1 := ok_es 700 _ (ok_ed (a := (s, x, y, fun _ => false)) h)
  generalize pEs u n W H 700 (pEd u n W H (s, x, y, fun _ => false)) = a at ha ⊢
  unfold olE
  split
  · split
    · exact ok_kw ha
    · exact ok_fl (ok_kw ha) ha.1 (by decide)
  · exact ok_kw ha
theorem ok_sh {u : Nat → Int} {n W H : Nat} {M : Mo} {s : PE} (h : OK9 n s) : OK9 n (pSh u n W H M s).1 := by
  have h0 : OK9 n (s0Sh u n M s) := by
    unfold s0Sh
    split
    · exact ok_fl h h.1 (by decide)
    · exact h
  unfold pSh
  split
  · exact ok_ol (ok_nu (ok_nu (ok_kw h0)))
  · exact ok_nu (ok_nu (ok_kw h0))
theorem ok_pr {u : Nat → Int} {n W H : Nat} {M : Mo} {v : Int} {s : PE} (h : OK9 n s) : OK9 n (pcR u n W H M v s).1 := by
  have h5 : OK9 n (qw5 u n W s) := ok_nu (ok_kw h)
  have h7 : OK9 n (qw7 u n W H s) := ok_kw (ok_nu h5)
  have h8 : OK9 n (qw8 u n W H s) := ok_nu h7
  have h9 : OK9 n (qw9 u n W H s) := by
    unfold qw9
    split
    · exact ok_kw h8
    · exact h8
  unfold pcR pcQ
  generalize (2 * nmA u n (pp (qw7 u n W H s)) + (if tkU u n (pp (qw8 u n W H s)) = 8 then 1 else 0)) = f
  split
  · split
    · exact ok_kw h9
    · exact ok_fl (ok_kw h9) h9.1 (by decide)
  · exact ok_kw h9
theorem ok_pc {u : Nat → Int} {n W H : Nat} {M : Mo} {s : PE} (h : OK9 n s) : OK9 n (pPc u n W H M s).1 := by
  have h1 : OK9 n (pKw u n 5 s) := ok_kw h
  have h2 : OK9 n (qw2 u n s) := ok_nu h1
  have h3 : OK9 n (qw3 u n M s) := by
    unfold qw3
    split
    · exact ok_fl h2 h1.1 (by decide)
    · exact h2
  exact ok_pr h3
theorem ok_st {u : Nat → Int} {n W H : Nat} : ∀ (m : Nat) (a : PE × Mo), OK9 n a.1 → OK9 n (pSts u n W H m a).1
  | 0, a, h => h
  | m + 1, a, h => by
    by_cases e : pc a.1 = 0 ∧ ¬ tkU u n (pp a.1) = 0
    · by_cases e2 : tkU u n (pp a.1) = 5
      · rw [pSts_p e.1 e.2 e2]; exact ok_st m _ (ok_pc h)
      · rw [pSts_s e.1 e.2 e2]; exact ok_st m _ (ok_sh h)
    · rw [pSts_e e]; exact h
theorem ok_tx (u : Nat → Int) (n : Nat) : OK9 n (pTx u n).1 := by
  have h0 : OK9 n ((0, 0, posA u n 0) : PE) := ⟨(posA_b u n 0).1, Nat.zero_le _, Nat.zero_le _⟩
  exact ok_st 700 _ (ok_kw (ok_nu (ok_nu (ok_kw h0))))
theorem z_full {W H : Nat} {M : Mo} (hw : Wq W H M) : vf_n64 (FP.f2d (fullA M)) := by
  unfold fullA
  by_cases e : wd (sil M) * hg (sil M) = 0
  · rw [if_pos e]; exact n2d_0
  · rw [if_neg e]
    have hs := sil_cn hw
    have hs0 := cn_nonneg (sil M) 576
    have gb := box_le (sil M)
    obtain ⟨q, hq⟩ := Int.eq_ofNat_of_zero_le hs0
    have ha2 : wd (sil M) * hg (sil M) ≤ 144 := Nat.le_trans (Nat.mul_le_mul (show wd (sil M) ≤ 12 by omega) (show hg (sil M) ≤ 12 by omega)) (Nat.le_refl 144)
    rw [hq]
    exact n2d_at (by omega) (by omega) e
end
