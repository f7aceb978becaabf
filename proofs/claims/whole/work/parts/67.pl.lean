/-! CHECKS, FORMS, PLACINGS -/
section
variable {Ln : Nat} {xs : Nat → Int32} {CZ : Nat → ZC} {RZ : Nat → Nat → ZQ → ZP}
def dxl : List Int := [1, 1, 0, -1, -1, -1, 0, 1]
def dyl : List Int := [0, 1, 1, 1, 0, -1, -1, -1]
def dX (i : Int) : Int := dxl.getD i.toNat 0
def dY (i : Int) : Int := dyl.getD i.toNat 0
theorem zs_x {Ln : Nat} {xs : Nat → Int32} : ∀ n : Nat, n < 8 → zs (XX Ln xs) 10000 (n : Int) = dX n ∧ zs (XX Ln xs) 10001 (n : Int) = dY n ∧ zs (XX Ln xs) 10007 (n : Int) = dX n ∧ zs (XX Ln xs) 10008 (n : Int) = dY n
  | 0, _ => ⟨rfl, rfl, rfl, rfl⟩
  | 1, _ => ⟨rfl, rfl, rfl, rfl⟩
  | 2, _ => ⟨rfl, rfl, rfl, rfl⟩
  | 3, _ => ⟨rfl, rfl, rfl, rfl⟩
  | 4, _ => ⟨rfl, rfl, rfl, rfl⟩
  | 5, _ => ⟨rfl, rfl, rfl, rfl⟩
  | 6, _ => ⟨rfl, rfl, rfl, rfl⟩
  | 7, _ => ⟨rfl, rfl, rfl, rfl⟩
  | n + 8, h => by omega
theorem zs_d {Ln : Nat} {xs : Nat → Int32} {i : Int} (h0 : 0 ≤ i) (h : i < 8) : zs (XX Ln xs) 10000 i = dX i ∧ zs (XX Ln xs) 10001 i = dY i ∧ zs (XX Ln xs) 10007 i = dX i ∧ zs (XX Ln xs) 10008 i = dY i := by
  obtain ⟨n, rfl⟩ := Int.eq_ofNat_of_zero_le h0
  exact zs_x n (by omega)
theorem d_b {i : Int} (h0 : 0 ≤ i) (h : i < 8) : -1 ≤ dX i ∧ dX i ≤ 1 ∧ -1 ≤ dY i ∧ dY i ≤ 1 := by
  obtain ⟨n, rfl⟩ := Int.eq_ofNat_of_zero_le h0
  have : ∀ n : Nat, n < 8 → -1 ≤ dX n ∧ dX n ≤ 1 ∧ -1 ≤ dY n ∧ dY n ≤ 1 := by decide
  exact this n (by omega)
theorem d_out (k : Int) (h0 : 0 ≤ k) (h : k < 4) : (k = 0 ∧ dX ((2 * k + 6) % 8) = 0 ∧ dY ((2 * k + 6) % 8) = -1) ∨ (k = 1 ∧ dX ((2 * k + 6) % 8) = 1 ∧ dY ((2 * k + 6) % 8) = 0) ∨ (k = 2 ∧ dX ((2 * k + 6) % 8) = 0 ∧ dY ((2 * k + 6) % 8) = 1) ∨ (k = 3 ∧ dX ((2 * k + 6) % 8) = -1 ∧ dY ((2 * k + 6) % 8) = 0) := by
  have : k = 0 ∨ k = 1 ∨ k = 2 ∨ k = 3 := by omega
  rcases this with e | e | e | e <;> subst e <;> decide
/-- the quarter at the other side of a side -/
def nb (q s : Int) : Int := if s = 0 then (if q % 4 = 0 then (if q / 48 = 0 then -1 else q - 46) else if q % 4 = 1 then (if q % 48 / 4 = 11 then -1 else q + 6) else if q % 4 = 2 then (if q / 48 = 11 then -1 else q + 46) else (if q % 48 / 4 = 0 then -1 else q - 6)) else if s = 1 then q - q % 4 + (q % 4 + 1) % 4 else q - q % 4 + (q % 4 + 3) % 4
theorem nb_b {q s : Int} (h0 : 0 ≤ q) (h : q < 576) : -1 ≤ nb q s ∧ nb q s < 576 := by
  unfold nb
  repeat' split
  all_goals omega
theorem s_X11_checkWhat (T : ZTh (XX Ln xs) CZ RZ) {d b : Nat} {w m : Int} {I : ZI} {L : ZL} {Q : ZQ} (hb : 1 ≤ b) (hw : zR w) (hm : zR m) (h : 0 ≤ w ∧ w ≤ m → Q (.inl none) I L) (h2 : ¬ (0 ≤ w ∧ w ≤ m) → Q (.inr 1) I L) : CZ (d + 1) k_X11_checkWhat [.inl w, .inl m] b I L Q := by
  refine T.call rfl ?_
  refine T.go [] 90 ?_
  conv => whnf
  refine ⟨by omega, fun c1 => ?_, fun c1 => ?_⟩
  · conv => whnf
    refine ⟨by omega, ?_⟩
    exact h2 (by omega)
  · conv => whnf
    refine ⟨by omega, fun c6 => ?_, fun c6 => ?_⟩
    · conv => whnf
      exact h (by omega)
    · conv => whnf
      refine ⟨by omega, ?_⟩
      exact h2 (by omega)
theorem s_X11_checkTurn (T : ZTh (XX Ln xs) CZ RZ) {d b : Nat} {w : Int} {I : ZI} {L : ZL} {Q : ZQ} (hb : 1 ≤ b) (hw : zR w) (h : 0 ≤ w ∧ w < 4 → Q (.inl none) I L) (h2 : ¬ (0 ≤ w ∧ w < 4) → Q (.inr 1) I L) : CZ (d + 1) k_X11_checkTurn [.inl w] b I L Q := by
  refine T.call rfl ?_
  refine T.go [] 90 ?_
  conv => whnf
  refine ⟨by omega, fun c1 => ?_, fun c1 => ?_⟩
  · conv => whnf
    refine ⟨by omega, ?_⟩
    exact h2 (by omega)
  · conv => whnf
    refine ⟨by omega, fun c6 => ?_, fun c6 => ?_⟩
    · conv => whnf
      exact h (by omega)
    · conv => whnf
      refine ⟨by omega, ?_⟩
      exact h2 (by omega)
theorem s_X11_checkSlot (T : ZTh (XX Ln xs) CZ RZ) {d b : Nat} {w : Int} {I : ZI} {L : ZL} {Q : ZQ} (hb : 1 ≤ b) (hw : zR w) (h : 0 ≤ w ∧ w < 2 → Q (.inl none) I L) (h2 : ¬ (0 ≤ w ∧ w < 2) → Q (.inr 1) I L) : CZ (d + 1) k_X11_checkSlot [.inl w] b I L Q := by
  refine T.call rfl ?_
  refine T.go [] 90 ?_
  conv => whnf
  refine ⟨by omega, fun c1 => ?_, fun c1 => ?_⟩
  · conv => whnf
    refine ⟨by omega, ?_⟩
    exact h2 (by omega)
  · conv => whnf
    refine ⟨by omega, fun c6 => ?_, fun c6 => ?_⟩
    · conv => whnf
      exact h (by omega)
    · conv => whnf
      refine ⟨by omega, ?_⟩
      exact h2 (by omega)
theorem s_X11_checkPiece (T : ZTh (XX Ln xs) CZ RZ) {d b : Nat} {w : Int} {I : ZI} {L : ZL} {Q : ZQ} (hb : 1 ≤ b) (hw : zR w) (h : 0 ≤ w ∧ w < 7 → Q (.inl none) I L) (h2 : ¬ (0 ≤ w ∧ w < 7) → Q (.inr 2) I L) : CZ (d + 1) k_X11_checkPiece [.inl w] b I L Q := by
  refine T.call rfl ?_
  refine T.go [] 90 ?_
  conv => whnf
  refine ⟨by omega, fun c1 => ?_, fun c1 => ?_⟩
  · conv => whnf
    refine ⟨by omega, ?_⟩
    exact h2 (by omega)
  · conv => whnf
    refine ⟨by omega, fun c7 => ?_, fun c7 => ?_⟩
    · conv => whnf
      exact h (by omega)
    · conv => whnf
      refine ⟨by omega, ?_⟩
      exact h2 (by omega)
theorem s_X11_checkShape (T : ZTh (XX Ln xs) CZ RZ) {d b : Nat} {w : Int} {I : ZI} {L : ZL} {Q : ZQ} (hb : 1 ≤ b) (hw : zR w) (hi : zR (I 282 4)) (h : 0 ≤ w → w < I 282 4 → Q (.inl none) I L) (h2 : ¬ (0 ≤ w ∧ w < I 282 4) → Q (.inr 2) I L) : CZ (d + 1) k_X11_checkShape [.inr (.ref 0, 12), .inl w] b I L Q := by
  refine T.call rfl ?_
  refine T.go [] 90 ?_
  conv => whnf
  refine ⟨by omega, fun c1 => ?_, fun c1 => ?_⟩
  · conv => whnf
    refine ⟨by omega, ?_⟩
    exact h2 (by omega)
  · conv => whnf
    refine ⟨by decide, _, rfl, ?_⟩
    conv => whnf
    refine ⟨by decide, ?_⟩
    conv => whnf
    refine ⟨by omega, fun c12 => ?_, fun c12 => ?_⟩
    · conv => whnf
      exact h (by omega) (by omega)
    · conv => whnf
      refine ⟨by omega, ?_⟩
      exact h2 (by omega)
theorem s_X11_checkLoop (T : ZTh (XX Ln xs) CZ RZ) {d b : Nat} {w : Int} {I : ZI} {L : ZL} {Q : ZQ} (hb : 1 ≤ b) (hw : zR w) (hi : zR (I 533 10)) (h : 0 ≤ w → w < I 533 10 → Q (.inl none) I L) (h2 : ¬ (0 ≤ w ∧ w < I 533 10) → Q (.inr 3) I L) : CZ (d + 1) k_X11_checkLoop [.inr (.ref 0, 12), .inl w] b I L Q := by
  refine T.call rfl ?_
  refine T.go [] 90 ?_
  conv => whnf
  refine ⟨by omega, fun c1 => ?_, fun c1 => ?_⟩
  · conv => whnf
    refine ⟨by omega, ?_⟩
    exact h2 (by omega)
  · conv => whnf
    refine ⟨by decide, _, rfl, ?_⟩
    conv => whnf
    refine ⟨by decide, ?_⟩
    conv => whnf
    refine ⟨by omega, fun c12 => ?_, fun c12 => ?_⟩
    · conv => whnf
      exact h (by omega) (by omega)
    · conv => whnf
      refine ⟨by omega, ?_⟩
      exact h2 (by omega)
theorem s_X11_formOf (T : ZTh (XX Ln xs) CZ RZ) {d b : Nat} {t f : Int} {I : ZI} {L : ZL} {Q : ZQ} (hf : f = 0 ∨ f = 1) (h : Q (.inl (some (.inl (2 * t + f)))) I L) : CZ (d + 1) k_X11_formOf [.inl t, .inl f] b I L Q := by
  refine T.call rfl ?_
  refine T.go [] 90 ?_
  conv => whnf
  refine ⟨by omega, fun c4 => ?_, fun c4 => ?_⟩
  · conv => whnf
    obtain rfl : f = 0 := by omega
    exact h
  · conv => whnf
    obtain rfl : f = 1 := by omega
    exact h
theorem s_X11_formAt (T : ZTh (XX Ln xs) CZ RZ) {d b : Nat} {p k : Int} (n : Nat) {I : ZI} {L : ZL} {Q : ZQ} (hn : p * 8 + k = (n : Int)) (hn2 : n < 56) (h : Q (.inl (some (.inr (.ref (2 + 5 * n), 2)))) I L) : CZ (d + 1) k_X11_formAt [.inr (.ref 1, 110056), .inl p, .inl k] b I L Q := by
  refine T.call rfl ?_
  refine T.go [] 90 ?_
  conv => whnf
  refine ⟨by omega, fun c8 => by exfalso; omega, fun c8 => ?_⟩
  conv => whnf
  refine ⟨by omega, fun c14 => by exfalso; omega, fun c14 => ?_⟩
  conv => whnf
  refine ⟨by omega, by decide, _, (by rw [hn]; exact (za_fm hn2).1), ?_⟩
  conv => whnf
  exact h
theorem s_X5_isOff (T : ZTh (XX Ln xs) CZ RZ) {d b : Nat} {p : Nat} {j : Int} {I : ZI} {L : ZL} {Q : ZQ} (hp2 : za p 2 = p + 4) (hp : p + 3 < 304 ∨ (304 < p ∧ p + 3 < 578) ∨ 578 < p) (hj : 0 ≤ j ∧ j < 7) (hI : zR (I (p + 3) j)) (h : I (p + 3) j = -1 → Q (.inl (some (.inl (1)))) I L) (h2 : ¬ I (p + 3) j = -1 → Q (.inl (some (.inl (0)))) I L) : CZ (d + 1) k_X5_isOff [.inr (.ref p, 6), .inl j] b I L Q := by
  refine T.call rfl ?_
  refine T.go [] 90 ?_
  conv => whnf
  refine ⟨(show (¬ (_ : Nat) = _) ∧ (¬ (_ : Nat) = _) from by omega), _, (by assumption), ?_⟩
  conv => whnf
  refine ⟨by omega, (show (¬ (_ : Nat) = _) ∧ (¬ (_ : Nat) = _) from by omega), ?_⟩
  conv => whnf
  refine ⟨by omega, fun c7 => ?_, fun c7 => ?_⟩
  · conv => whnf
    refine ⟨by omega, ?_⟩
    exact h2 c7
  · conv => whnf
    refine ⟨by omega, ?_⟩
    exact h c7
theorem s_X5_put (T : ZTh (XX Ln xs) CZ RZ) {d b : Nat} {p : Nat} {j x y f : Int} {I : ZI} {L : ZL} {Q : ZQ} (hp0 : za p 0 = p + 2) (hp1 : za p 1 = p + 3) (hp2 : za p 2 = p + 4) (hp : p + 3 < 304 ∨ (304 < p ∧ p + 3 < 578) ∨ 578 < p) (hj : 0 ≤ j ∧ j < 7) (h : Q (.inl none) (v2 (v2 (v2 I (p + 1) j x) (p + 2) j y) (p + 3) j f) L) : CZ (d + 1) k_X5_put [.inr (.ref p, 6), .inl j, .inl x, .inl y, .inl f] b I L Q := by
  refine T.call rfl ?_
  refine T.go [] 90 ?_
  conv => whnf
  refine ⟨(show (¬ (_ : Nat) = _) ∧ (¬ (_ : Nat) = _) from by omega), _, (by assumption), ?_⟩
  conv => whnf
  refine ⟨by omega, (show (¬ (_ : Nat) = _) ∧ (¬ (_ : Nat) = _) from by omega), ?_⟩
  conv => whnf
  refine ⟨(show (¬ (_ : Nat) = _) ∧ (¬ (_ : Nat) = _) from by omega), _, (by assumption), ?_⟩
  conv => whnf
  refine ⟨by omega, (show (¬ (_ : Nat) = _) ∧ (¬ (_ : Nat) = _) from by omega), ?_⟩
  conv => whnf
  refine ⟨(show (¬ (_ : Nat) = _) ∧ (¬ (_ : Nat) = _) from by omega), _, (by assumption), ?_⟩
  conv => whnf
  refine ⟨by omega, (show (¬ (_ : Nat) = _) ∧ (¬ (_ : Nat) = _) from by omega), ?_⟩
  conv => whnf
  exact h
theorem s_X5_drop (T : ZTh (XX Ln xs) CZ RZ) {d b : Nat} {p : Nat} {j : Int} {I : ZI} {L : ZL} {Q : ZQ} (hp0 : za p 0 = p + 2) (hp1 : za p 1 = p + 3) (hp2 : za p 2 = p + 4) (hp : p + 3 < 304 ∨ (304 < p ∧ p + 3 < 578) ∨ 578 < p) (hj : 0 ≤ j ∧ j < 7) (h : Q (.inl none) (v2 I (p + 3) j (-1)) L) : CZ (d + 1) k_X5_drop [.inr (.ref p, 6), .inl j] b I L Q := by
  refine T.call rfl ?_
  refine T.go [] 90 ?_
  conv => whnf
  refine ⟨(show (¬ (_ : Nat) = _) ∧ (¬ (_ : Nat) = _) from by omega), _, (by assumption), ?_⟩
  conv => whnf
  refine ⟨by omega, (show (¬ (_ : Nat) = _) ∧ (¬ (_ : Nat) = _) from by omega), ?_⟩
  conv => whnf
  exact h
theorem s_X5_clear (T : ZTh (XX Ln xs) CZ RZ) {d b : Nat} {p : Nat} {I : ZI} {L : ZL} {Q : ZQ} (hp0 : za p 0 = p + 2) (hp1 : za p 1 = p + 3) (hp2 : za p 2 = p + 4) (hp : p + 3 < 304 ∨ (304 < p ∧ p + 3 < 578) ∨ 578 < p) (h : ∀ I', Fr (fun a _ => a = p + 3) I I' → (∀ j, 0 ≤ j → j < 7 → I' (p + 3) j = -1) → Q (.inl none) I' L) : CZ (d + 2) k_X5_clear [.inr (.ref p, 6)] b I L Q := by
  refine T.call rfl ?_
  refine T.go [] 90 ?_
  conv => whnf
  refine ⟨(show (¬ (_ : Nat) = _) ∧ (¬ (_ : Nat) = _) from by omega), _, (by assumption), ?_⟩
  conv => whnf
  refine zinv0 (s_fill7 T  (by show (¬ (_ : Nat) = _) ∧ (¬ (_ : Nat) = _); omega) ?_)
  intro I_5 hf_5 hv_5
  conv => whnf
  exact h _ hf_5 hv_5
theorem s_X5_copy (T : ZTh (XX Ln xs) CZ RZ) {d b : Nat} {p o : Nat} {I : ZI} {L : ZL} {Q : ZQ} (hp0 : za p 0 = p + 2) (hp1 : za p 1 = p + 3) (hp2 : za p 2 = p + 4) (hp : p + 3 < 304 ∨ (304 < p ∧ p + 3 < 578) ∨ 578 < p) (ho0 : za o 0 = o + 2) (ho1 : za o 1 = o + 3) (ho2 : za o 2 = o + 4) (ho : o + 3 < 304 ∨ (304 < o ∧ o + 3 < 578) ∨ 578 < o) (hd : p + 3 < o ∨ o + 3 < p) (h : ∀ I', Fr (fun a _ => a = p + 1 ∨ a = p + 2 ∨ a = p + 3) I I' → (∀ j, 0 ≤ j → j < 7 → I' (p + 1) j = I (o + 1) j ∧ I' (p + 2) j = I (o + 2) j ∧ I' (p + 3) j = I (o + 3) j) → Q (.inl none) I' L) : CZ (d + 1) k_X5_copy [.inr (.ref p, 6), .inr (.ref o, 6)] b I L Q := by
  refine T.call rfl ?_
  refine T.go [] 90 ?_
  conv => whnf
  refine ⟨(show (¬ (_ : Nat) = _) ∧ (¬ (_ : Nat) = _) from by omega), _, (by assumption), ?_⟩
  conv => whnf
  refine ⟨(show (¬ (_ : Nat) = _) ∧ (¬ (_ : Nat) = _) from by omega), _, (by assumption), ?_⟩
  conv => whnf
  refine ⟨⟨by first | decide | omega, (show ¬ ((_ : Nat) = _) from by omega), (show ¬ ((_ : Nat) = _) from by omega), (show ¬ ((_ : Nat) = _) from by omega), (show ¬ ((_ : Nat) = _) from by omega)⟩, ?_⟩
  conv => whnf
  refine ⟨(show (¬ (_ : Nat) = _) ∧ (¬ (_ : Nat) = _) from by omega), _, (by assumption), ?_⟩
  conv => whnf
  refine ⟨(show (¬ (_ : Nat) = _) ∧ (¬ (_ : Nat) = _) from by omega), _, (by assumption), ?_⟩
  conv => whnf
  refine ⟨⟨by first | decide | omega, (show ¬ ((_ : Nat) = _) from by omega), (show ¬ ((_ : Nat) = _) from by omega), (show ¬ ((_ : Nat) = _) from by omega), (show ¬ ((_ : Nat) = _) from by omega)⟩, ?_⟩
  conv => whnf
  refine ⟨(show (¬ (_ : Nat) = _) ∧ (¬ (_ : Nat) = _) from by omega), _, (by assumption), ?_⟩
  conv => whnf
  refine ⟨(show (¬ (_ : Nat) = _) ∧ (¬ (_ : Nat) = _) from by omega), _, (by assumption), ?_⟩
  conv => whnf
  refine ⟨⟨by first | decide | omega, (show ¬ ((_ : Nat) = _) from by omega), (show ¬ ((_ : Nat) = _) from by omega), (show ¬ ((_ : Nat) = _) from by omega), (show ¬ ((_ : Nat) = _) from by omega)⟩, ?_⟩
  conv => whnf
  refine h _ ((((Fr.refl I).zur (fun _ => by simp)).zur (fun _ => by simp)).zur (fun _ => by simp)) (fun j h0 h1 => ?_)
  have e1 : ¬ o + 1 = p + 1 := by omega
  have e2 : ¬ o + 2 = p + 2 := by omega
  have e3 : ¬ o + 2 = p + 1 := by omega
  have e4 : ¬ o + 3 = p + 3 := by omega
  have e5 : ¬ o + 3 = p + 2 := by omega
  have e6 : ¬ o + 3 = p + 1 := by omega
  have e7 : 0 ≤ j ∧ j < 0 + 7 := by omega
  have e8 : (0 : Int) + (j - 0) = j := by omega
  simp [zur_ap, zcpy, e2, e3, e4, e5, e6, h0, h1]
theorem l_countPlaced (T : ZTh (XX Ln xs) CZ RZ) {d b : Nat} {Q : ZQ} {p : Nat} {I : ZI} {L : ZL} (hp2 : za p 2 = p + 4) (hp : p + 3 < 304 ∨ (304 < p ∧ p + 3 < 578) ∨ 578 < p) (hI : ∀ j, 0 ≤ j → j < 7 → zR (I (p + 3) j)) (h : Q (.inl (some (.inl (cn (fun j => !decide (I (p + 3) (j : Int) = -1)) 7)))) I L) (m : Nat) : ∀ (j : Nat) (c : Int), (j ≤ 7) → (c = cn (fun j => !decide (I (p + 3) (j : Int) = -1)) j) → 7 - (j : Int) < (m : Int) → RZ (d + 1) k_X5_countPlaced Q 4 [.inr (.ref p, 6), .inl c, .inl ((j : Int))] [] b I L := by
  induction m with
  | zero =>
    intro j c hj hc hm
    exfalso
    omega
  | succ m ih =>
    intro j c hj hc hm
    refine T.go [4] 90 ?_
    conv => whnf
    refine ⟨by omega, fun c7 => ?_, fun c7 => ?_⟩
    · conv => whnf
      obtain rfl : j = 7 := by omega
      rw [hc]
      exact h
    · conv => whnf
      refine zinv0 (s_X5_isOff T  (by first | assumption | omega | rfl | decide) (by first | assumption | omega | rfl | decide) (by first | assumption | omega | rfl | decide) (by exact hI _ (by omega) (by omega)) ?_ ?_)
      · intro cha_12
        conv => whnf
        refine ⟨by decide, fun _ => ?_, fun c => absurd c (by decide)⟩
        conv => whnf
        exact ih (j + 1) _ (by omega) (by rw [hc, cn_s]; simp [cha_12]) (by omega)
      · intro ch2a_12
        conv => whnf
        refine ⟨by decide, fun c => absurd c (by decide), fun _ => ?_⟩
        conv => whnf
        exact ih (j + 1) _ (by omega) (by rw [hc, cn_s]; simp [ch2a_12]) (by omega)
theorem s_X5_countPlaced (T : ZTh (XX Ln xs) CZ RZ) {d b : Nat} {p : Nat} {I : ZI} {L : ZL} {Q : ZQ} (hp2 : za p 2 = p + 4) (hp : p + 3 < 304 ∨ (304 < p ∧ p + 3 < 578) ∨ 578 < p) (hI : ∀ j, 0 ≤ j → j < 7 → zR (I (p + 3) j)) (h : Q (.inl (some (.inl (cn (fun j => !decide (I (p + 3) (j : Int) = -1)) 7)))) I L) : CZ (d + 2) k_X5_countPlaced [.inr (.ref p, 6)] b I L Q := by
  refine T.call rfl ?_
  refine T.go [4] 90 ?_
  conv => whnf
  exact l_countPlaced T hp2 hp hI h 8 0 0 (by omega) rfl (by omega)
theorem s_X5_tell (T : ZTh (XX Ln xs) CZ RZ) {d b : Nat} {p : Nat} {j w : Int} {I : ZI} {L : ZL} {Q : ZQ} (hp0 : za p 0 = p + 2) (hp1 : za p 1 = p + 3) (hp2 : za p 2 = p + 4) (hp : p + 3 < 304 ∨ (304 < p ∧ p + 3 < 578) ∨ 578 < p) (hj : 0 ≤ j ∧ j < 7) (hw : 0 ≤ w ∧ w ≤ 3) (hI : I (p + 3) j = -1 ∨ (0 ≤ I (p + 3) j ∧ I (p + 3) j < 8)) (h : Q (.inl (some (.inl ((if I (p + 3) j = -1 then -1 else if w = 0 then I (p + 1) j else if w = 1 then I (p + 2) j else if w = 2 then I (p + 3) j / 2 else I (p + 3) j % 2))))) I L) : CZ (d + 2) k_X5_tell [.inr (.ref p, 6), .inl j, .inl w] b I L Q := by
  refine T.call rfl ?_
  refine T.go [] 90 ?_
  conv => whnf
  refine zinv0 (s_X5_isOff T  (by first | assumption | omega | rfl | decide) (by first | assumption | omega | rfl | decide) (by first | assumption | omega | rfl | decide) (by first | assumption | omega | rfl | decide) ?_ ?_)
  · intro cha_2
    conv => whnf
    refine ⟨by decide, fun c => absurd c (by decide), fun _ => ?_⟩
    conv => whnf
    first | (rw [if_pos (by omega)] at h; exact h) | (rw [if_neg (by omega), if_pos (by omega)] at h; exact h) | (rw [if_neg (by omega), if_neg (by omega), if_pos (by omega)] at h; exact h) | (rw [if_neg (by omega), if_neg (by omega), if_neg (by omega), if_pos (by omega)] at h; exact h) | (rw [if_neg (by omega), if_neg (by omega), if_neg (by omega), if_neg (by omega)] at h; exact h)
  · intro ch2a_2
    conv => whnf
    refine ⟨by decide, fun _ => ?_, fun c => absurd c (by decide)⟩
    conv => whnf
    refine ⟨by omega, fun c11 => ?_, ?_⟩
    · conv => whnf
      refine ⟨(show (¬ (_ : Nat) = _) ∧ (¬ (_ : Nat) = _) from by omega), _, (by assumption), ?_⟩
      conv => whnf
      refine ⟨by omega, (show (¬ (_ : Nat) = _) ∧ (¬ (_ : Nat) = _) from by omega), ?_⟩
      conv => whnf
      refine ⟨by omega, ?_⟩
      conv => whnf
      first | (rw [if_pos (by omega)] at h; exact h) | (rw [if_neg (by omega), if_pos (by omega)] at h; exact h) | (rw [if_neg (by omega), if_neg (by omega), if_pos (by omega)] at h; exact h) | (rw [if_neg (by omega), if_neg (by omega), if_neg (by omega), if_pos (by omega)] at h; exact h) | (rw [if_neg (by omega), if_neg (by omega), if_neg (by omega), if_neg (by omega)] at h; exact h)
    refine ⟨fun c11 => ?_, ?_⟩
    · conv => whnf
      refine ⟨(show (¬ (_ : Nat) = _) ∧ (¬ (_ : Nat) = _) from by omega), _, (by assumption), ?_⟩
      conv => whnf
      refine ⟨by omega, (show (¬ (_ : Nat) = _) ∧ (¬ (_ : Nat) = _) from by omega), ?_⟩
      conv => whnf
      first | (rw [if_pos (by omega)] at h; exact h) | (rw [if_neg (by omega), if_pos (by omega)] at h; exact h) | (rw [if_neg (by omega), if_neg (by omega), if_pos (by omega)] at h; exact h) | (rw [if_neg (by omega), if_neg (by omega), if_neg (by omega), if_pos (by omega)] at h; exact h) | (rw [if_neg (by omega), if_neg (by omega), if_neg (by omega), if_neg (by omega)] at h; exact h)
    refine ⟨fun c11 => ?_, ?_⟩
    · conv => whnf
      refine ⟨(show (¬ (_ : Nat) = _) ∧ (¬ (_ : Nat) = _) from by omega), _, (by assumption), ?_⟩
      conv => whnf
      refine ⟨by omega, (show (¬ (_ : Nat) = _) ∧ (¬ (_ : Nat) = _) from by omega), ?_⟩
      conv => whnf
      first | (rw [if_pos (by omega)] at h; exact h) | (rw [if_neg (by omega), if_pos (by omega)] at h; exact h) | (rw [if_neg (by omega), if_neg (by omega), if_pos (by omega)] at h; exact h) | (rw [if_neg (by omega), if_neg (by omega), if_neg (by omega), if_pos (by omega)] at h; exact h) | (rw [if_neg (by omega), if_neg (by omega), if_neg (by omega), if_neg (by omega)] at h; exact h)
    refine ⟨fun c11 => ?_, ?_⟩
    · conv => whnf
      refine ⟨(show (¬ (_ : Nat) = _) ∧ (¬ (_ : Nat) = _) from by omega), _, (by assumption), ?_⟩
      conv => whnf
      refine ⟨by omega, (show (¬ (_ : Nat) = _) ∧ (¬ (_ : Nat) = _) from by omega), ?_⟩
      conv => whnf
      refine ⟨by omega, Or.inl ⟨by omega, ?_⟩⟩
      conv => whnf
      first | (rw [if_pos (by omega)] at h; exact h) | (rw [if_neg (by omega), if_pos (by omega)] at h; exact h) | (rw [if_neg (by omega), if_neg (by omega), if_pos (by omega)] at h; exact h) | (rw [if_neg (by omega), if_neg (by omega), if_neg (by omega), if_pos (by omega)] at h; exact h) | (rw [if_neg (by omega), if_neg (by omega), if_neg (by omega), if_neg (by omega)] at h; exact h)
    exact trivial
end
