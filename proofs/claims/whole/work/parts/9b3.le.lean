/-! TEXTS, 1: bytes -/
section
variable {Ln : Nat} {xs : Nat → Int32} {CZ : Nat → ZC} {RZ : Nat → Nat → ZQ → ZP}
/-- a byte's sort: 0 separates, 1 a letter, 2 a digit, 3 another -/
def bS (v : Int) : Nat := if v = 32 ∨ v = 10 then 0 else if 97 ≤ v ∧ v ≤ 122 then 1 else if 48 ≤ v ∧ v ≤ 57 then 2 else 3
def erA (u : Nat → Int) (n s : Nat) : Nat → Nat → Nat
  | 0, i => i
  | m + 1, i => if i < n ∧ bS (u i) = s then erA u n s m (i + 1) else i
/-- the end of a run of bytes of one sort -/
def eRn (u : Nat → Int) (n s i : Nat) : Nat := erA u n s (n - i) i
theorem eRn_y {u : Nat → Int} {n s i : Nat} (h : i < n) (h2 : bS (u i) = s) : eRn u n s i = eRn u n s (i + 1) := by
  unfold eRn
  obtain ⟨m, hm⟩ : ∃ m, n - i = m + 1 := ⟨n - i - 1, by omega⟩
  rw [hm, show n - (i + 1) = m by omega]
  exact if_pos ⟨h, h2⟩
theorem eRn_n {u : Nat → Int} {n s i : Nat} (h : ¬ (i < n ∧ bS (u i) = s)) : eRn u n s i = i := by
  unfold eRn
  cases n - i with
  | zero => rfl
  | succ m => exact if_neg h
theorem erA_b (u : Nat → Int) (n s : Nat) : ∀ m i, i ≤ erA u n s m i ∧ (i ≤ n → erA u n s m i ≤ n)
  | 0, i => ⟨Nat.le_refl _, fun h => h⟩
  | m + 1, i => by
    show i ≤ (if i < n ∧ bS (u i) = s then erA u n s m (i + 1) else i) ∧ (i ≤ n → (if i < n ∧ bS (u i) = s then erA u n s m (i + 1) else i) ≤ n)
    by_cases h : i < n ∧ bS (u i) = s
    · rw [if_pos h]
      have := erA_b u n s m (i + 1)
      exact ⟨by omega, fun _ => this.2 (by omega)⟩
    · rw [if_neg h]
      exact ⟨Nat.le_refl _, fun h => h⟩
theorem eRn_b (u : Nat → Int) (n s i : Nat) : i ≤ eRn u n s i ∧ (i ≤ n → eRn u n s i ≤ n) := erA_b u n s (n - i) i
theorem erA_st (u : Nat → Int) (n s : Nat) : ∀ m i, n - i ≤ m → ¬ (erA u n s m i < n ∧ bS (u (erA u n s m i)) = s)
  | 0, i, h => fun c => by
    have : i < n := c.1
    omega
  | m + 1, i, h => by
    show ¬ ((if i < n ∧ bS (u i) = s then erA u n s m (i + 1) else i) < n ∧ bS (u (if i < n ∧ bS (u i) = s then erA u n s m (i + 1) else i)) = s)
    by_cases c : i < n ∧ bS (u i) = s
    · rw [if_pos c]
      exact erA_st u n s m (i + 1) (by omega)
    · rw [if_neg c]
      exact c
theorem eRn_st (u : Nat → Int) (n s i : Nat) : ¬ (eRn u n s i < n ∧ bS (u (eRn u n s i)) = s) := erA_st u n s (n - i) i (Nat.le_refl _)
theorem erA_in (u : Nat → Int) (n s : Nat) : ∀ m i j, i ≤ j → j < erA u n s m i → bS (u j) = s
  | 0, i, j, h1, h2 => by
    have : j < i := h2
    omega
  | m + 1, i, j, h1, h2 => by
    have h3 : j < (if i < n ∧ bS (u i) = s then erA u n s m (i + 1) else i) := h2
    by_cases c : i < n ∧ bS (u i) = s
    · rw [if_pos c] at h3
      by_cases e : j = i
      · rw [e]; exact c.2
      · exact erA_in u n s m (i + 1) j (by omega) h3
    · rw [if_neg c] at h3
      omega
theorem eRn_in {u : Nat → Int} {n s i j : Nat} (h1 : i ≤ j) (h2 : j < eRn u n s i) : bS (u j) = s := erA_in u n s (n - i) i j h1 h2
/-- behind the token that begins at p -/
def tE (u : Nat → Int) (n p : Nat) : Nat := if bS (u p) = 3 then p + 1 else eRn u n (bS (u p)) p
/-- the next token -/
def nxT (u : Nat → Int) (n p : Nat) : Nat := if n ≤ p then p else eRn u n 0 (tE u n p)
def dgs (u : Nat → Int) (p : Nat) : Nat → Int
  | 0 => 0
  | m + 1 => 10 * dgs u p m + u (p + m) - 48
/-- the words, from the fifth token on -/
def wtL : List (List Nat) := [[98, 111, 97, 114, 100], [112, 105, 101, 99, 101], [97, 116], [116, 117, 114, 110], [102, 108, 105, 112], [115, 104, 97, 112, 101], [101], [115, 101], [115], [115, 119], [119], [110, 119], [110], [110, 101]]
def wtx (i : Nat) : List Nat := if i < 4 then [] else wtL.getD (i - 4) []
/-- the bytes from p to e are word w -/
def wmB (u : Nat → Int) (p e : Nat) (w : List Nat) : Bool := decide (e - p = w.length) && (List.range w.length).all fun i => decide (u (p + i) = (w.getD i 0 : Nat))
def wI (u : Nat → Int) (p e : Nat) : Nat → Nat → Nat
  | 0, _ => 1
  | m + 1, i => if wmB u p e (wtx i) = true then i else wI u p e m (i + 1)
/-- the token at p: 0 the end, 1 invalid, 2 a number, 3 a semicolon, then the words -/
def tkU (u : Nat → Int) (n p : Nat) : Nat := if n ≤ p then 0 else if bS (u p) = 1 then wI u p (tE u n p) 18 0 else if bS (u p) = 2 then (if 2 < tE u n p - p then 1 else 2) else if u p = 59 then 3 else 1
def nmA (u : Nat → Int) (n p : Nat) : Int := dgs u p (tE u n p - p)
def posA (u : Nat → Int) (n : Nat) : Nat → Nat
  | 0 => eRn u n 0 0
  | i + 1 => nxT u n (posA u n i)
theorem tE_b {u : Nat → Int} {n p : Nat} (h : p < n) (h0 : ¬ bS (u p) = 0) : p < tE u n p ∧ tE u n p ≤ n := by
  unfold tE
  by_cases e : bS (u p) = 3
  · rw [if_pos e]; omega
  · rw [if_neg e, eRn_y h rfl]
    have := eRn_b u n (bS (u p)) (p + 1)
    omega
theorem nxT_b {u : Nat → Int} {n p : Nat} (h : p < n) (h0 : ¬ bS (u p) = 0) : p < nxT u n p ∧ nxT u n p ≤ n ∧ (nxT u n p < n → ¬ bS (u (nxT u n p)) = 0) := by
  unfold nxT
  rw [if_neg (by omega)]
  have h1 := tE_b h h0
  have h2 := eRn_b u n 0 (tE u n p)
  have h3 := eRn_st u n 0 (tE u n p)
  exact ⟨by omega, h2.2 h1.2, fun h c => h3 ⟨h, c⟩⟩
theorem posA_b (u : Nat → Int) (n : Nat) : ∀ i, posA u n i ≤ n ∧ (posA u n i < n → ¬ bS (u (posA u n i)) = 0)
  | 0 => by
    have h1 := eRn_b u n 0 0
    have h2 := eRn_st u n 0 0
    exact ⟨h1.2 (by omega), fun h c => h2 ⟨h, c⟩⟩
  | i + 1 => by
    obtain ⟨a1, a2⟩ := posA_b u n i
    show nxT u n (posA u n i) ≤ n ∧ (nxT u n (posA u n i) < n → ¬ bS (u (nxT u n (posA u n i))) = 0)
    by_cases e : posA u n i < n
    · exact (nxT_b e (a2 e)).2
    · have e2 : nxT u n (posA u n i) = posA u n i := if_pos (by omega)
      rw [e2]
      exact ⟨a1, a2⟩
theorem posA_s {u : Nat → Int} {n i : Nat} (h : posA u n i < n) : posA u n i < posA u n (i + 1) := (nxT_b h ((posA_b u n i).2 h)).1
theorem posA_ge {u : Nat → Int} {n c : Nat} (h : ∀ i, i < c → posA u n i < n) : ∀ i, i ≤ c → i ≤ posA u n i
  | 0, _ => Nat.zero_le _
  | i + 1, hi => by
    have h1 := posA_ge h i (by omega)
    have h2 := posA_s (h i (by omega))
    omega
/-- a byte as the class holds it -/
def sB (v : Int) : Int := (v + 128) % 256 - 128
/-- the buffer's bytes -/
def BY (I : ZI) (u : Nat → Int) (bl : Nat) : Prop := bl ≤ 700 ∧ ∀ i : Nat, i < bl → 0 ≤ u i ∧ u i < 256 ∧ I 577 i = sB (u i)
theorem BY.fr {I I' : ZI} {u : Nat → Int} {bl : Nat} (h : BY I u bl) (h1 : ∀ b, I' 577 b = I 577 b) : BY I' u bl := ⟨h.1, fun i hi => by rw [h1]; exact h.2 i hi⟩
theorem sB_z {v : Int} (h0 : 0 ≤ v) (h : v < 256) : -128 ≤ sB v ∧ sB v ≤ 127 ∧ (v < 128 → sB v = v) ∧ (128 ≤ v → sB v < 0) := by
  unfold sB
  omega
theorem bS_3 (v : Int) : bS v ≤ 3 := by
  unfold bS
  repeat' split
  all_goals omega
theorem s_X10_byteAt (T : ZTh (XX Ln xs) CZ RZ) {d b : Nat} {u : Nat → Int} {bl i : Nat} {I : ZI} {L : ZL} {Q : ZQ} (hB : BY I u bl) (hi : i < bl) (h : Q (.inl (some (.inl (sB (u i))))) I L) : CZ (d + 1) k_X10_byteAt [.inr (.ref 576, 11), .inl ((i : Int))] b I L Q := by
  refine T.call rfl ?_
  have hl := hB.1
  obtain ⟨g0, g1, g2⟩ := hB.2 i hi
  obtain ⟨s0, s1, s2, s3⟩ := sB_z g0 g1
  refine T.go [] 90 ?_
  conv => whnf
  refine ⟨by omega, fun c1 => by exfalso; omega, fun c1 => ?_⟩
  conv => whnf
  refine ⟨by omega, fun c8 => by exfalso; omega, fun c8 => ?_⟩
  conv => whnf
  refine ⟨by decide, _, rfl, ?_⟩
  conv => whnf
  refine ⟨by omega, by decide, ?_⟩
  conv => whnf
  rw [g2]
  exact h
theorem s_X10_sortAt (T : ZTh (XX Ln xs) CZ RZ) {d b : Nat} {u : Nat → Int} {bl i : Nat} {I : ZI} {L : ZL} {Q : ZQ} (hB : BY I u bl) (hi : i < bl) (h : Q (.inl (some (.inl (((bS (u i) : Nat) : Int))))) I L) : CZ (d + 2) k_X10_sortAt [.inr (.ref 576, 11), .inl ((i : Int))] b I L Q := by
  refine T.call rfl ?_
  have hl := hB.1
  obtain ⟨g0, g1, g2⟩ := hB.2 i hi
  obtain ⟨s0, s1, s2, s3⟩ := sB_z g0 g1
  have key : ∀ z : Int, z = ((bS (u i) : Nat) : Int) → Q (.inl (some (.inl z))) I L := fun z e => by rw [e]; exact h
  refine T.go [] 90 ?_
  conv => whnf
  refine zinv0 (s_X10_byteAt T  (by first | assumption | omega | rfl | decide) (by first | assumption | omega | rfl | decide) ?_)
  conv => whnf
  refine ⟨by omega, fun c9 => ?_, fun c9 => ?_⟩
  · conv => whnf
    refine key _ ?_
    unfold bS
    repeat' split
    all_goals omega
  · conv => whnf
    refine ⟨by omega, fun c15 => ?_, fun c15 => ?_⟩
    · conv => whnf
      refine ⟨by omega, fun c23 => ?_, fun c23 => ?_⟩
      · conv => whnf
        refine ⟨by omega, fun c37 => ?_, fun c37 => ?_⟩
        · conv => whnf
          refine key _ ?_
          unfold bS
          repeat' split
          all_goals omega
        · conv => whnf
          refine ⟨by omega, fun c43 => ?_, fun c43 => ?_⟩
          · conv => whnf
            refine key _ ?_
            unfold bS
            repeat' split
            all_goals omega
          · conv => whnf
            refine key _ ?_
            unfold bS
            repeat' split
            all_goals omega
      · conv => whnf
        refine ⟨by omega, fun c29 => ?_, fun c29 => ?_⟩
        · conv => whnf
          refine ⟨by omega, fun c37 => ?_, fun c37 => ?_⟩
          · conv => whnf
            refine key _ ?_
            unfold bS
            repeat' split
            all_goals omega
          · conv => whnf
            refine ⟨by omega, fun c43 => ?_, fun c43 => ?_⟩
            · conv => whnf
              refine key _ ?_
              unfold bS
              repeat' split
              all_goals omega
            · conv => whnf
              refine key _ ?_
              unfold bS
              repeat' split
              all_goals omega
        · conv => whnf
          refine key _ ?_
          unfold bS
          repeat' split
          all_goals omega
    · conv => whnf
      refine key _ ?_
      unfold bS
      repeat' split
      all_goals omega
theorem l_endOfRun (T : ZTh (XX Ln xs) CZ RZ) {d b : Nat} {Q : ZQ} {u : Nat → Int} {bl n s : Nat} {I : ZI} {L : ZL} (hB : BY I u bl) (hn : n ≤ bl) (hs : s ≤ 3) (m : Nat) : ∀ (x : Nat), (x ≤ 700) → (Q (.inl (some (.inl ((eRn u n s x : Nat) : Int)))) I L) → 700 - (x : Int) < (m : Int) → RZ (d + 2) k_X10_endOfRun Q 3 [.inr (.ref 576, 11), zj, .inl ((n : Int)), .inl ((s : Int)), .inl ((x : Int))] [] b I L := by
  induction m with
  | zero =>
    intro x hx h hm
    exfalso
    omega
  | succ m ih =>
    intro x hx h hm
    have hl := hB.1
    refine T.go [3] 90 ?_
    conv => whnf
    refine ⟨by omega, fun c6 => ?_, fun c6 => ?_⟩
    · conv => whnf
      rw [eRn_n (by omega)] at h
      exact h
    · conv => whnf
      refine zinv0 (s_X10_sortAt T (u := u) (bl := bl) (i := x) (by first | assumption | omega | rfl | decide) (by omega) ?_)
      have hb3 := bS_3 (u x)
      conv => whnf
      refine ⟨by omega, fun c16 => ?_, fun c16 => ?_⟩
      · conv => whnf
        rw [eRn_n (by omega)] at h
        exact h
      · conv => whnf
        exact ih (x + 1) (by omega) (by rw [← eRn_y (by omega) (by omega)]; exact h) (by omega)
theorem s_X10_endOfRun (T : ZTh (XX Ln xs) CZ RZ) {d b : Nat} {u : Nat → Int} {bl n s x : Nat} {I : ZI} {L : ZL} {Q : ZQ} (hB : BY I u bl) (hn : n ≤ bl) (hs : s ≤ 3) (hx : x ≤ 700) (h : Q (.inl (some (.inl (((eRn u n s x : Nat) : Int))))) I L) : CZ (d + 3) k_X10_endOfRun [.inr (.ref 576, 11), .inl ((x : Int)), .inl ((n : Int)), .inl ((s : Int))] b I L Q := by
  refine T.call rfl ?_
  refine T.go [3] 90 ?_
  conv => whnf
  refine T.fg [1] ?_
  exact l_endOfRun T hB hn hs 701 x hx h (by omega)
theorem l_readDigits (T : ZTh (XX Ln xs) CZ RZ) {d b : Nat} {Q : ZQ} {u : Nat → Int} {bl p e : Nat} {I : ZI} {L : ZL} (hB : BY I u bl) (he : e ≤ bl) (hd : ∀ j, p ≤ j → j < e → 48 ≤ u j ∧ u j ≤ 57) (h : Q (.inl (some (.inl (dgs u p (e - p))))) I L) (m : Nat) : ∀ (m2 : Nat) (v : Int), (p + m2 ≤ e) → (v = dgs u p m2) → (e : Int) - ((p : Int) + (m2 : Int)) < (m : Int) → RZ (d + 1) k_X10_readDigits Q 5 [.inr (.ref 576, 11), zj, .inl ((e : Int)), .inl v, .inl (((p : Int) + (m2 : Int)))] [] b I L := by
  induction m with
  | zero =>
    intro m2 v hm2 hv hm
    exfalso
    omega
  | succ m ih =>
    intro m2 v hm2 hv hm
    have hl := hB.1
    refine T.go [5] 90 ?_
    conv => whnf
    refine ⟨by omega, fun c8 => ?_, fun c8 => ?_⟩
    · conv => whnf
      obtain rfl : e = p + m2 := by omega
      rw [show p + m2 - p = m2 by omega, ← hv] at h
      exact h
    · conv => whnf
      rw [show (p : Int) + (m2 : Int) = ((p + m2 : Nat) : Int) by omega]
      refine zinv0 (s_X10_byteAt T (u := u) (bl := bl) (i := p + m2) (by first | assumption | omega | rfl | decide) (by omega) ?_)
      have hd9 := hd (p + m2) (by omega) (by omega)
      obtain ⟨s0, s1, s2, s3⟩ := sB_z (v := u (p + m2)) (by omega) (by omega)
      rw [s2 (by omega)]
      conv => whnf
      rw [show ((p + m2 : Nat) : Int) + 1 = (p : Int) + ((m2 + 1 : Nat) : Int) by omega]
      exact ih (m2 + 1) _ (by omega) (by rw [hv]; rfl) (by omega)
theorem s_X10_readDigits (T : ZTh (XX Ln xs) CZ RZ) {d b : Nat} {u : Nat → Int} {bl p e : Nat} {I : ZI} {L : ZL} {Q : ZQ} (hB : BY I u bl) (he : e ≤ bl) (hp : p ≤ e) (hd : ∀ j, p ≤ j → j < e → 48 ≤ u j ∧ u j ≤ 57) (h : Q (.inl (some (.inl (dgs u p (e - p))))) I L) : CZ (d + 2) k_X10_readDigits [.inr (.ref 576, 11), .inl ((p : Int)), .inl ((e : Int))] b I L Q := by
  refine T.call rfl ?_
  refine T.go [5] 90 ?_
  conv => whnf
  refine T.fg [1] ?_
  rw [show ((p : Nat) : Int) = (p : Int) + ((0 : Nat) : Int) by omega]
  exact l_readDigits T hB he hd h (e + 1) 0 0 (by omega) rfl (by omega)
end
