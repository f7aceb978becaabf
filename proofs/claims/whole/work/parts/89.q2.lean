/-! QUESTIONS, 2 -/
section
variable {Ln : Nat} {xs : Nat → Int32} {CZ : Nat → ZC} {RZ : Nat → Nat → ZQ → ZP}
/-- who covers quarter q, of any number -/
def owAt (M : Mo) (q : Int) : Int := if 0 ≤ q ∧ q < 576 then own M q.toNat else -1
theorem own_b (M : Mo) (q : Nat) : -1 ≤ own M q ∧ own M q < 7 := ow_b M q 7
theorem owAt_in {I : ZI} {M : Mo} (hO : ∀ q : Nat, q < 576 → I 530 q = own M q) {q : Int} (h : 0 ≤ q ∧ q < 576) : owAt M q = I 530 q := by
  obtain ⟨n, rfl⟩ := Int.eq_ofNat_of_zero_le h.1
  unfold owAt
  rw [if_pos h, hO n (by omega)]
  rfl
theorem owAt_b (M : Mo) (q : Int) : -1 ≤ owAt M q ∧ owAt M q < 7 := by
  unfold owAt
  split
  · exact own_b M _
  · exact ⟨by omega, by omega⟩
def bi (b : Bool) : Int := bif b then 1 else 0
theorem bi_b (b : Bool) : 0 ≤ bi b ∧ bi b ≤ 1 := by cases b <;> exact ⟨by decide, by decide⟩
theorem bi_t {a o : Int} (h : a = o) : bi (decide (a = o)) = 1 := by rw [decide_eq_true h]; rfl
theorem bi_f {a o : Int} (h : ¬ a = o) : bi (decide (a = o)) = 0 := by rw [decide_eq_false h]; rfl
/-- the sum of f at 0 to n - 1 -/
def smI (f : Nat → Int) : Nat → Int
  | 0 => 0
  | n + 1 => smI f n + f n
theorem smI_b {f : Nat → Int} {c : Int} (h : ∀ i, 0 ≤ f i ∧ f i ≤ c) : ∀ n, 0 ≤ smI f n ∧ smI f n ≤ c * n
  | 0 => ⟨Int.le_refl _, by show (0 : Int) ≤ c * 0; omega⟩
  | n + 1 => by
    have := smI_b h n
    have := h n
    have e : c * ((n + 1 : Nat) : Int) = c * n + c := by rw [Int.natCast_add, Int.mul_add]; omega
    show 0 ≤ smI f n + f n ∧ smI f n + f n ≤ _
    rw [e]
    omega
theorem smI_congr {f g : Nat → Int} : ∀ n, (∀ i, i < n → f i = g i) → smI f n = smI g n
  | 0, _ => rfl
  | n + 1, h => by
    show smI f n + f n = smI g n + g n
    rw [smI_congr n (fun i hi => h i (by omega)), h n (by omega)]
/-- the seams of quarter q's side s with o -/
def sg (M : Mo) (o : Int) (q : Nat) (s : Int) : Int := bi (decide (owAt M (nb q s) = o))
def pt (g : Int → Int) (l : Int) (s : Nat) : Int := if l = 1 then (if s = 0 then 0 else g 0) else (if s ≤ 1 then 0 else if s = 2 then g 1 else g 1 + g 2)
theorem pt_s {g : Int → Int} {l : Int} {s : Nat} (h : (l = 1 ∧ s = 0) ∨ (l = 0 ∧ (s = 1 ∨ s = 2))) : pt g l (s + 1) = pt g l s + g s := by
  rcases h with ⟨rfl, rfl⟩ | ⟨rfl, rfl | rfl⟩
  · show g 0 = 0 + g 0; omega
  · show g 1 = 0 + g 1; omega
  · show g 1 + g 2 = g 1 + g 2; rfl
theorem pt_b {g : Int → Int} (h : ∀ s, 0 ≤ g s ∧ g s ≤ 1) (l : Int) (s : Nat) : 0 ≤ pt g l s ∧ pt g l s ≤ 2 := by
  have h0 := h 0
  have h1 := h 1
  have h2 := h 2
  unfold pt
  repeat' split
  all_goals omega
def smc (M : Mo) (p o l : Int) (q : Nat) : Int := if own M q = p then pt (sg M o q) l (if l = 1 then 1 else 3) else 0
theorem smc_b (M : Mo) (p o l : Int) (q : Nat) : 0 ≤ smc M p o l q ∧ smc M p o l q ≤ 2 := by
  unfold smc
  split
  · exact pt_b (fun s => bi_b _) _ _
  · exact ⟨by omega, by omega⟩
def seamA (M : Mo) (p o l : Int) : Int := smI (smc M p o l) 576
theorem l_seamI (T : ZTh (XX Ln xs) CZ RZ) {d b : Nat} {Q : ZQ} {p o l c0 : Int} {q : Nat} {M : Mo} {I : ZI} {L : ZL} (hO : ∀ q : Nat, q < 576 → I 530 q = own M q) (ho : zR o) (hq : q < 576) (hc0 : 0 ≤ c0 ∧ c0 ≤ 1152) (hk : RZ (d + 1) k_X7_countSeams Q 6 [.inr (.ref 527, 8), .inl p, .inl o, .inl l, .inl (c0 + pt (sg M o q) l (if l = 1 then 1 else 3)), .inl ((q : Int) + 1), zj] [] b I L) (m : Nat) : ∀ (s : Nat) (c : Int), ((l = 1 ∧ s ≤ 1) ∨ (l = 0 ∧ 1 ≤ s ∧ s ≤ 3)) → (c = c0 + pt (sg M o q) l s) → 4 - (s : Int) < (m : Int) → RZ (d + 1) k_X7_countSeams Q 36 [.inr (.ref 527, 8), .inl p, .inl o, .inl l, .inl c, .inl ((q : Int)), .inl ((s : Int))] [] b I L := by
  induction m with
  | zero =>
    intro s c hs hc hm
    exfalso
    omega
  | succ m ih =>
    intro s c hs hc hm
    have hpb := pt_b (g := sg M o q) (fun s => bi_b _) l s
    have hnb := owAt_b M (nb q s)
    have hn9 := nb_b (q := q) (s := s) (by omega) (by omega)
    refine T.go [6, 36] 90 ?_
    conv => whnf
    refine ⟨by omega, fun c39 => ?_, fun c39 => ?_⟩
    · conv => whnf
      refine ⟨by omega, fun c47 => ?_, fun c47 => ?_⟩
      · conv => whnf
        refine T.fg [6] ?_
        have hs9 : s = (if l = 1 then 1 else 3) := by split <;> omega
        rw [hc, hs9]
        exact hk
      · conv => whnf
        refine zinv0 (s_X11_neighbour T  (by omega) (by omega) ?_)
        conv => whnf
        refine zinv0 (s_X7_ownerAt T  (by first | assumption | omega | rfl | decide) ?_ ?_)
        · intro cha_58 chb_58
          have ew : owAt M (nb q s) = I 530 (nb q s) := owAt_in hO ⟨cha_58, chb_58⟩
          conv => whnf
          refine ⟨by omega, fun c62 => ?_, fun c62 => ?_⟩
          · conv => whnf
            have hg : sg M o q s = 0 := bi_f (by omega)
            refine ih (s + 1) _ (by omega) ?_ (by omega)
            rw [pt_s (by omega), hg, hc]
            omega
          · conv => whnf
            have hg : sg M o q s = 1 := bi_t (ew.trans (by omega))
            refine ih (s + 1) _ (by omega) ?_ (by omega)
            rw [pt_s (by omega), hg, hc]
            omega
        · intro ch2a_58
          have ew : owAt M (nb q s) = -1 := if_neg ch2a_58
          conv => whnf
          refine ⟨by omega, fun c62 => ?_, fun c62 => ?_⟩
          · conv => whnf
            have hg : sg M o q s = 0 := bi_f (by omega)
            refine ih (s + 1) _ (by omega) ?_ (by omega)
            rw [pt_s (by omega), hg, hc]
            omega
          · conv => whnf
            have hg : sg M o q s = 1 := bi_t (ew.trans (by omega))
            refine ih (s + 1) _ (by omega) ?_ (by omega)
            rw [pt_s (by omega), hg, hc]
            omega
    · conv => whnf
      refine ⟨by omega, fun c47 => ?_, fun c47 => ?_⟩
      · conv => whnf
        refine T.fg [6] ?_
        have hs9 : s = (if l = 1 then 1 else 3) := by split <;> omega
        rw [hc, hs9]
        exact hk
      · conv => whnf
        refine zinv0 (s_X11_neighbour T  (by omega) (by omega) ?_)
        conv => whnf
        refine zinv0 (s_X7_ownerAt T  (by first | assumption | omega | rfl | decide) ?_ ?_)
        · intro cha_58 chb_58
          have ew : owAt M (nb q s) = I 530 (nb q s) := owAt_in hO ⟨cha_58, chb_58⟩
          conv => whnf
          refine ⟨by omega, fun c62 => ?_, fun c62 => ?_⟩
          · conv => whnf
            have hg : sg M o q s = 0 := bi_f (by omega)
            refine ih (s + 1) _ (by omega) ?_ (by omega)
            rw [pt_s (by omega), hg, hc]
            omega
          · conv => whnf
            have hg : sg M o q s = 1 := bi_t (ew.trans (by omega))
            refine ih (s + 1) _ (by omega) ?_ (by omega)
            rw [pt_s (by omega), hg, hc]
            omega
        · intro ch2a_58
          have ew : owAt M (nb q s) = -1 := if_neg ch2a_58
          conv => whnf
          refine ⟨by omega, fun c62 => ?_, fun c62 => ?_⟩
          · conv => whnf
            have hg : sg M o q s = 0 := bi_f (by omega)
            refine ih (s + 1) _ (by omega) ?_ (by omega)
            rw [pt_s (by omega), hg, hc]
            omega
          · conv => whnf
            have hg : sg M o q s = 1 := bi_t (ew.trans (by omega))
            refine ih (s + 1) _ (by omega) ?_ (by omega)
            rw [pt_s (by omega), hg, hc]
            omega
theorem l_seamO (T : ZTh (XX Ln xs) CZ RZ) {d b : Nat} {Q : ZQ} {p o l : Int} {M : Mo} {I : ZI} {L : ZL} (hO : ∀ q : Nat, q < 576 → I 530 q = own M q) (hl : l = 0 ∨ l = 1) (hp : zR p) (ho : zR o) (h : Q (.inl (some (.inl (seamA M p o l)))) I L) (m : Nat) : ∀ (q : Nat) (c : Int), (q ≤ 576) → (c = smI (smc M p o l) q) → 576 - (q : Int) < (m : Int) → RZ (d + 1) k_X7_countSeams Q 6 [.inr (.ref 527, 8), .inl p, .inl o, .inl l, .inl c, .inl ((q : Int)), zj] [] b I L := by
  induction m with
  | zero =>
    intro q c hq hc hm
    exfalso
    omega
  | succ m ih =>
    intro q c hq hc hm
    have hsb := smI_b (smc_b M p o l) q
    have hob := own_b M q
    have hOq := fun h : q < 576 => hO q h
    refine T.go [6, 36] 90 ?_
    conv => whnf
    refine ⟨by omega, fun c11 => ?_, fun c11 => ?_⟩
    · conv => whnf
      obtain rfl : q = 576 := by omega
      rw [hc]
      exact h
    · conv => whnf
      refine ⟨by decide, _, rfl, ?_⟩
      conv => whnf
      refine ⟨by omega, by decide, ?_⟩
      conv => whnf
      refine ⟨by have := hOq (by omega); omega, fun c22 => ?_, fun c22 => ?_⟩
      · conv => whnf
        have hq9 : q < 576 := by omega
        have e : smc M p o l q = 0 := if_neg (by have := hOq hq9; omega)
        refine ih (q + 1) c (by omega) ?_ (by omega)
        show _ = smI _ q + smc M p o l q
        omega
      · conv => whnf
        refine ⟨by omega, fun c26 => ?_, fun c26 => ?_⟩
        · conv => whnf
          have hq9 : q < 576 := by omega
          have e : smc M p o l q = pt (sg M o q) l (if l = 1 then 1 else 3) := if_pos (by have := hOq hq9; omega)
          have hp0 : pt (sg M o q) l 1 = 0 := by obtain rfl : l = 0 := by omega
                                                 rfl
          exact l_seamI T (c0 := c) hO ho hq9 (by omega) (ih (q + 1) _ (by omega) (by rw [hc, ← e]; rfl) (by omega)) 5 1 c (by omega) (by omega) (by omega)
        · conv => whnf
          have hq9 : q < 576 := by omega
          have e : smc M p o l q = pt (sg M o q) l (if l = 1 then 1 else 3) := if_pos (by have := hOq hq9; omega)
          have hp0 : pt (sg M o q) l 0 = 0 := by obtain rfl : l = 1 := by omega
                                                 rfl
          exact l_seamI T (c0 := c) hO ho hq9 (by omega) (ih (q + 1) _ (by omega) (by rw [hc, ← e]; rfl) (by omega)) 5 0 c (by omega) (by omega) (by omega)
theorem s_X7_countSeams (T : ZTh (XX Ln xs) CZ RZ) {d b : Nat} {p o l : Int} (M : Mo) {I : ZI} {L : ZL} {Q : ZQ} (hO : ∀ q : Nat, q < 576 → I 530 q = own M q) (hl : l = 0 ∨ l = 1) (hp : zR p) (ho : zR o) (h : Q (.inl (some (.inl (seamA M p o l)))) I L) : CZ (d + 2) k_X7_countSeams [.inr (.ref 527, 8), .inl p, .inl o, .inl l] b I L Q := by
  refine T.call rfl ?_
  refine T.go [6] 90 ?_
  conv => whnf
  exact l_seamO T hO hl hp ho h 577 0 0 (by omega) rfl (by omega)
end
