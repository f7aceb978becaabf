/-! THE REFERENCE, TEXTS 17: parse -/
section
variable {Ln : Nat} {xs : Nat → Int32} {CZ : Nat → ZC} {RZ : Nat → Nat → ZQ → ZP}
/-- no shapes, the first p pieces off -/
def ofK (p : Nat) : Mo := (fun _ => 0, fun _ => 0, fun j => if j < (p : Int) then -1 else 0, 0, fun _ _ => false)
theorem ofK_t {p j w : Nat} : tlM (ofK p) j w = if j < p then -1 else 0 := by
  unfold tlM
  show (if (if ((j : Nat) : Int) < (p : Int) then (-1 : Int) else 0) = -1 then (-1 : Int) else if ((w : Nat) : Int) = 0 then (0 : Int) else if ((w : Nat) : Int) = 1 then (0 : Int) else if ((w : Nat) : Int) = 2 then (if ((j : Nat) : Int) < (p : Int) then (-1 : Int) else 0) / 2 else (if ((j : Nat) : Int) < (p : Int) then (-1 : Int) else 0) % 2) = _
  by_cases e : j < p
  · rw [if_pos (show ((j : Nat) : Int) < (p : Int) by omega), if_pos rfl, if_pos e]
  · rw [if_neg (show ¬ ((j : Nat) : Int) < (p : Int) by omega), if_neg (by decide), if_neg e]
    repeat' split
    all_goals rfl
theorem ofK_off {p : Nat} (j w : Nat) : tlM (ofK (p + 1)) j w = tlM (offP (ofK p) p) j w := by
  rw [tlM_off, ofK_t, ofK_t]
  by_cases e : j = p
  · subst e
    rw [if_pos (by omega), if_pos rfl]
  · rw [if_neg e]
    by_cases c : j < p
    · rw [if_pos c, if_pos (by omega)]
    · rw [if_neg c, if_neg (by omega)]
theorem offM_t {j w : Nat} : tlM offM j w = -1 := if_pos rfl
theorem l_mp2 (T : ZTh (XX Ln xs) CZ RZ) {d b : Nat} {Q : ZQ} {v : Int} {I0 : ZI} {L : ZL} (h : ∀ I', Fr (fun a _ => a = 605) I0 I' → DrM I' offM → RZ (d + 7) k_X12_parse Q 72 [.inr (.ref 603, 13), .inl v, zj, zj] [] b I' L) (m : Nat) : ∀ (p : Nat) (I : ZI), (p ≤ 7) → (Fr (fun a _ => a = 605) I0 I) → (RowM I 605 0 (ofK p)) → (∀ i : Nat, 29 ≤ i → i < 173 → I 605 (i : Int) = 0) → 7 - (p : Int) < (m : Int) → RZ (d + 7) k_X12_parse Q 52 [.inr (.ref 603, 13), .inl v, .inl ((p : Int)), zj] [] b I L := by
  induction m with
  | zero =>
    intro p I hp hfr hR hz hm
    exfalso
    omega
  | succ m ih =>
    intro p I hp hfr hR hz hm
    refine T.go [52, 72] 90 ?_
    conv => whnf
    refine ⟨by omega, fun c55 => ?_, fun c55 => ?_⟩
    · conv => whnf
      refine T.fg [2] ?_
      obtain rfl : p = 7 := by omega
      exact h I hfr ⟨hR.cg rfl rfl (fun j w hj _ => by rw [offM_t, ofK_t, if_pos hj]), fun i h1 h2 => hz i h1 h2⟩
    · conv => whnf
      refine ⟨by decide, _, rfl, ?_⟩
      conv => whnf
      refine zinv0 (s_X12_putsOff T (p := p) (by decide) (by omega) ?_)
      conv => whnf
      refine ih (p + 1) _ (by omega) ((((hfr.v2 rfl).v2 rfl).v2 rfl).v2 rfl) ((hR.off (Nat.zero_le _) (by omega)).cg rfl rfl (fun j w _ _ => ofK_off j w)) (fun i h1 h2 => ?_) (by omega)
      rw [v2_ne (by omega), v2_ne (by omega), v2_ne (by omega), v2_ne (by omega)]
      exact hz i h1 h2
theorem l_mp1 (T : ZTh (XX Ln xs) CZ RZ) {d b : Nat} {Q : ZQ} {v : Int} {I0 : ZI} {L : ZL} (h : ∀ I', Fr (fun a _ => a = 605) I0 I' → DrM I' offM → RZ (d + 7) k_X12_parse Q 72 [.inr (.ref 603, 13), .inl v, zj, zj] [] b I' L) (m : Nat) : ∀ (k : Nat) (I : ZI), (k ≤ 173) → (Fr (fun a _ => a = 605) I0 I) → (∀ i : Nat, i < k → I 605 (i : Int) = 0) → 173 - (k : Int) < (m : Int) → RZ (d + 7) k_X12_parse Q 30 [.inr (.ref 603, 13), .inl v, .inl ((k : Int)), zj] [] b I L := by
  induction m with
  | zero =>
    intro k I hk hfr hz hm
    exfalso
    omega
  | succ m ih =>
    intro k I hk hfr hz hm
    refine T.go [30, 52] 90 ?_
    conv => whnf
    refine ⟨by omega, fun c34 => ?_, fun c34 => ?_⟩
    · conv => whnf
      obtain rfl : k = 173 := by omega
      refine l_mp2 T (v := v) (I0 := I0) h 8 0 I (Nat.zero_le _) hfr ⟨hz 0 (by omega), fun p w hp hw => ?_, fun j hj => absurd hj (Nat.not_lt_zero j)⟩ (fun i h1 h2 => hz i h2) (by omega)
      rw [ofK_t, if_neg (by omega), Int.zero_add]
      exact hz _ (by omega)
    · conv => whnf
      refine ⟨by decide, _, rfl, ?_⟩
      conv => whnf
      refine ⟨by omega, by decide, ?_⟩
      conv => whnf
      refine ih (k + 1) _ (by omega) (hfr.v2 rfl) (fun i hi => ?_) (by omega)
      by_cases e : i = k
      · rw [e, v2_eq]
      · rw [v2_ne (by omega)]; exact hz i (by omega)
theorem l_mp3 (T : ZTh (XX Ln xs) CZ RZ) {d b : Nat} {Q : ZQ} {vn : Nat} {W H n bl : Nat} {M : Mo} {P SL : Nat → Mo} {v u : Nat → Int} {I : ZI} {L : ZL} (hC : MB I W H M P n SL v bl u) (hA : WfA W H M P n SL v) (h8 : I 603 8 = 0) (hd : DrM I offM) (hvn : vn ≤ bl) (h : pc (pTx u vn).1 = 0 → ∀ I', Fr PMd I I' → I' 603 8 = 0 → MB I' (txW u vn) (txH u vn) (pTx u vn).2 P 0 SL (fun _ => 0) 0 u → Q (.inl (some (.inl (mN (pTx u vn).2 : Int)))) I' L) (h1 : ¬ pc (pTx u vn).1 = 0 → ∀ I', Fr PMd I I' → I' 603 8 = 0 → MB I' W H M P n SL v 0 u → Q (.inl (some (.inl (-2 - (8 * ((po (pTx u vn).1 : Nat) : Int) + ((pc (pTx u vn).1 : Nat) : Int)))))) I' L) : RZ (d + 7) k_X12_parse Q 72 [.inr (.ref 603, 13), .inl ((vn : Int)), zj, zj] [] b I L := by
  obtain ⟨mT, mR, ⟨mW, mH⟩, ⟨mn, mn8⟩, mP, mS9, ⟨mb1, mb2, mb3⟩, mz⟩ := id hC
  obtain ⟨⟨⟨⟨w1, w2, w3, w4⟩, -⟩, w5, w6⟩, wP, wS⟩ := id hA
  refine T.go [] 150 ?_
  conv => whnf
  refine ⟨by decide, ?_⟩
  conv => whnf
  refine ⟨by decide, ?_⟩
  conv => whnf
  refine ⟨by decide, ?_⟩
  conv => whnf
  refine ⟨by decide, ?_⟩
  conv => whnf
  refine ⟨by decide, ?_⟩
  conv => whnf
  refine zinv0 (s_X12_scans T (q := 0) (n := vn) u (by exact ⟨by rw [v2_ne (by omega), v2_ne (by omega), v2_eq], by omega, fun i hi => by rw [v2_ne (by omega), v2_ne (by omega), v2_ne (by omega)]; exact ⟨(mb3 i (by omega)).2.2, (mb3 i (by omega)).1, (mb3 i (by omega)).2.1⟩⟩) (by omega) (by rw [v2_ne (by omega), v2_eq]; rfl) (by rw [v2_ne (by omega), v2_ne (by omega), v2_ne (by omega)]; exact mz) ?_)
  intro I_98 hf_98 hz_98 hk_98
  have hY9 : BYm I_98 u vn := BYm.sn ⟨by rw [v2_ne (by omega), v2_ne (by omega), v2_eq], by omega, fun i hi => by rw [v2_ne (by omega), v2_ne (by omega), v2_ne (by omega)]; exact ⟨(mb3 i (by omega)).2.2, (mb3 i (by omega)).1, (mb3 i (by omega)).2.1⟩⟩ hf_98
  have eA : ∀ (a : Nat) (b : Int), ¬ (a = 603 ∧ 52 ≤ b ∧ b ≤ 57) → I_98 a b = I a b := fun a b g => by rw [hf_98 _ _ (by unfold PSn; omega), v2_ne (by omega), v2_ne (by omega), v2_ne (by omega)]
  have hS9 : PSm I_98 u vn (0, 0, posA u vn 0) := ⟨hY9, ⟨Nat.zero_le _, by rw [hf_98 _ _ (by unfold PSn; omega), v2_eq]; rfl, fun e => absurd rfl e⟩, fun _ => ⟨(posA_b u vn 0).1, (posA_b u vn 0).2, hk_98⟩, hz_98, by rw [hk_98.2.2.1]; exact sort_b⟩
  conv => whnf
  refine zinv0 (s_X12_readsText T (u := u) (n := vn) (by exact hS9) (by exact mT.fr (fun a b _ _ => eA _ _ (by omega))) (by exact hd.fr (Nat.zero_le _) (fun b => eA _ _ (by omega))) ?_)
  intro I_102 hf_102 hS_102 hz_102
  have eB : ∀ (a : Nat) (b : Int), ¬ a = 605 → ¬ a = 620 → ¬ a = 637 → ¬ (a = 603 ∧ (b = 5 ∨ b = 6 ∨ (52 ≤ b ∧ b ≤ 60))) → I_102 a b = I a b := fun a b g1 g2 g3 g4 => by rw [hf_102 _ _ (by unfold PRt; omega), eA _ _ (by omega)]
  conv => whnf
  refine ⟨by decide, ?_⟩
  conv => whnf
  refine zinv0 (s_X12_isGood T (u := u) (n := vn) (s := (pTx u vn).1) (by exact hS_102.fr (fun a b g => v2_ne (by omega))) ?_ ?_)
  · intro cha_111
    conv => whnf
    refine ⟨by decide, fun _ => ?_, fun c => absurd c (by decide)⟩
    conv => whnf
    refine ⟨by decide, _, rfl, ?_⟩
    conv => whnf
    refine ⟨by decide, _, rfl, ?_⟩
    conv => whnf
    refine zinv0 (s_cp10173_10173 T  (by decide) (by decide) (by decide) (by omega) (by omega) ?_)
    intro I_153 hf_153 hv_153
    conv => whnf
    refine ⟨by decide, ?_⟩
    conv => whnf
    refine ⟨by decide, _, rfl, ?_⟩
    conv => whnf
    refine ⟨by omega, ⟨by decide, by decide, by omega⟩, ?_⟩
    conv => whnf
    refine ⟨by decide, _, rfl, ?_⟩
    conv => whnf
    refine ⟨by omega, ⟨by decide, by decide, by omega⟩, ?_⟩
    conv => whnf
    refine ⟨by decide, _, rfl, ?_⟩
    conv => whnf
    refine ⟨by omega, by decide, ?_⟩
    conv => whnf
    have c9 := cha_111
    obtain ⟨z1, ⟨z2, z3⟩, z4⟩ := hz_102 c9
    have hg9 := hw4_g z1
    have hwf : Wf (txW u vn) (txH u vn) (pTx u vn).2 := pSts_wf 700 _ (offM_wf hg9.2.2.1)
    have eC : ∀ (a : Nat) (b : Int), ¬ a = 604 → ¬ a = 605 → ¬ a = 608 → ¬ a = 620 → ¬ a = 637 → ¬ (a = 603 ∧ (b = 5 ∨ b = 6 ∨ b = 7 ∨ (51 ≤ b ∧ b ≤ 60))) → v2 (v2 (v2 I_153 603 7 0) 608 0 0) 608 1 0 a b = I a b := fun a b g1 g2 g3 g4 g5 g6 => by rw [v2_ne (by omega), v2_ne (by omega), v2_ne (by omega), hf_153 _ _ (by omega), v2_ne (by omega), eB _ _ (by omega) (by omega) (by omega) (by omega)]
    have hR9 : RowM (v2 (v2 (v2 I_153 603 7 0) 608 0 0) 608 1 0) 604 0 (pTx u vn).2 := z4.1.cp hwf.2.1 (fun j j0 j1 => by rw [v2_ne (by omega), v2_ne (by omega), v2_ne (by omega), hv_153 j j0 j1]; exact v2_ne (by omega))
    rw [hR9.1]
    refine h c9 _ (fun a b g => ?_) ?_ ⟨mT.fr (fun a b _ _ => ?_), hR9, ⟨?_, ?_⟩, ⟨?_, Nat.zero_le _⟩, fun i hi => absurd hi (Nat.not_lt_zero i), fun t ht => ⟨?_, Or.inl rfl, fun g => absurd (show (0 : Int) = 1 from g) (by decide)⟩, ⟨?_, Nat.zero_le _, fun i hi => absurd hi (Nat.not_lt_zero i)⟩, ?_⟩
    · have g' : ¬ 603 ≤ a := g
      exact eC a b (by omega) (by omega) (by omega) (by omega) (by omega) (by omega)
    · rw [eC _ _ (by omega) (by omega) (by omega) (by omega) (by omega) (by omega)]; exact h8
    · exact eC _ _ (by omega) (by omega) (by omega) (by omega) (by omega) (by omega)
    · rw [v2_ne (by omega), v2_ne (by omega), v2_ne (by omega), hf_153 _ _ (by omega), v2_ne (by omega)]; exact z2
    · rw [v2_ne (by omega), v2_ne (by omega), v2_ne (by omega), hf_153 _ _ (by omega), v2_ne (by omega)]; exact z3
    · rw [v2_ne (by omega), v2_ne (by omega), v2_eq]; rfl
    · rcases (show t = 0 ∨ t = 1 by omega) with e | e <;> subst e
      · rw [v2_ne (by omega)]; exact v2_eq _ _ _ _
      · exact v2_eq _ _ _ _
    · rw [v2_ne (by omega), v2_ne (by omega), v2_ne (by omega), hf_153 _ _ (by omega), v2_eq]; rfl
    · rw [v2_ne (by omega), v2_ne (by omega), v2_ne (by omega), hf_153 _ _ (by omega), v2_ne (by omega)]; exact hS_102.2.2.2.1
  · intro ch2a_111
    conv => whnf
    refine ⟨by decide, fun c => absurd c (by decide), fun _ => ?_⟩
    conv => whnf
    refine ⟨by decide, ?_⟩
    conv => whnf
    refine ⟨by decide, ?_⟩
    conv => whnf
    refine ⟨by decide, ?_⟩
    conv => whnf
    refine ⟨by decide, ?_⟩
    conv => whnf
    obtain ⟨q2, q3, q4⟩ := hS_102.2.1
    have c9 := ch2a_111
    rw [v2_ne (by omega), v2_ne (by omega), v2_ne (by omega), v2_ne (by omega), v2_ne (by omega), v2_ne (by omega), q4 c9, q3]
    refine h1 c9 _ (fun a b g => ?_) ?_ ⟨mT.fr (fun a b _ _ => ?_), mR.fr w5 (fun j _ _ => ?_), ⟨?_, ?_⟩, ⟨?_, mn8⟩, fun i hi => (mP i hi).fr (wP i hi).2.1 (fun j _ _ => ?_), fun t ht => ?_, ⟨?_, Nat.zero_le _, fun i hi => absurd hi (Nat.not_lt_zero i)⟩, ?_⟩
    · have g' : ¬ 603 ≤ a := g
      rw [v2_ne (by omega), v2_ne (by omega), v2_ne (by omega)]
      exact eB a b (by omega) (by omega) (by omega) (by omega)
    · rw [v2_ne (by omega), v2_ne (by omega), v2_ne (by omega), eB _ _ (by omega) (by omega) (by omega) (by omega)]; exact h8
    · rw [v2_ne (by omega), v2_ne (by omega), v2_ne (by omega)]; exact eB _ _ (by omega) (by omega) (by omega) (by omega)
    · rw [v2_ne (by omega), v2_ne (by omega), v2_ne (by omega)]; exact eB _ _ (by omega) (by omega) (by omega) (by omega)
    · rw [v2_ne (by omega), v2_eq]; exact mW
    · rw [v2_eq]; exact mH
    · rw [v2_ne (by omega), v2_ne (by omega), v2_ne (by omega)]; exact (eB _ _ (by omega) (by omega) (by omega) (by omega)).trans mn
    · rw [v2_ne (by omega), v2_ne (by omega), v2_ne (by omega)]; exact eB _ _ (by omega) (by omega) (by omega) (by omega)
    · rw [v2_ne (by omega), v2_ne (by omega), v2_ne (by omega), eB _ _ (by omega) (by omega) (by omega) (by omega)]
      obtain ⟨b1, b2, b3⟩ := mS9 t ht
      exact ⟨b1, b2, fun g => (b3 g).fr (wS t ht g).2.1 (fun j _ _ => by rw [v2_ne (by omega), v2_ne (by omega), v2_ne (by omega)]; exact eB _ _ (by omega) (by omega) (by omega) (by omega))⟩
    · rw [v2_ne (by omega), v2_ne (by omega), v2_eq]; rfl
    · rw [v2_ne (by omega), v2_ne (by omega), v2_ne (by omega)]; exact hS_102.2.2.2.1
theorem s_X12_parse (T : ZTh (XX Ln xs) CZ RZ) {d b : Nat} {W H n bl : Nat} {M : Mo} {P SL : Nat → Mo} {v u : Nat → Int} {x : Int} {I : ZI} {L : ZL} {Q : ZQ} (hC : MB I W H M P n SL v bl u) (hA : WfA W H M P n SL v) (hx : zR x) (h : 0 ≤ x ∧ x ≤ bl → pc (pTx u x.toNat).1 = 0 → ∀ I', Fr PMd I I' → I' 603 8 = 0 → MB I' (txW u x.toNat) (txH u x.toNat) (pTx u x.toNat).2 P 0 SL (fun _ => 0) 0 u → Q (.inl (some (.inl ((mN (pTx u x.toNat).2 : Int))))) I' L) (h1 : 0 ≤ x ∧ x ≤ bl → ¬ pc (pTx u x.toNat).1 = 0 → ∀ I', Fr PMd I I' → I' 603 8 = 0 → MB I' W H M P n SL v 0 u → Q (.inl (some (.inl ((-2 - (8 * ((po (pTx u x.toNat).1 : Nat) : Int) + ((pc (pTx u x.toNat).1 : Nat) : Int))))))) I' L) (h2 : ¬ (0 ≤ x ∧ x ≤ bl) → ∀ I', Fr PSc I I' → I' 603 8 = 1 → MB I' W H M P n SL v bl u → Q (.inl (some (.inl (0)))) I' L) : CZ (d + 8) k_X12_parse [.inr (.ref 603, 13), .inl x] b I L Q := by
  refine T.call rfl ?_
  obtain ⟨mT, mR, ⟨mW, mH⟩, ⟨mn, mn8⟩, mP, mS9, ⟨mb1, mb2, mb3⟩, mz⟩ := id hC
  obtain ⟨⟨⟨⟨w1, w2, w3, w4⟩, -⟩, w5, w6⟩, wP, wS⟩ := id hA
  refine T.go [30] 90 ?_
  conv => whnf
  refine ⟨by omega, ?_⟩
  conv => whnf
  refine ⟨by decide, ?_⟩
  conv => whnf
  refine ⟨by rw [mb1]; exact ⟨by omega, by omega⟩, ?_⟩
  conv => whnf
  rw [mb1]
  refine zinv0 (s_X12_isIn T (v := x) (a := 0) (z := (bl : Int)) (by omega) (by omega) (by omega) ?_ ?_)
  · intro cha_9
    conv => whnf
    refine ⟨by decide, fun _ => ?_, fun c => absurd c (by decide)⟩
    conv => whnf
    refine zinv0 (s_fails0 T   ?_)
    conv => whnf
    refine ⟨by decide, fun _ => ?_, fun c => absurd c (by decide)⟩
    conv => whnf
    have hC0 := hC.th hA 0
    obtain ⟨vn, rfl⟩ := Int.eq_ofNat_of_zero_le cha_9.1
    have hvm : ((vn : Nat) : Int).toNat = vn := Int.toNat_natCast vn
    rw [hvm] at h h1
    refine l_mp1 T (v := (vn : Int)) (I0 := v2 I 603 8 0) (fun I1 f1 d1 => ?_) 174 0 _ (Nat.zero_le _) (Fr.refl _) (fun i hi => absurd hi (Nat.not_lt_zero i)) (by omega)
    have hC1 := hC0.fr hA (I' := I1) (fun a b _ g => f1 a b (fun c => g (Or.inr (Or.inl c))))
    refine l_mp3 T hC1 hA ((f1 _ _ (by omega)).trans (v2_eq _ _ _ _)) d1 (by omega) (fun g I2 f2 t2 c2 => h (by omega) g I2 ?_ t2 c2) (fun g I2 f2 t2 c2 => h1 (by omega) g I2 ?_ t2 c2)
    · exact (((Fr.refl I).v2 (by unfold PMd; omega)).trans (f1.mono (fun a b c => by unfold PMd; omega))).trans f2
    · exact (((Fr.refl I).v2 (by unfold PMd; omega)).trans (f1.mono (fun a b c => by unfold PMd; omega))).trans f2
  · intro ch2a_9
    conv => whnf
    refine ⟨by decide, fun c => absurd c (by decide), fun _ => ?_⟩
    conv => whnf
    refine zinv0 (s_fails1 T   ?_)
    conv => whnf
    refine ⟨by decide, fun c => absurd c (by decide), fun _ => ?_⟩
    conv => whnf
    exact h2 ch2a_9 _ (frTh I 1) (v2_eq _ _ _ _) (hC.th hA 1)
end
