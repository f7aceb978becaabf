/-! THE START, 5: the heap's instructions hold -/
theorem sk_getfield (i) : SnK (.getfield i) h9_getfield := by
  intro X hX C Q P nx sd v ls st c p c' h
  obtain ⟨d, k, rc, rs, n, I, L, A, fs⟩ := c
  unfold h9_getfield at h
  dsimp only at h
  split at h
  · rename_i c j y ft r t rest
    cases e : Nat.beq t (kObj c) with
    | false => rw [e] at h; cases h
    | true =>
      rw [e] at h
      dsimp only [cond] at h
      split at h
      · cases h
        refine ⟨⟨rfl, rfl, rfl⟩, fun hp => ?_⟩
        show (bif Nat.beq t (kObj c) then _ else False)
        rw [e]
        exact hp
      · split at h
        · cases h
        · rename_i a ha
          cases h
          refine ⟨⟨rfl, rfl, rfl⟩, fun hp => ?_⟩
          show (bif Nat.beq t (kObj c) then (match hpG 0 A r j with | 0 => False | a + 1 => P nx ls ((.ref a, ft) :: rest) rc rs n (dHI I) (dHL L) (dHA A)) else False)
          rw [e, ha]
          exact hp
      · cases h
  · cases h
theorem sk_putfield (i) : SnK (.putfield i) h9_putfield := by
  intro X hX C Q P nx sd v ls st c p c' h
  obtain ⟨d, k, rc, rs, n, I, L, A, fs⟩ := c
  unfold h9_putfield at h
  dsimp only at h
  split at h
  · rename_i c j y ft x tx r t rest
    cases e : (Nat.beq t (kObj c) && okC9 r j) with
    | false => rw [e] at h; cases h
    | true =>
      rw [e] at h
      rw [Bool.and_eq_true] at e
      have hrj := okC9_iff e.2
      dsimp only [cond] at h
      split at h
      · rename_i w
        rw [z32_eq, hpK_eq] at h
        cases h
        refine ⟨⟨rfl, rfl, rfl⟩, fun hp => ?_⟩
        show (bif Nat.beq t (kObj c) then P nx ls rest rc rs n (u2 (dHI I) r j w) (dHL L) (dHA A) else False)
        rw [e.1, show u2 (dHI I) r j w = dHI (hpS 0 I r j w) from hpS_u2 0 I hrj w]
        exact hp
      · rename_i w
        cases e4 : (decide (w = 0) || decide (w = 1)) with
        | false => rw [e4] at h; cases h
        | true =>
          rw [e4] at h
          dsimp only [cond] at h
          rw [z32_eq, hpK_eq] at h
          cases h
          refine ⟨⟨rfl, rfl, rfl⟩, fun hp => ?_⟩
          show (bif Nat.beq t (kObj c) then (w = 0 ∨ w = 1) ∧ P nx ls rest rc rs n (u2 (dHI I) r j w) (dHL L) (dHA A) else False)
          rw [e.1, show u2 (dHI I) r j w = dHI (hpS 0 I r j w) from hpS_u2 0 I hrj w]
          rw [Bool.or_eq_true, decide_eq_true_iff, decide_eq_true_iff] at e4
          exact ⟨e4, hp⟩
      · rename_i a
        cases e4 : Nat.beq tx ft with
        | false => rw [e4] at h; cases h
        | true =>
          rw [e4] at h
          dsimp only [cond] at h
          rw [fNk_eq, hpK_eq] at h
          cases h
          refine ⟨⟨rfl, rfl, rfl⟩, fun hp => ?_⟩
          show (bif Nat.beq t (kObj c) then (bif Nat.beq tx ft then P nx ls rest rc rs n (dHI I) (dHL L) (u2 (dHA A) r j (a + 1)) else False) else False)
          rw [e.1, e4, show u2 (dHA A) r j (a + 1) = dHA (hpS 0 A r j (a + 1)) from hpS_u2 0 A hrj (a + 1)]
          exact hp
      · cases h
  · cases h
theorem sk_iaload : SnK .iaload h9_iaload := by
  intro X hX C Q P nx sd v ls st c p c' h
  obtain ⟨d, k, rc, rs, n, I, L, A, fs⟩ := c
  unfold h9_iaload at h
  dsimp only at h
  split at h
  · rename_i i _ r t rest
    split at h
    · rename_i hs
      cases e : inbB i (kLen t) with
      | false => rw [e] at h; cases h
      | true =>
        rw [e] at h
        cases h
        refine ⟨⟨rfl, rfl, rfl⟩, fun hp => ?_⟩
        show (match kSort t with
          | 1 => inb i (kLen t) ∧ P nx ls ((.int (dHI I r i.toNatClampNeg), 0) :: rest) rc rs n (dHI I) (dHL L) (dHA A)
          | 6 => inb i (kLen t) ∧ P nx ls ((.int (X.1 r i.toNatClampNeg), 0) :: rest) rc rs n (dHI I) (dHL L) (dHA A)
          | 8 => inb i X.2.2.2.2.2 ∧ P nx ls ((.int (X.1 r i.toNatClampNeg), 0) :: rest) rc rs n (dHI I) (dHL L) (dHA A)
          | _ => False)
        rw [hs]
        exact ⟨inbB_iff e, hp⟩
    · rename_i hs
      cases e : (inbB i (kLen t) && !Nat.beq r 10100) with
      | false => rw [e] at h; cases h
      | true =>
        rw [e] at h
        cases h
        refine ⟨⟨rfl, rfl, rfl⟩, fun hp => ?_⟩
        show (match kSort t with
          | 1 => inb i (kLen t) ∧ P nx ls ((.int (dHI I r i.toNatClampNeg), 0) :: rest) rc rs n (dHI I) (dHL L) (dHA A)
          | 6 => inb i (kLen t) ∧ P nx ls ((.int (X.1 r i.toNatClampNeg), 0) :: rest) rc rs n (dHI I) (dHL L) (dHA A)
          | 8 => inb i X.2.2.2.2.2 ∧ P nx ls ((.int (X.1 r i.toNatClampNeg), 0) :: rest) rc rs n (dHI I) (dHL L) (dHA A)
          | _ => False)
        rw [Bool.and_eq_true] at e
        rw [hs]
        refine ⟨inbB_iff e.1, ?_⟩
        rw [hX r _ (by cases g : Nat.beq r 10100 with | false => rfl | true => rw [g] at e; cases e.2)]
        exact hp
    · cases h
  · cases h
theorem sk_baload : SnK .baload h9_baload := by
  intro X hX C Q P nx sd v ls st c p c' h
  obtain ⟨d, k, rc, rs, n, I, L, A, fs⟩ := c
  unfold h9_baload at h
  dsimp only at h
  split at h
  · rename_i i _ r t rest
    split at h
    · rename_i hs
      cases e : inbB i (kLen t) with
      | false => rw [e] at h; cases h
      | true =>
        rw [e] at h
        cases h
        refine ⟨⟨rfl, rfl, rfl⟩, fun hp => ?_⟩
        show (match kSort t with
          | 2 => inb i (kLen t) ∧ P nx ls ((.int (dHI I r i.toNatClampNeg), 0) :: rest) rc rs n (dHI I) (dHL L) (dHA A)
          | 3 => inb i (kLen t) ∧ P nx ls ((.int (dHI I r i.toNatClampNeg), 0) :: rest) rc rs n (dHI I) (dHL L) (dHA A)
          | _ => False)
        rw [hs]
        exact ⟨inbB_iff e, hp⟩
    · cases h
  · cases h
theorem sk_laload : SnK .laload h9_laload := by
  intro X hX C Q P nx sd v ls st c p c' h
  obtain ⟨d, k, rc, rs, n, I, L, A, fs⟩ := c
  unfold h9_laload at h
  dsimp only at h
  split at h
  · rename_i i _ r t rest
    split at h
    · rename_i hs
      cases e : inbB i (kLen t) with
      | false => rw [e] at h; cases h
      | true =>
        rw [e] at h
        cases h
        refine ⟨⟨rfl, rfl, rfl⟩, fun hp => ?_⟩
        show (match kSort t with
          | 4 => inb i (kLen t) ∧ P nx ls ((.long (dHL L r i.toNatClampNeg), 0) :: rest) rc rs n (dHI I) (dHL L) (dHA A)
          | _ => False)
        rw [hs]
        exact ⟨inbB_iff e, hp⟩
    · cases h
  · cases h
theorem sk_aaload : SnK .aaload h9_aaload := by
  intro X hX C Q P nx sd v ls st c p c' h
  obtain ⟨d, k, rc, rs, n, I, L, A, fs⟩ := c
  unfold h9_aaload at h
  dsimp only at h
  split at h
  · rename_i i _ r t rest
    cases e7 : Nat.beq (kSort t) 7 with
    | true => rw [e7] at h; cases h
    | false =>
      rw [e7] at h
      dsimp only [cond] at h
      cases e : (Nat.ble 10 (kSort t) && inbB i (kLen t)) with
      | false => rw [e] at h; cases h
      | true =>
        rw [e] at h
        rw [Bool.and_eq_true] at e
        dsimp only [cond] at h
        split at h
        · cases h
        · rename_i a ha
          cases h
          refine ⟨⟨rfl, rfl, rfl⟩, fun hp => ?_⟩
          show (bif Nat.beq (kSort t) 7 then _ else bif Nat.ble 10 (kSort t) then inb i (kLen t) ∧ (match hpG 0 A r i.toNatClampNeg with | 0 => False | a + 1 => P nx ls ((.ref a, kSort t - 9) :: rest) rc rs n (dHI I) (dHL L) (dHA A)) else False)
          rw [e7, e.1, ha]
          exact ⟨inbB_iff e.2, hp⟩
  · cases h
theorem sk_iastore : SnK .iastore h9_iastore := by
  intro X hX C Q P nx sd v ls st c p c' h
  obtain ⟨d, k, rc, rs, n, I, L, A, fs⟩ := c
  unfold h9_iastore at h
  dsimp only at h
  split at h
  · rename_i x _ i _ r t rest
    split at h
    · rename_i hs
      cases e : (inbB i (kLen t) && okC9 r i.toNatClampNeg) with
      | false => rw [e] at h; cases h
      | true =>
        rw [e] at h
        rw [Bool.and_eq_true] at e
        dsimp only [cond] at h
        rw [z32_eq, hpK_eq] at h
        cases h
        refine ⟨⟨rfl, rfl, rfl⟩, fun hp => ?_⟩
        show (match kSort t with
          | 1 => inb i (kLen t) ∧ P nx ls rest rc rs n (u2 (dHI I) r i.toNatClampNeg x) (dHL L) (dHA A)
          | _ => False)
        rw [hs, show u2 (dHI I) r i.toNatClampNeg x = dHI (hpS 0 I r i.toNatClampNeg x) from hpS_u2 0 I (okC9_iff e.2) x]
        exact ⟨inbB_iff e.1, hp⟩
    · cases h
  · cases h
theorem sk_lastore : SnK .lastore h9_lastore := by
  intro X hX C Q P nx sd v ls st c p c' h
  obtain ⟨d, k, rc, rs, n, I, L, A, fs⟩ := c
  unfold h9_lastore at h
  dsimp only at h
  split at h
  · rename_i x _ i _ r t rest
    split at h
    · rename_i hs
      cases e : (inbB i (kLen t) && okC9 r i.toNatClampNeg) with
      | false => rw [e] at h; cases h
      | true =>
        rw [e] at h
        rw [Bool.and_eq_true] at e
        dsimp only [cond] at h
        rw [z64_eq, hpK_eq] at h
        cases h
        refine ⟨⟨rfl, rfl, rfl⟩, fun hp => ?_⟩
        show (match kSort t with
          | 4 => inb i (kLen t) ∧ P nx ls rest rc rs n (dHI I) (u2 (dHL L) r i.toNatClampNeg x) (dHA A)
          | _ => False)
        rw [hs, show u2 (dHL L) r i.toNatClampNeg x = dHL (hpS 0 L r i.toNatClampNeg x) from hpS_u2 0 L (okC9_iff e.2) x]
        exact ⟨inbB_iff e.1, hp⟩
    · cases h
  · cases h
theorem sk_bastore : SnK .bastore h9_bastore := by
  intro X hX C Q P nx sd v ls st c p c' h
  obtain ⟨d, k, rc, rs, n, I, L, A, fs⟩ := c
  unfold h9_bastore at h
  dsimp only at h
  split at h
  · rename_i x _ i _ r t rest
    split at h
    · rename_i hs
      cases e : (inbB i (kLen t) && okC9 r i.toNatClampNeg && (decide (x = 0) || decide (x = 1))) with
      | false => rw [e] at h; cases h
      | true =>
        rw [e] at h
        rw [Bool.and_eq_true, Bool.and_eq_true, Bool.or_eq_true, decide_eq_true_iff, decide_eq_true_iff] at e
        dsimp only [cond] at h
        rw [z32_eq, hpK_eq] at h
        cases h
        refine ⟨⟨rfl, rfl, rfl⟩, fun hp => ?_⟩
        show (match kSort t with
          | 2 => inb i (kLen t) ∧ (x = 0 ∨ x = 1) ∧ P nx ls rest rc rs n (u2 (dHI I) r i.toNatClampNeg x) (dHL L) (dHA A)
          | 3 => inb i (kLen t) ∧ x.toInt8.toInt32 = x ∧ P nx ls rest rc rs n (u2 (dHI I) r i.toNatClampNeg x) (dHL L) (dHA A)
          | _ => False)
        rw [hs, show u2 (dHI I) r i.toNatClampNeg x = dHI (hpS 0 I r i.toNatClampNeg x) from hpS_u2 0 I (okC9_iff e.1.2) x]
        exact ⟨inbB_iff e.1.1, e.2, hp⟩
    · cases h
  · cases h
theorem sk_aastore : SnK .aastore h9_aastore := by
  intro X hX C Q P nx sd v ls st c p c' h
  obtain ⟨d, k, rc, rs, n, I, L, A, fs⟩ := c
  unfold h9_aastore at h
  dsimp only at h
  split at h
  · rename_i x tx i _ r t rest
    cases e : (Nat.ble 10 (kSort t) && Nat.beq tx (kSort t - 9)) with
    | false => rw [e] at h; cases h
    | true =>
      rw [e] at h
      dsimp only [cond] at h
      cases e2 : (inbB i (kLen t) && okC9 r i.toNatClampNeg) with
      | false => rw [e2] at h; cases h
      | true =>
        rw [e2] at h
        rw [Bool.and_eq_true] at e2
        dsimp only [cond] at h
        rw [fNk_eq, hpK_eq] at h
        cases h
        refine ⟨⟨rfl, rfl, rfl⟩, fun hp => ?_⟩
        show (bif Nat.ble 10 (kSort t) && Nat.beq tx (kSort t - 9) then inb i (kLen t) ∧ P nx ls rest rc rs n (dHI I) (dHL L) (u2 (dHA A) r i.toNatClampNeg (x + 1)) else False)
        rw [e, show u2 (dHA A) r i.toNatClampNeg (x + 1) = dHA (hpS 0 A r i.toNatClampNeg (x + 1)) from hpS_u2 0 A (okC9_iff e2.2) (x + 1)]
        exact ⟨inbB_iff e2.1, hp⟩
  · cases h
theorem sk_new (i) : SnK (.new i) h9_new := by
  intro X hX C Q P nx sd v ls st c p c' h
  obtain ⟨d, k, rc, rs, n, I, L, A, fs⟩ := c
  unfold h9_new at h
  dsimp only at h
  split at h
  · rename_i c N
    split at h
    · rename_i rc'
      cases e : (Nat.ble N rs && Nat.beq (kdF n) (kObj c) && Nat.blt n 2000) with
      | false => rw [e] at h; cases h
      | true =>
        rw [e] at h
        rw [Bool.and_eq_true, Bool.and_eq_true, blt_d, decide_eq_true_iff] at e
        dsimp only [cond] at h
        rw [fNk_eq, fNk_eq, hpM_eq, hpM_eq] at h
        cases h
        refine ⟨⟨rfl, rfl, rfl⟩, fun hp => ?_⟩
        show N ≤ rs ∧ kdF n = kObj c ∧ P nx ls ((.ref n, kObj c) :: st) rc' (rs - N) (n + 1) (ur (dHI I) n fun _ => 0) (dHL L) (ur (dHA A) n fun _ => 0)
        rw [show (ur (dHI I) n fun _ => 0) = dHI (hpN I n) from hpN_ur 0 I e.2, show (ur (dHA A) n fun _ => 0) = dHA (hpN A n) from hpN_ur 0 A e.2]
        exact ⟨Nat.le_of_ble_eq_true e.1.1, Nat.eq_of_beq_eq_true e.1.2, hp⟩
    · cases h
  · cases h
theorem sk_newarray (i) : SnK (.newarray i) h9_newarray := by
  intro X hX C Q P nx sd v ls st c p c' h
  obtain ⟨d, k, rc, rs, n, I, L, A, fs⟩ := c
  unfold h9_newarray at h
  dsimp only at h
  split at h
  · rename_i so l _ r
    split at h
    · rename_i rc'
      cases e : (decide (0 ≤ l) && Nat.ble l.toNatClampNeg rs && Nat.beq (kdF n) (10000 * so + l.toNatClampNeg) && Nat.blt l.toNatClampNeg 10000 && Nat.blt n 2000) with
      | false => rw [e] at h; cases h
      | true =>
        rw [e] at h
        rw [Bool.and_eq_true, Bool.and_eq_true, Bool.and_eq_true, Bool.and_eq_true, blt_d, blt_d, decide_eq_true_iff, decide_eq_true_iff, decide_eq_true_iff] at e
        dsimp only [cond] at h
        rw [fNk_eq, fNk_eq, fNk_eq, hpM_eq, hpM_eq, hpM_eq] at h
        cases h
        refine ⟨⟨rfl, rfl, rfl⟩, fun hp => ?_⟩
        show 0 ≤ l ∧ l.toNatClampNeg ≤ rs ∧ kdF n = 10000 * so + l.toNatClampNeg ∧ l.toNatClampNeg < 10000 ∧ P nx ls ((.ref n, 10000 * so + l.toNatClampNeg) :: r) rc' (rs - l.toNatClampNeg) (n + 1) (ur (dHI I) n fun _ => 0) (ur (dHL L) n fun _ => 0) (ur (dHA A) n fun _ => 0)
        rw [show (ur (dHI I) n fun _ => 0) = dHI (hpN I n) from hpN_ur 0 I e.2, show (ur (dHL L) n fun _ => 0) = dHL (hpN L n) from hpN_ur 0 L e.2, show (ur (dHA A) n fun _ => 0) = dHA (hpN A n) from hpN_ur 0 A e.2]
        exact ⟨e.1.1.1.1, Nat.le_of_ble_eq_true e.1.1.1.2, Nat.eq_of_beq_eq_true e.1.1.2, e.1.2, hp⟩
    · cases h
  · cases h
theorem sk_anewarray (i) : SnK (.anewarray i) h9_newarray := by
  intro X hX C Q P nx sd v ls st c p c' h
  obtain ⟨d, k, rc, rs, n, I, L, A, fs⟩ := c
  unfold h9_newarray at h
  dsimp only at h
  split at h
  · rename_i so l _ r
    split at h
    · rename_i rc'
      cases e : (decide (0 ≤ l) && Nat.ble l.toNatClampNeg rs && Nat.beq (kdF n) (10000 * so + l.toNatClampNeg) && Nat.blt l.toNatClampNeg 10000 && Nat.blt n 2000) with
      | false => rw [e] at h; cases h
      | true =>
        rw [e] at h
        rw [Bool.and_eq_true, Bool.and_eq_true, Bool.and_eq_true, Bool.and_eq_true, blt_d, blt_d, decide_eq_true_iff, decide_eq_true_iff, decide_eq_true_iff] at e
        dsimp only [cond] at h
        rw [fNk_eq, fNk_eq, fNk_eq, hpM_eq, hpM_eq, hpM_eq] at h
        cases h
        refine ⟨⟨rfl, rfl, rfl⟩, fun hp => ?_⟩
        show 0 ≤ l ∧ l.toNatClampNeg ≤ rs ∧ kdF n = 10000 * so + l.toNatClampNeg ∧ l.toNatClampNeg < 10000 ∧ P nx ls ((.ref n, 10000 * so + l.toNatClampNeg) :: r) rc' (rs - l.toNatClampNeg) (n + 1) (ur (dHI I) n fun _ => 0) (ur (dHL L) n fun _ => 0) (ur (dHA A) n fun _ => 0)
        rw [show (ur (dHI I) n fun _ => 0) = dHI (hpN I n) from hpN_ur 0 I e.2, show (ur (dHL L) n fun _ => 0) = dHL (hpN L n) from hpN_ur 0 L e.2, show (ur (dHA A) n fun _ => 0) = dHA (hpN A n) from hpN_ur 0 A e.2]
        exact ⟨e.1.1.1.1, Nat.le_of_ble_eq_true e.1.1.1.2, Nat.eq_of_beq_eq_true e.1.1.2, e.1.2, hp⟩
    · cases h
  · cases h
