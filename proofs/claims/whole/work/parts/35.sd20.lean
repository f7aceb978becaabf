/-! SOUNDNESS, 20: a check of each entry of a table; every method keeps its contract -/
noncomputable def okRF (f : Nat → Nat → Ent → Bool) : Nat → List (Option Ent) → List Nat → Bool
  | _, [], _ => true
  | pc, none :: es, _ :: hs => okRF f (pc + 1) es hs
  | pc, some e :: es, h :: hs => f h pc e && okRF f (pc + 1) es hs
  | _, _, _ => false
noncomputable def okTF (f : Nat → Nat → Ent → Bool) : Nat → Tb → List (List Nat) → Bool
  | _, [], _ => true
  | pc, [r], h :: _ => okRF f pc r h
  | pc, r :: r2 :: rs, h :: hs => Nat.beq r.length 16 && okRF f pc r h && okTF f (pc + 16) (r2 :: rs) hs
  | _, _, _ => false
theorem okR_F (own : String) (cc : ByteArray) (es : List (Option Ent)) : ∀ (pc : Nat) (hs : List Nat), okR own cc pc es hs = okRF (okE own cc) pc es hs := by
  induction es with
  | nil => intro pc hs; cases hs <;> rfl
  | cons e es ih =>
    intro pc hs
    cases hs with
    | nil => cases e <;> rfl
    | cons h hs =>
      cases e with
      | none => exact ih (pc + 1) hs
      | some e =>
        show (okE own cc h pc e && okR own cc (pc + 1) es hs) = (okE own cc h pc e && okRF (okE own cc) (pc + 1) es hs)
        rw [ih]
theorem okT_F (own : String) (cc : ByteArray) (tb : Tb) : ∀ (pc : Nat) (ht : List (List Nat)), okT own cc pc tb ht = okTF (okE own cc) pc tb ht := by
  induction tb with
  | nil => intro pc ht; cases ht <;> rfl
  | cons r rs ih =>
    intro pc ht
    cases ht with
    | nil => cases rs <;> rfl
    | cons h hs =>
      cases rs with
      | nil => exact okR_F own cc r pc h
      | cons r2 rs =>
        show (Nat.beq r.length 16 && okR own cc pc r h && okT own cc (pc + 16) (r2 :: rs) hs) = (Nat.beq r.length 16 && okRF (okE own cc) pc r h && okTF (okE own cc) (pc + 16) (r2 :: rs) hs)
        rw [okR_F, ih]
theorem okRF_at {f : Nat → Nat → Ent → Bool} {e : Ent} (es : List (Option Ent)) : ∀ (pc j : Nat) (hs : List Nat), okRF f pc es hs = true → nth es j = some (some e) → ∃ h, f h (pc + j) e = true := by
  induction es with
  | nil => intro pc j hs _ h; cases j <;> cases h
  | cons x es ih =>
    intro pc j hs h1 h2
    cases hs with
    | nil => cases x <;> cases h1
    | cons h hs =>
      cases j with
      | zero =>
        have h2 : some x = some (some e) := h2
        cases h2
        have h1 : (f h pc e && okRF f (pc + 1) es hs) = true := h1
        rw [Bool.and_eq_true] at h1
        exact ⟨h, h1.1⟩
      | succ j =>
        have h2 : nth es j = some (some e) := h2
        have h3 : okRF f (pc + 1) es hs = true := by
          cases x with
          | none => exact h1
          | some x =>
            have h1 : (f h pc x && okRF f (pc + 1) es hs) = true := h1
            rw [Bool.and_eq_true] at h1
            exact h1.2
        obtain ⟨h', h4⟩ := ih (pc + 1) j hs h3 h2
        exact ⟨h', by rw [show pc + (j + 1) = pc + 1 + j by omega]; exact h4⟩
theorem okTF_at {f : Nat → Nat → Ent → Bool} {e : Ent} (tb : Tb) : ∀ (pc j : Nat) (ht : List (List Nat)), okTF f pc tb ht = true → lk tb j = some e → ∃ h, f h (pc + j) e = true := by
  induction tb with
  | nil =>
    intro pc j ht _ h
    unfold lk at h
    cases hj : j / 16 <;> (rw [hj] at h; cases h)
  | cons r rs ih =>
    intro pc j ht h1 h2
    cases ht with
    | nil => cases rs <;> cases h1
    | cons h hs =>
      by_cases hj : j < 16
      · have h0 : j / 16 = 0 := by omega
        have h3 : j % 16 = j := by omega
        unfold lk at h2
        rw [h0, h3] at h2
        have h2 : (match nth r j with | some e => e | none => none) = some e := h2
        have h4 : nth r j = some (some e) := by
          cases hn : nth r j with
          | none => rw [hn] at h2; cases h2
          | some q => rw [hn] at h2; have h2 : q = some e := h2; rw [h2]
        have h5 : okRF f pc r h = true := by
          cases rs with
          | nil => exact h1
          | cons r2 rs =>
            have h1 : (Nat.beq r.length 16 && okRF f pc r h && okTF f (pc + 16) (r2 :: rs) hs) = true := h1
            simp only [Bool.and_eq_true] at h1
            exact h1.1.2
        exact okRF_at r pc j h h5 h4
      · have h0 : j / 16 = (j - 16) / 16 + 1 := by omega
        have h3 : j % 16 = (j - 16) % 16 := by omega
        have h4 : lk rs (j - 16) = some e := by
          unfold lk at h2 ⊢
          rw [h0, h3] at h2
          exact h2
        cases rs with
        | nil =>
          unfold lk at h4
          cases hj : (j - 16) / 16 <;> (rw [hj] at h4; cases h4)
        | cons r2 rs =>
          have h1 : (Nat.beq r.length 16 && okRF f pc r h && okTF f (pc + 16) (r2 :: rs) hs) = true := h1
          simp only [Bool.and_eq_true] at h1
          obtain ⟨h', h5⟩ := ih (pc + 16) (j - 16) hs h1.2 h4
          exact ⟨h', by rw [show pc + j = pc + 16 + (j - 16) by omega]; exact h5⟩
noncomputable def okZT (k : Nat) : Bool := match mtm k with
  | some (y, b, rt, hh, _, _, ht) => okTF (okZ y.cls y.name b (tbm k).2 rt hh) 0 (tbm k).1 ht
  | none => false
section
variable {G : GE} {D : va_G} {X : Ext} {l : Launch} {d : Nat}
theorem sdM_body (g : Gd G X) (hl : l.stackTraces = false) (hok : ∀ k, k < 301 → okY k = true) (hoz : ∀ k, k < 301 → okZT k = true) (hk23 : ∀ r, srtB (kSort (G.2.2.2 r)) = true) (IH : ∀ k, k < 301 → sdM G D X l d k) {k : Nat} (hk : k < 301) {as : List AV} {mc ms n : Nat} {I : HI} {L : HL} {A : HA} {Q : AQ} (hC : CnD X G.2.2.2 (d + 1) k as mc ms n I L A Q) (has : ∀ v ∈ as, isJ v.1 = false ∧ wfv G n v)
    {y : MethodName} {b : ByteArray} {rt : Option FieldType} {hh : List (Nat × Nat × Nat × Nat)} {z : Bool} {q : List Nat} {ht : List (List Nat)} (hM : mtm k = some (y, b, rt, hh, z, q, ht)) {p : Program} {e : Env} {s s₁ : State} {m : MethodId} {args : Array Value} {below : List Frame} {meth : Method} {c : Code}
    (B : BodyLoose p l y (headSpec (vcd y b (tbm k).2 rt hh :: tg) (rmD (d + 1) mc ms)) b (tbm k).2 rt e s m args below meth c s₁) (hml : c.maxLocals = (tbm k).2) (hx : c.exceptionTable.toList = tableOf hh) (hv : sdP G D X as n I L A args s) :
    W p l e (rmD (d + 1) mc ms) s m args below meth c s.heap [] 0 0 (vx_MQ below (sQ G D Q) (sX G D Q) args s mc ms (Af G)) (entryFrame m args (tbm k).2) := by
  obtain ⟨rfl, hR, hW⟩ := hv
  have C := Cx.of B hml hx hW g hl
  obtain ⟨ha1, ha2, -⟩ := argB_spec hC.1
  have h1 := lv_entry (as.map (cv G)) (n := (tbm k).2) (by rw [catS_sl]; exact ha1)
  rw [lg_entry_eq]
  generalize (lg_sl (as.map (cv G)) ++ List.replicate ((tbm k).2 - (lg_sl (as.map (cv G))).length) Slot.unset).toArray = arr at h1 ⊢
  obtain ⟨y2, b2, rt2, hh2, z2, cw, w1, w2, w3, n2, ht2, f0, -, -, -, f4, -⟩ := okY_spec (hok k hk)
  cases Option.some.inj (hM.symm.trans f0)
  have hz := hoz k hk
  unfold okZT at hz
  rw [hM] at hz
  rw [okT_F] at f4
  have hP := hC.2 (PW G D p l e s m (as.map (cv G)).toArray below meth c (tbm k).2 (d + 1) mc ms Q) (fun pc ls st rc rs n I L A h => by
    unfold stA at h
    cases hlk : lk (tbm k).1 pc with
    | none => rw [hlk] at h; exact h.elim
    | some en =>
      rw [hlk] at h
      obtain ⟨h1, hE⟩ := okTF_at _ 0 pc _ f4 hlk
      obtain ⟨h2, hZ⟩ := okTF_at _ 0 pc _ hz hlk
      rw [Nat.zero_add] at hE hZ
      exact snd_step C hok hk23 IH hE hZ h)
  exact hP s.heap [] arr 0 0 ⟨hR, va_S.rf, ⟨h1.1, h1.2.1, fun q hq => h1.2.2 q (entL_lcs as 0 _ ha2 q hq)⟩, entL_len as _ ha1, entL_wf as _ (fun v hv => (has v hv).2), (fun _ h _ => nomatch h), Nat.zero_add _, Nat.zero_add _⟩
theorem sdM_all (g : Gd G X) (hl : l.stackTraces = false) (hok : ∀ k, k < 301 → okY k = true) (hoz : ∀ k, k < 301 → okZT k = true) (hk23 : ∀ r, srtB (kSort (G.2.2.2 r)) = true) (d : Nat) : ∀ k, k < 301 → sdM G D X l d k := by
  induction d with
  | zero => intro k _ as mc ms n I L A Q h; exact h.elim
  | succ d IH =>
    intro k hk as mc ms n I L A Q hC has y b rt hh z q ht hM
    obtain ⟨y2, b2, rt2, hh2, z2, cw, w1, w2, w3, n2, ht2, f0, f1, -⟩ := okY_spec (hok k hk)
    cases Option.some.inj (hM.symm.trans f0)
    cases hh with
    | nil =>
      refine vx_ofW (cc := b) (maxL := (tbm k).2) (ret := rt) f1 rfl ?_
      intro p e s m args below meth c s₁ B hml ht hv
      have hx : c.exceptionTable.toList = tableOf [] := by
        cases hc : c.exceptionTable.toList with
        | nil => rfl
        | cons x xs => exact (ht x (by rw [hc]; exact List.mem_cons_self)).elim
      exact sdM_body g hl hok hoz hk23 IH hk hC has hM B hml hx hv
    | cons h0 hs =>
      refine vx_ofWH (cc := b) (maxL := (tbm k).2) (ret := rt) f1 rfl ?_
      intro p e s m args below meth c s₁ B hml hv
      have hx : c.exceptionTable.toList = tableOf (h0 :: hs) := vx_table (x := y) B (atoms_spec (ws := vcd y b (tbm k).2 rt (h0 :: hs) :: tg) B.pre _ List.mem_cons_self)
      exact sdM_body g hl hok hoz hk23 IH hk hC has hM B hml hx hv
end
