/-! SOUNDNESS, 14: throwing, handlers, calls -/
/-- a method's rows that cover a place, and what the tables of entries say of them -/
noncomputable def hsB (own : String) (cc : ByteArray) (mx pc : Nat) : List (Nat × Nat × Nat × Nat) → List Nat → Bool
  | [], [] => true
  | (a, z, t, ix) :: hh, hs => bif Nat.ble a pc && Nat.blt pc z then (match hs with
      | e :: t' :: j :: hs' => Nat.ble 1 e && Nat.ble e 4 && !Nat.beq ix 0 && Nat.blt j mx && decide (Cond.classLink own ix (exN e) ∈ lw_tbl) && ((match decode cc t with
          | .ok (.astore_n k, 1) => Nat.beq k j && Nat.beq t' (t + 1)
          | .ok (.astore k, 2) => Nat.beq k j && Nat.beq t' (t + 2)
          | _ => false)) && hsB own cc mx pc hh hs'
      | _ => false) else hsB own cc mx pc hh hs
  | [], _ :: _ => false
def hPass (own : String) (pc i : Nat) (z : ExceptionTableEntry) : Prop := covers z pc = false ∨ (z.catchType ≠ 0 ∧ ∃ j, j < 4 ∧ ¬ j = i ∧ Cond.classLink own z.catchType (exN (j + 1)) ∈ tg)
theorem hs_spec {own : String} {cc : ByteArray} {mx pc i : Nat} (hi : i < 4) (hh : List (Nat × Nat × Nat × Nat)) : ∀ hs : List Nat, hsB own cc mx pc hh hs = true →
    (hfind hs (i + 1) = none → ∀ z ∈ tableOf hh, hPass own pc i z) ∧
    ∀ t j, hfind hs (i + 1) = some (t, j) → j < mx ∧ ∃ (pre : List ExceptionTableEntry) (x : ExceptionTableEntry) (suf : List ExceptionTableEntry), tableOf hh = pre ++ x :: suf ∧ (∀ z ∈ pre, hPass own pc i z) ∧ covers x pc = true ∧ x.catchType ≠ 0 ∧ Cond.classLink own x.catchType (exN (i + 1)) ∈ tg ∧
      ((∃ k : Fin 4, decode cc x.handlerPc = .ok (.astore_n k, 1) ∧ (k : Nat) = j ∧ t = x.handlerPc + 1) ∨ (decode cc x.handlerPc = .ok (.astore j, 2) ∧ t = x.handlerPc + 2)) := by
  induction hh with
  | nil =>
    intro hs h
    cases hs with
    | nil => exact ⟨fun _ z hz => (nomatch hz), fun t j h => (nomatch h)⟩
    | cons _ _ => cases h
  | cons q hh ih =>
    obtain ⟨a, z, t0, ix⟩ := q
    intro hs h
    unfold hsB at h
    have hcov : covers ⟨a, z, t0, ix⟩ pc = (Nat.ble a pc && Nat.blt pc z) := by
      unfold covers
      cases h1 : Nat.ble a pc <;> cases h2 : Nat.blt pc z
      · simp only [Bool.and_false]
        have : ¬ a ≤ pc := fun q => by rw [Nat.ble_eq_true_of_le q] at h1; cases h1
        simp [this]
      · simp only [Bool.false_and]
        have : ¬ a ≤ pc := fun q => by rw [Nat.ble_eq_true_of_le q] at h1; cases h1
        simp [this]
      · simp only [Bool.and_false]
        have : ¬ pc < z := fun q => by rw [show Nat.blt pc z = true from Nat.ble_eq_true_of_le q] at h2; cases h2
        simp [this]
      · have g1 := Nat.le_of_ble_eq_true h1
        have g2 : pc < z := Nat.le_of_ble_eq_true h2
        simp [g1, g2]
    cases hc : (Nat.ble a pc && Nat.blt pc z) with
    | false =>
      rw [hc] at h
      obtain ⟨h1, h2⟩ := ih hs h
      have hp : hPass own pc i ⟨a, z, t0, ix⟩ := Or.inl (by rw [hcov, hc])
      refine ⟨fun hf w hw => ?_, fun t j hf => ?_⟩
      · rcases List.mem_cons.mp (show w ∈ (⟨a, z, t0, ix⟩ : ExceptionTableEntry) :: tableOf hh from hw) with rfl | hw
        · exact hp
        · exact h1 hf w hw
      · obtain ⟨g0, pre, x, suf, g1, g2, g3⟩ := h2 t j hf
        refine ⟨g0, ⟨a, z, t0, ix⟩ :: pre, x, suf, ?_, fun w hw => ?_, g3⟩
        · show (⟨a, z, t0, ix⟩ : ExceptionTableEntry) :: tableOf hh = _
          rw [g1]; rfl
        · rcases List.mem_cons.mp hw with rfl | hw
          · exact hp
          · exact g2 w hw
    | true =>
      rw [hc] at h
      match hs, h with
      | e :: t' :: j' :: hs', h =>
        have h : (Nat.ble 1 e && Nat.ble e 4 && !Nat.beq ix 0 && Nat.blt j' mx && decide (Cond.classLink own ix (exN e) ∈ lw_tbl) && ((match decode cc t0 with
          | .ok (.astore_n k, 1) => Nat.beq k j' && Nat.beq t' (t0 + 1)
          | .ok (.astore k, 2) => Nat.beq k j' && Nat.beq t' (t0 + 2)
          | _ => false)) && hsB own cc mx pc hh hs') = true := h
        simp only [Bool.and_eq_true, Bool.not_eq_true', decide_eq_true_eq] at h
        obtain ⟨⟨⟨⟨⟨⟨h1, h2⟩, h3⟩, h4⟩, h5⟩, h6⟩, h7⟩ := h
        have h1 := Nat.le_of_ble_eq_true h1
        have h2 := Nat.le_of_ble_eq_true h2
        have h3 : ix ≠ 0 := fun q => by rw [beq_t q] at h3; cases h3
        have h4 : j' < mx := Nat.le_of_ble_eq_true h4
        obtain ⟨g1, g2⟩ := ih hs' h7
        have hl : Cond.classLink own ix (exN e) ∈ tg := List.mem_filter.mpr ⟨h5, rfl⟩
        by_cases he : e = i + 1
        · subst he
          have hfe : hfind ((i + 1) :: t' :: j' :: hs') (i + 1) = some (t', j') := by
            show (bif Nat.beq (i + 1) (i + 1) then _ else _) = _
            rw [beq_t rfl]; rfl
          refine ⟨fun hf => (by rw [hfe] at hf; cases hf), fun t j hf => ?_⟩
          rw [hfe] at hf
          cases hf
          refine ⟨h4, [], ⟨a, z, t0, ix⟩, tableOf hh, rfl, (fun w hw => nomatch hw), by rw [hcov, hc], h3, hl, ?_⟩
          split at h6
          · rename_i k e9
            rw [Bool.and_eq_true] at h6
            exact Or.inl ⟨k, e9, Nat.eq_of_beq_eq_true h6.1, Nat.eq_of_beq_eq_true h6.2⟩
          · rename_i k e9
            rw [Bool.and_eq_true] at h6
            have := Nat.eq_of_beq_eq_true h6.1
            subst this
            exact Or.inr ⟨e9, Nat.eq_of_beq_eq_true h6.2⟩
          · cases h6
        · have hfe : hfind (e :: t' :: j' :: hs') (i + 1) = hfind hs' (i + 1) := by
            show (bif Nat.beq e (i + 1) then _ else _) = _
            rw [beq_f he]; rfl
          rw [hfe]
          have hp : hPass own pc i ⟨a, z, t0, ix⟩ := Or.inr ⟨h3, e - 1, by omega, by omega, by rw [show e - 1 + 1 = e by omega]; exact hl⟩
          refine ⟨fun hf w hw => ?_, fun t j hf => ?_⟩
          · rcases List.mem_cons.mp (show w ∈ (⟨a, z, t0, ix⟩ : ExceptionTableEntry) :: tableOf hh from hw) with rfl | hw
            · exact hp
            · exact g1 hf w hw
          · obtain ⟨g0, pre, x, suf, f1, f2, f3⟩ := g2 t j hf
            refine ⟨g0, ⟨a, z, t0, ix⟩ :: pre, x, suf, ?_, fun w hw => ?_, f3⟩
            · show (⟨a, z, t0, ix⟩ : ExceptionTableEntry) :: tableOf hh = _
              rw [f1]; rfl
            · rcases List.mem_cons.mp hw with rfl | hw
              · exact hp
              · exact f2 w hw
theorem spl_spec {k : List AV → List AV → Prop} (n : Nat) : ∀ (st acc : List AV), spl n st acc k → ∃ xs rest, st = xs ++ rest ∧ xs.length = n ∧ k (xs.reverse ++ acc) rest := by
  induction n with
  | zero => intro st acc h; exact ⟨[], st, rfl, rfl, h⟩
  | succ n ih =>
    intro st acc h
    cases st with
    | nil => exact h.elim
    | cons x st =>
      obtain ⟨xs, rest, h1, h2, h3⟩ := ih st (x :: acc) h
      exact ⟨x :: xs, rest, by rw [h1]; rfl, by rw [List.length_cons, h2], by simpa using h3⟩
section
variable {G : GE} {D : va_G} {X : Ext} {p : Program} {l : Launch} {e : Env} {s : State} {m : MethodId} {args : Array Value} {below : List Frame} {meth : Method} {c : Code} {y : MethodName} {b : ByteArray} {rt : Option FieldType} {hh : List (Nat × Nat × Nat × Nat)} {mx d mc ms n : Nat} {Q : AQ} {CC : CT} {I : HI} {L : HL} {A : HA} {ls st : List AV} {rc rs : Nat} {pc nx : Nat} {sd : List Nat} {v : Value} {H : Heap} {locs : List Loc} {arr : Array Slot} {cells slots : Nat}
theorem Rep.more {n' : Nat} {t : State} (hkd : ∀ r r', G.2.2.2 r = 0 → r ≤ r' → G.2.2.2 r' = 0) (h0 : G.2.2.2 n = 0) (h : Rep G D n I L A H) (hz : H.size ≤ t.heap.size) (hk : ∀ q : Nat, q < H.size → t.heap[q]? = H[q]?) (hn : n' = t.heap.size - G.1) : n ≤ n' ∧ Rep G D n' I L A t.heap := by
  have h1 := h.1
  have hle : n ≤ n' := by omega
  refine ⟨hle, by omega, ?_, fun r j a hr hr0 hA hT => ?_⟩
  · rw [wsl_skip hle (fun r hr => hkd n r h0 hr)]
    exact h.2.1.kept (fun k q hq => hk _ ((h.2.1 k q hq).lt))
  · by_cases hrn : r < n
    · exact wfv_mono hle (h.2.2 r j a hrn hr0 hA hT)
    · exact absurd (hkd n r h0 (by omega)) hr0
theorem sn_throw {i1 i : Nat} (C : Cx G D X p l s m args meth c y b rt hh mx) (hs : sd = [i + 1]) (hi : i < 4) (hy : y.cls = "TangramBoard") (hh0 : hh = []) (hi1 : i1 = ikE i) (d0 : decode b pc = .ok (.new (ikE i), 3)) (d3 : decode b (pc + 3) = .ok (.dup, 1))
    (d4 : (∃ is tx, (y.cls, is, tx) ∈ msL ∧ decode b (pc + 4) = .ok (.ldc is, 2) ∧ decode b (pc + 6) = .ok (.invokespecial (icE i), 3) ∧ decode b (pc + 9) = .ok (.athrow, 1)) ∨ (∃ is tx, (y.cls, is, tx) ∈ msL ∧ decode b (pc + 4) = .ok (.ldc_w is, 3) ∧ decode b (pc + 7) = .ok (.invokespecial (icE i), 3) ∧ decode b (pc + 10) = .ok (.athrow, 1)))
    (h : stp X G.2.2.2 CC Q (PW G D p l e s m args below meth c mx d mc ms Q) (.new i1) nx sd v ls st rc rs n I L A) : PW G D p l e s m args below meth c mx d mc ms Q pc ls st rc rs n I L A := by
  subst hs
  have h : (bif Nat.ble (catS st) 8 then (1 ≤ rc ∧ 8 ≤ rs ∧ G.2.2.2 n = 0 ∧ ∀ n', n ≤ n' → Q (.inr (i + 1)) n' I L A) else False) := h
  cases hb : Nat.ble (catS st) 8 with
  | false => rw [hb] at h; exact h.elim
  | true =>
    rw [hb] at h
    have hb := Nat.le_of_ble_eq_true hb
    obtain ⟨h1, h2, h3, h4⟩ := h
    intro H locs arr cells slots S
    have hcc := S.2.2.2.2.2.2.1
    have hss := S.2.2.2.2.2.2.2
    have hkd : ∀ r r', G.2.2.2 r = 0 → r ≤ r' → G.2.2.2 r' = 0 := C.2.2.2.2.2.2.2.2.2.2.1.2.2.2.2.1
    obtain ⟨x0, x1, x2, x5⟩ := rx_ok hi
    obtain ⟨l1, l2, l3⟩ := at_l hi
    have hX : ∀ t : State, s.vm.Alike t.vm → H.size ≤ t.heap.size → (∀ q : Nat, q < H.size → t.heap[q]? = H[q]?) → sX G D Q (exN (i + 1)) s t := by
      intro t _ hz hk
      obtain ⟨g1, g2⟩ := S.1.more (t := t) hkd h3 hz hk rfl
      exact ⟨i, _, I, L, A, h4 _ g1, hi, rfl, g2, Nat.le_trans S.2.1.1 hz, fun q hq hA => by rw [hk q (Nat.lt_of_lt_of_le hq S.2.1.1)]; exact S.2.1.2.1 q hq hA⟩
    have hout : ∀ q x, x ∈ c.exceptionTable.toList → covers x q = false := fun q x hx => by
      have he := C.2.2.2.2.2.2.2.2.1
      rw [he, hh0] at hx
      cases hx
    have hat : ∀ w ∈ atE i, w.before args s = true := fun w hw => by
      rcases at_w hi w hw with g | g
      · exact C.hin w g
      · have hn := C.wd.2.2.2.2.2.2.2.2.2.2.2.2.2.1 w g
        have hnest : isNest w = true := (List.mem_filter.mp g).2
        cases w <;> first | exact va_Nw.use rfl hn | cases hnest
    have hlo : ((st.map (cv G)).map fun v => v.category).sum + (13 * (exNm.length + 1) + 43) ≤ (rmD d mc ms).locals := by
      rw [catS_sum]
      show catS st + (13 * (2 + 1) + 43) ≤ 50 * d + 500
      omega
    rcases d4 with ⟨is, tx, hm, e4, e6, e9⟩ | ⟨is, tx, hm, e4, e6, e9⟩
    · obtain ⟨sa, hsa⟩ := C.wd.2.2.2.2.2.2.2.2.2.2.2.2.1 _ hm
      exact tx_throwN (names := exNm) (ix := ixE i) (own := "TangramBoard") (is := is) C.1 C.2.1 C.2.2.2.2.2.2.2.2.2.2.2 x0 x1 x2 x5 (by rw [← hy]; exact C.own) l3 at_nm (C.hin _ l1) (C.hin _ l2) (by rw [← hy]; exact hsa) hat (at_o hi) C.wd.2.2.2.2.2.2.2.2.2.2.1 C.wd.2.2.2.2.2.2.2.2.2.2.2.1 S.2.1 (by rw [C.2.2.1]; exact S.hl.1) d0 d3 e4 e6 e9 (hout _) (show 2 + 3 < d + 30 by omega) hlo (show cells + 1 ≤ mc by omega) (show slots + 6 ≤ ms by omega) C.2.2.2.2.1 hX S.2.1.2.2 (by omega) (by omega)
    · obtain ⟨sa, hsa⟩ := C.wd.2.2.2.2.2.2.2.2.2.2.2.2.1 _ hm
      exact tx_throwW (names := exNm) (ix := ixE i) (own := "TangramBoard") (is := is) C.1 C.2.1 C.2.2.2.2.2.2.2.2.2.2.2 x0 x1 x2 x5 (by rw [← hy]; exact C.own) l3 at_nm (C.hin _ l1) (C.hin _ l2) (by rw [← hy]; exact hsa) hat (at_o hi) C.wd.2.2.2.2.2.2.2.2.2.2.1 C.wd.2.2.2.2.2.2.2.2.2.2.2.1 S.2.1 (by rw [C.2.2.1]; exact S.hl.1) d0 d3 e4 e6 e9 (hout _) (show 2 + 3 < d + 30 by omega) hlo (show cells + 1 ≤ mc by omega) (show slots + 6 ≤ ms by omega) C.2.2.2.2.1 hX S.2.1.2.2 (by omega) (by omega)
end
