/-! SOUNDNESS, 9: loads, stores, fields, new things -/
theorem cell_i {cA : ClassId} {n k : Nat} {f : Nat → Int32} {x : Int32} : (vp_cell cA (n, .inl f)).setSlot k (.int x) = vp_cell cA (n, .inl (u1 f k x)) := by
  rw [vp_cell_i, vp_cell_i, arrV_store]
  congr 1
  funext q
  unfold updV u1
  by_cases h : q = k
  · rw [if_pos h, if_pos h]
  · rw [if_neg h, if_neg h]
theorem cell_l {cA : ClassId} {n k : Nat} {f : Nat → Int64} {x : Int64} : (vp_cell cA (n, .inr (.inl f))).setSlot k (.long x) = vp_cell cA (n, .inr (.inl (u1 f k x))) := by
  rw [vp_cell_l, vp_cell_l, arrV_store]
  congr 1
  funext q
  unfold updV u1
  by_cases h : q = k
  · rw [if_pos h, if_pos h]
  · rw [if_neg h, if_neg h]
theorem cell_q {cA : ClassId} {n k : Nat} {f : Nat → Option Nat} {x : Nat} : (vp_cell cA (n, .inr (.inr (.inr (.inr f))))).setSlot k (.ref x) = vp_cell cA (n, .inr (.inr (.inr (.inr (u1 f k (some x)))))) := by
  rw [vp_cell_q, vp_cell_q, arrV_store]
  congr 1
  funext q
  unfold updV u1
  by_cases h : q = k
  · rw [if_pos h, if_pos h]; rfl
  · rw [if_neg h, if_neg h]
theorem vp_inl {i : Int32} {n : Nat} {cA : ClassId} {f : Nat → Int32} (h : inb i n) : ¬ (i < 0 ∨ (vp_cell cA (n, .inl f)).slots.size ≤ i.toNatClampNeg) := by
  show ¬ (i < 0 ∨ (arrV _ _ _).slots.size ≤ _)
  rw [arrV_size]; exact inb_in h
theorem vp_inj {i : Int32} {n : Nat} {cA : ClassId} {f : Nat → Int64} (h : inb i n) : ¬ (i < 0 ∨ (vp_cell cA (n, .inr (.inl f))).slots.size ≤ i.toNatClampNeg) := by
  show ¬ (i < 0 ∨ (arrV _ _ _).slots.size ≤ _)
  rw [arrV_size]; exact inb_in h
theorem vp_inq {i : Int32} {n : Nat} {cA : ClassId} {f : Nat → Option Nat} (h : inb i n) : ¬ i < 0 ∧ i.toNatClampNeg < (vp_cell cA (n, .inr (.inr (.inr (.inr f))))).slots.size := by
  have h1 := inb_in h
  refine ⟨fun z => h1 (Or.inl z), ?_⟩
  show _ < (arrV _ _ _).slots.size
  rw [arrV_size]; exact h.2
theorem wX_60 {a t : Nat} (h : wX a t) (h1 : 4 < kSort t) (h2 : kSort t < 10) : (a, t) ∈ statL := by
  rcases h with ⟨h, -⟩ | ⟨h, -⟩ | h
  · subst h; exact absurd h1 (by decide)
  · subst h; exact absurd h1 (by decide)
  · exact h
theorem st_8 : ∀ q ∈ statL, kSort q.2 = 8 → q.1 = 10100 := by decide
theorem st_7 : ∀ q ∈ statL, kSort q.2 = 7 → q.1 = 10009 ∧ kLen q.2 = 18 := by decide
theorem st_no : ∀ q ∈ statL, kSort q.2 = 6 ∨ kSort q.2 = 7 ∨ kSort q.2 = 8 := by decide
theorem tys_at {G : GE} {s : Nat} (h0 : 10 ≤ s) (h1 : srtB s = true) : ∃ C, nth clN (s - 10) = some C ∧ (tysL G)[s - 10 + 4]? = some (G.2.1 s, .object C) := by
  rcases srtB_no h1 h0 with rfl | rfl | rfl | rfl <;> exact ⟨_, rfl, rfl⟩
section
variable {G : GE} {D : va_G} {X : Ext} {p : Program} {l : Launch} {e : Env} {s : State} {m : MethodId} {args : Array Value} {below : List Frame} {meth : Method} {c : Code} {y : MethodName} {b : ByteArray} {rt : Option FieldType} {hh : List (Nat × Nat × Nat × Nat)} {mx d mc ms n : Nat} {Q : AQ} {CC : CT} {I : HI} {L : HL} {A : HA} {ls st : List AV} {rc rs : Nat} {pc nx : Nat} {sd : List Nat} {v : Value} {H : Heap} {locs : List Loc} {arr : Array Slot} {cells slots : Nat}
theorem sn_iaload (C : Cx G D X p l s m args meth c y b rt hh mx) (hd : dcd b pc .iaload 1 nx = true) (h : stp X G.2.2.2 CC Q (PW G D p l e s m args below meth c mx d mc ms Q) (.iaload) nx sd v ls st rc rs n I L A) : PW G D p l e s m args below meth c mx d mc ms Q pc ls st rc rs n I L A := by
  obtain ⟨hdg, rfl⟩ := dcd_spec hd
  dsimp only [stp] at h
  split at h
  · rename_i i1 t1 r1 t2 r9
    split at h
    · rename_i hk
      intro H locs arr cells slots S
      have hw := wfl_hd (wfl_tl S.stk) rfl
      have ho : ownT t2 = true := own_arr (by omega) (by omega)
      obtain ⟨hr, ht, h0, hc⟩ := S.cell hw ho
      rw [ent_i (by omega) (by omega), hk] at hc
      rw [List.map_cons, List.map_cons, cv_own ho]
      exact va_iald C.1 C.2.1 C.kn S.P (wix G r1) 0 hc rfl (inb_in h.1) hdg (h.2 _ _ _ _ _ (S.to (wfl_cons wfi (wfl_tl (wfl_tl S.stk)))))
    · rename_i hk
      intro H locs arr cells slots S
      have hw := wfl_hd (wfl_tl S.stk) rfl
      have ho : ownT t2 = false := own_ext (by omega) (by omega)
      have hX := wX_60 (hw.2 ho) (show 4 < kSort t2 by omega) (show kSort t2 < 10 by omega)
      have hT := C.2.2.2.2.2.2.2.2.2.1.2.2.1 _ hX hk
      rw [List.map_cons, List.map_cons, cv_ext ho]
      exact va_ti C.1 C.2.1 hT S.2.1 (inb_in h.1) rfl hdg (h.2 _ _ _ _ _ (S.to (wfl_cons wfi (wfl_tl (wfl_tl S.stk)))))
    · rename_i hk
      intro H locs arr cells slots S
      have hw := wfl_hd (wfl_tl S.stk) rfl
      have ho : ownT t2 = false := own_ext (by omega) (by omega)
      have hX := st_8 _ (wX_60 (hw.2 ho) (show 4 < kSort t2 by omega) (show kSort t2 < 10 by omega)) hk
      have hX : r1 = 10100 := hX
      subst hX
      have hb : G.2.2.1 10100 < G.1 := C.2.2.2.2.2.2.2.2.2.2.1.2.2.2.1
      have hz : G.1 ≤ s.heap.size := C.2.2.2.2.2.2.2.2.2.1.2.2.2.2.2.2.2.2.2.2.2.2.2.2.2.2
      rw [List.map_cons, List.map_cons, cv_ext ho]
      exact va_sld C.1 C.2.1 C.2.2.2.2.2.2.2.2.2.1.2.2.2.2.2.2.2.2.2.1 (Nat.lt_of_lt_of_le hb hz) (fun z => by have z : G.1 ≤ G.2.2.1 10100 := z; omega) S.2.1 (inb_in h.1) hdg (h.2 _ _ _ _ _ (S.to (wfl_cons wfi (wfl_tl (wfl_tl S.stk)))))
    · exact h.elim
  · exact h.elim
theorem sn_baload (C : Cx G D X p l s m args meth c y b rt hh mx) (hd : dcd b pc .baload 1 nx = true) (h : stp X G.2.2.2 CC Q (PW G D p l e s m args below meth c mx d mc ms Q) (.baload) nx sd v ls st rc rs n I L A) : PW G D p l e s m args below meth c mx d mc ms Q pc ls st rc rs n I L A := by
  obtain ⟨hdg, rfl⟩ := dcd_spec hd
  dsimp only [stp] at h
  split at h
  · rename_i i1 t1 r1 t2 r9
    split at h
    · rename_i hk
      intro H locs arr cells slots S
      have hw := wfl_hd (wfl_tl S.stk) rfl
      have ho : ownT t2 = true := own_arr (by omega) (by omega)
      obtain ⟨hr, ht, h0, hc⟩ := S.cell hw ho
      rw [ent_i (by omega) (by omega), hk] at hc
      rw [List.map_cons, List.map_cons, cv_own ho]
      exact va_zald C.1 C.2.1 C.kn S.P (wix G r1) 1 hc rfl (inb_in h.1) hdg (h.2 _ _ _ _ _ (S.to (wfl_cons wfi (wfl_tl (wfl_tl S.stk)))))
    · rename_i hk
      intro H locs arr cells slots S
      have hw := wfl_hd (wfl_tl S.stk) rfl
      have ho : ownT t2 = true := own_arr (by omega) (by omega)
      obtain ⟨hr, ht, h0, hc⟩ := S.cell hw ho
      rw [ent_i (by omega) (by omega), hk] at hc
      rw [List.map_cons, List.map_cons, cv_own ho]
      exact va_bald C.1 C.2.1 C.kn S.P (wix G r1) 2 hc rfl (inb_in h.1) hdg (h.2 _ _ _ _ _ (S.to (wfl_cons wfi (wfl_tl (wfl_tl S.stk)))))
    · exact h.elim
  · exact h.elim
theorem sn_laload (C : Cx G D X p l s m args meth c y b rt hh mx) (hd : dcd b pc .laload 1 nx = true) (h : stp X G.2.2.2 CC Q (PW G D p l e s m args below meth c mx d mc ms Q) (.laload) nx sd v ls st rc rs n I L A) : PW G D p l e s m args below meth c mx d mc ms Q pc ls st rc rs n I L A := by
  obtain ⟨hdg, rfl⟩ := dcd_spec hd
  dsimp only [stp] at h
  split at h
  · rename_i i1 t1 r1 t2 r9
    split at h
    · rename_i hk
      intro H locs arr cells slots S
      have hw := wfl_hd (wfl_tl S.stk) rfl
      have ho : ownT t2 = true := own_arr (by omega) (by omega)
      obtain ⟨hr, ht, h0, hc⟩ := S.cell hw ho
      rw [ent_l hk] at hc
      rw [List.map_cons, List.map_cons, cv_own ho]
      exact va_lald C.1 C.2.1 C.kn S.P (wix G r1) 3 hc rfl (inb_in h.1) hdg (h.2 _ _ _ _ _ (S.to (wfl_cons wfj (wfl_tl (wfl_tl S.stk)))))
    · exact h.elim
  · exact h.elim
theorem sn_arraylength (C : Cx G D X p l s m args meth c y b rt hh mx) (hkd : (∀ r r', G.2.2.2 r = 0 → r ≤ r' → G.2.2.2 r' = 0) ∧ ∀ r, srtB (kSort (G.2.2.2 r)) = true) (hd : dcd b pc .arraylength 1 nx = true) (h : stp X G.2.2.2 CC Q (PW G D p l e s m args below meth c mx d mc ms Q) (.arraylength) nx sd v ls st rc rs n I L A) : PW G D p l e s m args below meth c mx d mc ms Q pc ls st rc rs n I L A := by
  obtain ⟨hdg, rfl⟩ := dcd_spec hd
  dsimp only [stp] at h
  split at h
  · rename_i r1 t2 r9
    intro H locs arr cells slots S
    have hw := wfl_hd S.stk rfl
    split at h
    · rename_i hk
      have ho : ownT t2 = false := own_ext (by omega) (by omega)
      have hX := st_8 _ (wX_60 (hw.2 ho) (show 4 < kSort t2 by omega) (show kSort t2 < 10 by omega)) hk
      have hX : r1 = 10100 := hX
      subst hX
      have hb : G.2.2.1 10100 < G.1 := C.2.2.2.2.2.2.2.2.2.2.1.2.2.2.1
      have hz : G.1 ≤ s.heap.size := C.2.2.2.2.2.2.2.2.2.1.2.2.2.2.2.2.2.2.2.2.2.2.2.2.2.2
      rw [List.map_cons, cv_ext ho]
      exact va_slen C.1 C.2.1 C.2.2.2.2.2.2.2.2.2.1.2.2.2.2.2.2.2.2.2.1 (Nat.lt_of_lt_of_le hb hz) (fun z => by have z : G.1 ≤ G.2.2.1 10100 := z; omega) S.2.1 hdg (h _ _ _ _ _ (S.to (wfl_cons wfi (wfl_tl S.stk))))
    · exact h.elim
    · rename_i h8 h00
      have h8 : ¬ kSort t2 = 8 := h8
      have h00 : ¬ kSort t2 = 0 := h00
      by_cases hq : kSort t2 ≤ 4 ∨ 10 ≤ kSort t2
      · have ho : ownT t2 = true := own_arr h00 hq
        obtain ⟨hr, ht, h0, hc⟩ := S.cell hw ho
        rw [List.map_cons, cv_own ho]
        have k := h _ _ _ _ _ (S.to (wfl_cons (v := (.int (Int32.ofNat (kLen t2)), 0)) wfi (wfl_tl S.stk)))
        have k := k
        by_cases h10 : 10 ≤ kSort t2
        · rw [ent_q h10] at hc
          by_cases h23 : srtB (kSort t2) = true
          · obtain ⟨C9, -, hty⟩ := tys_at (G := G) h10 h23
            exact va_alen C.1 C.2.1 C.kn S.P (wix G r1) _ hc hty rfl hdg k
          · exact absurd (hkd.2 r1) (by rw [ht]; exact h23)
        · by_cases h4 : kSort t2 = 4
          · rw [ent_l h4] at hc
            exact va_alen C.1 C.2.1 C.kn S.P (wix G r1) 3 hc rfl rfl hdg k
          · rw [ent_i h00 (by omega)] at hc
            rcases (show kSort t2 = 1 ∨ kSort t2 = 2 ∨ kSort t2 = 3 by omega) with h1 | h1 | h1
            · rw [h1] at hc
              exact va_alen C.1 C.2.1 C.kn S.P (wix G r1) 0 hc rfl rfl hdg k
            · rw [h1] at hc
              exact va_alen C.1 C.2.1 C.kn S.P (wix G r1) 1 hc rfl rfl hdg k
            · rw [h1] at hc
              exact va_alen C.1 C.2.1 C.kn S.P (wix G r1) 2 hc rfl rfl hdg k
      · have ho : ownT t2 = false := own_ext (by omega) (by omega)
        have hX := wX_60 (hw.2 ho) (show 4 < kSort t2 by omega) (show kSort t2 < 10 by omega)
        have k := h _ _ _ _ _ (S.to (wfl_cons (v := (.int (Int32.ofNat (kLen t2)), 0)) wfi (wfl_tl S.stk)))
        rw [List.map_cons, cv_ext ho]
        rcases st_no _ hX with h6 | h7 | h9
        · exact va_tlen C.1 C.2.1 (C.2.2.2.2.2.2.2.2.2.1.2.2.1 _ hX h6) S.2.1 rfl hdg k
        · obtain ⟨e1, e2⟩ := st_7 _ hX h7
          have e1 : r1 = 10009 := e1
          have e2 : kLen t2 = 18 := e2
          subst e1
          rw [e2] at k
          exact va_tlen C.1 C.2.1 C.2.2.2.2.2.2.2.2.2.1.2.2.2.1 S.2.1 rfl hdg k
        · exact absurd h9 h8
  · exact h.elim
theorem sn_aaload (C : Cx G D X p l s m args meth c y b rt hh mx) (hkd : ∀ r, srtB (kSort (G.2.2.2 r)) = true) (hd : dcd b pc .aaload 1 nx = true) (h : stp X G.2.2.2 CC Q (PW G D p l e s m args below meth c mx d mc ms Q) (.aaload) nx sd v ls st rc rs n I L A) : PW G D p l e s m args below meth c mx d mc ms Q pc ls st rc rs n I L A := by
  obtain ⟨hdg, rfl⟩ := dcd_spec hd
  dsimp only [stp] at h
  split at h
  · rename_i i1 t1 r1 t2 r9
    intro H locs arr cells slots S
    have hw := wfl_hd (wfl_tl S.stk) rfl
    cases hk7 : Nat.beq (kSort t2) 7 with
    | true =>
      rw [hk7] at h
      have h : inb i1 (kLen t2) ∧ _ := h
      have hk7 := Nat.eq_of_beq_eq_true hk7
      have ho : ownT t2 = false := own_ext (by omega) (by omega)
      have hX := wX_60 (hw.2 ho) (show 4 < kSort t2 by omega) (show kSort t2 < 10 by omega)
      obtain ⟨e1, e2⟩ := st_7 _ hX hk7
      have e1 : r1 = 10009 := e1
      have e2 : kLen t2 = 18 := e2
      subst e1
      have hin := h.1
      rw [e2] at hin
      have hlt := hin.2
      have k := h.2 _ _ _ _ _ (S.to (wfl_cons (v := (.ref (10020 + i1.toNatClampNeg), 10)) ⟨fun z => (by cases z), fun _ => Or.inl ⟨rfl, _, hlt, rfl⟩⟩ (wfl_tl (wfl_tl S.stk))))
      rw [List.map_cons, cv_ext (show ownT 10 = false from rfl)] at k
      rw [List.map_cons, List.map_cons, cv_ext ho]
      obtain ⟨cell, g1, g2, g3, g4, g5, g6, g7⟩ := C.2.2.2.2.2.2.2.2.2.1.2.2.2.1.kept S.2.1.2.1
      have hin2 : ¬ (i1 < 0 ∨ cell.slots.size ≤ i1.toNatClampNeg) := fun z => by
        rcases z with z | z
        · exact (inb_in hin) (Or.inl z)
        · omega
      exact W.aald (v := .ref (G.2.2.1 (10020 + i1.toNatClampNeg))) (ty := .object RX9) C.1 C.2.1 g1 g2 rfl g3 hin2 (g6 _ hlt) rfl rfl hdg k
    | false =>
      rw [hk7] at h
      cases hb : Nat.ble 10 (kSort t2) with
      | false => rw [hb] at h; exact h.elim
      | true =>
        rw [hb] at h
        have h : inb i1 (kLen t2) ∧ (match A r1 i1.toNatClampNeg with | 0 => False | a + 1 => PW G D p l e s m args below meth c mx d mc ms Q (pc + 1) ls ((.ref a, kSort t2 - 9) :: r9) rc rs n I L A) := h
        have hb := Nat.le_of_ble_eq_true hb
        have ho : ownT t2 = true := own_arr (by omega) (by omega)
        obtain ⟨hr, ht, h0, hc⟩ := S.cell hw ho
        rw [ent_q hb] at hc
        have h23 : srtB (kSort t2) = true := by have := hkd r1; rw [ht] at this; exact this
        obtain ⟨C9, -, hty⟩ := tys_at (G := G) hb h23
        obtain ⟨hin, h⟩ := h
        cases hA : A r1 i1.toNatClampNeg with
        | zero => rw [hA] at h; exact h.elim
        | succ a =>
          rw [hA] at h
          have haT : aT (G.2.2.2 r1) i1.toNatClampNeg = kSort t2 - 9 := by rw [ht]; exact aT_q hb
          have hwf := S.1.2.2 r1 _ a hr h0 hA (by rw [haT]; omega)
          rw [haT] at hwf
          have k := h _ _ _ _ _ (S.to (wfl_cons hwf (wfl_tl (wfl_tl S.stk))))
          have e9 : cv G (.ref a, kSort t2 - 9) = va_rf ((fun i => oA G (kSort t2 - 9) (A r1 i)) i1.toNatClampNeg) := by
            show Value.ref (adr G (kSort t2 - 9) a) = va_rf (oA G (kSort t2 - 9) (A r1 i1.toNatClampNeg))
            rw [hA]; rfl
          rw [List.map_cons, e9] at k
          rw [List.map_cons, List.map_cons, cv_own ho]
          exact va_aldq C.1 C.2.1 C.kn S.P (wix G r1) _ hc hty (inb_in hin) hdg k
  · exact h.elim
theorem sn_iastore (C : Cx G D X p l s m args meth c y b rt hh mx) (hd : dcd b pc .iastore 1 nx = true) (h : stp X G.2.2.2 CC Q (PW G D p l e s m args below meth c mx d mc ms Q) (.iastore) nx sd v ls st rc rs n I L A) : PW G D p l e s m args below meth c mx d mc ms Q pc ls st rc rs n I L A := by
  obtain ⟨hdg, rfl⟩ := dcd_spec hd
  dsimp only [stp] at h
  split at h
  · rename_i x1 t0 i1 t1 r1 t2 r9
    split at h
    · rename_i hk
      intro H locs arr cells slots S
      have hw := wfl_hd (wfl_tl (wfl_tl S.stk)) rfl
      have ho : ownT t2 = true := own_arr (by omega) (by omega)
      obtain ⟨hr, ht, h0, hc⟩ := S.cell hw ho
      rw [ent_i (by omega) (by omega), hk] at hc
      rw [List.map_cons, List.map_cons, List.map_cons, cv_own ho]
      refine W.iast C.1 C.2.1 (S.P _ _ hc) ((C.kn.2 0 _ rfl).1 _ _) (fun q => by cases q) (vp_inl h.1) rfl rfl hdg fun H1 e1 z oq => ?_
      refine h.2 _ _ _ _ _ (S.wr (I' := u2 I r1 i1.toNatClampNeg x1) hr ht h0 (e9 := .inl (G.2.1 1, kLen t2, .inl (u1 (I r1) i1.toNatClampNeg x1))) (by rw [ent_i (by omega) (by omega), hk, u2_at]) (fun r' hn => ⟨u2_ne hn, rfl, rfl⟩) S.1.2.2 (wfl_tl (wfl_tl (wfl_tl S.stk))) z (S.P.set (wsl_D n) hc ?_ oq) (S.2.1.put z oq (Nat.le_add_right _ _)))
      show H1[_]? = some (vp_cell _ _)
      rw [e1]; exact congrArg some cell_i
    · exact h.elim
  · exact h.elim
theorem sn_lastore (C : Cx G D X p l s m args meth c y b rt hh mx) (hd : dcd b pc .lastore 1 nx = true) (h : stp X G.2.2.2 CC Q (PW G D p l e s m args below meth c mx d mc ms Q) (.lastore) nx sd v ls st rc rs n I L A) : PW G D p l e s m args below meth c mx d mc ms Q pc ls st rc rs n I L A := by
  obtain ⟨hdg, rfl⟩ := dcd_spec hd
  dsimp only [stp] at h
  split at h
  · rename_i x1 t0 i1 t1 r1 t2 r9
    split at h
    · rename_i hk
      intro H locs arr cells slots S
      have hw := wfl_hd (wfl_tl (wfl_tl S.stk)) rfl
      have ho : ownT t2 = true := own_arr (by omega) (by omega)
      obtain ⟨hr, ht, h0, hc⟩ := S.cell hw ho
      rw [ent_l hk] at hc
      rw [List.map_cons, List.map_cons, List.map_cons, cv_own ho]
      refine W.last C.1 C.2.1 (S.P _ _ hc) ((C.kn.2 3 _ rfl).1 _ _) (fun q => by cases q) (vp_inj h.1) rfl rfl hdg fun H1 e1 z oq => ?_
      refine h.2 _ _ _ _ _ (S.wr (L' := u2 L r1 i1.toNatClampNeg x1) hr ht h0 (e9 := .inl (G.2.1 4, kLen t2, .inr (.inl (u1 (L r1) i1.toNatClampNeg x1)))) (by rw [ent_l hk, u2_at]) (fun r' hn => ⟨rfl, u2_ne hn, rfl⟩) S.1.2.2 (wfl_tl (wfl_tl (wfl_tl S.stk))) z (S.P.set (wsl_D n) hc ?_ oq) (S.2.1.put z oq (Nat.le_add_right _ _)))
      show H1[_]? = some (vp_cell _ _)
      rw [e1]; exact congrArg some cell_l
    · exact h.elim
  · exact h.elim
theorem sn_bastore (C : Cx G D X p l s m args meth c y b rt hh mx) (hd : dcd b pc .bastore 1 nx = true) (h : stp X G.2.2.2 CC Q (PW G D p l e s m args below meth c mx d mc ms Q) (.bastore) nx sd v ls st rc rs n I L A) : PW G D p l e s m args below meth c mx d mc ms Q pc ls st rc rs n I L A := by
  obtain ⟨hdg, rfl⟩ := dcd_spec hd
  dsimp only [stp] at h
  split at h
  · rename_i x1 t0 i1 t1 r1 t2 r9
    split at h
    · rename_i hk
      intro H locs arr cells slots S
      have hw := wfl_hd (wfl_tl (wfl_tl S.stk)) rfl
      have ho : ownT t2 = true := own_arr (by omega) (by omega)
      obtain ⟨hr, ht, h0, hc⟩ := S.cell hw ho
      rw [ent_i (by omega) (by omega), hk] at hc
      rw [List.map_cons, List.map_cons, List.map_cons, cv_own ho]
      have hnar : narrow .boolean (.int x1) = .int x1 := by rcases h.2.1 with rfl | rfl <;> rfl
      refine W.zast C.1 C.2.1 (S.P _ _ hc) ((C.kn.2 1 _ rfl).1 _ _) (fun q => by cases q) (vp_inl h.1) rfl rfl hdg fun H1 e1 z oq => ?_
      refine h.2.2 _ _ _ _ _ (S.wr (I' := u2 I r1 i1.toNatClampNeg x1) hr ht h0 (e9 := .inl (G.2.1 2, kLen t2, .inl (u1 (I r1) i1.toNatClampNeg x1))) (by rw [ent_i (by omega) (by omega), hk, u2_at]) (fun r' hn => ⟨u2_ne hn, rfl, rfl⟩) S.1.2.2 (wfl_tl (wfl_tl (wfl_tl S.stk))) z (S.P.set (wsl_D n) hc ?_ oq) (S.2.1.put z oq (Nat.le_add_right _ _)))
      show H1[_]? = some (vp_cell _ _)
      rw [e1, hnar]; exact congrArg some cell_i
    · rename_i hk
      intro H locs arr cells slots S
      have hw := wfl_hd (wfl_tl (wfl_tl S.stk)) rfl
      have ho : ownT t2 = true := own_arr (by omega) (by omega)
      obtain ⟨hr, ht, h0, hc⟩ := S.cell hw ho
      rw [ent_i (by omega) (by omega), hk] at hc
      rw [List.map_cons, List.map_cons, List.map_cons, cv_own ho]
      have hnar : narrow .byte (.int x1) = .int x1 := by
        show Value.int _ = _
        exact congrArg Value.int h.2.1
      refine W.bast C.1 C.2.1 (S.P _ _ hc) ((C.kn.2 2 _ rfl).1 _ _) (fun q => by cases q) (vp_inl h.1) rfl rfl hdg fun H1 e1 z oq => ?_
      refine h.2.2 _ _ _ _ _ (S.wr (I' := u2 I r1 i1.toNatClampNeg x1) hr ht h0 (e9 := .inl (G.2.1 3, kLen t2, .inl (u1 (I r1) i1.toNatClampNeg x1))) (by rw [ent_i (by omega) (by omega), hk, u2_at]) (fun r' hn => ⟨u2_ne hn, rfl, rfl⟩) S.1.2.2 (wfl_tl (wfl_tl (wfl_tl S.stk))) z (S.P.set (wsl_D n) hc ?_ oq) (S.2.1.put z oq (Nat.le_add_right _ _)))
      show H1[_]? = some (vp_cell _ _)
      rw [e1, hnar]; exact congrArg some cell_i
    · exact h.elim
  · exact h.elim
end
