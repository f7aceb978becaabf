/-! SOUNDNESS, 11: new things, copies of arrays, Object's constructor -/
set_option maxRecDepth 100000 in
theorem arr_t : ∀ t ∈ [FieldType.int, .boolean, .byte, .long], Cond.arrayClass t ∈ tg := fun t h => List.mem_filter.mpr ⟨of_decide_eq_true (List.all_eq_true.mp arr_all t h), rfl⟩
theorem ins_t {c : Nat} {q : vw_C} (h : amCl[c]? = some q) (h9 : ¬ c = 9) : Cond.instantiable q.1 q.2.2 ∈ tg ∧ Cond.initialized q.1 ∈ tg := by
  have hl : c < 13 := (List.getElem?_eq_some_iff.mp h).1
  have h1 := List.all_eq_true.mp ins_all c (List.mem_range.mpr hl)
  rw [beq_f h9, Bool.false_or, h] at h1
  dsimp only at h1
  rw [Bool.and_eq_true, decide_eq_true_eq, decide_eq_true_eq] at h1
  exact ⟨List.mem_filter.mpr ⟨h1.1, rfl⟩, List.mem_filter.mpr ⟨h1.2, rfl⟩⟩
theorem dft_ok {c : Nat} {q : vw_C} (h : amCl[c]? = some q) (h9 : ¬ c = 9) : ∀ j, j < q.2.2 → defaultValue (tyD q.2.1 j) = vp_V ((fsl c).map (fun z => match z.1 with | 0 => Value.int 0 | _ => Value.null)) j := by
  have hl : c < 13 := (List.getElem?_eq_some_iff.mp h).1
  have h1 := List.all_eq_true.mp dft_all c (List.mem_range.mpr hl)
  rw [beq_f h9, Bool.false_or, h] at h1
  dsimp only at h1
  intro j hj
  exact of_decide_eq_true (List.all_eq_true.mp h1 j (List.mem_range.mpr hj))
theorem toNat_nn {z : Int32} (h : 0 ≤ z) : z.toInt = (z.toNatClampNeg : Int) := by
  have h1 : (0 : Int) ≤ z.toInt := by have := Int32.le_iff_toInt_le.mp h; simpa using this
  show z.toInt = ((z.toInt.toNat : Nat) : Int)
  omega
theorem nlt_of {z : Int32} (h : 0 ≤ z) : ¬ z < 0 := fun h2 => by
  have h3 := Int32.lt_iff_toInt_lt.mp h2
  have h4 := Int32.le_iff_toInt_le.mp h
  omega
section
variable {G : GE} {D : va_G} {X : Ext} {p : Program} {l : Launch} {e : Env} {s : State} {m : MethodId} {args : Array Value} {below : List Frame} {meth : Method} {c : Code} {y : MethodName} {b : ByteArray} {rt : Option FieldType} {hh : List (Nat × Nat × Nat × Nat)} {mx d mc ms n : Nat} {Q : AQ} {CC : CT} {I : HI} {L : HL} {A : HA} {ls st : List AV} {rc rs : Nat} {pc nx : Nat} {sd : List Nat} {v : Value} {H : Heap} {locs : List Loc} {arr : Array Slot} {cells slots : Nat}
theorem sn_new {i1 c1 N1 q1 : Nat} {C1 : String} {T1 : u_T} (C : Cx G D X p l s m args meth c y b rt hh mx) (hd : dcd b pc (.new i1) 3 nx = true) (hs : sd = [c1, N1]) (h9 : ¬ c1 = 9) (hc : amCl[c1]? = some (C1, T1, N1)) (hw : wOK q1 (.classLink y.cls i1 C1) = true) (h : stp X G.2.2.2 CC Q (PW G D p l e s m args below meth c mx d mc ms Q) (.new i1) nx sd v ls st rc rs n I L A) : PW G D p l e s m args below meth c mx d mc ms Q pc ls st rc rs n I L A := by
  obtain ⟨hdg, rfl⟩ := dcd_spec hd
  subst hs
  dsimp only [stp] at h
  split at h
  · rename_i rc1
    intro H locs arr cells slots S
    have hl13 : c1 < 13 := (List.getElem?_eq_some_iff.mp hc).1
    obtain ⟨hN, hk, h⟩ := h
    have hk : G.2.2.2 n = c1 + 1 := hk
    have hcc := S.2.2.2.2.2.2.1
    have hss := S.2.2.2.2.2.2.2
    obtain ⟨w1, w2⟩ := ins_t hc h9
    have hKn := C.kn.1 c1 _ hc
    refine W.newcK C.1 C.2.1 C.own (C.hin _ (wOK_tg hw)) (C.hin _ w1) (C.hin _ w2) rfl hdg (show cells + 1 ≤ mc by omega) (show slots + N1 ≤ ms by omega) hKn.2.1 rfl fun H1 kC hkC e1 z1 o1 => ?_
    have hst : wfl G (n + 1) ((.ref n, kObj c1) :: st) := wfl_cons (v := (.ref n, kObj c1)) ⟨fun _ => ⟨Nat.lt_succ_self n, hk⟩, fun z => by rw [show ownT (kObj c1) = true from own_obj (by omega) h9] at z; cases z⟩ (wfl_mono (Nat.le_succ n) S.stk)
    have e9 : (.inr (c1, flds G (fsl c1) 0 (fun _ => 0) (fun _ => 0)) : va_E) = ent G (ur I n fun _ => 0) L (ur A n fun _ => 0) n (G.2.2.2 n) := by rw [hk, ent_obj (by omega), ur_at, ur_at]
    have k := h H1 locs arr (cells + 1) (slots + N1) (S.nw (k1 := 1) (N1 := N1) (by rw [hk]; omega) e9 (fun r' hn => ⟨ur_ne hn, rfl, ur_ne hn⟩) (wfA_new S.1.2.2) hst z1 ?_ o1 (by omega) (by omega))
    · rw [List.map_cons, cv_own (show ownT (kObj c1) = true from own_obj (by omega) h9), ← S.1.1] at k
      exact k
    · rw [← S.1.1]
      exact ⟨_, hc, (u_born (tyD T1) C.hin (lay_in hc) hKn hkC e1 (tyD_ok hc)).to (fun j hj => by rw [flds0]; exact dft_ok hc h9 j hj)⟩
  · exact h.elim
theorem sn_newarray_int (C : Cx G D X p l s m args meth c y b rt hh mx) (hd : dcd b pc (.newarray .int) 2 nx = true) (hs : sd = [1]) (h : stp X G.2.2.2 CC Q (PW G D p l e s m args below meth c mx d mc ms Q) (.newarray .int) nx sd v ls st rc rs n I L A) : PW G D p l e s m args below meth c mx d mc ms Q pc ls st rc rs n I L A := by
  obtain ⟨hdg, rfl⟩ := dcd_spec hd
  subst hs
  dsimp only [stp] at h
  split at h
  · rename_i s1 l1 t1 r1 e1
    cases e1
    split at h
    · rename_i rc1
      intro H locs arr cells slots S
      obtain ⟨h0, h1, hk, hlt, h⟩ := h
      have hcc := S.2.2.2.2.2.2.1
      have hss := S.2.2.2.2.2.2.2
      have hks : kSort (G.2.2.2 n) = 1 := by rw [hk]; unfold kSort; omega
      have hkl : kLen (G.2.2.2 n) = l1.toNatClampNeg := by rw [hk]; unfold kLen; omega
      have ho : ownT (10000 * 1 + l1.toNatClampNeg) = true := by rw [← hk]; exact own_arr (by omega) (by omega)
      refine va_newaK C.1 C.2.1 (atype := .int) (C.hin _ (arr_t _ (by simp [newarray.typeOf]))) rfl hdg rfl (nlt_of h0) rfl (Nat.le_trans (Nat.mul_le_mul (Nat.le_of_lt hlt) (show componentBytes _ ≤ 8 by decide)) (by decide)) (show cells + 1 ≤ mc by omega) (show slots + l1.toNatClampNeg ≤ ms by omega) rfl fun H1 cA e1 z1 o1 hAr hNm => ?_
      have hcA : cA = G.2.1 1 := Option.some.inj (hNm.symm.trans (C.kn.2 0 _ rfl).2)
      subst hcA
      have hst : wfl G (n + 1) ((.ref n, 10000 * 1 + l1.toNatClampNeg) :: r1) := wfl_cons (v := (.ref n, 10000 * 1 + l1.toNatClampNeg)) ⟨fun _ => ⟨Nat.lt_succ_self n, hk⟩, fun z => by rw [ho] at z; cases z⟩ (wfl_mono (Nat.le_succ n) (wfl_tl S.stk))
      have e9 : (.inl (G.2.1 1, l1.toNatClampNeg, .inl (fun _ => 0)) : va_E) = ent G (ur I n fun _ => 0) (ur L n fun _ => 0) (ur A n fun _ => 0) n (G.2.2.2 n) := by rw [ent_i (by omega) (by omega), hkl, ur_at, hks]
      have k := h H1 locs arr (cells + 1) (slots + l1.toNatClampNeg) (S.nw (k1 := 1) (N1 := l1.toNatClampNeg) (by rw [hk]; omega) e9 (fun r' hn => ⟨ur_ne hn, ur_ne hn, ur_ne hn⟩) (wfA_new S.1.2.2) hst z1 ?_ o1 (by omega) (by omega))
      · rw [List.map_cons, cv_own ho, ← S.1.1] at k
        exact k
      · rw [← S.1.1]
        exact e1
    · exact h.elim
  · exact h.elim
theorem sn_newarray_boolean (C : Cx G D X p l s m args meth c y b rt hh mx) (hd : dcd b pc (.newarray .boolean) 2 nx = true) (hs : sd = [2]) (h : stp X G.2.2.2 CC Q (PW G D p l e s m args below meth c mx d mc ms Q) (.newarray .boolean) nx sd v ls st rc rs n I L A) : PW G D p l e s m args below meth c mx d mc ms Q pc ls st rc rs n I L A := by
  obtain ⟨hdg, rfl⟩ := dcd_spec hd
  subst hs
  dsimp only [stp] at h
  split at h
  · rename_i s1 l1 t1 r1 e1
    cases e1
    split at h
    · rename_i rc1
      intro H locs arr cells slots S
      obtain ⟨h0, h1, hk, hlt, h⟩ := h
      have hcc := S.2.2.2.2.2.2.1
      have hss := S.2.2.2.2.2.2.2
      have hks : kSort (G.2.2.2 n) = 2 := by rw [hk]; unfold kSort; omega
      have hkl : kLen (G.2.2.2 n) = l1.toNatClampNeg := by rw [hk]; unfold kLen; omega
      have ho : ownT (10000 * 2 + l1.toNatClampNeg) = true := by rw [← hk]; exact own_arr (by omega) (by omega)
      refine va_newaK C.1 C.2.1 (atype := .boolean) (C.hin _ (arr_t _ (by simp [newarray.typeOf]))) rfl hdg rfl (nlt_of h0) rfl (Nat.le_trans (Nat.mul_le_mul (Nat.le_of_lt hlt) (show componentBytes _ ≤ 8 by decide)) (by decide)) (show cells + 1 ≤ mc by omega) (show slots + l1.toNatClampNeg ≤ ms by omega) rfl fun H1 cA e1 z1 o1 hAr hNm => ?_
      have hcA : cA = G.2.1 2 := Option.some.inj (hNm.symm.trans (C.kn.2 1 _ rfl).2)
      subst hcA
      have hst : wfl G (n + 1) ((.ref n, 10000 * 2 + l1.toNatClampNeg) :: r1) := wfl_cons (v := (.ref n, 10000 * 2 + l1.toNatClampNeg)) ⟨fun _ => ⟨Nat.lt_succ_self n, hk⟩, fun z => by rw [ho] at z; cases z⟩ (wfl_mono (Nat.le_succ n) (wfl_tl S.stk))
      have e9 : (.inl (G.2.1 2, l1.toNatClampNeg, .inl (fun _ => 0)) : va_E) = ent G (ur I n fun _ => 0) (ur L n fun _ => 0) (ur A n fun _ => 0) n (G.2.2.2 n) := by rw [ent_i (by omega) (by omega), hkl, ur_at, hks]
      have k := h H1 locs arr (cells + 1) (slots + l1.toNatClampNeg) (S.nw (k1 := 1) (N1 := l1.toNatClampNeg) (by rw [hk]; omega) e9 (fun r' hn => ⟨ur_ne hn, ur_ne hn, ur_ne hn⟩) (wfA_new S.1.2.2) hst z1 ?_ o1 (by omega) (by omega))
      · rw [List.map_cons, cv_own ho, ← S.1.1] at k
        exact k
      · rw [← S.1.1]
        exact e1
    · exact h.elim
  · exact h.elim
theorem sn_newarray_byte (C : Cx G D X p l s m args meth c y b rt hh mx) (hd : dcd b pc (.newarray .byte) 2 nx = true) (hs : sd = [3]) (h : stp X G.2.2.2 CC Q (PW G D p l e s m args below meth c mx d mc ms Q) (.newarray .byte) nx sd v ls st rc rs n I L A) : PW G D p l e s m args below meth c mx d mc ms Q pc ls st rc rs n I L A := by
  obtain ⟨hdg, rfl⟩ := dcd_spec hd
  subst hs
  dsimp only [stp] at h
  split at h
  · rename_i s1 l1 t1 r1 e1
    cases e1
    split at h
    · rename_i rc1
      intro H locs arr cells slots S
      obtain ⟨h0, h1, hk, hlt, h⟩ := h
      have hcc := S.2.2.2.2.2.2.1
      have hss := S.2.2.2.2.2.2.2
      have hks : kSort (G.2.2.2 n) = 3 := by rw [hk]; unfold kSort; omega
      have hkl : kLen (G.2.2.2 n) = l1.toNatClampNeg := by rw [hk]; unfold kLen; omega
      have ho : ownT (10000 * 3 + l1.toNatClampNeg) = true := by rw [← hk]; exact own_arr (by omega) (by omega)
      refine va_newaK C.1 C.2.1 (atype := .byte) (C.hin _ (arr_t _ (by simp [newarray.typeOf]))) rfl hdg rfl (nlt_of h0) rfl (Nat.le_trans (Nat.mul_le_mul (Nat.le_of_lt hlt) (show componentBytes _ ≤ 8 by decide)) (by decide)) (show cells + 1 ≤ mc by omega) (show slots + l1.toNatClampNeg ≤ ms by omega) rfl fun H1 cA e1 z1 o1 hAr hNm => ?_
      have hcA : cA = G.2.1 3 := Option.some.inj (hNm.symm.trans (C.kn.2 2 _ rfl).2)
      subst hcA
      have hst : wfl G (n + 1) ((.ref n, 10000 * 3 + l1.toNatClampNeg) :: r1) := wfl_cons (v := (.ref n, 10000 * 3 + l1.toNatClampNeg)) ⟨fun _ => ⟨Nat.lt_succ_self n, hk⟩, fun z => by rw [ho] at z; cases z⟩ (wfl_mono (Nat.le_succ n) (wfl_tl S.stk))
      have e9 : (.inl (G.2.1 3, l1.toNatClampNeg, .inl (fun _ => 0)) : va_E) = ent G (ur I n fun _ => 0) (ur L n fun _ => 0) (ur A n fun _ => 0) n (G.2.2.2 n) := by rw [ent_i (by omega) (by omega), hkl, ur_at, hks]
      have k := h H1 locs arr (cells + 1) (slots + l1.toNatClampNeg) (S.nw (k1 := 1) (N1 := l1.toNatClampNeg) (by rw [hk]; omega) e9 (fun r' hn => ⟨ur_ne hn, ur_ne hn, ur_ne hn⟩) (wfA_new S.1.2.2) hst z1 ?_ o1 (by omega) (by omega))
      · rw [List.map_cons, cv_own ho, ← S.1.1] at k
        exact k
      · rw [← S.1.1]
        exact e1
    · exact h.elim
  · exact h.elim
theorem sn_newarray_long (C : Cx G D X p l s m args meth c y b rt hh mx) (hd : dcd b pc (.newarray .long) 2 nx = true) (hs : sd = [4]) (h : stp X G.2.2.2 CC Q (PW G D p l e s m args below meth c mx d mc ms Q) (.newarray .long) nx sd v ls st rc rs n I L A) : PW G D p l e s m args below meth c mx d mc ms Q pc ls st rc rs n I L A := by
  obtain ⟨hdg, rfl⟩ := dcd_spec hd
  subst hs
  dsimp only [stp] at h
  split at h
  · rename_i s1 l1 t1 r1 e1
    cases e1
    split at h
    · rename_i rc1
      intro H locs arr cells slots S
      obtain ⟨h0, h1, hk, hlt, h⟩ := h
      have hcc := S.2.2.2.2.2.2.1
      have hss := S.2.2.2.2.2.2.2
      have hks : kSort (G.2.2.2 n) = 4 := by rw [hk]; unfold kSort; omega
      have hkl : kLen (G.2.2.2 n) = l1.toNatClampNeg := by rw [hk]; unfold kLen; omega
      have ho : ownT (10000 * 4 + l1.toNatClampNeg) = true := by rw [← hk]; exact own_arr (by omega) (by omega)
      refine va_newaK C.1 C.2.1 (atype := .long) (C.hin _ (arr_t _ (by simp [newarray.typeOf]))) rfl hdg rfl (nlt_of h0) rfl (Nat.le_trans (Nat.mul_le_mul (Nat.le_of_lt hlt) (show componentBytes _ ≤ 8 by decide)) (by decide)) (show cells + 1 ≤ mc by omega) (show slots + l1.toNatClampNeg ≤ ms by omega) rfl fun H1 cA e1 z1 o1 hAr hNm => ?_
      have hcA : cA = G.2.1 4 := Option.some.inj (hNm.symm.trans (C.kn.2 3 _ rfl).2)
      subst hcA
      have hst : wfl G (n + 1) ((.ref n, 10000 * 4 + l1.toNatClampNeg) :: r1) := wfl_cons (v := (.ref n, 10000 * 4 + l1.toNatClampNeg)) ⟨fun _ => ⟨Nat.lt_succ_self n, hk⟩, fun z => by rw [ho] at z; cases z⟩ (wfl_mono (Nat.le_succ n) (wfl_tl S.stk))
      have e9 : (.inl (G.2.1 4, l1.toNatClampNeg, .inr (.inl (fun _ => 0))) : va_E) = ent G (ur I n fun _ => 0) (ur L n fun _ => 0) (ur A n fun _ => 0) n (G.2.2.2 n) := by rw [ent_l hks, hkl, ur_at]
      have k := h H1 locs arr (cells + 1) (slots + l1.toNatClampNeg) (S.nw (k1 := 1) (N1 := l1.toNatClampNeg) (by rw [hk]; omega) e9 (fun r' hn => ⟨ur_ne hn, ur_ne hn, ur_ne hn⟩) (wfA_new S.1.2.2) hst z1 ?_ o1 (by omega) (by omega))
      · rw [List.map_cons, cv_own ho, ← S.1.1] at k
        exact k
      · rw [← S.1.1]
        exact e1
    · exact h.elim
  · exact h.elim
theorem sn_anewarray {i1 s1 q1 : Nat} {C1 : String} (C : Cx G D X p l s m args meth c y b rt hh mx) (hd : dcd b pc (.anewarray i1) 3 nx = true) (hs : sd = [s1]) (h10 : 10 ≤ s1) (h23 : s1 < 23) (hn : nth clN (s1 - 10) = some C1) (hw : wOK q1 (.classLink y.cls i1 C1) = true) (hm : C1 ∈ [RX1, RX6, RX8, RX9]) (h : stp X G.2.2.2 CC Q (PW G D p l e s m args below meth c mx d mc ms Q) (.anewarray i1) nx sd v ls st rc rs n I L A) : PW G D p l e s m args below meth c mx d mc ms Q pc ls st rc rs n I L A := by
  obtain ⟨hdg, rfl⟩ := dcd_spec hd
  subst hs
  dsimp only [stp] at h
  split at h
  · rename_i s2 l1 t1 r1 e1
    cases e1
    split at h
    · rename_i rc1
      intro H locs arr cells slots S
      obtain ⟨h0, h1, hk, hlt, h⟩ := h
      have hcc := S.2.2.2.2.2.2.1
      have hss := S.2.2.2.2.2.2.2
      have hks : kSort (G.2.2.2 n) = s1 := by rw [hk]; unfold kSort; omega
      have hkl : kLen (G.2.2.2 n) = l1.toNatClampNeg := by rw [hk]; unfold kLen; omega
      have ho : ownT (10000 * s1 + l1.toNatClampNeg) = true := by rw [← hk]; exact own_arr (by omega) (by omega)
      have h23 : srtB s1 = true := by
        rcases (show s1 = 10 ∨ s1 = 11 ∨ s1 = 12 ∨ s1 = 13 ∨ s1 = 14 ∨ s1 = 15 ∨ s1 = 16 ∨ s1 = 17 ∨ s1 = 18 ∨ s1 = 19 ∨ s1 = 20 ∨ s1 = 21 ∨ s1 = 22 by omega) with rfl | rfl | rfl | rfl | rfl | rfl | rfl | rfl | rfl | rfl | rfl | rfl | rfl <;> first | rfl | (cases hn; exact absurd hm (by decide))
      obtain ⟨C9, hC9, hty⟩ := tys_at (G := G) h10 h23
      cases Option.some.inj (hC9.symm.trans hn)
      refine W.anew C.1 C.2.1 C.own (C.hin _ (wOK_tg hw)) (va_AO.use (C.wd.2.2.2.2.2.2.2.2.2.2.2.2.2.2.1 _ hm)) rfl hdg rfl (nlt_of h0) (by omega) (show cells + 1 ≤ mc by omega) (show slots + l1.toNatClampNeg ≤ ms by omega) fun cA kA comp f1 f2 f3 f4 => ?_
      obtain ⟨kA2, comp2, g1, g2, g3, g4⟩ := (C.kn.2 _ _ hty).2
      have hcA : cA = G.2.1 s1 := Option.some.inj (f1.symm.trans g4)
      subst hcA
      have hst : wfl G (n + 1) ((.ref n, 10000 * s1 + l1.toNatClampNeg) :: r1) := wfl_cons (v := (.ref n, 10000 * s1 + l1.toNatClampNeg)) ⟨fun _ => ⟨Nat.lt_succ_self n, hk⟩, fun z => by rw [ho] at z; cases z⟩ (wfl_mono (Nat.le_succ n) (wfl_tl S.stk))
      have e9 : (.inl (G.2.1 s1, l1.toNatClampNeg, .inr (.inr (.inr (.inr (fun _ => none))))) : va_E) = ent G (ur I n fun _ => 0) (ur L n fun _ => 0) (ur A n fun _ => 0) n (G.2.2.2 n) := by rw [ent_q (by omega), hks, hkl, ur_at]; rfl
      have z1 : (H.push ({ cls := G.2.1 s1, slots := Array.replicate l1.toNatClampNeg .null, vm := .none } : Cell)).size = H.size + 1 := by rw [Array.size_push]
      have k := h _ locs arr (cells + 1) (slots + l1.toNatClampNeg) (S.nw (k1 := 1) (N1 := l1.toNatClampNeg) (by rw [hk]; omega) e9 (fun r' hn => ⟨ur_ne hn, ur_ne hn, ur_ne hn⟩) (wfA_new S.1.2.2) hst z1 ?_ (fun q hq => by rw [Array.getElem?_push, if_neg (Nat.ne_of_lt hq)]) (by omega) (by omega))
      · rw [List.map_cons, cv_own ho, ← S.1.1] at k
        exact k
      · rw [← S.1.1]
        show (H.push _)[H.size]? = some (vp_cell _ _)
        rw [vp_cell_q, Array.getElem?_push_size]
        exact congrArg some (arrV_new (G.2.1 s1) l1.toNatClampNeg .null)
    · exact h.elim
  · exact h.elim
theorem sn_objinit {i1 : Nat} (C : Cx G D X p l s m args meth c y b rt hh mx) (hd : dcd b pc (.invokespecial i1) 3 nx = true) (hs : sd = [999]) (hk : (Cond.methodLink y.cls i1 objectInit).before args s = true) (h : stp X G.2.2.2 CC Q (PW G D p l e s m args below meth c mx d mc ms Q) (.invokespecial i1) nx sd v ls st rc rs n I L A) : PW G D p l e s m args below meth c mx d mc ms Q pc ls st rc rs n I L A := by
  obtain ⟨hdg, rfl⟩ := dcd_spec hd
  subst hs
  rcases st with _ | ⟨⟨w, t1⟩, r9⟩
  · exact h.elim
  cases w <;> first | exact h.elim | skip
  · rename_i r1
    have h : (bif Nat.ble (catS r9) 8 then PW G D p l e s m args below meth c mx d mc ms Q (pc + 3) ls r9 rc rs n I L A else False) := h
    intro H locs arr cells slots S
    cases hb : Nat.ble (catS r9) 8 with
    | false => rw [hb] at h; exact h.elim
    | true =>
      rw [hb] at h
      have hb := Nat.le_of_ble_eq_true hb
      refine W.objInit C.1 C.2.1 C.own hk (C.hin _ (List.mem_filter.mpr ⟨obj_in.2.1, rfl⟩)) (C.hin _ (List.mem_filter.mpr ⟨obj_in.2.2, rfl⟩)) rfl (by rw [C.2.2.1]; exact S.hl.1) (a := adr G t1 r1) (rest := r9.map (cv G)) rfl hdg (show 1 ≤ d + 30 by omega) ?_ (h _ _ _ _ _ (S.to (wfl_tl S.stk)))
      show 2 * 0 + ((r9.map (cv G)).map fun v => v.category).sum + 12 ≤ 50 * d + 500
      rw [catS_sum]; omega
theorem cp_i (C : Cx G D X p l s m args meth c y b rt hh mx) {R : Room} {Q9 : State → Prop} {i1 q0 q1 a0 a1 n0 n1 : Nat} {ws : va_W} {f g : Nat → Int32} {sp dp k : Int32} {rest : List Value} (hdg : decode b pc = .ok (.invokestatic i1, 3)) (hk : (Cond.methodLink y.cls i1 arraycopyName).before args s = true) (hml : arr.size = mx) (hP : va_P D amCl ws H) (hD : va_D (Af G) ws) (ha0 : ws[q0]? = some (a0, .inl (G.2.1 1, n0, .inl f))) (ha1 : ws[q1]? = some (a1, .inl (G.2.1 1, n1, .inl g))) (h1 : 0 ≤ sp) (h2 : 0 ≤ dp) (h3 : 0 ≤ k) (h4 : sp.toNatClampNeg + k.toNatClampNeg ≤ n0) (h5 : dp.toNatClampNeg + k.toNatClampNeg ≤ n1) (hf : 1 ≤ R.frames) (hlo : (rest.map fun v => v.category).sum + (nativeFrameWords "java/lang/System" "arraycopy" 5 + 11) ≤ R.locals) (hS : va_S (Af G) s.heap H locs)
    (kk : ∀ (H1 : Heap) (locs1 : List Loc), va_P D amCl (ws.set q1 (a1, .inl (G.2.1 1, n1, .inl (va_cpy f g sp.toNatClampNeg dp.toNatClampNeg k.toNatClampNeg)))) H1 → H1.size = H.size → va_S (Af G) s.heap H1 locs1 → W p l e R s m args below meth c H1 locs1 cells slots Q9 (F0 m (pc + 3) arr rest)) : W p l e R s m args below meth c H locs cells slots Q9 (F0 m pc arr (.int k :: .int dp :: .ref a1 :: .int sp :: .ref a0 :: rest)) := by
  intro T hT X9
  have hc0 : H[a0]? = some (vp_cell (G.2.1 1) (n0, .inl f)) := hP q0 _ ha0
  have hc1 : H[a1]? = some (vp_cell (G.2.1 1) (n1, .inl g)) := hP q1 _ ha1
  obtain ⟨-, k0, hk0, cm0, hkk0⟩ := (C.kn.2 0 _ rfl).1 n0 (fun j => .int (f j))
  obtain ⟨-, k1, hk1, cm1, hkk1⟩ := (C.kn.2 0 _ rfl).1 n1 (fun j => .int (g j))
  obtain ⟨vm', X', step⟩ := X9.arraycopy C.1 C.own hk (C.hin _ (List.mem_filter.mpr ⟨cp_in.1, rfl⟩)) (C.hin _ (List.mem_filter.mpr ⟨cp_in.2.1, rfl⟩)) (C.hin _ (List.mem_filter.mpr ⟨cp_in.2.2, rfl⟩)) (src := a0) (dst := a1) (cs := vp_cell (G.2.1 1) (n0, .inl f)) (cd := vp_cell (G.2.1 1) (n1, .inl g)) (srcPos := sp) (destPos := dp) (n := k) (by rw [hT]; exact hc0) (by rw [hT]; exact hc1)
    (fun _ h => by cases h) (fun _ h => by cases h) (fun h => by cases h) (fun h => by cases h) hk0 hk1 hkk0 hkk1 (by simp [refKind]) (nlt_of h1) (nlt_of h2) (nlt_of h3)
    (by rw [toNat_nn h1, toNat_nn h3]; show ¬ _ > ((arrV _ n0 _).slots.size : Int); rw [arrV_size]; omega)
    (by rw [toNat_nn h2, toNat_nn h3]; show ¬ _ > ((arrV _ n1 _).slots.size : Int); rw [arrV_size]; omega)
    (fun vm₁ _ i hi => by
      have e : (vp_cell (G.2.1 1) (n0, .inl f)).slots.getD (sp.toNatClampNeg + i) .null = .int (f (sp.toNatClampNeg + i)) := by
        show (arrV _ n0 (fun j => .int (f j))).slots.getD _ _ = _
        rw [Array.getD_eq_getD_getElem?, arrV_read _ _ (by omega)]
        rfl
      exact ⟨by rw [e]; rfl, by rw [e]; exact trivial⟩)
    (g := F0 m pc arr (.int k :: .int dp :: .ref a1 :: .int sp :: .ref a0 :: rest)) rfl (by rw [C.2.2.1]; exact hml) (rest := rest) rfl (by rw [C.2.1]; exact hdg) hf (by show 2 * 0 + _ + _ ≤ _; omega)
  have e1 : copied (vp_cell (G.2.1 1) (n0, .inl f)) (vp_cell (G.2.1 1) (n1, .inl g)) sp dp k = vp_cell (G.2.1 1) (n1, .inl (va_cpy f g sp.toNatClampNeg dp.toNatClampNeg k.toNatClampNeg)) := va_copied (fun z => .int z) _ _ f g h4
  rw [e1] at X' step
  have hl : a1 < H.size := (Array.getElem?_eq_some_iff.mp hc1).1
  have oq : ∀ (z : Cell) (q : Nat), q ≠ a1 → (H.setIfInBounds a1 z)[q]? = H[q]? := fun z q hq => by simp [Array.getElem?_setIfInBounds, Ne.symm hq]
  have hat : va_at D amCl (a1, .inl (G.2.1 1, n1, .inl (va_cpy f g sp.toNatClampNeg dp.toNatClampNeg k.toNatClampNeg))) (H.setIfInBounds a1 (vp_cell (G.2.1 1) (n1, .inl (va_cpy f g sp.toNatClampNeg dp.toNatClampNeg k.toNatClampNeg)))) := by
    show (H.setIfInBounds a1 _)[a1]? = some _
    simp [Array.getElem?_setIfInBounds, hl]
  obtain ⟨t, b1, b2⟩ := kk _ _ (hP.set hD ha1 hat (oq _)) (by simp) ⟨by simp; exact hS.1, fun q g1 g2 => by
      rw [oq _ q (fun e => g2 (by rw [e]; exact hD.2 q1 _ ha1))]
      exact hS.2.1 q g1 g2, fun q hq => by
      rcases List.mem_append.mp hq with h | h
      · exact hS.2.2 q h
      · obtain ⟨z, -, hz⟩ := List.mem_map.mp h
        rw [← hz]
        exact hD.2 q1 _ ha1⟩ _ (by rw [← hT]; rfl) X'
  exact ⟨t, step t b1, b2⟩
theorem cp_l (C : Cx G D X p l s m args meth c y b rt hh mx) {R : Room} {Q9 : State → Prop} {i1 q0 q1 a0 a1 n0 n1 : Nat} {ws : va_W} {f g : Nat → Int64} {sp dp k : Int32} {rest : List Value} (hdg : decode b pc = .ok (.invokestatic i1, 3)) (hk : (Cond.methodLink y.cls i1 arraycopyName).before args s = true) (hml : arr.size = mx) (hP : va_P D amCl ws H) (hD : va_D (Af G) ws) (ha0 : ws[q0]? = some (a0, .inl (G.2.1 4, n0, .inr (.inl f)))) (ha1 : ws[q1]? = some (a1, .inl (G.2.1 4, n1, .inr (.inl g)))) (h1 : 0 ≤ sp) (h2 : 0 ≤ dp) (h3 : 0 ≤ k) (h4 : sp.toNatClampNeg + k.toNatClampNeg ≤ n0) (h5 : dp.toNatClampNeg + k.toNatClampNeg ≤ n1) (hf : 1 ≤ R.frames) (hlo : (rest.map fun v => v.category).sum + (nativeFrameWords "java/lang/System" "arraycopy" 5 + 11) ≤ R.locals) (hS : va_S (Af G) s.heap H locs)
    (kk : ∀ (H1 : Heap) (locs1 : List Loc), va_P D amCl (ws.set q1 (a1, .inl (G.2.1 4, n1, .inr (.inl (va_cpy f g sp.toNatClampNeg dp.toNatClampNeg k.toNatClampNeg))))) H1 → H1.size = H.size → va_S (Af G) s.heap H1 locs1 → W p l e R s m args below meth c H1 locs1 cells slots Q9 (F0 m (pc + 3) arr rest)) : W p l e R s m args below meth c H locs cells slots Q9 (F0 m pc arr (.int k :: .int dp :: .ref a1 :: .int sp :: .ref a0 :: rest)) := by
  intro T hT X9
  have hc0 : H[a0]? = some (vp_cell (G.2.1 4) (n0, .inr (.inl f))) := hP q0 _ ha0
  have hc1 : H[a1]? = some (vp_cell (G.2.1 4) (n1, .inr (.inl g))) := hP q1 _ ha1
  obtain ⟨-, k0, hk0, cm0, hkk0⟩ := (C.kn.2 3 _ rfl).1 n0 (fun j => .long (f j))
  obtain ⟨-, k1, hk1, cm1, hkk1⟩ := (C.kn.2 3 _ rfl).1 n1 (fun j => .long (g j))
  obtain ⟨vm', X', step⟩ := X9.arraycopy C.1 C.own hk (C.hin _ (List.mem_filter.mpr ⟨cp_in.1, rfl⟩)) (C.hin _ (List.mem_filter.mpr ⟨cp_in.2.1, rfl⟩)) (C.hin _ (List.mem_filter.mpr ⟨cp_in.2.2, rfl⟩)) (src := a0) (dst := a1) (cs := vp_cell (G.2.1 4) (n0, .inr (.inl f))) (cd := vp_cell (G.2.1 4) (n1, .inr (.inl g))) (srcPos := sp) (destPos := dp) (n := k) (by rw [hT]; exact hc0) (by rw [hT]; exact hc1)
    (fun _ h => by cases h) (fun _ h => by cases h) (fun h => by cases h) (fun h => by cases h) hk0 hk1 hkk0 hkk1 (by simp [refKind]) (nlt_of h1) (nlt_of h2) (nlt_of h3)
    (by rw [toNat_nn h1, toNat_nn h3]; show ¬ _ > ((arrV _ n0 _).slots.size : Int); rw [arrV_size]; omega)
    (by rw [toNat_nn h2, toNat_nn h3]; show ¬ _ > ((arrV _ n1 _).slots.size : Int); rw [arrV_size]; omega)
    (fun vm₁ _ i hi => by
      have e : (vp_cell (G.2.1 4) (n0, .inr (.inl f))).slots.getD (sp.toNatClampNeg + i) .null = .long (f (sp.toNatClampNeg + i)) := by
        show (arrV _ n0 (fun j => .long (f j))).slots.getD _ _ = _
        rw [Array.getD_eq_getD_getElem?, arrV_read _ _ (by omega)]
        rfl
      exact ⟨by rw [e]; rfl, by rw [e]; exact trivial⟩)
    (g := F0 m pc arr (.int k :: .int dp :: .ref a1 :: .int sp :: .ref a0 :: rest)) rfl (by rw [C.2.2.1]; exact hml) (rest := rest) rfl (by rw [C.2.1]; exact hdg) hf (by show 2 * 0 + _ + _ ≤ _; omega)
  have e1 : copied (vp_cell (G.2.1 4) (n0, .inr (.inl f))) (vp_cell (G.2.1 4) (n1, .inr (.inl g))) sp dp k = vp_cell (G.2.1 4) (n1, .inr (.inl (va_cpy f g sp.toNatClampNeg dp.toNatClampNeg k.toNatClampNeg))) := va_copied (fun z => .long z) _ _ f g h4
  rw [e1] at X' step
  have hl : a1 < H.size := (Array.getElem?_eq_some_iff.mp hc1).1
  have oq : ∀ (z : Cell) (q : Nat), q ≠ a1 → (H.setIfInBounds a1 z)[q]? = H[q]? := fun z q hq => by simp [Array.getElem?_setIfInBounds, Ne.symm hq]
  have hat : va_at D amCl (a1, .inl (G.2.1 4, n1, .inr (.inl (va_cpy f g sp.toNatClampNeg dp.toNatClampNeg k.toNatClampNeg)))) (H.setIfInBounds a1 (vp_cell (G.2.1 4) (n1, .inr (.inl (va_cpy f g sp.toNatClampNeg dp.toNatClampNeg k.toNatClampNeg))))) := by
    show (H.setIfInBounds a1 _)[a1]? = some _
    simp [Array.getElem?_setIfInBounds, hl]
  obtain ⟨t, b1, b2⟩ := kk _ _ (hP.set hD ha1 hat (oq _)) (by simp) ⟨by simp; exact hS.1, fun q g1 g2 => by
      rw [oq _ q (fun e => g2 (by rw [e]; exact hD.2 q1 _ ha1))]
      exact hS.2.1 q g1 g2, fun q hq => by
      rcases List.mem_append.mp hq with h | h
      · exact hS.2.2 q h
      · obtain ⟨z, -, hz⟩ := List.mem_map.mp h
        rw [← hz]
        exact hD.2 q1 _ ha1⟩ _ (by rw [← hT]; rfl) X'
  exact ⟨t, step t b1, b2⟩
theorem sn_arraycopy {i1 : Nat} (C : Cx G D X p l s m args meth c y b rt hh mx) (hd : dcd b pc (.invokestatic i1) 3 nx = true) (hs : sd = [900]) (hk : (Cond.methodLink y.cls i1 arraycopyName).before args s = true) (h : stp X G.2.2.2 CC Q (PW G D p l e s m args below meth c mx d mc ms Q) (.invokestatic i1) nx sd v ls st rc rs n I L A) : PW G D p l e s m args below meth c mx d mc ms Q pc ls st rc rs n I L A := by
  obtain ⟨hdg, rfl⟩ := dcd_spec hd
  subst hs
  rcases st with _ | ⟨⟨l1, u1⟩, _ | ⟨⟨q1, u2⟩, _ | ⟨⟨b1, tb⟩, _ | ⟨⟨p1, u3⟩, _ | ⟨⟨a1, ta⟩, r9⟩⟩⟩⟩⟩
  · exact h.elim
  · cases l1 <;> exact h.elim
  · cases l1 <;> first | exact h.elim | skip
    cases q1 <;> exact h.elim
  · cases l1 <;> first | exact h.elim | skip
    cases q1 <;> first | exact h.elim | skip
    cases b1 <;> exact h.elim
  · cases l1 <;> first | exact h.elim | skip
    cases q1 <;> first | exact h.elim | skip
    cases b1 <;> first | exact h.elim | skip
    cases p1 <;> exact h.elim
  · cases l1 <;> first | exact h.elim | skip
    cases q1 <;> first | exact h.elim | skip
    cases b1 <;> first | exact h.elim | skip
    cases p1 <;> first | exact h.elim | skip
    cases a1 <;> first | exact h.elim | skip
    rename_i l1 q1 b1 p1 a1
    have h : (bif Nat.ble (catS r9) 8 then (0 ≤ p1 ∧ 0 ≤ q1 ∧ 0 ≤ l1 ∧ p1.toNatClampNeg + l1.toNatClampNeg ≤ kLen ta ∧ q1.toNatClampNeg + l1.toNatClampNeg ≤ kLen tb ∧ (match (generalizing := false) kSort ta, kSort tb with
        | 1, 1 => PW G D p l e s m args below meth c mx d mc ms Q (pc + 3) ls r9 rc rs n (ur I b1 (va_cpy (I a1) (I b1) p1.toNatClampNeg q1.toNatClampNeg l1.toNatClampNeg)) L A
        | 4, 4 => PW G D p l e s m args below meth c mx d mc ms Q (pc + 3) ls r9 rc rs n I (ur L b1 (va_cpy (L a1) (L b1) p1.toNatClampNeg q1.toNatClampNeg l1.toNatClampNeg)) A
        | _, _ => False)) else False) := h
    intro H locs arr cells slots S
    cases hb : Nat.ble (catS r9) 8 with
    | false => rw [hb] at h; exact h.elim
    | true =>
      rw [hb] at h
      have hb := Nat.le_of_ble_eq_true hb
      obtain ⟨h1, h2, h3, h4, h5, h⟩ := h
      have hlo : ((r9.map (cv G)).map fun v => v.category).sum + (nativeFrameWords "java/lang/System" "arraycopy" 5 + 11) ≤ 50 * d + 500 := by
        rw [catS_sum]
        have : nativeFrameWords "java/lang/System" "arraycopy" 5 ≤ 400 := by decide
        omega
      have hwb := wfl_hd (wfl_tl (wfl_tl S.stk)) rfl
      have hwa := wfl_hd (wfl_tl (wfl_tl (wfl_tl (wfl_tl S.stk)))) rfl
      have hr9 := wfl_tl (wfl_tl (wfl_tl (wfl_tl (wfl_tl S.stk))))
      split at h
      · rename_i hka hkb
        have hoa : ownT ta = true := own_arr (by omega) (by omega)
        have hob : ownT tb = true := own_arr (by omega) (by omega)
        obtain ⟨ar, at1, a0, ac⟩ := S.cell hwa hoa
        obtain ⟨br, bt, b0, bc⟩ := S.cell hwb hob
        rw [ent_i (by omega) (by omega), hka] at ac
        rw [ent_i (by omega) (by omega), hkb] at bc
        rw [List.map_cons, List.map_cons, List.map_cons, List.map_cons, List.map_cons, cv_own hoa, cv_own hob]
        exact cp_i C hdg hk S.hl.1 S.P (wsl_D n) ac bc h1 h2 h3 h4 h5 (show 1 ≤ d + 30 by omega) hlo S.2.1 (fun H1 locs1 hP z hS => h _ _ _ _ _ (S.wr (I' := ur I b1 _) br bt b0 (by rw [ent_i (by omega) (by omega), hkb, ur_at]) (fun r' hn => ⟨ur_ne hn, rfl, rfl⟩) S.1.2.2 hr9 z hP hS))
      · rename_i hka hkb
        have hoa : ownT ta = true := own_arr (by omega) (by omega)
        have hob : ownT tb = true := own_arr (by omega) (by omega)
        obtain ⟨ar, at1, a0, ac⟩ := S.cell hwa hoa
        obtain ⟨br, bt, b0, bc⟩ := S.cell hwb hob
        rw [ent_l hka] at ac
        rw [ent_l hkb] at bc
        rw [List.map_cons, List.map_cons, List.map_cons, List.map_cons, List.map_cons, cv_own hoa, cv_own hob]
        exact cp_l C hdg hk S.hl.1 S.P (wsl_D n) ac bc h1 h2 h3 h4 h5 (show 1 ≤ d + 30 by omega) hlo S.2.1 (fun H1 locs1 hP z hS => h _ _ _ _ _ (S.wr (L' := ur L b1 _) br bt b0 (by rw [ent_l hkb, ur_at]) (fun r' hn => ⟨rfl, ur_ne hn, rfl⟩) S.1.2.2 hr9 z hP hS))
      · exact h.elim
end
