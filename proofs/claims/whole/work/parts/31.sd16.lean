/-! SOUNDNESS, 16: the three kinds of calls -/
theorem allV_spec : ∀ (as : List AV), allV as = true → ∀ v ∈ as, isJ v.1 = false
  | [], _, v, hv => nomatch hv
  | (w, t) :: xs, h, v, hv => by
    rcases List.mem_cons.mp hv with rfl | hv
    · cases w <;> first | rfl | cases h
    · refine allV_spec xs ?_ v hv
      cases w <;> first | exact h | cases h
theorem argB_spec {k : Nat} {as : List AV} (h : argB k as = true) : catS as ≤ (tbm k).2 ∧ (∀ v ∈ as, isJ v.1 = false) ∧ recvB (rct k) as = true := by
  unfold argB at h
  cases h1 : Nat.ble (catS as) (tbm k).2 with
  | false => rw [h1] at h; cases h
  | true =>
    rw [h1] at h
    cases h2 : allV as with
    | false => rw [h2] at h; cases h
    | true => rw [h2] at h; exact ⟨Nat.le_of_ble_eq_true h1, allV_spec as h2, h⟩
theorem recvB_spec {t : Nat} {as : List AV} (h : recvB (t + 1) as = true) : ∃ r rest, as = (.ref r, t + 1) :: rest := by
  unfold recvB at h
  split at h
  · rename_i e; cases e
  · rename_i t' r t2 xs e
    cases e
    exact ⟨r, xs, by rw [Nat.eq_of_beq_eq_true h]⟩
  · cases h
theorem CnD_arg {X : Ext} {kd : Nat → Nat} {d k mc ms n : Nat} {as : List AV} {I : HI} {L : HL} {A : HA} {Q : AQ} (h : CnD X kd d k as mc ms n I L A Q) : argB k as = true := by
  cases d with
  | zero => exact h.elim
  | succ d => exact h.1
theorem stp_vs {X : Ext} {kd : Nat → Nat} {C : CT} {Q : AQ} {P : PT} {i1 nx k1 na : Nat} {hs1 : List Nat} {v : Value} {ls st : List AV} {rc rs n : Nat} {I : HI} {L : HL} {A : HA} (hk : k1 < 301) {ins : Instr} (hi : ins = .invokevirtual i1 ∨ ins = .invokestatic i1 ∨ ins = .invokespecial i1)
    (h : stp X kd C Q P ins nx (k1 :: na :: hs1) v ls st rc rs n I L A) : ∃ (xs rest : List AV) (mc' ms' : Nat), st = xs ++ rest ∧ xs.length = na ∧ catS rest ≤ 8 ∧ mc' ≤ rc ∧ ms' ≤ rs ∧ C k1 xs.reverse mc' ms' n I L A (back Q P nx hs1 ls rest (rc - mc') (rs - ms')) := by
  have key : spl na st [] (fun as rest => bif Nat.ble (catS rest) 8 then inv C k1 as rc rs n I L A (back Q P nx hs1 ls rest) else False) := by
    rcases hi with rfl | rfl | rfl <;>
    · dsimp only [stp] at h
      split at h
      · rename_i e; cases e; omega
      · rename_i e; cases e; omega
      · rename_i e; cases e; omega
      · rename_i e; cases e; omega
      · rename_i e; cases e; omega
      · rename_i e; cases e; omega
      · rename_i e; cases e; omega
      · rename_i e; cases e; exact h
      · exact h.elim
  obtain ⟨xs, rest, h1, h2, h3⟩ := spl_spec na st [] key
  cases hb : Nat.ble (catS rest) 8 with
  | false => rw [hb] at h3; exact h3.elim
  | true =>
    rw [hb] at h3
    obtain ⟨mc', ms', g1, g2, g3⟩ := h3
    rw [List.append_nil] at g3
    exact ⟨xs, rest, mc', ms', h1, h2, Nat.le_of_ble_eq_true hb, g1, g2, g3⟩
section
variable {G : GE} {D : va_G} {X : Ext} {p : Program} {l : Launch} {e : Env} {s : State} {m : MethodId} {args : Array Value} {below : List Frame} {meth : Method} {c : Code} {y : MethodName} {b : ByteArray} {rt : Option FieldType} {hh : List (Nat × Nat × Nat × Nat)} {mx d mc ms n : Nat} {Q : AQ} {I : HI} {L : HL} {A : HA} {ls st : List AV} {rc rs : Nat} {pc nx : Nat} {sd : List Nat} {v : Value} {H : Heap} {locs : List Loc} {arr : Array Slot} {cells slots : Nat}
theorem rev_cv (xs : List AV) : (xs.reverse.map (cv G)).reverse = xs.map (cv G) := by rw [List.map_reverse, List.reverse_reverse]
theorem sn_bk (C : Cx G D X p l s m args meth c y b rt hh mx) (hok : ∀ k, k < 301 → okY k = true) (IH : ∀ k, k < 301 → sdM G D X l d k) {k1 mc' ms' : Nat} (hk : k1 < 301) {as : List AV} {Q' : AQ} (hC : CnD X G.2.2.2 d k1 as mc' ms' n I L A Q') (has : ∀ v ∈ as, isJ v.1 = false ∧ wfv G n v) {y1 : MethodName} {b1 : ByteArray} {rt1 : Option FieldType} {hh1 : List (Nat × Nat × Nat × Nat)} {z : Bool} {q : List Nat} {ht : List (List Nat)} (hM : mtm k1 = some (y1, b1, rt1, hh1, z, q, ht)) (hw : vcd y1 b1 (tbm k1).2 rt1 hh1 ∈ tg) (hi : Cond.initialized y1.cls ∈ tg) :
    vx_Back l (rmD (d + 1) mc ms) p e below s args y1 3 8 (PreOf (rmD (d + 1) mc ms) mc' ms' (sdP G D X as n I L A)) (PostOf (sQ G D Q') mc' ms' (Af G)) (vx_Post (sX G D Q') mc' ms' (Af G)) := by
  have hmx : (tbm k1).2 ≤ 30 := by
    have h1 := List.all_eq_true.mp rct_all k1 (List.mem_range.mpr hk)
    rw [hM] at h1
    dsimp only at h1
    rw [Bool.and_eq_true] at h1
    exact Nat.le_of_ble_eq_true h1.1
  exact sc_back (bytes := b1) (maxL := (tbm k1).2) (ret := rt1) (hh := hh1) (IH k1 hk as mc' ms' n I L A Q' hC has y1 b1 rt1 hh1 z q ht hM) (sdP_blind C.2.2.2.2.2.2.2.2.2.2.1) rfl rfl (show d + 30 + 1 ≤ d + 1 + 30 by omega) (show 8 + ((tbm k1).2 + 11) + (50 * d + 500) ≤ 50 * (d + 1) + 500 by omega)
    (pay_in C.hin (fun w hw9 => by
      rcases List.mem_cons.mp hw9 with rfl | hw9
      · exact tg_good _ hw
      · exact tg_good w hw9)) List.mem_cons_self (fun a' U hW => word_at hW (tg_good _ hi).2 (C.hin _ hi))
theorem sn_invS (C : Cx G D X p l s m args meth c y b rt hh mx) (hok : ∀ k, k < 301 → okY k = true) (IH : ∀ k, k < 301 → sdM G D X l d k) {i1 k1 na q1 : Nat} {hs1 ps : List Nat} {y1 : MethodName} {b1 : ByteArray} {rt1 : Option FieldType} {hh1 : List (Nat × Nat × Nat × Nat)} {ht1 : List (List Nat)} (hd : dcd b pc (.invokestatic i1) 3 nx = true) (hs : sd = k1 :: na :: hs1) (hk : k1 < 301) (hM : mtm k1 = some (y1, b1, rt1, hh1, true, ps, ht1)) (hl : lnkM q1 y.cls i1 y1 = true) (hna : nth ps 4 = some na) (hB : hsB y.cls b mx pc hh hs1 = true)
    (h : stp X G.2.2.2 (CnD X G.2.2.2 d) Q (PW G D p l e s m args below meth c mx (d + 1) mc ms Q) (.invokestatic i1) nx sd v ls st rc rs n I L A) : PW G D p l e s m args below meth c mx (d + 1) mc ms Q pc ls st rc rs n I L A := by
  obtain ⟨hdg, rfl⟩ := dcd_spec hd
  subst hs
  intro H locs arr cells slots S
  obtain ⟨xs, rest, mc', ms', e1, e2, hcat, g1, g2, hC⟩ := stp_vs hk (Or.inr (Or.inl rfl)) h
  subst e1
  obtain ⟨ha1, ha2, ha3⟩ := argB_spec (CnD_arg hC)
  have has : ∀ v ∈ xs.reverse, isJ v.1 = false ∧ wfv G n v := fun v hv => ⟨ha2 v hv, S.stk v (List.mem_append_left _ (List.mem_reverse.mp hv)) (ha2 v hv)⟩
  obtain ⟨y2, b2, rt2, hh2, z2, cw, w1, w2, w3, n2, ht2, f0, f1, f2, f3, f4, f5, f6, f7, f8⟩ := okY_spec (hok k1 hk)
  cases Option.some.inj (hM.symm.trans f0)
  have hn2 : n2 = na := Option.some.inj hna
  have hcc := S.2.2.2.2.2.2.1
  have hss := S.2.2.2.2.2.2.2
  refine sn_call C S rfl hB (fun v hv hj => S.stk v (List.mem_append_right _ hv) hj) g1 g2 (sc_runS (As := xs.reverse.map (cv G)) C.1 C.own (sn_bk C hok IH hk hC has hM f8 f7) (lnkM_spec C hl) (C.hin _ (f5 rfl)) (C.hin _ f7) (C.hin _ f8) f2 (fun sig hsig => ?_) ⟨sdP_blind C.2.2.2.2.2.2.2.2.2.2.1, sdP_at C S _⟩ rfl (by rw [C.2.2.1]; exact S.hl.1) ?_ ?_ (by rw [C.2.1]; exact hdg) ⟨show cells + mc' ≤ mc by omega, show slots + ms' ≤ ms by omega⟩)
  · rw [hsig] at f3
    have f3 := Option.some.inj f3
    rw [List.length_map, List.length_reverse, e2, ← hn2, ← f3]
  · show (xs ++ rest).map (cv G) = _
    rw [rev_cv, List.map_append]
  · show 2 * 0 + ((rest.map (cv G)).map fun v => v.category).sum ≤ 8
    rw [catS_sum]; omega
theorem sn_invV (C : Cx G D X p l s m args meth c y b rt hh mx) (hok : ∀ k, k < 301 → okY k = true) (IH : ∀ k, k < 301 → sdM G D X l d k) {i1 k1 na q1 : Nat} {hs1 ps : List Nat} {y1 : MethodName} {b1 : ByteArray} {rt1 : Option FieldType} {hh1 : List (Nat × Nat × Nat × Nat)} {ht1 : List (List Nat)} (hd : dcd b pc (.invokevirtual i1) 3 nx = true) (hs : sd = k1 :: na :: hs1) (hk : k1 < 301) (hM : mtm k1 = some (y1, b1, rt1, hh1, false, ps, ht1)) (hl : lnkM q1 y.cls i1 y1 = true) (hni : ¬ y1.name = "<init>") (hna : nth ps 4 = some (na - 1)) (hB : hsB y.cls b mx pc hh hs1 = true)
    (h : stp X G.2.2.2 (CnD X G.2.2.2 d) Q (PW G D p l e s m args below meth c mx (d + 1) mc ms Q) (.invokevirtual i1) nx sd v ls st rc rs n I L A) : PW G D p l e s m args below meth c mx (d + 1) mc ms Q pc ls st rc rs n I L A := by
  obtain ⟨hdg, rfl⟩ := dcd_spec hd
  subst hs
  intro H locs arr cells slots S
  obtain ⟨xs, rest, mc', ms', e1, e2, hcat, g1, g2, hC⟩ := stp_vs hk (Or.inl rfl) h
  subst e1
  obtain ⟨ha1, ha2, ha3⟩ := argB_spec (CnD_arg hC)
  have has : ∀ v ∈ xs.reverse, isJ v.1 = false ∧ wfv G n v := fun v hv => ⟨ha2 v hv, S.stk v (List.mem_append_left _ (List.mem_reverse.mp hv)) (ha2 v hv)⟩
  obtain ⟨y2, b2, rt2, hh2, z2, cw, w1, w2, w3, n2, ht2, f0, f1, f2, f3, f4, f5, f6, f7, f8⟩ := okY_spec (hok k1 hk)
  cases Option.some.inj (hM.symm.trans f0)
  have hn2 : n2 = na - 1 := Option.some.inj hna
  have hcc := S.2.2.2.2.2.2.1
  have hss := S.2.2.2.2.2.2.2
  obtain ⟨fi, fs⟩ := f6 rfl
  have fs := fs.resolve_left hni
  have hr := List.all_eq_true.mp rct_all k1 (List.mem_range.mpr hk)
  rw [hM] at hr
  dsimp only at hr
  rw [Bool.and_eq_true] at hr
  have hr := hr.2
  cases hrk : rct k1 with
  | zero => rw [hrk] at hr; cases hr
  | succ c1 =>
    rw [hrk] at hr ha3
    have hr : (!Nat.beq c1 9 && (match amCl[c1]? with | some q => decide (q.1 = y1.cls) | none => false)) = true := hr
    rw [Bool.and_eq_true] at hr
    obtain ⟨hr1, hr2⟩ := hr
    have h9 : ¬ c1 = 9 := fun z => by rw [beq_t z] at hr1; cases hr1
    obtain ⟨r, as', has'⟩ := recvB_spec ha3
    cases hcl : amCl[c1]? with
    | none => rw [hcl] at hr2; cases hr2
    | some q =>
      rw [hcl] at hr2
      have hr2 : q.1 = y1.cls := of_decide_eq_true hr2
      have hl13 : c1 < 13 := (List.getElem?_eq_some_iff.mp hcl).1
      have hwr := (has _ (by rw [has']; exact List.mem_cons_self)).2
      have hor : ownT (c1 + 1) = true := own_obj (by omega) h9
      obtain ⟨k1r, k2r, k3r, k4r⟩ := S.cell hwr hor
      rw [ent_obj (by omega)] at k4r
      obtain ⟨cell, m1, m2, m3⟩ := va_recv C.kn S.P hcl k4r
      rw [hr2] at m3
      have eqa : xs.reverse.map (cv G) = .ref (G.1 + r) :: as'.map (cv G) := by rw [has', List.map_cons, cv_own hor]
      have hsd := sdP_at C S xs.reverse
      rw [eqa] at hsd
      have hK := sn_bk (p := p) (e := e) (below := below) (mc := mc) (ms := ms) C hok IH hk hC has hM f8 f7
      refine sn_call C S rfl hB (fun v hv hj => S.stk v (List.mem_append_right _ hv) hj) g1 g2 (sc_runV (C := y1.cls) (b := G.1 + r) (As := as'.map (cv G)) C.1 C.own hK (lnkM_spec C hl) (C.hin _ fi) (C.hin _ fs) (C.hin _ f8) f2 (fun sig hsig => ?_) ⟨sdP_blind C.2.2.2.2.2.2.2.2.2.2.1, ⟨cell, m1, m2, m3⟩, hsd⟩ rfl (by rw [C.2.2.1]; exact S.hl.1) ?_ ?_ (by rw [C.2.1]; exact hdg) ⟨show cells + mc' ≤ mc by omega, show slots + ms' ≤ ms by omega⟩)
      · rw [hsig] at f3
        have f3 : sig.parameters.length = n2 := Option.some.inj f3
        have hlen : xs.reverse.length = as'.length + 1 := by rw [has']; rfl
        rw [List.length_reverse, e2] at hlen
        rw [List.length_map]; omega
      · show (xs ++ rest).map (cv G) = _
        have e9 : xs.map (cv G) = (as'.map (cv G)).reverse ++ [.ref (G.1 + r)] := by rw [← rev_cv, eqa, List.reverse_cons]
        rw [List.map_append, e9, List.append_assoc]; rfl
      · show 2 * 0 + ((rest.map (cv G)).map fun v => v.category).sum ≤ 8
        rw [catS_sum]; omega
theorem sn_invI (C : Cx G D X p l s m args meth c y b rt hh mx) (hok : ∀ k, k < 301 → okY k = true) (IH : ∀ k, k < 301 → sdM G D X l d k) {i1 k1 na q1 : Nat} {hs1 ps : List Nat} {y1 : MethodName} {b1 : ByteArray} {ht1 : List (List Nat)} (hd : dcd b pc (.invokespecial i1) 3 nx = true) (hs : sd = k1 :: na :: hs1) (hk : k1 < 301) (hM : mtm k1 = some (y1, b1, none, [], false, ps, ht1)) (hl : lnkM q1 y.cls i1 y1 = true) (hni : y1.name = "<init>") (hna : nth ps 4 = some (na - 1)) (hB : hsB y.cls b mx pc hh hs1 = true)
    (h : stp X G.2.2.2 (CnD X G.2.2.2 d) Q (PW G D p l e s m args below meth c mx (d + 1) mc ms Q) (.invokespecial i1) nx sd v ls st rc rs n I L A) : PW G D p l e s m args below meth c mx (d + 1) mc ms Q pc ls st rc rs n I L A := by
  obtain ⟨hdg, rfl⟩ := dcd_spec hd
  subst hs
  intro H locs arr cells slots S
  obtain ⟨xs, rest, mc', ms', e1, e2, hcat, g1, g2, hC⟩ := stp_vs hk (Or.inr (Or.inr rfl)) h
  subst e1
  obtain ⟨ha1, ha2, ha3⟩ := argB_spec (CnD_arg hC)
  have has : ∀ v ∈ xs.reverse, isJ v.1 = false ∧ wfv G n v := fun v hv => ⟨ha2 v hv, S.stk v (List.mem_append_left _ (List.mem_reverse.mp hv)) (ha2 v hv)⟩
  obtain ⟨y2, b2, rt2, hh2, z2, cw, w1, w2, w3, n2, ht2, f0, f1, f2, f3, f4, f5, f6, f7, f8⟩ := okY_spec (hok k1 hk)
  cases Option.some.inj (hM.symm.trans f0)
  have hn2 : n2 = na - 1 := Option.some.inj hna
  have hcc := S.2.2.2.2.2.2.1
  have hss := S.2.2.2.2.2.2.2
  obtain ⟨fi, -⟩ := f6 rfl
  have hr := List.all_eq_true.mp rct_all k1 (List.mem_range.mpr hk)
  rw [hM] at hr
  dsimp only at hr
  rw [Bool.and_eq_true] at hr
  have hr := hr.2
  cases hrk : rct k1 with
  | zero => rw [hrk] at hr; cases hr
  | succ c1 =>
    rw [hrk] at ha3
    obtain ⟨r, as', has'⟩ := recvB_spec ha3
    have eqa : xs.reverse.map (cv G) = .ref (adr G (c1 + 1) r) :: as'.map (cv G) := by rw [has', List.map_cons]; rfl
    have hsd := sdP_at C S xs.reverse
    rw [eqa] at hsd
    have hK := sn_bk (p := p) (e := e) (below := below) (mc := mc) (ms := ms) C hok IH hk hC has hM f8 f7
    refine sn_call C S rfl hB (fun v hv hj => S.stk v (List.mem_append_right _ hv) hj) g1 g2 (sc_runI (b := adr G (c1 + 1) r) (As := as'.map (cv G)) C.1 C.own hK hni (lnkM_spec C hl) (C.hin _ fi) (C.hin _ f8) f2 (fun sig hsig => ?_) ⟨sdP_blind C.2.2.2.2.2.2.2.2.2.2.1, hsd⟩ rfl (by rw [C.2.2.1]; exact S.hl.1) ?_ ?_ (by rw [C.2.1]; exact hdg) ⟨show cells + mc' ≤ mc by omega, show slots + ms' ≤ ms by omega⟩)
    · rw [hsig] at f3
      have f3 : sig.parameters.length = n2 := Option.some.inj f3
      have hlen : xs.reverse.length = as'.length + 1 := by rw [has']; rfl
      rw [List.length_reverse, e2] at hlen
      rw [List.length_map]; omega
    · show (xs ++ rest).map (cv G) = _
      have e9 : xs.map (cv G) = (as'.map (cv G)).reverse ++ [.ref (adr G (c1 + 1) r)] := by rw [← rev_cv, eqa, List.reverse_cons]
      rw [List.map_append, e9, List.append_assoc]; rfl
    · show 2 * 0 + ((rest.map (cv G)).map fun v => v.category).sum ≤ 8
      rw [catS_sum]; omega
end
