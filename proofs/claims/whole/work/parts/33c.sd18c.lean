/-! SOUNDNESS, 18c: Math's abs, max, min -/
theorem mtab : [Cond.static Lib.Math.abs.name, .static Lib.Math.max.name, .static Lib.Math.min.name, .initialized "java/lang/Math", .code Lib.Math.abs.name Lib.Math.abs.code 1 (some .int), .code Lib.Math.max.name Lib.Math.max.code 2 (some .int), .code Lib.Math.min.name Lib.Math.min.code 2 (some .int)].all (fun w => decide (w ∈ lw_tbl) && goodWord w) = true := by decide +kernel
section
variable {G : GE} {D : va_G} {X : Ext} {p : Program} {l : Launch} {e : Env} {s : State} {m : MethodId} {args : Array Value} {below : List Frame} {meth : Method} {c : Code} {y : MethodName} {b : ByteArray} {rt : Option FieldType} {hh : List (Nat × Nat × Nat × Nat)} {mx d mc ms n : Nat} {Q : AQ} {CC : CT} {I : HI} {L : HL} {A : HA} {ls st : List AV} {rc rs : Nat} {pc nx : Nat} {sd : List Nat} {v : Value} {H : Heap} {locs : List Loc} {arr : Array Slot} {cells slots : Nat}
theorem sn_mabs {i1 : Nat} (C : Cx G D X p l s m args meth c y b rt hh mx) (hd : dcd b pc (.invokestatic i1) 3 nx = true) (hs : sd = [903]) (hk : (Cond.methodLink y.cls i1 Lib.Math.abs.name).before args s = true)
    (h : stp X G.2.2.2 CC Q (PW G D p l e s m args below meth c mx d mc ms Q) (.invokestatic i1) nx sd v ls st rc rs n I L A) : PW G D p l e s m args below meth c mx d mc ms Q pc ls st rc rs n I L A := by
  obtain ⟨hdg, rfl⟩ := dcd_spec hd
  subst hs
  rcases st with _ | ⟨⟨w, t1⟩, r9⟩
  · exact h.elim
  cases w <;> first | exact h.elim | skip
  rename_i x
  have h7 : (bif Nat.ble (catS r9) 8 then PW G D p l e s m args below meth c mx d mc ms Q (pc + 3) ls ((.int (if 0 ≤ x then x else 0 - x), 0) :: r9) rc rs n I L A else False) := h
  cases hb : Nat.ble (catS r9) 8 with
  | false => rw [hb] at h7; exact h7.elim
  | true =>
    rw [hb] at h7
    have hb8 := Nat.le_of_ble_eq_true hb
    intro H locs arr cells slots S
    have hcc := S.2.2.2.2.2.2.1
    have hss := S.2.2.2.2.2.2.2
    have k := h7 _ _ _ _ _ (S.to (wfl_cons (v := (.int (if 0 ≤ x then x else 0 - x), 0)) wfi (wfl_tl S.stk)))
    exact va_mabs C.1 C.2.1 (by rw [C.2.2.1]; exact S.hl.1.symm) C.own hk (C.hin _ (st_in 0 mtab rfl)) (C.hin _ (st_in 3 mtab rfl)) (C.hin _ (st_in 4 mtab rfl)) (show 1 ≤ d + 30 by omega) (show ((r9.map (cv G)).map fun v => v.category).sum + 13 ≤ 50 * d + 500 by rw [catS_sum]; omega) (show cells ≤ mc by omega) (show slots ≤ ms by omega) hdg k
theorem sn_mmax {i1 : Nat} (C : Cx G D X p l s m args meth c y b rt hh mx) (hd : dcd b pc (.invokestatic i1) 3 nx = true) (hs : sd = [904]) (hk : (Cond.methodLink y.cls i1 Lib.Math.max.name).before args s = true)
    (h : stp X G.2.2.2 CC Q (PW G D p l e s m args below meth c mx d mc ms Q) (.invokestatic i1) nx sd v ls st rc rs n I L A) : PW G D p l e s m args below meth c mx d mc ms Q pc ls st rc rs n I L A := by
  obtain ⟨hdg, rfl⟩ := dcd_spec hd
  subst hs
  rcases st with _ | ⟨⟨w, t1⟩, _ | ⟨⟨w2, t2⟩, r9⟩⟩
  · exact h.elim
  · cases w <;> exact h.elim
  cases w <;> first | exact h.elim | skip
  rename_i y1
  cases w2 <;> first | exact h.elim | skip
  rename_i x
  have h7 : (bif Nat.ble (catS r9) 8 then PW G D p l e s m args below meth c mx d mc ms Q (pc + 3) ls ((.int (if x < y1 then y1 else x), 0) :: r9) rc rs n I L A else False) := h
  cases hb : Nat.ble (catS r9) 8 with
  | false => rw [hb] at h7; exact h7.elim
  | true =>
    rw [hb] at h7
    have hb8 := Nat.le_of_ble_eq_true hb
    intro H locs arr cells slots S
    have hcc := S.2.2.2.2.2.2.1
    have hss := S.2.2.2.2.2.2.2
    have k := h7 _ _ _ _ _ (S.to (wfl_cons (v := (.int (if x < y1 then y1 else x), 0)) wfi (wfl_tl (wfl_tl S.stk))))
    exact va_mmax C.1 C.2.1 (by rw [C.2.2.1]; exact S.hl.1.symm) C.own hk (C.hin _ (st_in 1 mtab rfl)) (C.hin _ (st_in 3 mtab rfl)) (C.hin _ (st_in 5 mtab rfl)) (show 1 ≤ d + 30 by omega) (show ((r9.map (cv G)).map fun v => v.category).sum + 13 ≤ 50 * d + 500 by rw [catS_sum]; omega) (show cells ≤ mc by omega) (show slots ≤ ms by omega) hdg k
theorem sn_mmin {i1 : Nat} (C : Cx G D X p l s m args meth c y b rt hh mx) (hd : dcd b pc (.invokestatic i1) 3 nx = true) (hs : sd = [905]) (hk : (Cond.methodLink y.cls i1 Lib.Math.min.name).before args s = true)
    (h : stp X G.2.2.2 CC Q (PW G D p l e s m args below meth c mx d mc ms Q) (.invokestatic i1) nx sd v ls st rc rs n I L A) : PW G D p l e s m args below meth c mx d mc ms Q pc ls st rc rs n I L A := by
  obtain ⟨hdg, rfl⟩ := dcd_spec hd
  subst hs
  rcases st with _ | ⟨⟨w, t1⟩, _ | ⟨⟨w2, t2⟩, r9⟩⟩
  · exact h.elim
  · cases w <;> exact h.elim
  cases w <;> first | exact h.elim | skip
  rename_i y1
  cases w2 <;> first | exact h.elim | skip
  rename_i x
  have h7 : (bif Nat.ble (catS r9) 8 then PW G D p l e s m args below meth c mx d mc ms Q (pc + 3) ls ((.int (if y1 < x then y1 else x), 0) :: r9) rc rs n I L A else False) := h
  cases hb : Nat.ble (catS r9) 8 with
  | false => rw [hb] at h7; exact h7.elim
  | true =>
    rw [hb] at h7
    have hb8 := Nat.le_of_ble_eq_true hb
    intro H locs arr cells slots S
    have hcc := S.2.2.2.2.2.2.1
    have hss := S.2.2.2.2.2.2.2
    have k := h7 _ _ _ _ _ (S.to (wfl_cons (v := (.int (if y1 < x then y1 else x), 0)) wfi (wfl_tl (wfl_tl S.stk))))
    exact va_mmin C.1 C.2.1 (by rw [C.2.2.1]; exact S.hl.1.symm) C.own hk (C.hin _ (st_in 2 mtab rfl)) (C.hin _ (st_in 3 mtab rfl)) (C.hin _ (st_in 6 mtab rfl)) (show 1 ≤ d + 30 by omega) (show ((r9.map (cv G)).map fun v => v.category).sum + 13 ≤ 50 * d + 500 by rw [catS_sum]; omega) (show cells ≤ mc by omega) (show slots ≤ ms by omega) hdg k
end
