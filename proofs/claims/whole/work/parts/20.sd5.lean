/-! SOUNDNESS, 5: the claim of a point of a method, and the instructions that leave the heap alone -/
def Rep (G : GE) (D : va_G) (n : Nat) (I : HI) (L : HL) (A : HA) (H : Heap) : Prop := H.size = G.1 + n ∧ va_P D amCl (wsl G I L A n) H ∧ wfA G n A
def sQ (G : GE) (D : va_G) (Q : AQ) : Array Value → State → Outcome → State → Prop := fun _ st o t => ∃ (v : Option AV) (n' : Nat) (I' : HI) (L' : HL) (A' : HA), Q (.inl v) n' I' L' A' ∧ o = .returned (v.map (cv G)) ∧ (∀ w, v = some w → isJ w.1 = false ∧ wfv G n' w) ∧ Rep G D n' I' L' A' t.heap ∧ va_F (Af G) st t
def sX (G : GE) (D : va_G) (Q : AQ) : String → State → State → Prop := fun E st t => ∃ (i n' : Nat) (I' : HI) (L' : HL) (A' : HA), Q (.inr (i + 1)) n' I' L' A' ∧ i < 4 ∧ exN (i + 1) = E ∧ Rep G D n' I' L' A' t.heap ∧ va_F (Af G) st t
def rmD (d mc ms : Nat) : Room := { frames := d + 30, cells := mc, slots := ms, locals := 50 * d + 500 }
def Cx (G : GE) (D : va_G) (X : Ext) (p : Program) (l : Launch) (s : State) (m : MethodId) (args : Array Value) (meth : Method) (c : Code) (y : MethodName) (b : ByteArray) (rt : Option FieldType) (hh : List (Nat × Nat × Nat × Nat)) (mx : Nat) : Prop :=
  p.tables.exec = Jvm.exec ∧ c.code = b ∧ c.maxLocals = mx ∧ meth.sig.returnType = rt ∧ meth.locks = false ∧ meth.name = y.name ∧ s.vm.findClass y.cls = some m.cls ∧ (∀ w ∈ tg, w.before args s = true) ∧ c.exceptionTable.toList = tableOf hh ∧ Wd G D X s ∧ Gd G X ∧ l.stackTraces = false
def SI (G : GE) (D : va_G) (s : State) (mx mc ms n : Nat) (I : HI) (L : HL) (A : HA) (ls st : List AV) (rc rs : Nat) (H : Heap) (locs : List Loc) (arr : Array Slot) (cells slots : Nat) : Prop :=
  Rep G D n I L A H ∧ va_S (Af G) s.heap H locs ∧ lv_has arr mx (lcs G 0 ls) ∧ ls.length = mx ∧ wfl G n ls ∧ wfl G n st ∧ cells + rc = mc ∧ slots + rs = ms
def PW (G : GE) (D : va_G) (p : Program) (l : Launch) (e : Env) (s : State) (m : MethodId) (args : Array Value) (below : List Frame) (meth : Method) (c : Code) (mx d mc ms : Nat) (Q : AQ) : PT := fun pc ls st rc rs n I L A =>
  ∀ (H : Heap) (locs : List Loc) (arr : Array Slot) (cells slots : Nat), SI G D s mx mc ms n I L A ls st rc rs H locs arr cells slots → W p l e (rmD d mc ms) s m args below meth c H locs cells slots (vx_MQ below (sQ G D Q) (sX G D Q) args s mc ms (Af G)) (F0 m pc arr (st.map (cv G)))
theorem dcd_spec {cc : ByteArray} {pc len nx : Nat} {ins : Instr} (h : dcd cc pc ins len nx = true) : decode cc pc = .ok (ins, len) ∧ nx = pc + len := by
  unfold dcd at h
  simp only [Bool.and_eq_true, decide_eq_true_eq] at h
  exact ⟨h.1, Nat.eq_of_beq_eq_true h.2⟩
theorem tgt_spec {pc t : Nat} {off : Int} (h : tgt1 pc off t = true) : (pc : Int) + off = (t : Int) := of_decide_eq_true h
theorem okL1_spec {i : Nat} {sd : List Nat} (h : okL1 i sd = true) : sd = [i] := by
  unfold okL1 at h
  split at h
  · rw [Nat.eq_of_beq_eq_true h]
  · cases h
theorem lcmp_eq (x y : Int64) : lg_cmp x y = (if x < y then -1 else if x = y then 0 else 1) := by
  unfold lg_cmp
  by_cases h1 : x < y
  · have h2 : ¬ x > y := fun h => by have := Int64.lt_iff_toInt_lt.mp h1; have := Int64.lt_iff_toInt_lt.mp h; omega
    have h3 : ¬ x = y := fun h => by subst h; have := Int64.lt_iff_toInt_lt.mp h1; omega
    rw [if_neg h2, if_neg h3, if_pos h1]
  · rw [if_neg h1]
    by_cases h3 : x = y
    · subst h3
      rw [if_neg h1, if_pos rfl, if_pos rfl]
    · have h2 : x > y := by
        have h4 : ¬ x.toInt = y.toInt := fun h => h3 (Int64.toInt.inj h)
        have h5 : ¬ x.toInt < y.toInt := fun h => h1 (Int64.lt_iff_toInt_lt.mpr h)
        exact Int64.lt_iff_toInt_lt.mpr (by omega)
      rw [if_pos h2, if_neg h3]
theorem irem_eq (x y : Int32) : x - x / y * y = x % y := by
  apply Int32.toInt.inj
  rw [Int32.toInt_sub, Int32.toInt_mul, Int32.toInt_div, Int32.toInt_mod]
  have h1 : (((x.toInt.tdiv y.toInt).bmod (2 ^ 32) * y.toInt).bmod (2 ^ 32)) = (x.toInt.tdiv y.toInt * y.toInt).bmod (2 ^ 32) := Int.bmod_mul_bmod
  rw [h1, Int.sub_bmod_bmod]
  have h2 : x.toInt - x.toInt.tdiv y.toInt * y.toInt = x.toInt.tmod y.toInt := by
    rw [Int.tmod_def, Int.mul_comm]
  rw [h2, ← Int32.toInt_mod]
  exact Int.bmod_eq_of_le (by have := Int32.le_toInt (x % y); omega) (by have := Int32.toInt_lt (x % y); omega)
section
variable {G : GE} {D : va_G} {X : Ext} {p : Program} {l : Launch} {e : Env} {s : State} {m : MethodId} {args : Array Value} {below : List Frame} {meth : Method} {c : Code} {y : MethodName} {b : ByteArray} {rt : Option FieldType} {hh : List (Nat × Nat × Nat × Nat)} {mx d mc ms n : Nat} {Q : AQ} {CC : CT} {I : HI} {L : HL} {A : HA} {ls st : List AV} {rc rs : Nat} {pc nx : Nat} {sd : List Nat} {v : Value} {H : Heap} {locs : List Loc} {arr : Array Slot} {cells slots : Nat}
theorem SI.to (S : SI G D s mx mc ms n I L A ls st rc rs H locs arr cells slots) {st' : List AV} (h : wfl G n st') : SI G D s mx mc ms n I L A ls st' rc rs H locs arr cells slots := ⟨S.1, S.2.1, S.2.2.1, S.2.2.2.1, S.2.2.2.2.1, h, S.2.2.2.2.2.2⟩
theorem SI.stk (S : SI G D s mx mc ms n I L A ls st rc rs H locs arr cells slots) : wfl G n st := S.2.2.2.2.2.1
theorem SI.lcl (S : SI G D s mx mc ms n I L A ls st rc rs H locs arr cells slots) : wfl G n ls := S.2.2.2.2.1
theorem SI.hl (S : SI G D s mx mc ms n I L A ls st rc rs H locs arr cells slots) : lv_has arr mx (lcs G 0 ls) := S.2.2.1
theorem SI.ln (S : SI G D s mx mc ms n I L A ls st rc rs H locs arr cells slots) : ls.length = mx := S.2.2.2.1
theorem SI.lset1 (S : SI G D s mx mc ms n I L A ls st rc rs H locs arr cells slots) {i : Nat} {w : AV} {arr' : Array Slot} {st' : List AV} (hi : i < mx) (hw : isW w.1 = false) (hv : isJ w.1 = false → wfv G n w) (hs : wfl G n st') (h : lv_has arr' mx ((i, cv G w) :: (lcs G 0 ls).filter (fun q => !(q.1 == i) && !(q.1 + 1 == i && q.2.category == 2)))) : SI G D s mx mc ms n I L A (lset ls i w) st' rc rs H locs arr' cells slots :=
  ⟨S.1, S.2.1, lcs_st1 (by rw [S.ln]; exact hi) hw h, by rw [lset_len]; exact S.ln, wfl_set (by rw [S.ln]; exact hi) hv S.lcl, hs, S.2.2.2.2.2.2⟩
theorem SI.lset2 (S : SI G D s mx mc ms n I L A ls st rc rs H locs arr cells slots) {i : Nat} {w : AV} {arr' : Array Slot} {st' : List AV} (hi : i + 1 < mx) (hw : isW w.1 = true) (hv : isJ w.1 = false → wfv G n w) (hs : wfl G n st') (h : lv_has arr' mx ((i, cv G w) :: (lcs G 0 ls).filter (fun q => !(q.1 == i) && (!(q.1 == i + 1) && !(q.1 + 1 == i && q.2.category == 2))))) : SI G D s mx mc ms n I L A (lset ls i w) st' rc rs H locs arr' cells slots :=
  ⟨S.1, S.2.1, lcs_st2 (by rw [S.ln]; omega) hw h, by rw [lset_len]; exact S.ln, wfl_set (by rw [S.ln]; omega) hv S.lcl, hs, S.2.2.2.2.2.2⟩
theorem wfi {n : Nat} {x : Int32} {t : Nat} : wfv G n (.int x, t) := trivial
theorem wfj {n : Nat} {x : Int64} {t : Nat} : wfv G n (.long x, t) := trivial
theorem wff {n : Nat} {x : UInt32} {t : Nat} : wfv G n (.float x, t) := trivial
theorem wfd {n : Nat} {x : UInt64} {t : Nat} : wfv G n (.double x, t) := trivial
theorem sn_iadd (C : Cx G D X p l s m args meth c y b rt hh mx) (hd : dcd b pc (.iadd) 1 nx = true) (h : stp X G.2.2.2 CC Q (PW G D p l e s m args below meth c mx d mc ms Q) (.iadd) nx sd v ls st rc rs n I L A) : PW G D p l e s m args below meth c mx d mc ms Q pc ls st rc rs n I L A := by
  obtain ⟨hdg, rfl⟩ := dcd_spec hd
  dsimp only [stp] at h
  split at h
  · rename_i y1 t1 x1 t2 r1
    intro H locs arr cells slots S
    exact lv_iadd C.1 C.2.1 hdg (h _ _ _ _ _ (S.to (wfl_cons wfi (wfl_tl (wfl_tl S.stk)))))
  · exact h.elim
theorem sn_isub (C : Cx G D X p l s m args meth c y b rt hh mx) (hd : dcd b pc (.isub) 1 nx = true) (h : stp X G.2.2.2 CC Q (PW G D p l e s m args below meth c mx d mc ms Q) (.isub) nx sd v ls st rc rs n I L A) : PW G D p l e s m args below meth c mx d mc ms Q pc ls st rc rs n I L A := by
  obtain ⟨hdg, rfl⟩ := dcd_spec hd
  dsimp only [stp] at h
  split at h
  · rename_i y1 t1 x1 t2 r1
    intro H locs arr cells slots S
    exact lv_isub C.1 C.2.1 hdg (h _ _ _ _ _ (S.to (wfl_cons wfi (wfl_tl (wfl_tl S.stk)))))
  · exact h.elim
theorem sn_imul (C : Cx G D X p l s m args meth c y b rt hh mx) (hd : dcd b pc (.imul) 1 nx = true) (h : stp X G.2.2.2 CC Q (PW G D p l e s m args below meth c mx d mc ms Q) (.imul) nx sd v ls st rc rs n I L A) : PW G D p l e s m args below meth c mx d mc ms Q pc ls st rc rs n I L A := by
  obtain ⟨hdg, rfl⟩ := dcd_spec hd
  dsimp only [stp] at h
  split at h
  · rename_i y1 t1 x1 t2 r1
    intro H locs arr cells slots S
    exact lv_imul C.1 C.2.1 hdg (h _ _ _ _ _ (S.to (wfl_cons wfi (wfl_tl (wfl_tl S.stk)))))
  · exact h.elim
theorem sn_iand (C : Cx G D X p l s m args meth c y b rt hh mx) (hd : dcd b pc (.iand) 1 nx = true) (h : stp X G.2.2.2 CC Q (PW G D p l e s m args below meth c mx d mc ms Q) (.iand) nx sd v ls st rc rs n I L A) : PW G D p l e s m args below meth c mx d mc ms Q pc ls st rc rs n I L A := by
  obtain ⟨hdg, rfl⟩ := dcd_spec hd
  dsimp only [stp] at h
  split at h
  · rename_i y1 t1 x1 t2 r1
    intro H locs arr cells slots S
    exact lv_iand C.1 C.2.1 hdg (h _ _ _ _ _ (S.to (wfl_cons wfi (wfl_tl (wfl_tl S.stk)))))
  · exact h.elim
theorem sn_ior (C : Cx G D X p l s m args meth c y b rt hh mx) (hd : dcd b pc (.ior) 1 nx = true) (h : stp X G.2.2.2 CC Q (PW G D p l e s m args below meth c mx d mc ms Q) (.ior) nx sd v ls st rc rs n I L A) : PW G D p l e s m args below meth c mx d mc ms Q pc ls st rc rs n I L A := by
  obtain ⟨hdg, rfl⟩ := dcd_spec hd
  dsimp only [stp] at h
  split at h
  · rename_i y1 t1 x1 t2 r1
    intro H locs arr cells slots S
    exact lv_ior C.1 C.2.1 hdg (h _ _ _ _ _ (S.to (wfl_cons wfi (wfl_tl (wfl_tl S.stk)))))
  · exact h.elim
theorem sn_ixor (C : Cx G D X p l s m args meth c y b rt hh mx) (hd : dcd b pc (.ixor) 1 nx = true) (h : stp X G.2.2.2 CC Q (PW G D p l e s m args below meth c mx d mc ms Q) (.ixor) nx sd v ls st rc rs n I L A) : PW G D p l e s m args below meth c mx d mc ms Q pc ls st rc rs n I L A := by
  obtain ⟨hdg, rfl⟩ := dcd_spec hd
  dsimp only [stp] at h
  split at h
  · rename_i y1 t1 x1 t2 r1
    intro H locs arr cells slots S
    exact lv_ixor C.1 C.2.1 hdg (h _ _ _ _ _ (S.to (wfl_cons wfi (wfl_tl (wfl_tl S.stk)))))
  · exact h.elim
theorem sn_ishl (C : Cx G D X p l s m args meth c y b rt hh mx) (hd : dcd b pc (.ishl) 1 nx = true) (h : stp X G.2.2.2 CC Q (PW G D p l e s m args below meth c mx d mc ms Q) (.ishl) nx sd v ls st rc rs n I L A) : PW G D p l e s m args below meth c mx d mc ms Q pc ls st rc rs n I L A := by
  obtain ⟨hdg, rfl⟩ := dcd_spec hd
  dsimp only [stp] at h
  split at h
  · rename_i y1 t1 x1 t2 r1
    intro H locs arr cells slots S
    exact lv_ishl C.1 C.2.1 hdg (h _ _ _ _ _ (S.to (wfl_cons wfi (wfl_tl (wfl_tl S.stk)))))
  · exact h.elim
theorem sn_ishr (C : Cx G D X p l s m args meth c y b rt hh mx) (hd : dcd b pc (.ishr) 1 nx = true) (h : stp X G.2.2.2 CC Q (PW G D p l e s m args below meth c mx d mc ms Q) (.ishr) nx sd v ls st rc rs n I L A) : PW G D p l e s m args below meth c mx d mc ms Q pc ls st rc rs n I L A := by
  obtain ⟨hdg, rfl⟩ := dcd_spec hd
  dsimp only [stp] at h
  split at h
  · rename_i y1 t1 x1 t2 r1
    intro H locs arr cells slots S
    exact lv_ishr C.1 C.2.1 hdg (h _ _ _ _ _ (S.to (wfl_cons wfi (wfl_tl (wfl_tl S.stk)))))
  · exact h.elim
theorem sn_iushr (C : Cx G D X p l s m args meth c y b rt hh mx) (hd : dcd b pc (.iushr) 1 nx = true) (h : stp X G.2.2.2 CC Q (PW G D p l e s m args below meth c mx d mc ms Q) (.iushr) nx sd v ls st rc rs n I L A) : PW G D p l e s m args below meth c mx d mc ms Q pc ls st rc rs n I L A := by
  obtain ⟨hdg, rfl⟩ := dcd_spec hd
  dsimp only [stp] at h
  split at h
  · rename_i y1 t1 x1 t2 r1
    intro H locs arr cells slots S
    exact lv_iushr C.1 C.2.1 hdg rfl (h _ _ _ _ _ (S.to (wfl_cons wfi (wfl_tl (wfl_tl S.stk)))))
  · exact h.elim
theorem sn_idiv (C : Cx G D X p l s m args meth c y b rt hh mx) (hd : dcd b pc (.idiv) 1 nx = true) (h : stp X G.2.2.2 CC Q (PW G D p l e s m args below meth c mx d mc ms Q) (.idiv) nx sd v ls st rc rs n I L A) : PW G D p l e s m args below meth c mx d mc ms Q pc ls st rc rs n I L A := by
  obtain ⟨hdg, rfl⟩ := dcd_spec hd
  dsimp only [stp] at h
  split at h
  · rename_i y1 t1 x1 t2 r1
    intro H locs arr cells slots S
    exact lv_idiv C.1 C.2.1 hdg h.1 (h.2 _ _ _ _ _ (S.to (wfl_cons wfi (wfl_tl (wfl_tl S.stk)))))
  · exact h.elim
theorem sn_irem (C : Cx G D X p l s m args meth c y b rt hh mx) (hd : dcd b pc (.irem) 1 nx = true) (h : stp X G.2.2.2 CC Q (PW G D p l e s m args below meth c mx d mc ms Q) (.irem) nx sd v ls st rc rs n I L A) : PW G D p l e s m args below meth c mx d mc ms Q pc ls st rc rs n I L A := by
  obtain ⟨hdg, rfl⟩ := dcd_spec hd
  dsimp only [stp] at h
  split at h
  · rename_i y1 t1 x1 t2 r1
    intro H locs arr cells slots S
    refine lv_irem C.1 C.2.1 hdg h.1 ?_
    rw [irem_eq]
    exact (h.2 _ _ _ _ _ (S.to (wfl_cons wfi (wfl_tl (wfl_tl S.stk)))))
  · exact h.elim
theorem sn_ladd (C : Cx G D X p l s m args meth c y b rt hh mx) (hd : dcd b pc (.ladd) 1 nx = true) (h : stp X G.2.2.2 CC Q (PW G D p l e s m args below meth c mx d mc ms Q) (.ladd) nx sd v ls st rc rs n I L A) : PW G D p l e s m args below meth c mx d mc ms Q pc ls st rc rs n I L A := by
  obtain ⟨hdg, rfl⟩ := dcd_spec hd
  dsimp only [stp] at h
  split at h
  · rename_i y1 t1 x1 t2 r1
    intro H locs arr cells slots S
    exact lv_ladd C.1 C.2.1 hdg (h _ _ _ _ _ (S.to (wfl_cons wfj (wfl_tl (wfl_tl S.stk)))))
  · exact h.elim
theorem sn_lsub (C : Cx G D X p l s m args meth c y b rt hh mx) (hd : dcd b pc (.lsub) 1 nx = true) (h : stp X G.2.2.2 CC Q (PW G D p l e s m args below meth c mx d mc ms Q) (.lsub) nx sd v ls st rc rs n I L A) : PW G D p l e s m args below meth c mx d mc ms Q pc ls st rc rs n I L A := by
  obtain ⟨hdg, rfl⟩ := dcd_spec hd
  dsimp only [stp] at h
  split at h
  · rename_i y1 t1 x1 t2 r1
    intro H locs arr cells slots S
    exact lv_lsub C.1 C.2.1 hdg (h _ _ _ _ _ (S.to (wfl_cons wfj (wfl_tl (wfl_tl S.stk)))))
  · exact h.elim
theorem sn_lmul (C : Cx G D X p l s m args meth c y b rt hh mx) (hd : dcd b pc (.lmul) 1 nx = true) (h : stp X G.2.2.2 CC Q (PW G D p l e s m args below meth c mx d mc ms Q) (.lmul) nx sd v ls st rc rs n I L A) : PW G D p l e s m args below meth c mx d mc ms Q pc ls st rc rs n I L A := by
  obtain ⟨hdg, rfl⟩ := dcd_spec hd
  dsimp only [stp] at h
  split at h
  · rename_i y1 t1 x1 t2 r1
    intro H locs arr cells slots S
    exact lv_lmul C.1 C.2.1 hdg (h _ _ _ _ _ (S.to (wfl_cons wfj (wfl_tl (wfl_tl S.stk)))))
  · exact h.elim
theorem sn_land (C : Cx G D X p l s m args meth c y b rt hh mx) (hd : dcd b pc (.land) 1 nx = true) (h : stp X G.2.2.2 CC Q (PW G D p l e s m args below meth c mx d mc ms Q) (.land) nx sd v ls st rc rs n I L A) : PW G D p l e s m args below meth c mx d mc ms Q pc ls st rc rs n I L A := by
  obtain ⟨hdg, rfl⟩ := dcd_spec hd
  dsimp only [stp] at h
  split at h
  · rename_i y1 t1 x1 t2 r1
    intro H locs arr cells slots S
    exact lv_land C.1 C.2.1 hdg (h _ _ _ _ _ (S.to (wfl_cons wfj (wfl_tl (wfl_tl S.stk)))))
  · exact h.elim
theorem sn_lor (C : Cx G D X p l s m args meth c y b rt hh mx) (hd : dcd b pc (.lor) 1 nx = true) (h : stp X G.2.2.2 CC Q (PW G D p l e s m args below meth c mx d mc ms Q) (.lor) nx sd v ls st rc rs n I L A) : PW G D p l e s m args below meth c mx d mc ms Q pc ls st rc rs n I L A := by
  obtain ⟨hdg, rfl⟩ := dcd_spec hd
  dsimp only [stp] at h
  split at h
  · rename_i y1 t1 x1 t2 r1
    intro H locs arr cells slots S
    exact lv_lor C.1 C.2.1 hdg (h _ _ _ _ _ (S.to (wfl_cons wfj (wfl_tl (wfl_tl S.stk)))))
  · exact h.elim
theorem sn_lxor (C : Cx G D X p l s m args meth c y b rt hh mx) (hd : dcd b pc (.lxor) 1 nx = true) (h : stp X G.2.2.2 CC Q (PW G D p l e s m args below meth c mx d mc ms Q) (.lxor) nx sd v ls st rc rs n I L A) : PW G D p l e s m args below meth c mx d mc ms Q pc ls st rc rs n I L A := by
  obtain ⟨hdg, rfl⟩ := dcd_spec hd
  dsimp only [stp] at h
  split at h
  · rename_i y1 t1 x1 t2 r1
    intro H locs arr cells slots S
    exact lv_lxor C.1 C.2.1 hdg (h _ _ _ _ _ (S.to (wfl_cons wfj (wfl_tl (wfl_tl S.stk)))))
  · exact h.elim
theorem sn_lshl (C : Cx G D X p l s m args meth c y b rt hh mx) (hd : dcd b pc (.lshl) 1 nx = true) (h : stp X G.2.2.2 CC Q (PW G D p l e s m args below meth c mx d mc ms Q) (.lshl) nx sd v ls st rc rs n I L A) : PW G D p l e s m args below meth c mx d mc ms Q pc ls st rc rs n I L A := by
  obtain ⟨hdg, rfl⟩ := dcd_spec hd
  dsimp only [stp] at h
  split at h
  · rename_i y1 t1 x1 t2 r1
    intro H locs arr cells slots S
    exact lv_lshl C.1 C.2.1 hdg rfl (h _ _ _ _ _ (S.to (wfl_cons wfj (wfl_tl (wfl_tl S.stk)))))
  · exact h.elim
theorem sn_lushr (C : Cx G D X p l s m args meth c y b rt hh mx) (hd : dcd b pc (.lushr) 1 nx = true) (h : stp X G.2.2.2 CC Q (PW G D p l e s m args below meth c mx d mc ms Q) (.lushr) nx sd v ls st rc rs n I L A) : PW G D p l e s m args below meth c mx d mc ms Q pc ls st rc rs n I L A := by
  obtain ⟨hdg, rfl⟩ := dcd_spec hd
  dsimp only [stp] at h
  split at h
  · rename_i y1 t1 x1 t2 r1
    intro H locs arr cells slots S
    exact lv_lushr C.1 C.2.1 hdg rfl (h _ _ _ _ _ (S.to (wfl_cons wfj (wfl_tl (wfl_tl S.stk)))))
  · exact h.elim
theorem sn_ineg (C : Cx G D X p l s m args meth c y b rt hh mx) (hd : dcd b pc (.ineg) 1 nx = true) (h : stp X G.2.2.2 CC Q (PW G D p l e s m args below meth c mx d mc ms Q) (.ineg) nx sd v ls st rc rs n I L A) : PW G D p l e s m args below meth c mx d mc ms Q pc ls st rc rs n I L A := by
  obtain ⟨hdg, rfl⟩ := dcd_spec hd
  dsimp only [stp] at h
  split at h
  · rename_i x1 t1 r1
    intro H locs arr cells slots S
    exact lv_ineg C.1 C.2.1 hdg (h _ _ _ _ _ (S.to (wfl_cons wfi (wfl_tl S.stk))))
  · exact h.elim
theorem sn_lneg (C : Cx G D X p l s m args meth c y b rt hh mx) (hd : dcd b pc (.lneg) 1 nx = true) (h : stp X G.2.2.2 CC Q (PW G D p l e s m args below meth c mx d mc ms Q) (.lneg) nx sd v ls st rc rs n I L A) : PW G D p l e s m args below meth c mx d mc ms Q pc ls st rc rs n I L A := by
  obtain ⟨hdg, rfl⟩ := dcd_spec hd
  dsimp only [stp] at h
  split at h
  · rename_i x1 t1 r1
    intro H locs arr cells slots S
    exact lv_lneg C.1 C.2.1 hdg (h _ _ _ _ _ (S.to (wfl_cons wfj (wfl_tl S.stk))))
  · exact h.elim
theorem sn_i2l (C : Cx G D X p l s m args meth c y b rt hh mx) (hd : dcd b pc (.i2l) 1 nx = true) (h : stp X G.2.2.2 CC Q (PW G D p l e s m args below meth c mx d mc ms Q) (.i2l) nx sd v ls st rc rs n I L A) : PW G D p l e s m args below meth c mx d mc ms Q pc ls st rc rs n I L A := by
  obtain ⟨hdg, rfl⟩ := dcd_spec hd
  dsimp only [stp] at h
  split at h
  · rename_i x1 t1 r1
    intro H locs arr cells slots S
    exact lv_i2l C.1 C.2.1 hdg rfl (h _ _ _ _ _ (S.to (wfl_cons wfj (wfl_tl S.stk))))
  · exact h.elim
theorem sn_l2i (C : Cx G D X p l s m args meth c y b rt hh mx) (hd : dcd b pc (.l2i) 1 nx = true) (h : stp X G.2.2.2 CC Q (PW G D p l e s m args below meth c mx d mc ms Q) (.l2i) nx sd v ls st rc rs n I L A) : PW G D p l e s m args below meth c mx d mc ms Q pc ls st rc rs n I L A := by
  obtain ⟨hdg, rfl⟩ := dcd_spec hd
  dsimp only [stp] at h
  split at h
  · rename_i x1 t1 r1
    intro H locs arr cells slots S
    exact lv_l2i C.1 C.2.1 hdg rfl (h _ _ _ _ _ (S.to (wfl_cons wfi (wfl_tl S.stk))))
  · exact h.elim
theorem sn_i2b (C : Cx G D X p l s m args meth c y b rt hh mx) (hd : dcd b pc (.i2b) 1 nx = true) (h : stp X G.2.2.2 CC Q (PW G D p l e s m args below meth c mx d mc ms Q) (.i2b) nx sd v ls st rc rs n I L A) : PW G D p l e s m args below meth c mx d mc ms Q pc ls st rc rs n I L A := by
  obtain ⟨hdg, rfl⟩ := dcd_spec hd
  dsimp only [stp] at h
  split at h
  · rename_i x1 t1 r1
    intro H locs arr cells slots S
    exact lv_i2b C.1 C.2.1 hdg rfl (h _ _ _ _ _ (S.to (wfl_cons wfi (wfl_tl S.stk))))
  · exact h.elim
theorem sn_i2d (C : Cx G D X p l s m args meth c y b rt hh mx) (hd : dcd b pc (.i2d) 1 nx = true) (h : stp X G.2.2.2 CC Q (PW G D p l e s m args below meth c mx d mc ms Q) (.i2d) nx sd v ls st rc rs n I L A) : PW G D p l e s m args below meth c mx d mc ms Q pc ls st rc rs n I L A := by
  obtain ⟨hdg, rfl⟩ := dcd_spec hd
  dsimp only [stp] at h
  split at h
  · rename_i x1 t1 r1
    intro H locs arr cells slots S
    exact lv_i2d C.1 C.2.1 hdg (h _ _ _ _ _ (S.to (wfl_cons wfd (wfl_tl S.stk))))
  · exact h.elim
theorem sn_i2f (C : Cx G D X p l s m args meth c y b rt hh mx) (hd : dcd b pc (.i2f) 1 nx = true) (h : stp X G.2.2.2 CC Q (PW G D p l e s m args below meth c mx d mc ms Q) (.i2f) nx sd v ls st rc rs n I L A) : PW G D p l e s m args below meth c mx d mc ms Q pc ls st rc rs n I L A := by
  obtain ⟨hdg, rfl⟩ := dcd_spec hd
  dsimp only [stp] at h
  split at h
  · rename_i x1 t1 r1
    intro H locs arr cells slots S
    exact lv_i2f C.1 C.2.1 hdg (h _ _ _ _ _ (S.to (wfl_cons wff (wfl_tl S.stk))))
  · exact h.elim
theorem sn_f2d (C : Cx G D X p l s m args meth c y b rt hh mx) (hd : dcd b pc (.f2d) 1 nx = true) (h : stp X G.2.2.2 CC Q (PW G D p l e s m args below meth c mx d mc ms Q) (.f2d) nx sd v ls st rc rs n I L A) : PW G D p l e s m args below meth c mx d mc ms Q pc ls st rc rs n I L A := by
  obtain ⟨hdg, rfl⟩ := dcd_spec hd
  dsimp only [stp] at h
  split at h
  · rename_i x1 t1 r1
    intro H locs arr cells slots S
    exact lv_f2d C.1 C.2.1 hdg h.1 (h.2 _ _ _ _ _ (S.to (wfl_cons wfd (wfl_tl S.stk))))
  · exact h.elim
theorem sn_fdiv (C : Cx G D X p l s m args meth c y b rt hh mx) (hd : dcd b pc (.fdiv) 1 nx = true) (h : stp X G.2.2.2 CC Q (PW G D p l e s m args below meth c mx d mc ms Q) (.fdiv) nx sd v ls st rc rs n I L A) : PW G D p l e s m args below meth c mx d mc ms Q pc ls st rc rs n I L A := by
  obtain ⟨hdg, rfl⟩ := dcd_spec hd
  dsimp only [stp] at h
  split at h
  · rename_i y1 t1 x1 t2 r1
    intro H locs arr cells slots S
    exact lv_fdiv C.1 C.2.1 hdg h.1 (h.2 _ _ _ _ _ (S.to (wfl_cons wff (wfl_tl (wfl_tl S.stk)))))
  · exact h.elim
theorem sn_dmul (C : Cx G D X p l s m args meth c y b rt hh mx) (hd : dcd b pc (.dmul) 1 nx = true) (h : stp X G.2.2.2 CC Q (PW G D p l e s m args below meth c mx d mc ms Q) (.dmul) nx sd v ls st rc rs n I L A) : PW G D p l e s m args below meth c mx d mc ms Q pc ls st rc rs n I L A := by
  obtain ⟨hdg, rfl⟩ := dcd_spec hd
  dsimp only [stp] at h
  split at h
  · rename_i y1 t1 x1 t2 r1
    intro H locs arr cells slots S
    exact lv_dmul C.1 C.2.1 hdg h.1 (h.2 _ _ _ _ _ (S.to (wfl_cons wfd (wfl_tl (wfl_tl S.stk)))))
  · exact h.elim
theorem sn_dadd (C : Cx G D X p l s m args meth c y b rt hh mx) (hd : dcd b pc (.dadd) 1 nx = true) (h : stp X G.2.2.2 CC Q (PW G D p l e s m args below meth c mx d mc ms Q) (.dadd) nx sd v ls st rc rs n I L A) : PW G D p l e s m args below meth c mx d mc ms Q pc ls st rc rs n I L A := by
  obtain ⟨hdg, rfl⟩ := dcd_spec hd
  dsimp only [stp] at h
  split at h
  · rename_i y1 t1 x1 t2 r1
    intro H locs arr cells slots S
    exact lv_dadd C.1 C.2.1 hdg h.1 (h.2 _ _ _ _ _ (S.to (wfl_cons wfd (wfl_tl (wfl_tl S.stk)))))
  · exact h.elim
theorem sn_dcmp {o1 : CmpOp} (C : Cx G D X p l s m args meth c y b rt hh mx) (hd : dcd b pc (.dcmp o1) 1 nx = true) (h : stp X G.2.2.2 CC Q (PW G D p l e s m args below meth c mx d mc ms Q) (.dcmp o1) nx sd v ls st rc rs n I L A) : PW G D p l e s m args below meth c mx d mc ms Q pc ls st rc rs n I L A := by
  obtain ⟨hdg, rfl⟩ := dcd_spec hd
  dsimp only [stp] at h
  split at h
  · rename_i y1 t1 x1 t2 r1
    intro H locs arr cells slots S
    exact lv_dcmp C.1 C.2.1 hdg (h _ _ _ _ _ (S.to (wfl_cons wfi (wfl_tl (wfl_tl S.stk)))))
  · exact h.elim
theorem sn_lcmp (C : Cx G D X p l s m args meth c y b rt hh mx) (hd : dcd b pc (.lcmp) 1 nx = true) (h : stp X G.2.2.2 CC Q (PW G D p l e s m args below meth c mx d mc ms Q) (.lcmp) nx sd v ls st rc rs n I L A) : PW G D p l e s m args below meth c mx d mc ms Q pc ls st rc rs n I L A := by
  obtain ⟨hdg, rfl⟩ := dcd_spec hd
  dsimp only [stp] at h
  split at h
  · rename_i y1 t1 x1 t2 r1
    intro H locs arr cells slots S
    refine W.lcmp C.1 C.2.1 hdg ?_
    rw [lcmp_eq]
    exact (h _ _ _ _ _ (S.to (wfl_cons wfi (wfl_tl (wfl_tl S.stk)))))
  · exact h.elim
theorem sn_iconst {i1 : Int} (C : Cx G D X p l s m args meth c y b rt hh mx) (hd : dcd b pc (.iconst i1) 1 nx = true) (hv : v = .int (Int32.ofInt i1)) (h : stp X G.2.2.2 CC Q (PW G D p l e s m args below meth c mx d mc ms Q) (.iconst i1) nx sd v ls st rc rs n I L A) : PW G D p l e s m args below meth c mx d mc ms Q pc ls st rc rs n I L A := by
  obtain ⟨hdg, rfl⟩ := dcd_spec hd
  dsimp only [stp] at h
  intro H locs arr cells slots S
  subst hv
  exact lv_iconst C.1 C.2.1 hdg rfl (h _ _ _ _ _ (S.to (wfl_cons wfi S.stk)))
theorem sn_bipush {i1 : Int} (C : Cx G D X p l s m args meth c y b rt hh mx) (hd : dcd b pc (.bipush i1) 2 nx = true) (hv : v = .int (Int8.ofInt i1).toInt32) (h : stp X G.2.2.2 CC Q (PW G D p l e s m args below meth c mx d mc ms Q) (.bipush i1) nx sd v ls st rc rs n I L A) : PW G D p l e s m args below meth c mx d mc ms Q pc ls st rc rs n I L A := by
  obtain ⟨hdg, rfl⟩ := dcd_spec hd
  dsimp only [stp] at h
  intro H locs arr cells slots S
  subst hv
  exact lv_bipush C.1 C.2.1 hdg rfl (h _ _ _ _ _ (S.to (wfl_cons wfi S.stk)))
theorem sn_sipush {i1 : Int} (C : Cx G D X p l s m args meth c y b rt hh mx) (hd : dcd b pc (.sipush i1) 3 nx = true) (hv : v = .int (Int16.ofInt i1).toInt32) (h : stp X G.2.2.2 CC Q (PW G D p l e s m args below meth c mx d mc ms Q) (.sipush i1) nx sd v ls st rc rs n I L A) : PW G D p l e s m args below meth c mx d mc ms Q pc ls st rc rs n I L A := by
  obtain ⟨hdg, rfl⟩ := dcd_spec hd
  dsimp only [stp] at h
  intro H locs arr cells slots S
  subst hv
  exact lv_sipush C.1 C.2.1 hdg rfl (h _ _ _ _ _ (S.to (wfl_cons wfi S.stk)))
theorem sn_lconst {i1 : Fin 2} (C : Cx G D X p l s m args meth c y b rt hh mx) (hd : dcd b pc (.lconst i1) 1 nx = true) (hv : v = .long (Int64.ofNat (i1 : Nat))) (h : stp X G.2.2.2 CC Q (PW G D p l e s m args below meth c mx d mc ms Q) (.lconst i1) nx sd v ls st rc rs n I L A) : PW G D p l e s m args below meth c mx d mc ms Q pc ls st rc rs n I L A := by
  obtain ⟨hdg, rfl⟩ := dcd_spec hd
  dsimp only [stp] at h
  intro H locs arr cells slots S
  subst hv
  exact lv_lconst C.1 C.2.1 hdg rfl (h _ _ _ _ _ (S.to (wfl_cons wfj S.stk)))
theorem sn_fconst (C : Cx G D X p l s m args meth c y b rt hh mx) (hd : dcd b pc (.fconst 0) 1 nx = true) (hv : v = .float 0) (h : stp X G.2.2.2 CC Q (PW G D p l e s m args below meth c mx d mc ms Q) (.fconst 0) nx sd v ls st rc rs n I L A) : PW G D p l e s m args below meth c mx d mc ms Q pc ls st rc rs n I L A := by
  obtain ⟨hdg, rfl⟩ := dcd_spec hd
  dsimp only [stp] at h
  intro H locs arr cells slots S
  subst hv
  exact lv_fconst0 C.1 C.2.1 hdg (h _ _ _ _ _ (S.to (wfl_cons wff S.stk)))
theorem sn_ldc2_wj {i1 q1 : Nat} {x1 : Int64} (C : Cx G D X p l s m args meth c y b rt hh mx) (hd : dcd b pc (.ldc2_w i1) 3 nx = true) (hv : v = .long x1) (hw : wOK q1 (.constantLong y.cls i1 x1) = true) (h : stp X G.2.2.2 CC Q (PW G D p l e s m args below meth c mx d mc ms Q) (.ldc2_w i1) nx sd v ls st rc rs n I L A) : PW G D p l e s m args below meth c mx d mc ms Q pc ls st rc rs n I L A := by
  obtain ⟨hdg, rfl⟩ := dcd_spec hd
  dsimp only [stp] at h
  intro H locs arr cells slots S
  subst hv
  exact lv_ldc2 C.1 C.2.1 C.2.2.2.2.2.2.1 (C.2.2.2.2.2.2.2.1 _ (wOK_tg hw)) hdg (h _ _ _ _ _ (S.to (wfl_cons wfj S.stk)))
theorem sn_ldc2_wd {i1 q1 : Nat} {x1 : UInt64} (C : Cx G D X p l s m args meth c y b rt hh mx) (hd : dcd b pc (.ldc2_w i1) 3 nx = true) (hv : v = .double x1) (hw : wOK q1 (.constantDouble y.cls i1 x1) = true) (h : stp X G.2.2.2 CC Q (PW G D p l e s m args below meth c mx d mc ms Q) (.ldc2_w i1) nx sd v ls st rc rs n I L A) : PW G D p l e s m args below meth c mx d mc ms Q pc ls st rc rs n I L A := by
  obtain ⟨hdg, rfl⟩ := dcd_spec hd
  dsimp only [stp] at h
  intro H locs arr cells slots S
  subst hv
  exact lv_ldc2d C.1 C.2.1 C.2.2.2.2.2.2.1 (C.2.2.2.2.2.2.2.1 _ (wOK_tg hw)) hdg (h _ _ _ _ _ (S.to (wfl_cons wfd S.stk)))
theorem sn_ldc {i1 q1 : Nat} {x1 : Int32} (C : Cx G D X p l s m args meth c y b rt hh mx) (hd : dcd b pc (.ldc i1) 2 nx = true) (hs : sd = []) (hv : v = .int x1) (hw : wOK q1 (.constant y.cls i1 x1) = true) (h : stp X G.2.2.2 CC Q (PW G D p l e s m args below meth c mx d mc ms Q) (.ldc i1) nx sd v ls st rc rs n I L A) : PW G D p l e s m args below meth c mx d mc ms Q pc ls st rc rs n I L A := by
  obtain ⟨hdg, rfl⟩ := dcd_spec hd
  dsimp only [stp] at h
  intro H locs arr cells slots S
  subst hv hs
  exact lv_ldc C.1 C.2.1 C.2.2.2.2.2.2.1 (C.2.2.2.2.2.2.2.1 _ (wOK_tg hw)) hdg (h _ _ _ _ _ (S.to (wfl_cons wfi S.stk)))
theorem sn_ldc_w {i1 q1 : Nat} {x1 : Int32} (C : Cx G D X p l s m args meth c y b rt hh mx) (hd : dcd b pc (.ldc_w i1) 3 nx = true) (hs : sd = []) (hv : v = .int x1) (hw : wOK q1 (.constant y.cls i1 x1) = true) (h : stp X G.2.2.2 CC Q (PW G D p l e s m args below meth c mx d mc ms Q) (.ldc_w i1) nx sd v ls st rc rs n I L A) : PW G D p l e s m args below meth c mx d mc ms Q pc ls st rc rs n I L A := by
  obtain ⟨hdg, rfl⟩ := dcd_spec hd
  dsimp only [stp] at h
  intro H locs arr cells slots S
  subst hv hs
  exact lv_ldcw C.1 C.2.1 C.2.2.2.2.2.2.1 (C.2.2.2.2.2.2.2.1 _ (wOK_tg hw)) hdg (h _ _ _ _ _ (S.to (wfl_cons wfi S.stk)))
theorem sn_ldcS {i1 r1 : Nat} {t1 : String} (C : Cx G D X p l s m args meth c y b rt hh mx) (hd : dcd b pc (.ldc i1) 2 nx = true) (hs : sd = [r1, 20]) (hm : (y.cls, i1, t1, r1) ∈ ldL) (hr : wX r1 20) (h : stp X G.2.2.2 CC Q (PW G D p l e s m args below meth c mx d mc ms Q) (.ldc i1) nx sd v ls st rc rs n I L A) : PW G D p l e s m args below meth c mx d mc ms Q pc ls st rc rs n I L A := by
  obtain ⟨hdg, rfl⟩ := dcd_spec hd
  dsimp only [stp] at h
  intro H locs arr cells slots S
  subst hs
  exact va_ldcS C.1 C.2.1 C.2.2.2.2.2.2.1 (C.2.2.2.2.2.2.2.2.2.1.2.2.2.2.2.1 _ hm) hdg (h _ _ _ _ _ (S.to (wfl_cons (v := (.ref r1, 20)) ⟨fun q => (by cases q), fun _ => hr⟩ S.stk)))
theorem sn_iload_n {k1 : Fin 4} (C : Cx G D X p l s m args meth c y b rt hh mx) (hd : dcd b pc (.iload_n k1) 1 nx = true) (hs : sd = [(k1 : Nat)]) (h : stp X G.2.2.2 CC Q (PW G D p l e s m args below meth c mx d mc ms Q) (.iload_n k1) nx sd v ls st rc rs n I L A) : PW G D p l e s m args below meth c mx d mc ms Q pc ls st rc rs n I L A := by
  obtain ⟨hdg, rfl⟩ := dcd_spec hd
  dsimp only [stp] at h
  subst hs
  dsimp only at h
  split at h
  · rename_i x1 t1 hg
    intro H locs arr cells slots S
    exact lv_iload_n C.1 C.2.1 hdg rfl (lcs_at S.hl hg rfl) (h _ _ _ _ _ (S.to (wfl_cons wfi S.stk)))
  · exact h.elim
theorem sn_iload {k1 : Nat} (C : Cx G D X p l s m args meth c y b rt hh mx) (hd : dcd b pc (.iload k1) 2 nx = true) (hs : sd = [(k1 : Nat)]) (h : stp X G.2.2.2 CC Q (PW G D p l e s m args below meth c mx d mc ms Q) (.iload k1) nx sd v ls st rc rs n I L A) : PW G D p l e s m args below meth c mx d mc ms Q pc ls st rc rs n I L A := by
  obtain ⟨hdg, rfl⟩ := dcd_spec hd
  dsimp only [stp] at h
  subst hs
  dsimp only at h
  split at h
  · rename_i x1 t1 hg
    intro H locs arr cells slots S
    exact lv_iload C.1 C.2.1 hdg (lcs_at S.hl hg rfl) (h _ _ _ _ _ (S.to (wfl_cons wfi S.stk)))
  · exact h.elim
theorem sn_lload_n {k1 : Fin 4} (C : Cx G D X p l s m args meth c y b rt hh mx) (hd : dcd b pc (.lload_n k1) 1 nx = true) (hs : sd = [(k1 : Nat)]) (h : stp X G.2.2.2 CC Q (PW G D p l e s m args below meth c mx d mc ms Q) (.lload_n k1) nx sd v ls st rc rs n I L A) : PW G D p l e s m args below meth c mx d mc ms Q pc ls st rc rs n I L A := by
  obtain ⟨hdg, rfl⟩ := dcd_spec hd
  dsimp only [stp] at h
  subst hs
  dsimp only at h
  split at h
  · rename_i x1 t1 hg
    intro H locs arr cells slots S
    exact lv_lload_n C.1 C.2.1 hdg rfl (lcs_at S.hl hg rfl) (h _ _ _ _ _ (S.to (wfl_cons wfj S.stk)))
  · exact h.elim
theorem sn_lload {k1 : Nat} (C : Cx G D X p l s m args meth c y b rt hh mx) (hd : dcd b pc (.lload k1) 2 nx = true) (hs : sd = [(k1 : Nat)]) (h : stp X G.2.2.2 CC Q (PW G D p l e s m args below meth c mx d mc ms Q) (.lload k1) nx sd v ls st rc rs n I L A) : PW G D p l e s m args below meth c mx d mc ms Q pc ls st rc rs n I L A := by
  obtain ⟨hdg, rfl⟩ := dcd_spec hd
  dsimp only [stp] at h
  subst hs
  dsimp only at h
  split at h
  · rename_i x1 t1 hg
    intro H locs arr cells slots S
    exact lv_lload C.1 C.2.1 hdg (lcs_at S.hl hg rfl) (h _ _ _ _ _ (S.to (wfl_cons wfj S.stk)))
  · exact h.elim
theorem sn_dload_n {k1 : Fin 4} (C : Cx G D X p l s m args meth c y b rt hh mx) (hd : dcd b pc (.dload_n k1) 1 nx = true) (hs : sd = [(k1 : Nat)]) (h : stp X G.2.2.2 CC Q (PW G D p l e s m args below meth c mx d mc ms Q) (.dload_n k1) nx sd v ls st rc rs n I L A) : PW G D p l e s m args below meth c mx d mc ms Q pc ls st rc rs n I L A := by
  obtain ⟨hdg, rfl⟩ := dcd_spec hd
  dsimp only [stp] at h
  subst hs
  dsimp only at h
  split at h
  · rename_i x1 t1 hg
    intro H locs arr cells slots S
    exact lv_dload_n C.1 C.2.1 hdg rfl (lcs_at S.hl hg rfl) (h _ _ _ _ _ (S.to (wfl_cons wfd S.stk)))
  · exact h.elim
theorem sn_dload {k1 : Nat} (C : Cx G D X p l s m args meth c y b rt hh mx) (hd : dcd b pc (.dload k1) 2 nx = true) (hs : sd = [(k1 : Nat)]) (h : stp X G.2.2.2 CC Q (PW G D p l e s m args below meth c mx d mc ms Q) (.dload k1) nx sd v ls st rc rs n I L A) : PW G D p l e s m args below meth c mx d mc ms Q pc ls st rc rs n I L A := by
  obtain ⟨hdg, rfl⟩ := dcd_spec hd
  dsimp only [stp] at h
  subst hs
  dsimp only at h
  split at h
  · rename_i x1 t1 hg
    intro H locs arr cells slots S
    exact lv_dload C.1 C.2.1 hdg (lcs_at S.hl hg rfl) (h _ _ _ _ _ (S.to (wfl_cons wfd S.stk)))
  · exact h.elim
theorem sn_aload_n {k1 : Fin 4} (C : Cx G D X p l s m args meth c y b rt hh mx) (hd : dcd b pc (.aload_n k1) 1 nx = true) (hs : sd = [(k1 : Nat)]) (h : stp X G.2.2.2 CC Q (PW G D p l e s m args below meth c mx d mc ms Q) (.aload_n k1) nx sd v ls st rc rs n I L A) : PW G D p l e s m args below meth c mx d mc ms Q pc ls st rc rs n I L A := by
  obtain ⟨hdg, rfl⟩ := dcd_spec hd
  dsimp only [stp] at h
  subst hs
  dsimp only at h
  split at h
  · rename_i x1 t1 hg
    intro H locs arr cells slots S
    exact lv_aload_n C.1 C.2.1 hdg rfl (lcs_at S.hl hg rfl) (h _ _ _ _ _ (S.to (wfl_cons (wfl_lget S.lcl hg rfl) S.stk)))
  · exact h.elim
theorem sn_aload {k1 : Nat} (C : Cx G D X p l s m args meth c y b rt hh mx) (hd : dcd b pc (.aload k1) 2 nx = true) (hs : sd = [(k1 : Nat)]) (h : stp X G.2.2.2 CC Q (PW G D p l e s m args below meth c mx d mc ms Q) (.aload k1) nx sd v ls st rc rs n I L A) : PW G D p l e s m args below meth c mx d mc ms Q pc ls st rc rs n I L A := by
  obtain ⟨hdg, rfl⟩ := dcd_spec hd
  dsimp only [stp] at h
  subst hs
  dsimp only at h
  split at h
  · rename_i x1 t1 hg
    intro H locs arr cells slots S
    exact lv_aload C.1 C.2.1 hdg (lcs_at S.hl hg rfl) (h _ _ _ _ _ (S.to (wfl_cons (wfl_lget S.lcl hg rfl) S.stk)))
  · exact h.elim
theorem sn_istore_n {k1 : Fin 4} (C : Cx G D X p l s m args meth c y b rt hh mx) (hd : dcd b pc (.istore_n k1) 1 nx = true) (hs : sd = [(k1 : Nat)]) (hi : (k1 : Nat) < mx) (h : stp X G.2.2.2 CC Q (PW G D p l e s m args below meth c mx d mc ms Q) (.istore_n k1) nx sd v ls st rc rs n I L A) : PW G D p l e s m args below meth c mx d mc ms Q pc ls st rc rs n I L A := by
  obtain ⟨hdg, rfl⟩ := dcd_spec hd
  dsimp only [stp] at h
  subst hs
  split at h
  · rename_i i2 r2 x1 t1 r1 e1
    cases e1
    rw [frc_iff] at h
    intro H locs arr cells slots S
    exact lv_istore_n C.1 C.2.1 hdg rfl S.hl hi rfl (fun arr9 h9 => h _ _ _ _ _ (S.lset1 hi rfl (fun _ => wfi) (wfl_tl S.stk) h9))
  · exact h.elim
theorem sn_istore {k1 : Nat} (C : Cx G D X p l s m args meth c y b rt hh mx) (hd : dcd b pc (.istore k1) 2 nx = true) (hs : sd = [(k1 : Nat)]) (hi : (k1 : Nat) < mx) (h : stp X G.2.2.2 CC Q (PW G D p l e s m args below meth c mx d mc ms Q) (.istore k1) nx sd v ls st rc rs n I L A) : PW G D p l e s m args below meth c mx d mc ms Q pc ls st rc rs n I L A := by
  obtain ⟨hdg, rfl⟩ := dcd_spec hd
  dsimp only [stp] at h
  subst hs
  split at h
  · rename_i i2 r2 x1 t1 r1 e1
    cases e1
    rw [frc_iff] at h
    intro H locs arr cells slots S
    exact lv_istore C.1 C.2.1 hdg S.hl hi rfl (fun arr9 h9 => h _ _ _ _ _ (S.lset1 hi rfl (fun _ => wfi) (wfl_tl S.stk) h9))
  · exact h.elim
theorem sn_lstore_n {k1 : Fin 4} (C : Cx G D X p l s m args meth c y b rt hh mx) (hd : dcd b pc (.lstore_n k1) 1 nx = true) (hs : sd = [(k1 : Nat)]) (hi : (k1 : Nat) + 1 < mx) (h : stp X G.2.2.2 CC Q (PW G D p l e s m args below meth c mx d mc ms Q) (.lstore_n k1) nx sd v ls st rc rs n I L A) : PW G D p l e s m args below meth c mx d mc ms Q pc ls st rc rs n I L A := by
  obtain ⟨hdg, rfl⟩ := dcd_spec hd
  dsimp only [stp] at h
  subst hs
  split at h
  · rename_i i2 r2 x1 t1 r1 e1
    cases e1
    rw [frc_iff] at h
    intro H locs arr cells slots S
    exact lv_lstore_n C.1 C.2.1 hdg rfl S.hl hi rfl (fun arr9 h9 => h _ _ _ _ _ (S.lset2 hi rfl (fun _ => wfj) (wfl_tl S.stk) h9))
  · exact h.elim
theorem sn_lstore {k1 : Nat} (C : Cx G D X p l s m args meth c y b rt hh mx) (hd : dcd b pc (.lstore k1) 2 nx = true) (hs : sd = [(k1 : Nat)]) (hi : (k1 : Nat) + 1 < mx) (h : stp X G.2.2.2 CC Q (PW G D p l e s m args below meth c mx d mc ms Q) (.lstore k1) nx sd v ls st rc rs n I L A) : PW G D p l e s m args below meth c mx d mc ms Q pc ls st rc rs n I L A := by
  obtain ⟨hdg, rfl⟩ := dcd_spec hd
  dsimp only [stp] at h
  subst hs
  split at h
  · rename_i i2 r2 x1 t1 r1 e1
    cases e1
    rw [frc_iff] at h
    intro H locs arr cells slots S
    exact lv_lstore C.1 C.2.1 hdg S.hl hi rfl (fun arr9 h9 => h _ _ _ _ _ (S.lset2 hi rfl (fun _ => wfj) (wfl_tl S.stk) h9))
  · exact h.elim
theorem sn_dstore_n {k1 : Fin 4} (C : Cx G D X p l s m args meth c y b rt hh mx) (hd : dcd b pc (.dstore_n k1) 1 nx = true) (hs : sd = [(k1 : Nat)]) (hi : (k1 : Nat) + 1 < mx) (h : stp X G.2.2.2 CC Q (PW G D p l e s m args below meth c mx d mc ms Q) (.dstore_n k1) nx sd v ls st rc rs n I L A) : PW G D p l e s m args below meth c mx d mc ms Q pc ls st rc rs n I L A := by
  obtain ⟨hdg, rfl⟩ := dcd_spec hd
  dsimp only [stp] at h
  subst hs
  split at h
  · rename_i i2 r2 x1 t1 r1 e1
    cases e1
    rw [frc_iff] at h
    intro H locs arr cells slots S
    exact lv_dstore_n C.1 C.2.1 hdg rfl S.hl hi rfl (fun arr9 h9 => h _ _ _ _ _ (S.lset2 hi rfl (fun _ => wfd) (wfl_tl S.stk) h9))
  · exact h.elim
theorem sn_dstore {k1 : Nat} (C : Cx G D X p l s m args meth c y b rt hh mx) (hd : dcd b pc (.dstore k1) 2 nx = true) (hs : sd = [(k1 : Nat)]) (hi : (k1 : Nat) + 1 < mx) (h : stp X G.2.2.2 CC Q (PW G D p l e s m args below meth c mx d mc ms Q) (.dstore k1) nx sd v ls st rc rs n I L A) : PW G D p l e s m args below meth c mx d mc ms Q pc ls st rc rs n I L A := by
  obtain ⟨hdg, rfl⟩ := dcd_spec hd
  dsimp only [stp] at h
  subst hs
  split at h
  · rename_i i2 r2 x1 t1 r1 e1
    cases e1
    rw [frc_iff] at h
    intro H locs arr cells slots S
    exact lv_dstore C.1 C.2.1 hdg S.hl hi rfl (fun arr9 h9 => h _ _ _ _ _ (S.lset2 hi rfl (fun _ => wfd) (wfl_tl S.stk) h9))
  · exact h.elim
theorem sn_astore_n {k1 : Fin 4} (C : Cx G D X p l s m args meth c y b rt hh mx) (hd : dcd b pc (.astore_n k1) 1 nx = true) (hs : sd = [(k1 : Nat)]) (hi : (k1 : Nat) < mx) (h : stp X G.2.2.2 CC Q (PW G D p l e s m args below meth c mx d mc ms Q) (.astore_n k1) nx sd v ls st rc rs n I L A) : PW G D p l e s m args below meth c mx d mc ms Q pc ls st rc rs n I L A := by
  obtain ⟨hdg, rfl⟩ := dcd_spec hd
  dsimp only [stp] at h
  subst hs
  split at h
  · rename_i i2 r2 x1 t1 r1 e1
    cases e1
    rw [frc_iff] at h
    intro H locs arr cells slots S
    exact lv_astore_n C.1 C.2.1 hdg rfl S.hl hi rfl (fun arr9 h9 => h _ _ _ _ _ (S.lset1 hi rfl (fun hj => wfl_hd S.stk hj) (wfl_tl S.stk) h9))
  · exact h.elim
theorem sn_astore {k1 : Nat} (C : Cx G D X p l s m args meth c y b rt hh mx) (hd : dcd b pc (.astore k1) 2 nx = true) (hs : sd = [(k1 : Nat)]) (hi : (k1 : Nat) < mx) (h : stp X G.2.2.2 CC Q (PW G D p l e s m args below meth c mx d mc ms Q) (.astore k1) nx sd v ls st rc rs n I L A) : PW G D p l e s m args below meth c mx d mc ms Q pc ls st rc rs n I L A := by
  obtain ⟨hdg, rfl⟩ := dcd_spec hd
  dsimp only [stp] at h
  subst hs
  split at h
  · rename_i i2 r2 x1 t1 r1 e1
    cases e1
    rw [frc_iff] at h
    intro H locs arr cells slots S
    exact lv_astore C.1 C.2.1 hdg S.hl hi rfl (fun arr9 h9 => h _ _ _ _ _ (S.lset1 hi rfl (fun hj => wfl_hd S.stk hj) (wfl_tl S.stk) h9))
  · exact h.elim
end
