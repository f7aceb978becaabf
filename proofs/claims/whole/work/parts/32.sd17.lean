/-! SOUNDNESS, 17: String's length and charAt over the texts -/
theorem Cx.of {G : GE} {D : va_G} {X : Ext} {p : Program} {l : Launch} {e : Env} {s s₁ : State} {m : MethodId} {args : Array Value} {below : List Frame} {meth : Method} {c : Code} {y : MethodName} {b : ByteArray} {rt : Option FieldType} {hh : List (Nat × Nat × Nat × Nat)} {mx : Nat} {rm : Room}
    (B : BodyLoose p l y (headSpec (vcd y b mx rt hh :: tg) rm) b mx rt e s m args below meth c s₁) (hml : c.maxLocals = mx) (ht : c.exceptionTable.toList = tableOf hh) (hW : Wd G D X s) (g : Gd G X) (hl : l.stackTraces = false) : Cx G D X p l s m args meth c y b rt hh mx :=
  ⟨B.exec, B.bytes, hml, B.returns, B.notSynchronized, (name_of_methodNamed B.named B.method).1, findClass_of_methodNamed B.named, fun w hw => atoms_spec (ws := vcd y b mx rt hh :: tg) B.pre w (List.mem_cons_of_mem _ hw), ht, hW, g, hl⟩
abbrev rmS (k : Nat) : Room := { frames := k, cells := 0, slots := 0, locals := 60 * k }
abbrev sP (G : GE) (D : va_G) (X : Ext) (as : List Value) : Array Value → State → Prop := va_Pc as (fun U => Wd G D X U)
abbrev sR (r : Option Value) : Array Value → State → Outcome → State → Prop := fun _ st o t => o = .returned r ∧ t.heap = st.heap
abbrev sNo : String → State → State → Prop := fun _ _ _ => False
abbrev sF : Addr → Prop := fun _ => False
abbrev sM (l : Launch) (G : GE) (D : va_G) (X : Ext) (k : Nat) (y : MethodName) (b : ByteArray) (mx : Nat) (rt : Option FieldType) (as : List Value) (r : Option Value) : Prop := vx_Met l y (vcd y b mx rt [] :: tg) (rmS k) (sP G D X as) (sR r) sNo 0 0 sF
theorem strtab : [Cond.fieldLink RJ0 38 "java/lang/String" "COMPACT_STRINGS" "Z", .fieldLink RJ0 15 "java/lang/String" "coder" "B", .fieldLink RJ0 9 "java/lang/String" "value" "[B", .fieldLink RJ0 1053 "jdk/internal/util/Preconditions" "SIOOBE_FORMATTER" "Ljava/util/function/BiFunction;",
    .methodLink RJ0 335 yJ0_coder_7d493, .instanceMethod yJ0_coder_7d493, .selects RJ0 yJ0_coder_7d493 yJ0_coder_7d493, .code yJ0_coder_7d493 cJ0_coder_7d493 1 (some .byte),
    .methodLink RJ0 492 yJ0_isLatin1_aae02, .instanceMethod yJ0_isLatin1_aae02, .selects RJ0 yJ0_isLatin1_aae02 yJ0_isLatin1_aae02, .code yJ0_isLatin1_aae02 cJ0_isLatin1_aae02 1 (some .boolean),
    .methodLink RJ0 1059 yJ3_checkIndex_8e157, .static yJ3_checkIndex_8e157, .code yJ3_checkIndex_8e157 cJ3_checkIndex_8e157 3 (some .int), .initialized RJ3,
    .methodLink RJ1 9 yJ0_checkIndex_df160, .static yJ0_checkIndex_df160, .code yJ0_checkIndex_df160 cJ0_checkIndex_df160 2 none, .initialized RJ0, .initialized RJ1,
    .methodLink RJ0 495 yJ1_charAt_3b067, .static yJ1_charAt_3b067, .code yJ1_charAt_3b067 cJ1_charAt_3b067 2 (some .char),
    .instanceMethod yJ0_length_8abf5, .selects RJ0 yJ0_length_8abf5 yJ0_length_8abf5, .code yJ0_length_8abf5 cJ0_length_8abf5 1 (some .int),
    .instanceMethod yJ0_charAt_5068e, .selects RJ0 yJ0_charAt_5068e yJ0_charAt_5068e, .code yJ0_charAt_5068e cJ0_charAt_5068e 2 (some .char)].all (fun w => decide (w ∈ lw_tbl) && goodWord w) = true := by decide +kernel
theorem st_in {w : Cond} (i : Nat) {L : List Cond} (hL : L.all (fun w => decide (w ∈ lw_tbl) && goodWord w) = true) (h : L[i]? = some w) : w ∈ tg := by
  have h1 := List.all_eq_true.mp hL w (List.mem_of_getElem? h)
  simp only [Bool.and_eq_true, decide_eq_true_eq] at h1
  exact List.mem_filter.mpr h1
section
variable {G : GE} {D : va_G} {X : Ext} {p : Program} {l : Launch} {e : Env} {R : Room} {s : State} {m : MethodId} {args : Array Value} {below : List Frame} {meth : Method} {c : Code} {y : MethodName} {b : ByteArray} {rt : Option FieldType} {hh : List (Nat × Nat × Nat × Nat)} {mx n : Nat} {pc : Nat} {H : Heap} {locs : List Loc} {arr : Array Slot} {cells slots : Nat} {Q : State → Prop}
theorem ss_bk (C : Cx G D X p l s m args meth c y b rt hh mx) {k : Nat} {y1 : MethodName} {b1 : ByteArray} {n1 : Nat} {rt1 : Option FieldType} {as : List Value} {r : Option Value} (hM : sM l G D X k y1 b1 n1 rt1 as r) (hw : vcd y1 b1 n1 rt1 [] ∈ tg) (hi : Cond.initialized y1.cls ∈ tg) (hf : k + 1 ≤ R.frames) (hlo : 8 + (n1 + 11) + 60 * k ≤ R.locals) :
    vx_Back l R p e below s args y1 3 8 (PreOf R 0 0 (sP G D X as)) (PostOf (sR r) 0 0 sF) (vx_Post sNo 0 0 sF) :=
  sc_back (bytes := b1) (maxL := n1) (ret := rt1) (hh := []) hM (fun _ _ gf mk h => ⟨h.1, h.2.blind C.2.2.2.2.2.2.2.2.2.2.1 gf mk _⟩) rfl rfl hf hlo
    (pay_in C.hin (fun w hw9 => by
      rcases List.mem_cons.mp hw9 with rfl | hw9
      · exact tg_good _ hw
      · exact tg_good w hw9)) List.mem_cons_self (fun a' U hW => word_at hW (tg_good _ hi).2 (C.hin _ hi))
theorem ss_at (C : Cx G D X p l s m args meth c y b rt hh mx) (hS : va_S (Af G) s.heap H locs) (as : List Value) : ∀ U : State, U.heap = H → s.WarmedH U.vm → sP G D X as as.toArray U := by
  intro U hU hW
  have hz : G.1 ≤ H.size := Nat.le_trans C.wd.2.2.2.2.2.2.2.2.2.2.2.2.2.2.2.2 hS.1
  exact ⟨rfl, C.wd.to C.2.2.2.2.2.2.2.2.2.2.1 hW (fun a h1 h2 => by rw [hU]; exact hS.2.1 a h1 h2) (by rw [hU]; exact hz)⟩
theorem ss_end {mc' ms' : Nat} {st0 rest : List Value} {Xc : Array Value} {r : Option Value} (hcs : cells ≤ R.cells ∧ slots ≤ R.slots) (hr : vx_Run p l e R s m args below meth c H locs cells slots 0 0 (F0 m pc arr st0) rest (sR r Xc) sNo sF) (kk : W p l e R s m args below meth c H locs cells slots Q (F0 m (pc + 3) arr (r.toList ++ rest))) : W p l e R s m args below meth c H locs cells slots Q (F0 m pc arr st0) := by
  refine sc_call hr (fun v st₀ t H1 Lc h0 ht hvm hq hL => ?_) (fun E ce q9 st₀ t H1 Lc h0 ht hvm hX hL hce hcv hcl => hX.elim)
  obtain ⟨e1, e2⟩ := hq
  cases e1
  have hLn : Lc = [] := by
    cases Lc with
    | nil => rfl
    | cons x xs => exact (hL x List.mem_cons_self).elim
  subst hLn
  rw [List.append_nil]
  have hH : H1 = H := by rw [← ht, e2, h0]
  subst hH
  exact kk
theorem ss_callV (C : Cx G D X p l s m args meth c y b rt hh mx) (hS : va_S (Af G) s.heap H locs) {k index i : Nat} {y1 : MethodName} {b1 : ByteArray} {n1 : Nat} {rt1 : Option FieldType} {as : List Value} {r : Option Value} (hi : i < 15) (hM : sM l G D X k y1 b1 n1 rt1 (.ref (G.2.2.1 (10050 + i)) :: as) r) (hcl : y1.cls = "java/lang/String") (hlk : (Cond.methodLink y.cls index y1).before args s = true) (w1 : Cond.instanceMethod y1 ∈ tg) (w2 : Cond.selects RJ0 y1 y1 ∈ tg) (w3 : Cond.code y1 b1 n1 rt1 ∈ tg) (w4 : Cond.initialized RJ0 ∈ tg) (hlen : (parseMethodDescriptor y1.desc).map (fun d => d.parameters.length) = some as.length)
    (hcs : cells ≤ R.cells ∧ slots ≤ R.slots) (hf : k + 1 ≤ R.frames) (hlo : 8 + (n1 + 11) + 60 * k ≤ R.locals) (hml : arr.size = mx) {rest : List Value} (hrest : (rest.map fun v => v.category).sum ≤ 8) (hdg : decode b pc = .ok (.invokevirtual index, 3))
    (kk : W p l e R s m args below meth c H locs cells slots Q (F0 m (pc + 3) arr (r.toList ++ rest))) : W p l e R s m args below meth c H locs cells slots Q (F0 m pc arr (as.reverse ++ .ref (G.2.2.1 (10050 + i)) :: rest)) := by
  have hE := C.wd.2.2.2.2.2.2.1
  obtain ⟨cell, m1, m2, m3⟩ := vk_recv hE hi hS
  refine ss_end (mc' := 0) (ms' := 0) hcs (sc_runV (C := RJ0) (As := as) (hh := []) C.1 C.own (ss_bk C hM w3 (by rw [hcl]; exact w4) hf hlo) (Or.inl hlk) (C.hin _ w1) (C.hin _ w2) (C.hin _ w3) (by rw [hcl]; decide) (fun sig hsig => ?_) ⟨fun _ _ gf mk h => ⟨h.1, h.2.blind C.2.2.2.2.2.2.2.2.2.2.1 gf mk _⟩, ⟨cell, m1, m2, m3⟩, ss_at C hS _⟩ rfl (by rw [C.2.2.1]; exact hml) rfl (by show 2 * 0 + _ ≤ 8; omega) (by rw [C.2.1]; exact hdg) hcs) kk
  rw [hsig] at hlen
  exact (Option.some.inj hlen).symm
theorem ss_callS (C : Cx G D X p l s m args meth c y b rt hh mx) (hS : va_S (Af G) s.heap H locs) {k index : Nat} {y1 : MethodName} {b1 : ByteArray} {n1 : Nat} {rt1 : Option FieldType} {as : List Value} {r : Option Value} (hM : sM l G D X k y1 b1 n1 rt1 as r) (hcl : y1.cls ≠ "java/lang/invoke/MethodHandle" ∧ y1.cls ≠ "java/lang/invoke/VarHandle") (hlk : (Cond.methodLink y.cls index y1).before args s = true) (w1 : Cond.static y1 ∈ tg) (w3 : Cond.code y1 b1 n1 rt1 ∈ tg) (w4 : Cond.initialized y1.cls ∈ tg) (hlen : (parseMethodDescriptor y1.desc).map (fun d => d.parameters.length) = some as.length)
    (hcs : cells ≤ R.cells ∧ slots ≤ R.slots) (hf : k + 1 ≤ R.frames) (hlo : 8 + (n1 + 11) + 60 * k ≤ R.locals) (hml : arr.size = mx) {rest : List Value} (hrest : (rest.map fun v => v.category).sum ≤ 8) (hdg : decode b pc = .ok (.invokestatic index, 3))
    (kk : W p l e R s m args below meth c H locs cells slots Q (F0 m (pc + 3) arr (r.toList ++ rest))) : W p l e R s m args below meth c H locs cells slots Q (F0 m pc arr (as.reverse ++ rest)) := by
  refine ss_end (mc' := 0) (ms' := 0) hcs (sc_runS (As := as) (hh := []) C.1 C.own (ss_bk C hM w3 w4 hf hlo) (Or.inl hlk) (C.hin _ w1) (C.hin _ w4) (C.hin _ w3) hcl (fun sig hsig => ?_) ⟨fun _ _ gf mk h => ⟨h.1, h.2.blind C.2.2.2.2.2.2.2.2.2.2.1 gf mk _⟩, ss_at C hS _⟩ rfl (by rw [C.2.2.1]; exact hml) rfl (by show 2 * 0 + _ ≤ 8; omega) (by rw [C.2.1]; exact hdg) hcs) kk
  rw [hsig] at hlen
  exact (Option.some.inj hlen).symm
end
