/-! SOUNDNESS, 19: what else is held of each entry, and every instruction at once -/
noncomputable def plF (h : Nat) (own : String) (i : Nat) (r n d : String) : Bool := decide (wt h = some (.fieldLink own i r n d))
noncomputable def plM (h : Nat) (own : String) (i : Nat) (y : MethodName) : Bool := decide (wt h = some (.methodLink own i y))
noncomputable def thB (own : String) (cc : ByteArray) (pc i : Nat) (k : Nat) : Bool :=
  decide (own = "TangramBoard") && Nat.beq i (ikE k) && decide (decode cc pc = .ok (.new (ikE k), 3)) && decide (decode cc (pc + 3) = .ok (.dup, 1)) && (match decode cc (pc + 4) with
    | .ok (.ldc is, 2) => msL.any (fun q => decide (q.1 = own) && Nat.beq q.2.1 is) && decide (decode cc (pc + 6) = .ok (.invokespecial (icE k), 3)) && decide (decode cc (pc + 9) = .ok (.athrow, 1))
    | .ok (.ldc_w is, 3) => msL.any (fun q => decide (q.1 = own) && Nat.beq q.2.1 is) && decide (decode cc (pc + 7) = .ok (.invokespecial (icE k), 3)) && decide (decode cc (pc + 10) = .ok (.athrow, 1))
    | _ => false)
noncomputable def okZ (own nm : String) (cc : ByteArray) (mx : Nat) (rt : Option FieldType) (hh : List (Nat × Nat × Nat × Nat)) (h pc : Nat) (e : Ent) : Bool := match e with
  | (ins, _, sd, _) => match ins with
    | .istore_n k | .astore_n k => Nat.blt k mx
    | .istore k | .astore k | .iinc k _ => Nat.blt k mx
    | .lstore_n k | .dstore_n k => Nat.blt (k + 1) mx
    | .lstore k | .dstore k => Nat.blt (k + 1) mx
    | .ldc i | .ldc_w i => (match sd with
      | [r, t] => Nat.beq t 20 && Nat.ble 10050 r && Nat.blt r 10065 && ldL.any (fun q => decide (q.1 = own) && Nat.beq q.2.1 i && Nat.beq q.2.2.2 r)
      | _ => true)
    | .getstatic i => (match sd with
      | [r, t] => stL.any (fun q => Nat.beq q.2.2.2.1 r && Nat.beq q.2.2.2.2 t && lnkF h own i q.1 q.2.1 q.2.2.1)
      | _ => false)
    | .getfield i => (match sd with
      | [c, j, y, _] => bif Nat.beq c 9 then (Nat.beq y 2 && plF h own i RX9 "direction" "I") || (Nat.beq y 3 && plF h own i RX9 "text" "Ljava/lang/String;") else (match amCl[c]? with
        | some (_, T, _) => plF h own i (T j).1 (T j).2.1 (T j).2.2.1
        | none => false)
      | _ => false)
    | .putfield i => (match sd with
      | [c, j, _, _] => !Nat.beq c 9 && (match amCl[c]? with
        | some (_, T, _) => plF h own i (T j).1 (T j).2.1 (T j).2.2.1 && (!(T j).2.2.2 || (decide (nm = "<init>") && decide ((T j).1 = own)))
        | none => false)
      | _ => false)
    | .new i => (match sd with
      | [c, _] => !Nat.beq c 9
      | [k + 1] => Nat.blt k 4 && hh.isEmpty && thB own cc pc i k
      | _ => false)
    | .anewarray _ => (match sd with
      | [s] => (match nth clN (s - 10) with
        | some C => decide (C ∈ [RX1, RX6, RX8, RX9])
        | none => false)
      | _ => false)
    | .invokevirtual i | .invokestatic i | .invokespecial i => (match sd with
      | [z] => bif Nat.beq z 999 then plM h own i objectInit else bif Nat.beq z 998 then true else bif Nat.beq z 900 then plM h own i arraycopyName else bif Nat.beq z 901 then plM h own i yJ0_length_8abf5 else bif Nat.beq z 902 then plM h own i yJ0_charAt_5068e else bif Nat.beq z 903 then plM h own i Lib.Math.abs.name else bif Nat.beq z 904 then plM h own i Lib.Math.max.name else bif Nat.beq z 905 then plM h own i Lib.Math.min.name else false
      | k :: _ :: hs => Nat.blt k 301 && hsB own cc mx pc hh hs && (match ins with
        | .invokespecial _ => (match mtm k with
          | some (_, _, none, [], _, _, _) => true
          | _ => false)
        | _ => true)
      | _ => false)
    | .ireturn => (match sd with
      | [] => decide (rt = some .int)
      | [_] => decide (rt = some .boolean)
      | _ => false)
    | .lreturn => decide (rt = some .long)
    | .freturn => decide (rt = some .float)
    | .dreturn => decide (rt = some .double)
    | .areturn => (match rt with
      | some (.object _) => true
      | some (.array _) => true
      | _ => false)
    | .return_ => decide (rt = none)
    | _ => true
section
variable {G : GE} {D : va_G} {X : Ext} {p : Program} {l : Launch} {e : Env} {s : State} {m : MethodId} {args : Array Value} {below : List Frame} {meth : Method} {c : Code} {y : MethodName} {b : ByteArray} {rt : Option FieldType} {hh : List (Nat × Nat × Nat × Nat)} {mx d mc ms n : Nat} {Q : AQ} {I : HI} {L : HL} {A : HA} {ls st : List AV} {rc rs : Nat} {pc nx : Nat} {sd : List Nat} {v : Value}

theorem plF_spec (C : Cx G D X p l s m args meth c y b rt hh mx) {q i : Nat} {r f t : String} (h : plF q y.cls i r f t = true) : (Cond.fieldLink y.cls i r f t).before args s = true := C.hin _ (wt_tg (of_decide_eq_true h) rfl)
theorem plM_spec (C : Cx G D X p l s m args meth c y b rt hh mx) {q i : Nat} {z : MethodName} (h : plM q y.cls i z = true) : (Cond.methodLink y.cls i z).before args s = true := C.hin _ (wt_tg (of_decide_eq_true h) rfl)
theorem blt_lt {a b : Nat} (h : Nat.blt a b = true) : a < b := Nat.le_of_ble_eq_true h
theorem msL_any {own : String} {is : Nat} (h : msL.any (fun q => decide (q.1 = own) && Nat.beq q.2.1 is) = true) : ∃ tx, (own, is, tx) ∈ msL := by
  obtain ⟨q, h1, h2⟩ := List.any_eq_true.mp h
  simp only [Bool.and_eq_true, decide_eq_true_eq] at h2
  obtain ⟨a, i, t⟩ := q
  obtain ⟨h2, h3⟩ := h2
  have h3 := Nat.eq_of_beq_eq_true h3
  dsimp only at h2 h3
  subst h2 h3
  exact ⟨t, h1⟩
set_option maxHeartbeats 2000000 in
theorem snd_step (C : Cx G D X p l s m args meth c y b rt hh mx) (hok : ∀ k, k < 301 → okY k = true) (hk23 : ∀ r, srtB (kSort (G.2.2.2 r)) = true) (IH : ∀ k, k < 301 → sdM G D X l d k) {h1 h2 : Nat} {en : Ent} (hE : okE y.cls b h1 pc en = true) (hZ : okZ y.cls y.name b mx rt hh h2 pc en = true)
    (h : stp X G.2.2.2 (CnD X G.2.2.2 d) Q (PW G D p l e s m args below meth c mx (d + 1) mc ms Q) en.1 en.2.1 en.2.2.1 en.2.2.2 ls st rc rs n I L A) : PW G D p l e s m args below meth c mx (d + 1) mc ms Q pc ls st rc rs n I L A := by
  obtain ⟨ins, nx, sd, v⟩ := en
  dsimp only at h
  cases ins with
  | iconst i =>
    have hE : (dcd b pc (.iconst i) 1 nx && decide (v = .int (Int32.ofInt i))) = true := hE
    simp only [Bool.and_eq_true, decide_eq_true_eq] at hE
    exact sn_iconst C hE.1 hE.2 h
  | bipush i =>
    have hE : (dcd b pc (.bipush i) 2 nx && decide (v = .int (Int8.ofInt i).toInt32)) = true := hE
    simp only [Bool.and_eq_true, decide_eq_true_eq] at hE
    exact sn_bipush C hE.1 hE.2 h
  | sipush i =>
    have hE : (dcd b pc (.sipush i) 3 nx && decide (v = .int (Int16.ofInt i).toInt32)) = true := hE
    simp only [Bool.and_eq_true, decide_eq_true_eq] at hE
    exact sn_sipush C hE.1 hE.2 h
  | lconst i =>
    have hE : (dcd b pc (.lconst i) 1 nx && decide (v = .long (Int64.ofNat (i : Nat)))) = true := hE
    simp only [Bool.and_eq_true, decide_eq_true_eq] at hE
    exact sn_lconst C hE.1 hE.2 h
  | fconst i =>
    have hE : (dcd b pc (.fconst i) 1 nx && decide (v = .float 0) && decide (i = 0)) = true := hE
    simp only [Bool.and_eq_true, decide_eq_true_eq] at hE
    obtain ⟨⟨e1, e2⟩, e3⟩ := hE
    subst e3
    exact sn_fconst C e1 e2 h
  | ldc2_w i =>
    have hE : (dcd b pc (.ldc2_w i) 3 nx && (match (generalizing := false) v with | .long x => wOK h1 (.constantLong y.cls i x) | .double x => wOK h1 (.constantDouble y.cls i x) | _ => false)) = true := hE
    rw [Bool.and_eq_true] at hE
    obtain ⟨e1, e2⟩ := hE
    split at e2
    · exact sn_ldc2_wj C e1 rfl e2 h
    · exact sn_ldc2_wd C e1 rfl e2 h
    · cases e2
  | ldc i =>
    have hE : (dcd b pc (.ldc i) 2 nx && (match (generalizing := false) sd with | [] => (match (generalizing := false) v with | .int x => wOK h1 (.constant y.cls i x) | _ => false) | _ => true)) = true := hE
    rw [Bool.and_eq_true] at hE
    obtain ⟨e1, e2⟩ := hE
    rcases sd with _ | ⟨r, _ | ⟨t, _ | ⟨u, rest⟩⟩⟩
    · have e2 : (match (generalizing := false) v with | .int x => wOK h1 (.constant y.cls i x) | _ => false) = true := e2
      split at e2
      · exact sn_ldc C e1 rfl rfl e2 h
      · cases e2
    · exact h.elim
    · have hZ : (Nat.beq t 20 && Nat.ble 10050 r && Nat.blt r 10065 && ldL.any (fun q => decide (q.1 = y.cls) && Nat.beq q.2.1 i && Nat.beq q.2.2.2 r)) = true := hZ
      simp only [Bool.and_eq_true] at hZ
      obtain ⟨⟨⟨z1, z2⟩, z3⟩, z4⟩ := hZ
      have z1 := Nat.eq_of_beq_eq_true z1
      have z2 := Nat.le_of_ble_eq_true z2
      have z3 := blt_lt z3
      subst z1
      obtain ⟨q, g1, g2⟩ := List.any_eq_true.mp z4
      obtain ⟨a, i', t, r'⟩ := q
      simp only [Bool.and_eq_true, decide_eq_true_eq] at g2
      obtain ⟨⟨g2, g3⟩, g4⟩ := g2
      have g3 := Nat.eq_of_beq_eq_true g3
      have g4 := Nat.eq_of_beq_eq_true g4
      subst g3 g4
      rw [g2] at g1
      exact sn_ldcS C e1 rfl g1 (Or.inr (Or.inl ⟨rfl, r' - 10050, by omega, by omega⟩)) h
    · exact h.elim
  | ldc_w i =>
    have hE : (dcd b pc (.ldc_w i) 3 nx && (match (generalizing := false) sd with | [] => (match (generalizing := false) v with | .int x => wOK h1 (.constant y.cls i x) | _ => false) | _ => true)) = true := hE
    rw [Bool.and_eq_true] at hE
    obtain ⟨e1, e2⟩ := hE
    rcases sd with _ | ⟨r, _ | ⟨t, _ | ⟨u, rest⟩⟩⟩
    · have e2 : (match (generalizing := false) v with | .int x => wOK h1 (.constant y.cls i x) | _ => false) = true := e2
      split at e2
      · exact sn_ldc_w C e1 rfl rfl e2 h
      · cases e2
    · exact h.elim
    · have hZ : (Nat.beq t 20 && Nat.ble 10050 r && Nat.blt r 10065 && ldL.any (fun q => decide (q.1 = y.cls) && Nat.beq q.2.1 i && Nat.beq q.2.2.2 r)) = true := hZ
      simp only [Bool.and_eq_true] at hZ
      obtain ⟨⟨⟨z1, z2⟩, z3⟩, z4⟩ := hZ
      have z1 := Nat.eq_of_beq_eq_true z1
      have z2 := Nat.le_of_ble_eq_true z2
      have z3 := blt_lt z3
      subst z1
      obtain ⟨q, g1, g2⟩ := List.any_eq_true.mp z4
      obtain ⟨a, i', t, r'⟩ := q
      simp only [Bool.and_eq_true, decide_eq_true_eq] at g2
      obtain ⟨⟨g2, g3⟩, g4⟩ := g2
      have g3 := Nat.eq_of_beq_eq_true g3
      have g4 := Nat.eq_of_beq_eq_true g4
      subst g3 g4
      rw [g2] at g1
      exact sn_ldcSW C e1 rfl g1 (Or.inr (Or.inl ⟨rfl, r' - 10050, by omega, by omega⟩)) h
    · exact h.elim
  | iload_n k =>
    have hE : (dcd b pc (.iload_n k) 1 nx && okL1 k sd) = true := hE
    rw [Bool.and_eq_true] at hE
    exact sn_iload_n C hE.1 (okL1_spec hE.2) h
  | iload k =>
    have hE : (dcd b pc (.iload k) 2 nx && okL1 k sd) = true := hE
    rw [Bool.and_eq_true] at hE
    exact sn_iload C hE.1 (okL1_spec hE.2) h
  | lload_n k =>
    have hE : (dcd b pc (.lload_n k) 1 nx && okL1 k sd) = true := hE
    rw [Bool.and_eq_true] at hE
    exact sn_lload_n C hE.1 (okL1_spec hE.2) h
  | lload k =>
    have hE : (dcd b pc (.lload k) 2 nx && okL1 k sd) = true := hE
    rw [Bool.and_eq_true] at hE
    exact sn_lload C hE.1 (okL1_spec hE.2) h
  | dload_n k =>
    have hE : (dcd b pc (.dload_n k) 1 nx && okL1 k sd) = true := hE
    rw [Bool.and_eq_true] at hE
    exact sn_dload_n C hE.1 (okL1_spec hE.2) h
  | dload k =>
    have hE : (dcd b pc (.dload k) 2 nx && okL1 k sd) = true := hE
    rw [Bool.and_eq_true] at hE
    exact sn_dload C hE.1 (okL1_spec hE.2) h
  | aload_n k =>
    have hE : (dcd b pc (.aload_n k) 1 nx && okL1 k sd) = true := hE
    rw [Bool.and_eq_true] at hE
    exact sn_aload_n C hE.1 (okL1_spec hE.2) h
  | aload k =>
    have hE : (dcd b pc (.aload k) 2 nx && okL1 k sd) = true := hE
    rw [Bool.and_eq_true] at hE
    exact sn_aload C hE.1 (okL1_spec hE.2) h
  | istore_n k =>
    have hE : (dcd b pc (.istore_n k) 1 nx && okL1 k sd) = true := hE
    rw [Bool.and_eq_true] at hE
    exact sn_istore_n C hE.1 (okL1_spec hE.2) (blt_lt hZ) h
  | istore k =>
    have hE : (dcd b pc (.istore k) 2 nx && okL1 k sd) = true := hE
    rw [Bool.and_eq_true] at hE
    exact sn_istore C hE.1 (okL1_spec hE.2) (blt_lt hZ) h
  | lstore_n k =>
    have hE : (dcd b pc (.lstore_n k) 1 nx && okL1 k sd) = true := hE
    rw [Bool.and_eq_true] at hE
    exact sn_lstore_n C hE.1 (okL1_spec hE.2) (blt_lt hZ) h
  | lstore k =>
    have hE : (dcd b pc (.lstore k) 2 nx && okL1 k sd) = true := hE
    rw [Bool.and_eq_true] at hE
    exact sn_lstore C hE.1 (okL1_spec hE.2) (blt_lt hZ) h
  | dstore_n k =>
    have hE : (dcd b pc (.dstore_n k) 1 nx && okL1 k sd) = true := hE
    rw [Bool.and_eq_true] at hE
    exact sn_dstore_n C hE.1 (okL1_spec hE.2) (blt_lt hZ) h
  | dstore k =>
    have hE : (dcd b pc (.dstore k) 2 nx && okL1 k sd) = true := hE
    rw [Bool.and_eq_true] at hE
    exact sn_dstore C hE.1 (okL1_spec hE.2) (blt_lt hZ) h
  | astore_n k =>
    have hE : (dcd b pc (.astore_n k) 1 nx && okL1 k sd) = true := hE
    rw [Bool.and_eq_true] at hE
    exact sn_astore_n C hE.1 (okL1_spec hE.2) (blt_lt hZ) h
  | astore k =>
    have hE : (dcd b pc (.astore k) 2 nx && okL1 k sd) = true := hE
    rw [Bool.and_eq_true] at hE
    exact sn_astore C hE.1 (okL1_spec hE.2) (blt_lt hZ) h
  | iinc k i =>
    have hE : (dcd b pc (.iinc k i) 3 nx && okL1 k sd && decide (v = .int (Int32.ofInt i))) = true := hE
    simp only [Bool.and_eq_true, decide_eq_true_eq] at hE
    exact sn_iinc C hE.1.1 (okL1_spec hE.1.2) (blt_lt hZ) hE.2 h
  | dup =>
    exact sn_dup C hE h
  | dup2 =>
    exact sn_dup2 C hE h
  | iadd =>
    exact sn_iadd C hE h
  | isub =>
    exact sn_isub C hE h
  | imul =>
    exact sn_imul C hE h
  | idiv =>
    exact sn_idiv C hE h
  | irem =>
    exact sn_irem C hE h
  | iand =>
    exact sn_iand C hE h
  | ior =>
    exact sn_ior C hE h
  | ixor =>
    exact sn_ixor C hE h
  | ishl =>
    exact sn_ishl C hE h
  | ishr =>
    exact sn_ishr C hE h
  | iushr =>
    exact sn_iushr C hE h
  | ineg =>
    exact sn_ineg C hE h
  | ladd =>
    exact sn_ladd C hE h
  | lsub =>
    exact sn_lsub C hE h
  | lmul =>
    exact sn_lmul C hE h
  | land =>
    exact sn_land C hE h
  | lor =>
    exact sn_lor C hE h
  | lxor =>
    exact sn_lxor C hE h
  | lneg =>
    exact sn_lneg C hE h
  | lshl =>
    exact sn_lshl C hE h
  | lushr =>
    exact sn_lushr C hE h
  | i2l =>
    exact sn_i2l C hE h
  | l2i =>
    exact sn_l2i C hE h
  | i2b =>
    exact sn_i2b C hE h
  | i2d =>
    exact sn_i2d C hE h
  | i2f =>
    exact sn_i2f C hE h
  | f2d =>
    exact sn_f2d C hE h
  | fdiv =>
    exact sn_fdiv C hE h
  | dmul =>
    exact sn_dmul C hE h
  | dadd =>
    exact sn_dadd C hE h
  | lcmp =>
    exact sn_lcmp C hE h
  | iaload =>
    exact sn_iaload C hE h
  | baload =>
    exact sn_baload C hE h
  | laload =>
    exact sn_laload C hE h
  | iastore =>
    exact sn_iastore C hE h
  | bastore =>
    exact sn_bastore C hE h
  | lastore =>
    exact sn_lastore C hE h
  | dcmp op =>
    exact sn_dcmp C hE h
  | arraylength =>
    exact sn_arraylength C ⟨C.2.2.2.2.2.2.2.2.2.2.1.2.2.2.2.1, hk23⟩ hE h
  | aaload =>
    exact sn_aaload C hk23 hE h
  | aastore =>
    exact sn_aastore C hk23 hE h
  | goto o =>
    have hE : (decide (decode b pc = .ok (.goto o, 3)) && (match (generalizing := false) sd with | [t] => tgt1 pc o t | _ => false)) = true := hE
    simp only [Bool.and_eq_true, decide_eq_true_eq] at hE
    obtain ⟨e1, e2⟩ := hE
    split at e2
    · exact sn_goto C e1 rfl e2 h
    · cases e2
  | ifCond cd o =>
    have hE : (dcd b pc (.ifCond cd o) 3 nx && (match (generalizing := false) sd with | [t] => tgt1 pc o t | _ => false)) = true := hE
    rw [Bool.and_eq_true] at hE
    obtain ⟨e1, e2⟩ := hE
    split at e2
    · cases cd
      · exact sn_if_eq C e1 rfl e2 h
      · exact sn_if_ne C e1 rfl e2 h
      · exact sn_if_lt C e1 rfl e2 h
      · exact sn_if_ge C e1 rfl e2 h
      · exact sn_if_gt C e1 rfl e2 h
      · exact sn_if_le C e1 rfl e2 h
    · cases e2
  | if_icmp cd o =>
    have hE : (dcd b pc (.if_icmp cd o) 3 nx && (match (generalizing := false) sd with | [t] => tgt1 pc o t | _ => false)) = true := hE
    rw [Bool.and_eq_true] at hE
    obtain ⟨e1, e2⟩ := hE
    split at e2
    · cases cd
      · exact sn_icmp_eq C e1 rfl e2 h
      · exact sn_icmp_ne C e1 rfl e2 h
      · exact sn_icmp_lt C e1 rfl e2 h
      · exact sn_icmp_ge C e1 rfl e2 h
      · exact sn_icmp_gt C e1 rfl e2 h
      · exact sn_icmp_le C e1 rfl e2 h
    · cases e2
  | if_acmp cd o =>
    have hE : (dcd b pc (.if_acmp cd o) 3 nx && (match (generalizing := false) sd with | [t] => tgt1 pc o t | _ => false)) = true := hE
    rw [Bool.and_eq_true] at hE
    obtain ⟨e1, e2⟩ := hE
    split at e2
    · cases cd
      · exact sn_acmp_eq C e1 rfl e2 h
      · exact sn_acmp_ne C e1 rfl e2 h
    · cases e2
  | tableswitch d1 lo hi offs =>
    have hE : (match (generalizing := false) sd with
      | t :: m1 :: ts => decide (decode b pc = .ok (.tableswitch d1 lo hi offs, nx - pc)) && tgt1 pc d1 t && decide (hi = lo + (m1 : Int) - 1) && decide (lo = tlo v) && tgtL pc offs.toList ts && decide (offs.size = m1)
      | _ => false) = true := hE
    split at hE
    · simp only [Bool.and_eq_true, decide_eq_true_eq] at hE
      obtain ⟨⟨⟨⟨⟨e1, e2⟩, e3⟩, e4⟩, e5⟩, e6⟩ := hE
      exact sn_tsw C e1 rfl e2 e3 e4 e5 e6 h
    · cases hE
  | getstatic i =>
    have hZ : (match (generalizing := false) sd with
      | [r, t] => stL.any (fun q => Nat.beq q.2.2.2.1 r && Nat.beq q.2.2.2.2 t && lnkF h2 y.cls i q.1 q.2.1 q.2.2.1)
      | _ => false) = true := hZ
    split at hZ
    · rename_i r t
      obtain ⟨q, g1, g2⟩ := List.any_eq_true.mp hZ
      obtain ⟨a1, a2, a3, a4, a5⟩ := q
      simp only [Bool.and_eq_true] at g2
      obtain ⟨⟨g2, g3⟩, g4⟩ := g2
      have g2 := Nat.eq_of_beq_eq_true g2
      have g3 := Nat.eq_of_beq_eq_true g3
      subst g2 g3
      exact sn_getstatic C hE rfl g1 g4 h
    · cases hZ
  | getfield i =>
    have hE : (dcd b pc (.getfield i) 3 nx && (match (generalizing := false) sd with
      | [c, j, y1, ft] => bif Nat.beq c 9 then true else (match (generalizing := false) amCl[c]? with
        | some (_, T, N) => Nat.blt j N && lnkF h1 y.cls i (T j).1 (T j).2.1 (T j).2.2.1 && decide (fsr c j = (y1, ft)) && Nat.ble y1 1
        | none => false)
      | _ => false)) = true := hE
    rw [Bool.and_eq_true] at hE
    obtain ⟨e1, e2⟩ := hE
    split at e2
    · rename_i c1 j1 y1 ft
      have hZ : (bif Nat.beq c1 9 then (Nat.beq y1 2 && plF h2 y.cls i RX9 "direction" "I") || (Nat.beq y1 3 && plF h2 y.cls i RX9 "text" "Ljava/lang/String;") else (match (generalizing := false) amCl[c1]? with
        | some (_, T, _) => plF h2 y.cls i (T j1).1 (T j1).2.1 (T j1).2.2.1
        | none => false)) = true := hZ
      cases h9 : Nat.beq c1 9 with
      | true =>
        rw [h9] at hZ
        have h9 := Nat.eq_of_beq_eq_true h9
        subst h9
        have hZ : ((Nat.beq y1 2 && plF h2 y.cls i RX9 "direction" "I") || (Nat.beq y1 3 && plF h2 y.cls i RX9 "text" "Ljava/lang/String;")) = true := hZ
        simp only [Bool.or_eq_true, Bool.and_eq_true] at hZ
        exact sn_gettok C e1 rfl (hZ.imp (fun z => ⟨Nat.eq_of_beq_eq_true z.1, plF_spec C z.2⟩) (fun z => ⟨Nat.eq_of_beq_eq_true z.1, plF_spec C z.2⟩)) h
      | false =>
        rw [h9] at hZ e2
        have hn9 : ¬ c1 = 9 := fun z => by rw [beq_t z] at h9; cases h9
        cases hc : amCl[c1]? with
        | none => rw [hc] at e2; cases e2
        | some q =>
          obtain ⟨C1, T, N⟩ := q
          rw [hc] at e2 hZ
          have e2 : (Nat.blt j1 N && lnkF h1 y.cls i (T j1).1 (T j1).2.1 (T j1).2.2.1 && decide (fsr c1 j1 = (y1, ft)) && Nat.ble y1 1) = true := e2
          have hZ : plF h2 y.cls i (T j1).1 (T j1).2.1 (T j1).2.2.1 = true := hZ
          simp only [Bool.and_eq_true, decide_eq_true_eq] at e2
          obtain ⟨⟨⟨g1, g2⟩, g3⟩, g4⟩ := e2
          exact sn_getfield C e1 rfl hn9 hc (blt_lt g1) (plF_spec C hZ) g3 (Nat.le_of_ble_eq_true g4) h
    · cases e2
  | putfield i =>
    have hE : (dcd b pc (.putfield i) 3 nx && (match (generalizing := false) sd with
      | [c, j, y1, ft] => (match (generalizing := false) amCl[c]? with
        | some (_, T, N) => Nat.blt j N && lnkF h1 y.cls i (T j).1 (T j).2.1 (T j).2.2.1 && decide (fsr c j = (y1 % 4, ft)) && (match (generalizing := false) y1 with
          | 0 => decide ((T j).2.2.1 = "I")
          | 4 => decide ((T j).2.2.1 = "Z")
          | 1 => true
          | _ => false)
        | none => false)
      | _ => false)) = true := hE
    rw [Bool.and_eq_true] at hE
    obtain ⟨e1, e2⟩ := hE
    split at e2
    · rename_i c1 j1 y1 ft
      have hZ : (!Nat.beq c1 9 && (match (generalizing := false) amCl[c1]? with
        | some (_, T, _) => plF h2 y.cls i (T j1).1 (T j1).2.1 (T j1).2.2.1 && (!(T j1).2.2.2 || (decide (y.name = "<init>") && decide ((T j1).1 = y.cls)))
        | none => false)) = true := hZ
      cases hc : amCl[c1]? with
      | none => rw [hc] at e2; cases e2
      | some q =>
        obtain ⟨C1, T, N⟩ := q
        rw [hc] at e2 hZ
        have hZ : (!Nat.beq c1 9 && (plF h2 y.cls i (T j1).1 (T j1).2.1 (T j1).2.2.1 && (!(T j1).2.2.2 || (decide (y.name = "<init>") && decide ((T j1).1 = y.cls))))) = true := hZ
        simp only [Bool.and_eq_true, Bool.or_eq_true, Bool.not_eq_true', decide_eq_true_eq] at hZ
        obtain ⟨z1, z2, z3⟩ := hZ
        have e2 : (Nat.blt j1 N && lnkF h1 y.cls i (T j1).1 (T j1).2.1 (T j1).2.2.1 && decide (fsr c1 j1 = (y1 % 4, ft)) && (match (generalizing := false) y1 with
          | 0 => decide ((T j1).2.2.1 = "I")
          | 4 => decide ((T j1).2.2.1 = "Z")
          | 1 => true
          | _ => false)) = true := e2
        simp only [Bool.and_eq_true, decide_eq_true_eq] at e2
        obtain ⟨⟨⟨g1, g2⟩, g3⟩, g4⟩ := e2
        have hn9 : ¬ c1 = 9 := fun z => by rw [beq_t z] at z1; cases z1
        have hfin : (T j1).2.2.2 = false ∨ ((T j1).2.2.2 = true ∧ y.name = "<init>" ∧ (T j1).1 = y.cls) := by
          cases hf : (T j1).2.2.2 with
          | false => exact Or.inl rfl
          | true =>
            rw [hf] at z3
            exact Or.inr ⟨rfl, z3.resolve_left (fun z => nomatch z)⟩
        have hy : (y1 = 0 ∧ (T j1).2.2.1 = "I") ∨ (y1 = 4 ∧ (T j1).2.2.1 = "Z") ∨ y1 = 1 := by
          split at g4
          · exact Or.inl ⟨rfl, of_decide_eq_true g4⟩
          · exact Or.inr (Or.inl ⟨rfl, of_decide_eq_true g4⟩)
          · exact Or.inr (Or.inr rfl)
          · cases g4
        exact sn_putfield C e1 rfl hn9 hc (blt_lt g1) (plF_spec C z2) hfin g3 hy h
    · cases e2
  | new i =>
    rcases sd with _ | ⟨c1, _ | ⟨N1, _ | ⟨u, rest⟩⟩⟩
    · exact h.elim
    · cases c1 with
      | zero => cases hZ
      | succ k =>
        have hZ : (Nat.blt k 4 && hh.isEmpty && thB y.cls b pc i k) = true := hZ
        simp only [Bool.and_eq_true] at hZ
        obtain ⟨⟨z1, z2⟩, z3⟩ := hZ
        unfold thB at z3
        simp only [Bool.and_eq_true, decide_eq_true_eq] at z3
        obtain ⟨⟨⟨⟨z3, z4⟩, z5⟩, z6⟩, z7⟩ := z3
        refine sn_throw C rfl (blt_lt z1) z3 (List.isEmpty_iff.mp z2) (Nat.eq_of_beq_eq_true z4) z5 z6 ?_ h
        split at z7
        · rename_i is e9
          simp only [Bool.and_eq_true, decide_eq_true_eq] at z7
          obtain ⟨tx, g⟩ := msL_any z7.1.1
          exact Or.inl ⟨is, tx, g, e9, z7.1.2, z7.2⟩
        · rename_i is e9
          simp only [Bool.and_eq_true, decide_eq_true_eq] at z7
          obtain ⟨tx, g⟩ := msL_any z7.1.1
          exact Or.inr ⟨is, tx, g, e9, z7.1.2, z7.2⟩
        · cases z7
    · have hE : (dcd b pc (.new i) 3 nx && (match (generalizing := false) amCl[c1]? with
        | some (C, _, N') => Nat.beq N1 N' && wOK h1 (.classLink y.cls i C)
        | none => false)) = true := hE
      have hZ : (!Nat.beq c1 9) = true := hZ
      rw [Bool.not_eq_true'] at hZ
      have hn9 : ¬ c1 = 9 := fun z => by rw [beq_t z] at hZ; cases hZ
      rw [Bool.and_eq_true] at hE
      obtain ⟨e1, e2⟩ := hE
      cases hc : amCl[c1]? with
      | none => rw [hc] at e2; cases e2
      | some q =>
        obtain ⟨C1, T, N⟩ := q
        rw [hc] at e2
        have e2 : (Nat.beq N1 N && wOK h1 (.classLink y.cls i C1)) = true := e2
        rw [Bool.and_eq_true] at e2
        have e3 := Nat.eq_of_beq_eq_true e2.1
        subst e3
        exact sn_new C e1 rfl hn9 hc e2.2 h
    · exact h.elim
  | newarray ty =>
    have hE : (dcd b pc (.newarray ty) 2 nx && (match (generalizing := false) sd with
      | [s] => (match (generalizing := false) ty with | .int => Nat.beq s 1 | .boolean => Nat.beq s 2 | .byte => Nat.beq s 3 | .long => Nat.beq s 4 | _ => false)
      | _ => false)) = true := hE
    rw [Bool.and_eq_true] at hE
    obtain ⟨e1, e2⟩ := hE
    split at e2
    · split at e2
      · exact sn_newarray_int C e1 (by rw [Nat.eq_of_beq_eq_true e2]) h
      · exact sn_newarray_boolean C e1 (by rw [Nat.eq_of_beq_eq_true e2]) h
      · exact sn_newarray_byte C e1 (by rw [Nat.eq_of_beq_eq_true e2]) h
      · exact sn_newarray_long C e1 (by rw [Nat.eq_of_beq_eq_true e2]) h
      · cases e2
    · cases e2
  | anewarray i =>
    have hE : (dcd b pc (.anewarray i) 3 nx && (match (generalizing := false) sd with
      | [s] => Nat.ble 10 s && Nat.blt s 23 && (match (generalizing := false) nth clN (s - 10) with
        | some C => wOK h1 (.classLink y.cls i C)
        | none => false)
      | _ => false)) = true := hE
    rw [Bool.and_eq_true] at hE
    obtain ⟨e1, e2⟩ := hE
    split at e2
    · rename_i s1
      have hZ : (match (generalizing := false) nth clN (s1 - 10) with
        | some C => decide (C ∈ [RX1, RX6, RX8, RX9])
        | none => false) = true := hZ
      simp only [Bool.and_eq_true] at e2
      obtain ⟨⟨g1, g2⟩, g3⟩ := e2
      cases hc : nth clN (s1 - 10) with
      | none => rw [hc] at hZ; cases hZ
      | some C1 =>
        rw [hc] at hZ g3
        exact sn_anewarray C e1 rfl (Nat.le_of_ble_eq_true g1) (blt_lt g2) hc g3 (of_decide_eq_true hZ) h
    · cases e2
  | invokevirtual i =>
    have hE : (dcd b pc (.invokevirtual i) 3 nx && (match (generalizing := false) sd with
      | [999] => lnkM h1 y.cls i objectInit && (match (Instr.invokevirtual i) with | .invokespecial _ => true | _ => false)
      | [998] => true
      | [900] => (match (Instr.invokevirtual i) with | .invokestatic _ => true | _ => false)
      | [901] => (match (Instr.invokevirtual i) with | .invokevirtual _ => true | _ => false)
      | [902] => (match (Instr.invokevirtual i) with | .invokevirtual _ => true | _ => false)
      | [903] => (match (Instr.invokevirtual i) with | .invokestatic _ => true | _ => false)
      | [904] => (match (Instr.invokevirtual i) with | .invokestatic _ => true | _ => false)
      | [905] => (match (Instr.invokevirtual i) with | .invokestatic _ => true | _ => false)
      | k :: na :: _ => Nat.blt k nMeth && (match (generalizing := false) mtm k with
        | some (y1, _, _, _, st, ps, _) => lnkM h1 y.cls i y1 && (match (Instr.invokevirtual i), st with
          | .invokevirtual _, false => decide (y1.name ≠ "<init>") && decide (nth ps 4 = some (na - 1)) && Nat.ble 1 na
          | .invokestatic _, true => decide (nth ps 4 = some na)
          | .invokespecial _, false => decide (y1.name = "<init>") && decide (nth ps 4 = some (na - 1)) && Nat.ble 1 na
          | _, _ => false)
        | none => false)
      | _ => false)) = true := hE
    rw [Bool.and_eq_true] at hE
    obtain ⟨e1, e2⟩ := hE
    split at e2
    · rw [Bool.and_eq_true] at e2; cases e2.2
    · exact h.elim
    · cases e2
    · exact sn_slen C e1 rfl (plM_spec C hZ) h
    · exact sn_schar C e1 rfl (plM_spec C hZ) h
    · cases e2
    · cases e2
    · cases e2
    · rename_i k na hs1
      have hZ : (Nat.blt k 301 && hsB y.cls b mx pc hh hs1 && (match (Instr.invokevirtual i) with
        | .invokespecial _ => (match (generalizing := false) mtm k with
          | some (_, _, none, [], _, _, _) => true
          | _ => false)
        | _ => true)) = true := hZ
      simp only [Bool.and_eq_true] at hZ
      obtain ⟨⟨z1, z2⟩, z3⟩ := hZ
      rw [Bool.and_eq_true] at e2
      have e2 := e2.2
      cases hM : mtm k with
      | none => rw [hM] at e2; cases e2
      | some q =>
        obtain ⟨y1, b1, rt1, hh1, z, ps, ht⟩ := q
        rw [hM] at e2
        dsimp only at e2
        rw [Bool.and_eq_true] at e2
        obtain ⟨e2, e3⟩ := e2
        cases z <;> first | cases e3 | skip
        have e3 : (decide (y1.name ≠ "<init>") && decide (nth ps 4 = some (na - 1)) && Nat.ble 1 na) = true := e3
        simp only [Bool.and_eq_true, decide_eq_true_eq] at e3
        exact sn_invV C hok IH e1 rfl (blt_lt z1) hM e2 e3.1.1 e3.1.2 z2 h
    · cases e2
  | invokestatic i =>
    have hE : (dcd b pc (.invokestatic i) 3 nx && (match (generalizing := false) sd with
      | [999] => lnkM h1 y.cls i objectInit && (match (Instr.invokestatic i) with | .invokespecial _ => true | _ => false)
      | [998] => true
      | [900] => (match (Instr.invokestatic i) with | .invokestatic _ => true | _ => false)
      | [901] => (match (Instr.invokestatic i) with | .invokevirtual _ => true | _ => false)
      | [902] => (match (Instr.invokestatic i) with | .invokevirtual _ => true | _ => false)
      | [903] => (match (Instr.invokestatic i) with | .invokestatic _ => true | _ => false)
      | [904] => (match (Instr.invokestatic i) with | .invokestatic _ => true | _ => false)
      | [905] => (match (Instr.invokestatic i) with | .invokestatic _ => true | _ => false)
      | k :: na :: _ => Nat.blt k nMeth && (match (generalizing := false) mtm k with
        | some (y1, _, _, _, st, ps, _) => lnkM h1 y.cls i y1 && (match (Instr.invokestatic i), st with
          | .invokevirtual _, false => decide (y1.name ≠ "<init>") && decide (nth ps 4 = some (na - 1)) && Nat.ble 1 na
          | .invokestatic _, true => decide (nth ps 4 = some na)
          | .invokespecial _, false => decide (y1.name = "<init>") && decide (nth ps 4 = some (na - 1)) && Nat.ble 1 na
          | _, _ => false)
        | none => false)
      | _ => false)) = true := hE
    rw [Bool.and_eq_true] at hE
    obtain ⟨e1, e2⟩ := hE
    split at e2
    · rw [Bool.and_eq_true] at e2; cases e2.2
    · exact h.elim
    · exact sn_arraycopy C e1 rfl (plM_spec C hZ) h
    · cases e2
    · cases e2
    · exact sn_mabs C e1 rfl (plM_spec C hZ) h
    · exact sn_mmax C e1 rfl (plM_spec C hZ) h
    · exact sn_mmin C e1 rfl (plM_spec C hZ) h
    · rename_i k na hs1
      have hZ : (Nat.blt k 301 && hsB y.cls b mx pc hh hs1 && (match (Instr.invokestatic i) with
        | .invokespecial _ => (match (generalizing := false) mtm k with
          | some (_, _, none, [], _, _, _) => true
          | _ => false)
        | _ => true)) = true := hZ
      simp only [Bool.and_eq_true] at hZ
      obtain ⟨⟨z1, z2⟩, z3⟩ := hZ
      rw [Bool.and_eq_true] at e2
      have e2 := e2.2
      cases hM : mtm k with
      | none => rw [hM] at e2; cases e2
      | some q =>
        obtain ⟨y1, b1, rt1, hh1, z, ps, ht⟩ := q
        rw [hM] at e2
        dsimp only at e2
        rw [Bool.and_eq_true] at e2
        obtain ⟨e2, e3⟩ := e2
        cases z <;> first | cases e3 | skip
        exact sn_invS C hok IH e1 rfl (blt_lt z1) hM e2 (of_decide_eq_true e3) z2 h
    · cases e2
  | invokespecial i =>
    have hE : (dcd b pc (.invokespecial i) 3 nx && (match (generalizing := false) sd with
      | [999] => lnkM h1 y.cls i objectInit && (match (Instr.invokespecial i) with | .invokespecial _ => true | _ => false)
      | [998] => true
      | [900] => (match (Instr.invokespecial i) with | .invokestatic _ => true | _ => false)
      | [901] => (match (Instr.invokespecial i) with | .invokevirtual _ => true | _ => false)
      | [902] => (match (Instr.invokespecial i) with | .invokevirtual _ => true | _ => false)
      | [903] => (match (Instr.invokespecial i) with | .invokestatic _ => true | _ => false)
      | [904] => (match (Instr.invokespecial i) with | .invokestatic _ => true | _ => false)
      | [905] => (match (Instr.invokespecial i) with | .invokestatic _ => true | _ => false)
      | k :: na :: _ => Nat.blt k nMeth && (match (generalizing := false) mtm k with
        | some (y1, _, _, _, st, ps, _) => lnkM h1 y.cls i y1 && (match (Instr.invokespecial i), st with
          | .invokevirtual _, false => decide (y1.name ≠ "<init>") && decide (nth ps 4 = some (na - 1)) && Nat.ble 1 na
          | .invokestatic _, true => decide (nth ps 4 = some na)
          | .invokespecial _, false => decide (y1.name = "<init>") && decide (nth ps 4 = some (na - 1)) && Nat.ble 1 na
          | _, _ => false)
        | none => false)
      | _ => false)) = true := hE
    rw [Bool.and_eq_true] at hE
    obtain ⟨e1, e2⟩ := hE
    split at e2
    · exact sn_objinit C e1 rfl (plM_spec C hZ) h
    · exact h.elim
    · cases e2
    · cases e2
    · cases e2
    · cases e2
    · cases e2
    · cases e2
    · rename_i k na hs1
      have hZ : (Nat.blt k 301 && hsB y.cls b mx pc hh hs1 && (match (Instr.invokespecial i) with
        | .invokespecial _ => (match (generalizing := false) mtm k with
          | some (_, _, none, [], _, _, _) => true
          | _ => false)
        | _ => true)) = true := hZ
      simp only [Bool.and_eq_true] at hZ
      obtain ⟨⟨z1, z2⟩, z3⟩ := hZ
      rw [Bool.and_eq_true] at e2
      have e2 := e2.2
      cases hM : mtm k with
      | none => rw [hM] at e2; cases e2
      | some q =>
        obtain ⟨y1, b1, rt1, hh1, z, ps, ht⟩ := q
        rw [hM] at e2 z3
        dsimp only at e2 z3
        rw [Bool.and_eq_true] at e2
        obtain ⟨e2, e3⟩ := e2
        cases z <;> first | cases e3 | skip
        have e3 : (decide (y1.name = "<init>") && decide (nth ps 4 = some (na - 1)) && Nat.ble 1 na) = true := e3
        simp only [Bool.and_eq_true, decide_eq_true_eq] at e3
        split at z3
        · rename_i q
          cases q
          exact sn_invI C hok IH e1 rfl (blt_lt z1) hM e2 e3.1.1 e3.1.2 z2 h
        · cases z3
    · cases e2
  | ireturn =>
    have hZ : (match (generalizing := false) sd with
      | [] => decide (rt = some .int)
      | [_] => decide (rt = some .boolean)
      | _ => false) = true := hZ
    split at hZ
    · exact sn_ireturn C hE rfl (of_decide_eq_true hZ) h
    · exact sn_zreturn C hE rfl (of_decide_eq_true hZ) h
    · cases hZ
  | lreturn =>
    exact sn_lreturn C hE (of_decide_eq_true hZ) h
  | freturn =>
    exact sn_freturn C hE (of_decide_eq_true hZ) h
  | dreturn =>
    exact sn_dreturn C hE (of_decide_eq_true hZ) h
  | areturn =>
    have hZ : (match (generalizing := false) rt with
      | some (.object _) => true
      | some (.array _) => true
      | _ => false) = true := hZ
    split at hZ
    · exact sn_areturn C hE ⟨_, rfl, Or.inl ⟨_, rfl⟩⟩ h
    · exact sn_areturn C hE ⟨_, rfl, Or.inr ⟨_, rfl⟩⟩ h
    · cases hZ
  | return_ =>
    exact sn_return C hE (of_decide_eq_true hZ) h
  | _ =>
    exact h.elim
end
