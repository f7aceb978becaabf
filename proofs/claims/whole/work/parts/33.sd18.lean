/-! SOUNDNESS, 18: coder, isLatin1, length, checkIndex, charAt -/
theorem stOf {l : Launch} {G : GE} {D : va_G} {X : Ext} {k : Nat} {y : MethodName} {b : ByteArray} {mx : Nat} {rt : Option FieldType} {as : List Value} {r : Option Value} (g : Gd G X) (hl : l.stackTraces = false) (hy : plainName y.cls = true) (hn : (lg_sl as).length ≤ mx)
    (body : ∀ (p : Program) (e : Env) (s : State) (m : MethodId) (args : Array Value) (below : List Frame) (meth : Method) (c : Code) (ls : Array Slot), Cx G D X p l s m args meth c y b rt [] mx → lv_has ls mx (lv_args 0 as) → va_S (Af G) s.heap s.heap [] → W p l e (rmS k) s m args below meth c s.heap [] 0 0 (MQ below (sR r) args s 0 0 sF) (F0 m 0 ls [])) : sM l G D X k y b mx rt as r := by
  refine vx_ofW (cc := b) (maxL := mx) (ret := rt) hy rfl ?_
  intro p e s m args below meth c s₁ B hml ht hv
  obtain ⟨rfl, hW⟩ := hv
  have hx : c.exceptionTable.toList = tableOf [] := by
    cases hc : c.exceptionTable.toList with
    | nil => rfl
    | cons x xs => exact (ht x (by rw [hc]; exact List.mem_cons_self)).elim
  have C := Cx.of (hh := []) B hml hx hW g hl
  have h1 := lv_entry as hn
  rw [lg_entry_eq]
  generalize (lg_sl as ++ List.replicate (mx - (lg_sl as).length) Slot.unset).toArray = ls at h1 ⊢
  exact vx_ret (body p e s m as.toArray below meth c ls C h1 va_S.rf)
section
variable {l : Launch} {G : GE} {D : va_G} {X : Ext}
theorem st_coder (g : Gd G X) (hl : l.stackTraces = false) {i : Nat} (hi : i < 15) : sM l G D X 0 yJ0_coder_7d493 cJ0_coder_7d493 1 (some .byte) [.ref (G.2.2.1 (10050 + i))] (some (.int 0)) := by
  refine stOf g hl (by decide) (Nat.le_of_ble_eq_true rfl) (fun p e s m args below meth c ls C h1 hS => ?_)
  have hE := C.wd.2.2.2.2.2.2.1
  refine va_gets C.1 C.2.1 C.wd.2.2.2.2.2.2.2.1 hS C.own (C.hin _ (st_in 0 strtab rfl)) (fun _ h => h) (show decode cJ0_coder_7d493 0 = .ok (.getstatic 38, 3) by decide +kernel) ?_
  refine lv_if_eq C.1 C.2.1 (show decode cJ0_coder_7d493 3 = .ok (.ifCond .eq 10, 3) by decide +kernel) (tgt := 13) rfl (fun h => absurd h (by decide)) (fun _ => ?_)
  refine lv_aload_n C.1 C.2.1 (show decode cJ0_coder_7d493 6 = .ok (.aload_n 0, 1) by decide +kernel) rfl (lv_at h1 0 rfl) ?_
  refine vk_getf C.1 C.2.1 (hE.1 i hi).2.1 hS C.own (C.hin _ (st_in 1 strtab rfl)) (fun _ h => h) (show decode cJ0_coder_7d493 7 = .ok (.getfield 15, 3) by decide +kernel) ?_
  refine lv_goto C.1 C.2.1 (show decode cJ0_coder_7d493 10 = .ok (.goto 4, 3) by decide +kernel) (tgt := 14) rfl ?_
  exact W.zret C.1 C.2.1 C.2.2.2.1 rfl (fun t ht _ => ⟨rfl, ht⟩) (fun q h => nomatch h) (show decode cJ0_coder_7d493 14 = .ok (.ireturn, 1) by decide +kernel) C.2.2.2.2.1
theorem st_lat (g : Gd G X) (hl : l.stackTraces = false) {i : Nat} (hi : i < 15) : sM l G D X 0 yJ0_isLatin1_aae02 cJ0_isLatin1_aae02 1 (some .boolean) [.ref (G.2.2.1 (10050 + i))] (some (.int 1)) := by
  refine stOf g hl (by decide) (Nat.le_of_ble_eq_true rfl) (fun p e s m args below meth c ls C h1 hS => ?_)
  have hE := C.wd.2.2.2.2.2.2.1
  refine va_gets C.1 C.2.1 C.wd.2.2.2.2.2.2.2.1 hS C.own (C.hin _ (st_in 0 strtab rfl)) (fun _ h => h) (show decode cJ0_isLatin1_aae02 0 = .ok (.getstatic 38, 3) by decide +kernel) ?_
  refine lv_if_eq C.1 C.2.1 (show decode cJ0_isLatin1_aae02 3 = .ok (.ifCond .eq 14, 3) by decide +kernel) (tgt := 17) rfl (fun h => absurd h (by decide)) (fun _ => ?_)
  refine lv_aload_n C.1 C.2.1 (show decode cJ0_isLatin1_aae02 6 = .ok (.aload_n 0, 1) by decide +kernel) rfl (lv_at h1 0 rfl) ?_
  refine vk_getf C.1 C.2.1 (hE.1 i hi).2.1 hS C.own (C.hin _ (st_in 1 strtab rfl)) (fun _ h => h) (show decode cJ0_isLatin1_aae02 7 = .ok (.getfield 15, 3) by decide +kernel) ?_
  refine lv_if_ne C.1 C.2.1 (show decode cJ0_isLatin1_aae02 10 = .ok (.ifCond .ne 7, 3) by decide +kernel) (tgt := 17) rfl (fun h => absurd rfl h) (fun _ => ?_)
  refine lv_iconst C.1 C.2.1 (show decode cJ0_isLatin1_aae02 13 = .ok (.iconst 1, 1) by decide +kernel) (v := 1) rfl ?_
  refine lv_goto C.1 C.2.1 (show decode cJ0_isLatin1_aae02 14 = .ok (.goto 4, 3) by decide +kernel) (tgt := 18) rfl ?_
  exact W.zret C.1 C.2.1 C.2.2.2.1 rfl (fun t ht _ => ⟨rfl, ht⟩) (fun q h => nomatch h) (show decode cJ0_isLatin1_aae02 18 = .ok (.ireturn, 1) by decide +kernel) C.2.2.2.2.1
theorem shr0 {k : Nat} (h : k < 1000) : Int32.ofNat k >>> ((0 : Int32) &&& 31) = Int32.ofNat k := by
  have : ((0 : Int32) &&& 31) = 0 := by decide
  rw [this, Int32.shiftRight_zero]
theorem len_lt : ∀ i, i < 15 → lenS.getD i 0 < 10 := by decide
theorem st_length (g : Gd G X) (hl : l.stackTraces = false) {i : Nat} (hi : i < 15) : sM l G D X 1 yJ0_length_8abf5 cJ0_length_8abf5 1 (some .int) [.ref (G.2.2.1 (10050 + i))] (some (.int (Int32.ofNat (lenS.getD i 0)))) := by
  refine stOf g hl (by decide) (Nat.le_of_ble_eq_true rfl) (fun p e s m args below meth c ls C h1 hS => ?_)
  have hE := C.wd.2.2.2.2.2.2.1
  refine lv_aload_n C.1 C.2.1 (show decode cJ0_length_8abf5 0 = .ok (.aload_n 0, 1) by decide +kernel) rfl (lv_at h1 0 rfl) ?_
  refine vk_getf C.1 C.2.1 (hE.1 i hi).2.2.1 hS C.own (C.hin _ (st_in 2 strtab rfl)) (fun _ h => h) (show decode cJ0_length_8abf5 1 = .ok (.getfield 9, 3) by decide +kernel) ?_
  refine va_tlen C.1 C.2.1 (hE.1 i hi).2.2.2 hS rfl (show decode cJ0_length_8abf5 4 = .ok (.arraylength, 1) by decide +kernel) ?_
  refine lv_aload_n C.1 C.2.1 (show decode cJ0_length_8abf5 5 = .ok (.aload_n 0, 1) by decide +kernel) rfl (lv_at h1 0 rfl) ?_
  refine ss_callV (as := []) C hS hi (st_coder g hl hi) rfl (C.hin _ (st_in 4 strtab rfl)) (st_in 5 strtab rfl) (st_in 6 strtab rfl) (st_in 7 strtab rfl) (st_in 19 strtab rfl) (by decide) ⟨Nat.le_refl _, Nat.le_refl _⟩ (by decide) (by decide) h1.1 (Nat.le_of_ble_eq_true rfl) (show decode cJ0_length_8abf5 6 = .ok (.invokevirtual 335, 3) by decide +kernel) ?_
  refine lv_ishr C.1 C.2.1 (show decode cJ0_length_8abf5 9 = .ok (.ishr, 1) by decide +kernel) ?_
  rw [shr0 (by have := len_lt i hi; omega)]
  exact W.iret C.1 C.2.1 C.2.2.2.1 (fun t ht _ => ⟨rfl, ht⟩) (fun q h => nomatch h) (show decode cJ0_length_8abf5 10 = .ok (.ireturn, 1) by decide +kernel) C.2.2.2.2.1
theorem st_pre (g : Gd G X) (hl : l.stackTraces = false) {i n : Int32} {w : Value} (hw : w = .null ∨ ∃ t, w = .ref t) (h0 : ¬ i < 0) (hin : i < n) : sM l G D X 0 yJ3_checkIndex_8e157 cJ3_checkIndex_8e157 3 (some .int) [.int i, .int n, w] (some (.int i)) := by
  refine stOf g hl (by decide) (by rcases hw with rfl | ⟨t, rfl⟩ <;> exact Nat.le_of_ble_eq_true rfl) (fun p e s m args below meth c ls C h1 hS => ?_)
  refine lv_iload_n C.1 C.2.1 (show decode cJ3_checkIndex_8e157 0 = .ok (.iload_n 0, 1) by decide +kernel) rfl (lv_at h1 0 rfl) ?_
  refine lv_if_lt C.1 C.2.1 (show decode cJ3_checkIndex_8e157 1 = .ok (.ifCond .lt 8, 3) by decide +kernel) (tgt := 9) rfl (fun h => absurd h h0) (fun _ => ?_)
  refine lv_iload_n C.1 C.2.1 (show decode cJ3_checkIndex_8e157 4 = .ok (.iload_n 0, 1) by decide +kernel) rfl (lv_at h1 0 rfl) ?_
  refine lv_iload_n C.1 C.2.1 (show decode cJ3_checkIndex_8e157 5 = .ok (.iload_n 1, 1) by decide +kernel) rfl (lv_at h1 1 rfl) ?_
  refine lv_icmp_lt C.1 C.2.1 (show decode cJ3_checkIndex_8e157 6 = .ok (.if_icmp .lt 10, 3) by decide +kernel) (tgt := 16) rfl (fun _ => ?_) (fun h => absurd hin h)
  refine lv_iload_n C.1 C.2.1 (show decode cJ3_checkIndex_8e157 16 = .ok (.iload_n 0, 1) by decide +kernel) rfl (lv_at h1 0 rfl) ?_
  exact W.iret C.1 C.2.1 C.2.2.2.1 (fun t ht _ => ⟨rfl, ht⟩) (fun q h => nomatch h) (show decode cJ3_checkIndex_8e157 17 = .ok (.ireturn, 1) by decide +kernel) C.2.2.2.2.1
theorem st_chk (g : Gd G X) (hl : l.stackTraces = false) {i n : Int32} (h0 : ¬ i < 0) (hin : i < n) : sM l G D X 1 yJ0_checkIndex_df160 cJ0_checkIndex_df160 2 none [.int i, .int n] none := by
  refine stOf g hl (by decide) (Nat.le_of_ble_eq_true rfl) (fun p e s m args below meth c ls C h1 hS => ?_)
  refine lv_iload_n C.1 C.2.1 (show decode cJ0_checkIndex_df160 0 = .ok (.iload_n 0, 1) by decide +kernel) rfl (lv_at h1 0 rfl) ?_
  refine lv_iload_n C.1 C.2.1 (show decode cJ0_checkIndex_df160 1 = .ok (.iload_n 1, 1) by decide +kernel) rfl (lv_at h1 1 rfl) ?_
  have hgs := C.hin _ (st_in 3 strtab rfl)
  have key : ∀ w : Value, (w = .null ∨ ∃ t, w = .ref t) → W p l e (rmS 1) s m args below meth c s.heap [] 0 0 (MQ below (sR none) args s 0 0 sF) (F0 m 5 ls [w, .int n, .int i]) := by
    intro w hw
    refine ss_callS (as := [.int i, .int n, w]) (rest := []) C hS (st_pre g hl hw h0 hin) (by decide) (C.hin _ (st_in 12 strtab rfl)) (st_in 13 strtab rfl) (st_in 14 strtab rfl) (st_in 15 strtab rfl) (by show _ = some 3; decide) ⟨Nat.le_refl _, Nat.le_refl _⟩ (by decide) (by decide) h1.1 (Nat.le_of_ble_eq_true rfl) (show decode cJ0_checkIndex_df160 5 = .ok (.invokestatic 1059, 3) by decide +kernel) ?_
    refine lv_pop C.1 C.2.1 (show decode cJ0_checkIndex_df160 8 = .ok (.pop, 1) by decide +kernel) rfl ?_
    exact W.vret C.1 C.2.1 C.2.2.2.1 (fun t ht _ => ⟨rfl, ht⟩) (fun q h => nomatch h) (show decode cJ0_checkIndex_df160 9 = .ok (.return_, 1) by decide +kernel) C.2.2.2.2.1
  rcases C.wd.2.2.2.2.2.2.2.2.1 with hz | ⟨t, hz⟩
  · exact va_gets C.1 C.2.1 hz hS C.own hgs (fun _ h => h) (show decode cJ0_checkIndex_df160 2 = .ok (.getstatic 1053, 3) by decide +kernel) (key _ (Or.inl rfl))
  · exact va_gets C.1 C.2.1 hz hS C.own hgs (fun _ h => h) (show decode cJ0_checkIndex_df160 2 = .ok (.getstatic 1053, 3) by decide +kernel) (key _ (Or.inr ⟨_, rfl⟩))
theorem byt_ok : ∀ i, i < 15 → ∀ j, j < lenS.getD i 0 → (((bytS.getD i []).getD j 0 &&& 255).toUInt32 % 65536).toInt32 = (bytS.getD i []).getD j 0 ∧ narrow .char (.int ((bytS.getD i []).getD j 0)) = .int ((bytS.getD i []).getD j 0) := by decide
theorem lenI_lt {i k : Nat} (hi : i < 15) (hk : k < lenS.getD i 0) : ¬ Int32.ofNat k < 0 ∧ Int32.ofNat k < Int32.ofNat (lenS.getD i 0) ∧ (Int32.ofNat k).toNatClampNeg = k := by
  have h1 := len_lt i hi
  have e : ∀ z, z < 10 → (Int32.ofNat z).toInt = (z : Int) := fun z hz => Int32.toInt_ofNat_of_lt (by omega)
  refine ⟨fun h => ?_, Int32.lt_iff_toInt_lt.mpr (by rw [e k (by omega), e _ h1]; omega), Int32.toNatClampNeg_ofNat_of_lt (by omega)⟩
  have h2 := Int32.lt_iff_toInt_lt.mp h
  rw [e k (by omega)] at h2
  have h3 : (0 : Int32).toInt = 0 := rfl
  omega
theorem st_lch (g : Gd G X) (hl : l.stackTraces = false) {i : Nat} (hi : i < 15) {k : Nat} (hk : k < lenS.getD i 0) : sM l G D X 2 yJ1_charAt_3b067 cJ1_charAt_3b067 2 (some .char) [.ref (G.2.2.1 (10070 + i)), .int (Int32.ofNat k)] (some (.int ((bytS.getD i []).getD k 0))) := by
  refine stOf g hl (by decide) (Nat.le_of_ble_eq_true rfl) (fun p e s m args below meth c ls C h1 hS => ?_)
  obtain ⟨k1, k2, k3⟩ := lenI_lt hi hk
  have hT := (C.wd.2.2.2.2.2.2.1.1 i hi).2.2.2
  obtain ⟨b1, b2⟩ := byt_ok i hi k hk
  refine lv_iload_n C.1 C.2.1 (show decode cJ1_charAt_3b067 0 = .ok (.iload_n 1, 1) by decide +kernel) rfl (lv_at h1 1 rfl) ?_
  refine lv_aload_n C.1 C.2.1 (show decode cJ1_charAt_3b067 1 = .ok (.aload_n 0, 1) by decide +kernel) rfl (lv_at h1 0 rfl) ?_
  refine va_tlen C.1 C.2.1 hT hS rfl (show decode cJ1_charAt_3b067 2 = .ok (.arraylength, 1) by decide +kernel) ?_
  refine ss_callS (as := [.int (Int32.ofNat k), .int (Int32.ofNat (lenS.getD i 0))]) (rest := []) C hS (st_chk g hl k1 k2) (by decide) (C.hin _ (st_in 16 strtab rfl)) (st_in 17 strtab rfl) (st_in 18 strtab rfl) (st_in 19 strtab rfl) (by show _ = some 2; decide) ⟨Nat.le_refl _, Nat.le_refl _⟩ (by decide) (by decide) h1.1 (Nat.le_of_ble_eq_true rfl) (show decode cJ1_charAt_3b067 3 = .ok (.invokestatic 9, 3) by decide +kernel) ?_
  refine lv_aload_n C.1 C.2.1 (show decode cJ1_charAt_3b067 6 = .ok (.aload_n 0, 1) by decide +kernel) rfl (lv_at h1 0 rfl) ?_
  refine lv_iload_n C.1 C.2.1 (show decode cJ1_charAt_3b067 7 = .ok (.iload_n 1, 1) by decide +kernel) rfl (lv_at h1 1 rfl) ?_
  refine va_tb C.1 C.2.1 hT hS (i := Int32.ofNat k) (fun z => by
    rcases z with z | z
    · exact k1 z
    · rw [k3] at z; omega) (v := .int ((bytS.getD i []).getD k 0)) (by rw [k3]) (show decode cJ1_charAt_3b067 8 = .ok (.baload, 1) by decide +kernel) ?_
  refine lv_sipush C.1 C.2.1 (show decode cJ1_charAt_3b067 9 = .ok (.sipush 255, 3) by decide +kernel) (v := 255) rfl ?_
  refine lv_iand C.1 C.2.1 (show decode cJ1_charAt_3b067 12 = .ok (.iand, 1) by decide +kernel) ?_
  refine lv_i2c C.1 C.2.1 (show decode cJ1_charAt_3b067 13 = .ok (.i2c, 1) by decide +kernel) b1 ?_
  exact W.zret C.1 C.2.1 C.2.2.2.1 b2 (fun t ht _ => ⟨rfl, ht⟩) (fun q h => nomatch h) (show decode cJ1_charAt_3b067 14 = .ok (.ireturn, 1) by decide +kernel) C.2.2.2.2.1
theorem st_char (g : Gd G X) (hl : l.stackTraces = false) {i : Nat} (hi : i < 15) {k : Nat} (hk : k < lenS.getD i 0) : sM l G D X 3 yJ0_charAt_5068e cJ0_charAt_5068e 2 (some .char) [.ref (G.2.2.1 (10050 + i)), .int (Int32.ofNat k)] (some (.int ((bytS.getD i []).getD k 0))) := by
  refine stOf g hl (by decide) (Nat.le_of_ble_eq_true rfl) (fun p e s m args below meth c ls C h1 hS => ?_)
  have hE := C.wd.2.2.2.2.2.2.1
  obtain ⟨b1, b2⟩ := byt_ok i hi k hk
  refine lv_aload_n C.1 C.2.1 (show decode cJ0_charAt_5068e 0 = .ok (.aload_n 0, 1) by decide +kernel) rfl (lv_at h1 0 rfl) ?_
  refine ss_callV (as := []) (rest := []) C hS hi (st_lat g hl hi) rfl (C.hin _ (st_in 8 strtab rfl)) (st_in 9 strtab rfl) (st_in 10 strtab rfl) (st_in 11 strtab rfl) (st_in 19 strtab rfl) (by decide) ⟨Nat.le_refl _, Nat.le_refl _⟩ (by decide) (by decide) h1.1 (Nat.le_of_ble_eq_true rfl) (show decode cJ0_charAt_5068e 1 = .ok (.invokevirtual 492, 3) by decide +kernel) ?_
  refine lv_if_eq C.1 C.2.1 (show decode cJ0_charAt_5068e 4 = .ok (.ifCond .eq 12, 3) by decide +kernel) (tgt := 16) rfl (fun h => absurd h (by decide)) (fun _ => ?_)
  refine lv_aload_n C.1 C.2.1 (show decode cJ0_charAt_5068e 7 = .ok (.aload_n 0, 1) by decide +kernel) rfl (lv_at h1 0 rfl) ?_
  refine vk_getf C.1 C.2.1 (hE.1 i hi).2.2.1 hS C.own (C.hin _ (st_in 2 strtab rfl)) (fun _ h => h) (show decode cJ0_charAt_5068e 8 = .ok (.getfield 9, 3) by decide +kernel) ?_
  refine lv_iload_n C.1 C.2.1 (show decode cJ0_charAt_5068e 11 = .ok (.iload_n 1, 1) by decide +kernel) rfl (lv_at h1 1 rfl) ?_
  refine ss_callS (as := [.ref (G.2.2.1 (10070 + i)), .int (Int32.ofNat k)]) (rest := []) C hS (st_lch g hl hi hk) (by decide) (C.hin _ (st_in 21 strtab rfl)) (st_in 22 strtab rfl) (st_in 23 strtab rfl) (st_in 20 strtab rfl) (by show _ = some 2; decide) ⟨Nat.le_refl _, Nat.le_refl _⟩ (by decide) (by decide) h1.1 (Nat.le_of_ble_eq_true rfl) (show decode cJ0_charAt_5068e 12 = .ok (.invokestatic 495, 3) by decide +kernel) ?_
  exact W.zret C.1 C.2.1 C.2.2.2.1 b2 (fun t ht _ => ⟨rfl, ht⟩) (fun q h => nomatch h) (show decode cJ0_charAt_5068e 15 = .ok (.ireturn, 1) by decide +kernel) C.2.2.2.2.1
end
section
variable {G : GE} {D : va_G} {X : Ext} {p : Program} {l : Launch} {e : Env} {s : State} {m : MethodId} {args : Array Value} {below : List Frame} {meth : Method} {c : Code} {y : MethodName} {b : ByteArray} {rt : Option FieldType} {hh : List (Nat × Nat × Nat × Nat)} {mx d mc ms n : Nat} {Q : AQ} {CC : CT} {I : HI} {L : HL} {A : HA} {ls st : List AV} {rc rs : Nat} {pc nx : Nat} {sd : List Nat} {v : Value} {H : Heap} {locs : List Loc} {arr : Array Slot} {cells slots : Nat}
theorem sn_slen {i1 : Nat} (C : Cx G D X p l s m args meth c y b rt hh mx) (hd : dcd b pc (.invokevirtual i1) 3 nx = true) (hs : sd = [901]) (hk : (Cond.methodLink y.cls i1 yJ0_length_8abf5).before args s = true)
    (h : stp X G.2.2.2 CC Q (PW G D p l e s m args below meth c mx d mc ms Q) (.invokevirtual i1) nx sd v ls st rc rs n I L A) : PW G D p l e s m args below meth c mx d mc ms Q pc ls st rc rs n I L A := by
  obtain ⟨hdg, rfl⟩ := dcd_spec hd
  subst hs
  rcases st with _ | ⟨⟨w, t1⟩, r9⟩
  · exact h.elim
  cases w <;> first | exact h.elim | skip
  · rename_i r1
    have h7 : (bif Nat.beq t1 20 && Nat.ble (catS r9) 8 then PW G D p l e s m args below meth c mx d mc ms Q (pc + 3) ls ((.int (Int32.ofNat (X.2.2.2.1 r1)), 0) :: r9) rc rs n I L A else False) := h
    intro H locs arr cells slots S
    cases hb : (Nat.beq t1 20 && Nat.ble (catS r9) 8) with
    | false => rw [hb] at h7; exact h7.elim
    | true =>
      rw [hb] at h7
      rw [Bool.and_eq_true] at hb
      have e1 := Nat.eq_of_beq_eq_true hb.1
      have hb8 := Nat.le_of_ble_eq_true hb.2
      subst e1
      have hcc := S.2.2.2.2.2.2.1
      have hss := S.2.2.2.2.2.2.2
      rcases (wfl_hd S.stk rfl).2 rfl with ⟨h1, -⟩ | ⟨-, i, hi, h1⟩ | h1
      · cases h1
      · have h1 : r1 = 10050 + i := h1
        subst h1
        rw [List.map_cons, cv_ext (show ownT 20 = false from rfl)]
        have k := h7 _ _ _ _ _ (S.to (wfl_cons (v := (.int (Int32.ofNat (X.2.2.2.1 (10050 + i))), 0)) wfi (wfl_tl S.stk)))
        rw [(C.2.2.2.2.2.2.2.2.2.2.1.2.2.1 i hi).1] at k
        exact ss_callV (as := []) C S.2.1 hi (st_length C.2.2.2.2.2.2.2.2.2.2.1 C.2.2.2.2.2.2.2.2.2.2.2 hi) rfl hk (st_in 24 strtab rfl) (st_in 25 strtab rfl) (st_in 26 strtab rfl) (st_in 19 strtab rfl) (by decide) ⟨show cells ≤ mc by omega, show slots ≤ ms by omega⟩ (show 1 + 1 ≤ d + 30 by omega) (show 8 + (1 + 11) + 60 * 1 ≤ 50 * d + 500 by omega) S.hl.1 (by rw [catS_sum]; exact hb8) hdg k
      · exact absurd h1 (show ¬ (r1, 20) ∈ statL by simp [statL])
theorem sn_schar {i1 : Nat} (C : Cx G D X p l s m args meth c y b rt hh mx) (hd : dcd b pc (.invokevirtual i1) 3 nx = true) (hs : sd = [902]) (hk : (Cond.methodLink y.cls i1 yJ0_charAt_5068e).before args s = true)
    (h : stp X G.2.2.2 CC Q (PW G D p l e s m args below meth c mx d mc ms Q) (.invokevirtual i1) nx sd v ls st rc rs n I L A) : PW G D p l e s m args below meth c mx d mc ms Q pc ls st rc rs n I L A := by
  obtain ⟨hdg, rfl⟩ := dcd_spec hd
  subst hs
  rcases st with _ | ⟨⟨w, t1⟩, _ | ⟨⟨w2, t2⟩, r9⟩⟩
  · exact h.elim
  · cases w <;> exact h.elim
  cases w <;> first | exact h.elim | skip
  cases w2 <;> first | exact h.elim | skip
  · rename_i k1 r1
    have h7 : (bif Nat.beq t2 20 && Nat.ble (catS r9) 8 then (inb k1 (X.2.2.2.1 r1) ∧ PW G D p l e s m args below meth c mx d mc ms Q (pc + 3) ls ((.int (X.2.2.2.2.1 r1 k1.toNatClampNeg), 0) :: r9) rc rs n I L A) else False) := h
    intro H locs arr cells slots S
    cases hb : (Nat.beq t2 20 && Nat.ble (catS r9) 8) with
    | false => rw [hb] at h7; exact h7.elim
    | true =>
      rw [hb] at h7
      obtain ⟨hin, h7⟩ := h7
      rw [Bool.and_eq_true] at hb
      have e1 := Nat.eq_of_beq_eq_true hb.1
      have hb8 := Nat.le_of_ble_eq_true hb.2
      subst e1
      have hcc := S.2.2.2.2.2.2.1
      have hss := S.2.2.2.2.2.2.2
      rcases (wfl_hd (wfl_tl S.stk) rfl).2 rfl with ⟨h1, -⟩ | ⟨-, i, hi, h1⟩ | h1
      · cases h1
      · have h1 : r1 = 10050 + i := h1
        subst h1
        obtain ⟨x1, x2⟩ := C.2.2.2.2.2.2.2.2.2.2.1.2.2.1 i hi
        rw [x1] at hin
        have hlt := hin.2
        have hk1 : k1 = Int32.ofNat k1.toNatClampNeg := by
          apply Int32.toInt.inj
          have := len_lt i hi
          rw [Int32.toInt_ofNat_of_lt (by omega)]
          exact toNat_nn hin.1
        have k := h7 _ _ _ _ _ (S.to (wfl_cons (v := (.int (X.2.2.2.2.1 (10050 + i) k1.toNatClampNeg), 0)) wfi (wfl_tl (wfl_tl S.stk))))
        rw [x2 _ hlt] at k
        rw [List.map_cons, List.map_cons, cv_ext (show ownT 20 = false from rfl)]
        have goal := ss_callV (as := [.int (Int32.ofNat k1.toNatClampNeg)]) C S.2.1 hi (st_char C.2.2.2.2.2.2.2.2.2.2.1 C.2.2.2.2.2.2.2.2.2.2.2 hi hlt) rfl hk (st_in 27 strtab rfl) (st_in 28 strtab rfl) (st_in 29 strtab rfl) (st_in 19 strtab rfl) (by show _ = some 1; decide) ⟨show cells ≤ mc by omega, show slots ≤ ms by omega⟩ (show 3 + 1 ≤ d + 30 by omega) (show 8 + (2 + 11) + 60 * 3 ≤ 50 * d + 500 by omega) S.hl.1 (rest := r9.map (cv G)) (by rw [catS_sum]; exact hb8) hdg k
        rw [← hk1] at goal
        exact goal
      · exact absurd h1 (show ¬ (r1, 20) ∈ statL by simp [statL])
end
