/-! SOUNDNESS, 18b: a text by a wide index -/
section
variable {p : Program} {l : Launch} {e : Env} {R : Room} {s : State} {m : MethodId} {args : Array Value} {below : List Frame} {meth : Method} {c : Code} {H : Heap} {locs : List Loc} {cells slots : Nat} {Q : State → Prop} {cc : ByteArray} {pc : Nat} {ls : Array Slot} {rest : List Value}
theorem wd_ldcSW (hexec : p.tables.exec = Jvm.exec) (hb : c.code = cc) {own tx : String} {index q : Nat} (hown : s.vm.findClass own = some m.cls) (hZ : vk_R own index tx q s) (hdg : decode cc pc = .ok (.ldc_w index, 3))
    (k : W p l e R s m args below meth c H locs cells slots Q (F0 m (pc + 3) ls (.ref q :: rest))) : W p l e R s m args below meth c H locs cells slots Q (F0 m pc ls rest) := by
  intro T hT X
  obtain ⟨t, a1, b1⟩ := k T hT X
  exact ⟨t, X.ldcStringW hexec hown (text := tx) (a := q) hZ.1 hZ.2 (g := F0 m pc ls rest) rfl (by rw [hb]; exact hdg) t a1, b1⟩
end
section
variable {G : GE} {D : va_G} {X : Ext} {p : Program} {l : Launch} {e : Env} {s : State} {m : MethodId} {args : Array Value} {below : List Frame} {meth : Method} {c : Code} {y : MethodName} {b : ByteArray} {rt : Option FieldType} {hh : List (Nat × Nat × Nat × Nat)} {mx d mc ms n : Nat} {Q : AQ} {CC : CT} {I : HI} {L : HL} {A : HA} {ls st : List AV} {rc rs : Nat} {pc nx : Nat} {sd : List Nat} {v : Value} {H : Heap} {locs : List Loc} {arr : Array Slot} {cells slots : Nat}
theorem sn_ldcSW {i1 r1 : Nat} {t1 : String} (C : Cx G D X p l s m args meth c y b rt hh mx) (hd : dcd b pc (.ldc_w i1) 3 nx = true) (hs : sd = [r1, 20]) (hm : (y.cls, i1, t1, r1) ∈ ldL) (hr : wX r1 20) (h : stp X G.2.2.2 CC Q (PW G D p l e s m args below meth c mx d mc ms Q) (.ldc_w i1) nx sd v ls st rc rs n I L A) : PW G D p l e s m args below meth c mx d mc ms Q pc ls st rc rs n I L A := by
  obtain ⟨hdg, rfl⟩ := dcd_spec hd
  dsimp only [stp] at h
  intro H locs arr cells slots S
  subst hs
  exact wd_ldcSW C.1 C.2.1 C.2.2.2.2.2.2.1 (C.2.2.2.2.2.2.2.2.2.1.2.2.2.2.2.1 _ hm) hdg (h _ _ _ _ _ (S.to (wfl_cons (v := (.ref r1, 20)) ⟨fun q => (by cases q), fun _ => hr⟩ S.stk)))
end
