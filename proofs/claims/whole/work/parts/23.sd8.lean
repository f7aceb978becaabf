/-! SOUNDNESS, 8: fields, arrays, new things -/
section
variable {G : GE} {D : va_G} {X : Ext} {p : Program} {l : Launch} {e : Env} {s : State} {m : MethodId} {args : Array Value} {below : List Frame} {meth : Method} {c : Code} {y : MethodName} {b : ByteArray} {rt : Option FieldType} {hh : List (Nat × Nat × Nat × Nat)} {mx d mc ms n : Nat} {Q : AQ} {CC : CT} {I : HI} {L : HL} {A : HA} {ls st : List AV} {rc rs : Nat} {pc nx : Nat} {sd : List Nat} {v : Value} {H : Heap} {locs : List Loc} {arr : Array Slot} {cells slots : Nat}
theorem Cx.kn (C : Cx G D X p l s m args meth c y b rt hh mx) : va_K D amCl (tysL G) s := C.2.2.2.2.2.2.2.2.2.1.1
theorem SI.cell (S : SI G D s mx mc ms n I L A ls st rc rs H locs arr cells slots) {r t : Nat} (hw : wfv G n (.ref r, t)) (ho : ownT t = true) : r < n ∧ G.2.2.2 r = t ∧ ¬ G.2.2.2 r = 0 ∧ (wsl G I L A n)[wix G r]? = some (G.1 + r, ent G I L A r t) := by
  obtain ⟨h1, h2⟩ := hw.1 ho
  have h2 : G.2.2.2 r = t := h2
  have h3 : ¬ G.2.2.2 r = 0 := fun z => by rw [h2] at z; subst z; cases ho
  exact ⟨h1, h2, h3, by rw [← h2]; exact wsl_at h1 h3⟩
theorem SI.P (S : SI G D s mx mc ms n I L A ls st rc rs H locs arr cells slots) : va_P D amCl (wsl G I L A n) H := S.1.2.1
/-- behind a writing -/
theorem SI.wr (S : SI G D s mx mc ms n I L A ls st rc rs H locs arr cells slots) {I' : HI} {L' : HL} {A' : HA} {st' : List AV} {r t : Nat} {e9 : va_E} {H1 : Heap} {locs1 : List Loc} (hr : r < n) (ht : G.2.2.2 r = t) (h0 : ¬ G.2.2.2 r = 0) (he : e9 = ent G I' L' A' r t) (hne : ∀ r', ¬ r' = r → I' r' = I r' ∧ L' r' = L r' ∧ A' r' = A r') (hA : wfA G n A') (hst : wfl G n st')
    (hz : H1.size = H.size) (hP : va_P D amCl ((wsl G I L A n).set (wix G r) (G.1 + r, e9)) H1) (hS : va_S (Af G) s.heap H1 locs1) : SI G D s mx mc ms n I' L' A' ls st' rc rs H1 locs1 arr cells slots := by
  rw [wsl_set (I' := I') (L' := L') (A' := A') hr h0 (fun r' hr' => ent_congr (hne r' hr').1 (hne r' hr').2.1 (hne r' hr').2.2) (by rw [ht]; exact he)] at hP
  exact ⟨⟨by rw [hz]; exact S.1.1, hP, hA⟩, hS, S.2.2.1, S.2.2.2.1, S.2.2.2.2.1, hst, S.2.2.2.2.2.2⟩
end
