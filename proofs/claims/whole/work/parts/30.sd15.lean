/-! SOUNDNESS, 15: a method's contract, and calls -/
def sdP (G : GE) (D : va_G) (X : Ext) (as : List AV) (n : Nat) (I : HI) (L : HL) (A : HA) : Array Value → State → Prop := va_Pc (as.map (cv G)) (fun U => Rep G D n I L A U.heap ∧ Wd G D X U)
def sdM (G : GE) (D : va_G) (X : Ext) (l : Launch) (d k : Nat) : Prop := ∀ (as : List AV) (mc ms n : Nat) (I : HI) (L : HL) (A : HA) (Q : AQ), CnD X G.2.2.2 d k as mc ms n I L A Q → (∀ v ∈ as, isJ v.1 = false ∧ wfv G n v) →
  ∀ (y : MethodName) (b : ByteArray) (rt : Option FieldType) (hh : List (Nat × Nat × Nat × Nat)) (z : Bool) (q : List Nat) (ht : List (List Nat)), mtm k = some (y, b, rt, hh, z, q, ht) →
    vx_Met l y (vcd y b (tbm k).2 rt hh :: tg) (rmD d mc ms) (sdP G D X as n I L A) (sQ G D Q) (sX G D Q) mc ms (Af G)
theorem rct_all : (List.range 301).all (fun k => match mtm k with
  | some (y, _, _, _, z, _, _) => Nat.ble (tbm k).2 30 && (bif z then Nat.beq (rct k) 0 else (match rct k with
    | 0 => false
    | c + 1 => !Nat.beq c 9 && (match amCl[c]? with
      | some q => decide (q.1 = y.cls)
      | none => false)))
  | none => false) = true := by decide +kernel
theorem Wd.blind {G : GE} {D : va_G} {X : Ext} {U : State} (g : Gd G X) (gf : JFrame) (mk : MethodId) (a : Array Value) (h : Wd G D X U) : Wd G D X (U.calling gf mk a) :=
  h.to g (State.WarmedH.refl U) (fun _ _ _ => rfl) h.2.2.2.2.2.2.2.2.2.2.2.2.2.2.2.2
/-- what okY says of a method -/
theorem okY_spec {k : Nat} (h : okY k = true) : ∃ (y : MethodName) (b : ByteArray) (rt : Option FieldType) (hh : List (Nat × Nat × Nat × Nat)) (z : Bool) (cw q1 q2 q3 n : Nat) (ht : List (List Nat)), mtm k = some (y, b, rt, hh, z, [cw, q1, q2, q3, n], ht) ∧ plainName y.cls = true ∧ (y.cls ≠ "java/lang/invoke/MethodHandle" ∧ y.cls ≠ "java/lang/invoke/VarHandle") ∧ (parseMethodDescriptor y.desc).map (fun d => d.parameters.length) = some n ∧
    okT y.cls b 0 (tbm k).1 ht = true ∧ (z = true → Cond.static y ∈ tg) ∧ (z = false → Cond.instanceMethod y ∈ tg ∧ (y.name = "<init>" ∨ Cond.selects y.cls y y ∈ tg)) ∧ Cond.initialized y.cls ∈ tg ∧ vcd y b (tbm k).2 rt hh ∈ tg := by
  unfold okY at h
  split at h
  · rename_i y b rt hh z cw q1 q2 q3 n ht e
    simp only [Bool.and_eq_true, decide_eq_true_eq] at h
    obtain ⟨⟨⟨⟨⟨⟨h1, h2⟩, h3⟩, h4⟩, h5⟩, h6⟩, h7⟩ := h
    refine ⟨y, b, rt, hh, z, cw, q1, q2, q3, n, ht, e, h1, h2, h3, h4, fun hz => ?_, fun hz => ?_, wt_tg h6 rfl, ?_⟩
    · rw [hz] at h5
      exact wt_tg (of_decide_eq_true h5) rfl
    · rw [hz] at h5
      have h5 : (decide (wt q1 = some (.instanceMethod y)) && (decide (y.name = "<init>") || decide (wt q2 = some (.selects y.cls y y)))) = true := h5
      simp only [Bool.and_eq_true, Bool.or_eq_true, decide_eq_true_eq] at h5
      exact ⟨wt_tg h5.1 rfl, h5.2.imp id (fun g => wt_tg g rfl)⟩
    · cases hh with
      | nil => exact wt_tg (of_decide_eq_true h7) (vcd_good _ _ _ _ _)
      | cons x xs => exact wt_tg (of_decide_eq_true h7) (vcd_good _ _ _ _ _)
  · cases h
section
variable {G : GE} {D : va_G} {X : Ext} {p : Program} {l : Launch} {e : Env} {s : State} {m : MethodId} {args : Array Value} {below : List Frame} {meth : Method} {c : Code} {y : MethodName} {b : ByteArray} {rt : Option FieldType} {hh : List (Nat × Nat × Nat × Nat)} {mx d mc ms n : Nat} {Q : AQ} {I : HI} {L : HL} {A : HA} {ls st : List AV} {rc rs : Nat} {pc nx : Nat} {sd : List Nat} {v : Value} {H : Heap} {locs : List Loc} {arr : Array Slot} {cells slots : Nat}
theorem sdP_blind (g : Gd G X) {as : List AV} : FrameBlind (sdP G D X as n I L A) := fun _ _ gf mk h => ⟨h.1, h.2.1, h.2.2.blind g gf mk _⟩
theorem sdP_at (C : Cx G D X p l s m args meth c y b rt hh mx) (S : SI G D s mx mc ms n I L A ls st rc rs H locs arr cells slots) (as : List AV) : ∀ U : State, U.heap = H → s.WarmedH U.vm → sdP G D X as n I L A (as.map (cv G)).toArray U := by
  intro U hU hW
  have hz : G.1 ≤ H.size := by rw [S.1.1]; omega
  exact ⟨rfl, by rw [hU]; exact S.1, C.wd.to C.2.2.2.2.2.2.2.2.2.2.1 hW (fun a h1 h2 => by rw [hU]; exact S.2.1.2.1 a h1 h2) (by rw [hU]; exact hz)⟩
/-- behind a call -/
theorem SI.back (S : SI G D s mx mc ms n I L A ls st rc rs H locs arr cells slots) {n' mc' ms' : Nat} {I' : HI} {L' : HL} {A' : HA} {st' : List AV} {t st₀ : State} {H1 : Heap} {Lc : List Loc} (h0 : st₀.heap = H) (ht : t.heap = H1) (hR : Rep G D n' I' L' A' t.heap) (hF : va_F (Af G) st₀ t) (hL : ∀ q ∈ Lc, Af G q.base) (hst : wfl G n' st') (h1 : mc' ≤ rc) (h2 : ms' ≤ rs) :
    n ≤ n' ∧ SI G D s mx mc ms n' I' L' A' ls st' (rc - mc') (rs - ms') H1 (locs ++ Lc) arr (cells + mc') (slots + ms') := by
  subst ht
  have hz : H.size ≤ t.heap.size := by rw [← h0]; exact hF.1
  have hn : n ≤ n' := by have := S.1.1; have := hR.1; omega
  have hcc := S.2.2.2.2.2.2.1
  have hss := S.2.2.2.2.2.2.2
  refine ⟨hn, hR, ⟨Nat.le_trans S.2.1.1 hz, fun q hq hA => ?_, fun q hq => ?_⟩, S.2.2.1, S.2.2.2.1, wfl_mono hn S.lcl, hst, by omega, by omega⟩
  · rw [hF.2 q (by rw [h0]; exact Nat.lt_of_lt_of_le hq S.2.1.1) hA, h0]
    exact S.2.1.2.1 q hq hA
  · rcases List.mem_append.mp hq with h | h
    · exact S.2.1.2.2 q h
    · exact hL q h
theorem sn_call (C : Cx G D X p l s m args meth c y b rt hh mx) (S : SI G D s mx mc ms n I L A ls st rc rs H locs arr cells slots) {own9 : String} {hs : List Nat} {rest : List AV} {mc' ms' : Nat} {Xc : Array Value} (hown9 : own9 = y.cls) (hB : hsB own9 b mx pc hh hs = true) (hrest : wfl G n rest) (h1 : mc' ≤ rc) (h2 : ms' ≤ rs)
    (hr : vx_Run p l e (rmD d mc ms) s m args below meth c H locs cells slots mc' ms' (F0 m pc arr (st.map (cv G))) (rest.map (cv G)) (sQ G D (back Q (PW G D p l e s m args below meth c mx d mc ms Q) (pc + 3) hs ls rest (rc - mc') (rs - ms')) Xc) (sX G D (back Q (PW G D p l e s m args below meth c mx d mc ms Q) (pc + 3) hs ls rest (rc - mc') (rs - ms'))) (Af G)) :
    W p l e (rmD d mc ms) s m args below meth c H locs cells slots (vx_MQ below (sQ G D Q) (sX G D Q) args s mc ms (Af G)) (F0 m pc arr (st.map (cv G))) := by
  subst hown9
  refine sc_call hr (fun v st₀ t H1 Lc h0 ht hvm hq hL => ?_) (fun E ce q9 st₀ t H1 Lc h0 ht hvm hX hL hce hcv hcl => ?_)
  · obtain ⟨v', n', I', L', A', hQ, he, hwf, hR, hF⟩ := hq
    cases he
    cases v' with
    | none =>
      have hn : n ≤ n' := by have := S.1.1; have := hR.1; have := hF.1; rw [h0] at this; omega
      obtain ⟨-, S'⟩ := S.back h0 ht hR hF hL (wfl_mono hn hrest) h1 h2
      exact hQ _ _ _ _ _ S'
    | some w =>
      obtain ⟨hj, hw⟩ := hwf w rfl
      have hn : n ≤ n' := by have := S.1.1; have := hR.1; have := hF.1; rw [h0] at this; omega
      obtain ⟨-, S'⟩ := S.back h0 ht hR hF hL (wfl_cons hw (wfl_mono hn hrest)) h1 h2
      exact hQ _ _ _ _ _ S'
  · obtain ⟨i, n', I', L', A', hQ, hi, hE, hR, hF⟩ := hX
    subst hE
    obtain ⟨g1, g2⟩ := hs_spec hi hh hs hB
    have hn : n ≤ n' := by have := S.1.1; have := hR.1; have := hF.1; rw [h0] at this; omega
    have hpass : ∀ z : ExceptionTableEntry, hPass y.cls pc i z → covers z pc = false ∨ (z.catchType ≠ 0 ∧ ∃ nm : String, (Cond.classLink y.cls z.catchType nm).before args s = true ∧ va_Nc (exN (i + 1)) nm s) := by
      intro z hz
      rcases hz with hz | ⟨hz, j, hj, hji, hl⟩
      · exact Or.inl hz
      · exact Or.inr ⟨hz, _, C.hin _ hl, C.wd.2.2.2.2.2.2.2.2.2.2.2.2.2.2.2.1 i j hi hj (fun q => hji q.symm)⟩
    have hQ : (match hfind hs (i + 1) with
      | some (t, j) => frc (lset ls j jk) fun ls' => PW G D p l e s m args below meth c mx d mc ms Q t ls' [] (rc - mc') (rs - ms') n' I' L' A'
      | none => Q (.inr (i + 1)) n' I' L' A') := hQ
    cases hf : hfind hs (i + 1) with
    | none =>
      rw [hf] at hQ
      obtain ⟨-, S'⟩ := S.back h0 ht hR hF hL (st' := []) (fun _ h _ => nomatch h) h1 h2
      have hcc := S.2.2.2.2.2.2.1
      have hss := S.2.2.2.2.2.2.2
      refine vx_outP C.own C.2.2.2.2.1 (fun z hz => hpass z (g1 hf z (by rw [← C.2.2.2.2.2.2.2.2.1]; exact hz))) hce hcv hcl (fun t9 ht9 _ => ⟨i, n', I', L', A', hQ, hi, rfl, by rw [ht9]; exact S'.1, S'.2.1.F ht9⟩) S'.2.1.2.2 (by omega) (by omega)
    | some tj =>
      obtain ⟨t9, j⟩ := tj
      rw [hf] at hQ
      have hQ : frc (lset ls j jk) fun ls' => PW G D p l e s m args below meth c mx d mc ms Q t9 ls' [] (rc - mc') (rs - ms') n' I' L' A' := hQ
      rw [frc_iff] at hQ
      obtain ⟨hj, pre, x, suf, f1, f2, f3, f4, f5, f6⟩ := g2 t9 j hf
      obtain ⟨-, S'⟩ := S.back h0 ht hR hF hL (st' := []) (fun _ h _ => nomatch h) h1 h2
      have hcast : (Cond.castable (exN (i + 1)) (exN (i + 1))).before args s = true := by
        refine va_Nw.use rfl (C.wd.2.2.2.2.2.2.2.2.2.2.2.2.2.1 _ ?_)
        have hm : Cond.castable (exN (i + 1)) (exN (i + 1)) ∈ atE i := by
          rcases (show i = 0 ∨ i = 1 ∨ i = 2 ∨ i = 3 by omega) with rfl | rfl | rfl | rfl <;> decide +kernel
        rcases at_w hi _ hm with g | g
        · exact List.mem_filter.mpr ⟨(List.mem_filter.mp g).1, rfl⟩
        · exact g
      refine vx_catch C.own pre x suf (by rw [C.2.2.2.2.2.2.2.2.1]; exact f1) (fun z hz => hpass z (f2 z hz)) f3 f4 (C.hin _ f5) hcast hce hcv hcl ?_
      have hl9 : j < ls.length := by rw [S.ln]; exact hj
      have fin : ∀ arr9, lv_has arr9 mx ((j, .ref q9) :: (lcs G 0 ls).filter (fun q => !(q.1 == j) && !(q.1 + 1 == j && q.2.category == 2))) → W p l e (rmD d mc ms) s m args below meth c H1 (locs ++ Lc) (cells + mc') (slots + ms') (vx_MQ below (sQ G D Q) (sX G D Q) args s mc ms (Af G)) (F0 m t9 arr9 []) := fun arr9 h9 =>
        hQ _ _ _ _ _ ⟨S'.1, S'.2.1, lcs_drop (v := jk) hl9 rfl h9, by rw [lset_len]; exact S.ln, wfl_set hl9 (fun hj => nomatch hj) S'.lcl, (fun _ h _ => nomatch h), S'.2.2.2.2.2.2⟩
      rcases f6 with ⟨k, f6, f7, f8⟩ | ⟨f6, f8⟩
      · subst f8
        exact lv_astore_n C.1 C.2.1 f6 f7 S.hl hj rfl fin
      · subst f8
        exact lv_astore C.1 C.2.1 f6 S.hl hj rfl fin
end
