/-! SOUNDNESS, 6: branches, switches, statics, returns -/
theorem tgs_at {k : Nat → Prop} {x : Int32} (ts : List Nat) : ∀ (lo : Int) (j t : Nat), tgs x lo ts k → ts[j]? = some t → x.toInt = lo + (j : Int) → k t := by
  induction ts with
  | nil => intro lo j t _ h; simp at h
  | cons u us ih =>
    intro lo j t h hj hx
    cases j with
    | zero => rw [List.getElem?_cons_zero] at hj; cases hj; exact h.1 (by rw [hx]; simp)
    | succ j => rw [List.getElem?_cons_succ] at hj; exact ih (lo + 1) j t h.2 hj (by rw [hx]; omega)
theorem tgtL_at {pc : Nat} (os : List Int) : ∀ (ts : List Nat) (j : Nat) (off : Int), tgtL pc os ts = true → os[j]? = some off → ∃ t, ts[j]? = some t ∧ (pc : Int) + off = (t : Int) := by
  induction os with
  | nil => intro ts j off _ h; simp at h
  | cons u us ih =>
    intro ts j off h hj
    cases ts with
    | nil => cases h
    | cons t ts =>
      have h : (tgt1 pc u t && tgtL pc us ts) = true := h
      rw [Bool.and_eq_true] at h
      cases j with
      | zero => rw [List.getElem?_cons_zero] at hj; cases hj; exact ⟨t, rfl, tgt_spec h.1⟩
      | succ j => rw [List.getElem?_cons_succ] at hj; exact ih ts j off h.2 hj
theorem stL_ok : ∀ q ∈ stL, ownT q.2.2.2.2 = false ∧ ((q.2.2.2.2 = 10 ∧ 10020 ≤ q.2.2.2.1 ∧ q.2.2.2.1 < 10038) ∨ (q.2.2.2.1, q.2.2.2.2) ∈ statL) := by decide +kernel
theorem stL_wX {q : String × String × String × Nat × Nat} (h : q ∈ stL) : ownT q.2.2.2.2 = false ∧ wX q.2.2.2.1 q.2.2.2.2 := by
  obtain ⟨h1, h2⟩ := stL_ok q h
  refine ⟨h1, ?_⟩
  rcases h2 with ⟨h3, h4, h5⟩ | h2
  · exact Or.inl ⟨h3, q.2.2.2.1 - 10020, by omega, by omega⟩
  · exact Or.inr (Or.inr h2)
section
variable {G : GE} {D : va_G} {X : Ext} {p : Program} {l : Launch} {e : Env} {s : State} {m : MethodId} {args : Array Value} {below : List Frame} {meth : Method} {c : Code} {y : MethodName} {b : ByteArray} {rt : Option FieldType} {hh : List (Nat × Nat × Nat × Nat)} {mx d mc ms n : Nat} {Q : AQ} {CC : CT} {I : HI} {L : HL} {A : HA} {ls st : List AV} {rc rs : Nat} {pc nx : Nat} {sd : List Nat} {v : Value} {H : Heap} {locs : List Loc} {arr : Array Slot} {cells slots : Nat}

theorem lnkF_spec (C : Cx G D X p l s m args meth c y b rt hh mx) {q i : Nat} {r f t : String} (h : lnkF q y.cls i r f t = true) : (Cond.fieldLink y.cls i r f t).before args s = true ∨ ∃ host, va_Nw (.fieldLinkNest y.cls i r f t host) s := by
  unfold lnkF at h
  split at h
  · rename_i o1 i1 r1 n1 d1 e1
    simp only [Bool.and_eq_true, decide_eq_true_eq] at h
    obtain ⟨⟨⟨⟨rfl, rfl⟩, rfl⟩, rfl⟩, rfl⟩ := h
    exact Or.inl (C.2.2.2.2.2.2.2.1 _ (wt_tg e1 rfl))
  · rename_i o1 i1 r1 n1 d1 h1 e1
    simp only [Bool.and_eq_true, decide_eq_true_eq] at h
    obtain ⟨⟨⟨⟨rfl, rfl⟩, rfl⟩, rfl⟩, rfl⟩ := h
    exact Or.inr ⟨_, C.2.2.2.2.2.2.2.2.2.1.2.2.2.2.2.2.2.2.2.2.2.2.2.1 _ (wt_tn e1 rfl)⟩
  · cases h
theorem lnkM_spec (C : Cx G D X p l s m args meth c y b rt hh mx) {q i : Nat} {z : MethodName} (h : lnkM q y.cls i z = true) : lkM y.cls i z args s := by
  unfold lnkM at h
  split at h
  · rename_i o1 i1 y1 e1
    simp only [Bool.and_eq_true, decide_eq_true_eq] at h
    obtain ⟨⟨rfl, rfl⟩, rfl⟩ := h
    exact Or.inl (C.2.2.2.2.2.2.2.1 _ (wt_tg e1 rfl))
  · rename_i o1 i1 y1 h1 e1
    simp only [Bool.and_eq_true, decide_eq_true_eq] at h
    obtain ⟨⟨rfl, rfl⟩, rfl⟩ := h
    exact Or.inr ⟨_, va_Nw.use rfl (C.2.2.2.2.2.2.2.2.2.1.2.2.2.2.2.2.2.2.2.2.2.2.2.1 _ (wt_tn e1 rfl))⟩
  · cases h
theorem sn_iinc {k1 : Nat} {i1 : Int} (C : Cx G D X p l s m args meth c y b rt hh mx) (hd : dcd b pc (.iinc k1 i1) 3 nx = true) (hs : sd = [k1]) (hi : k1 < mx) (hv : v = .int (Int32.ofInt i1)) (h : stp X G.2.2.2 CC Q (PW G D p l e s m args below meth c mx d mc ms Q) (.iinc k1 i1) nx sd v ls st rc rs n I L A) : PW G D p l e s m args below meth c mx d mc ms Q pc ls st rc rs n I L A := by
  obtain ⟨hdg, rfl⟩ := dcd_spec hd
  subst hs hv
  dsimp only [stp] at h
  split at h
  · rename_i x1 t1 hg
    rw [frc_iff] at h
    intro H locs arr cells slots S
    obtain ⟨j, hj⟩ := List.getElem?_of_mem ((lcs_mem (G := G) ls 0 (k1, .int x1)).mpr ⟨k1, (.int x1, t1), lget_get hg rfl, rfl, by rw [Nat.zero_add]; rfl⟩)
    exact lv_iinc C.1 C.2.1 hdg S.hl hj rfl hi rfl (fun arr9 h9 => h _ _ _ _ _ (S.lset1 hi rfl (fun _ => wfi) S.stk h9))
  · exact h.elim
theorem sn_dup (C : Cx G D X p l s m args meth c y b rt hh mx) (hd : dcd b pc .dup 1 nx = true) (h : stp X G.2.2.2 CC Q (PW G D p l e s m args below meth c mx d mc ms Q) (.dup) nx sd v ls st rc rs n I L A) : PW G D p l e s m args below meth c mx d mc ms Q pc ls st rc rs n I L A := by
  obtain ⟨hdg, rfl⟩ := dcd_spec hd
  dsimp only [stp] at h
  split at h
  · rename_i x1 r1
    cases hw : isW x1.1 with
    | true => rw [hw] at h; exact h.elim
    | false =>
      rw [hw] at h
      intro H locs arr cells slots S
      have hx := S.stk
      exact lv_dup C.1 C.2.1 hdg (cat_cv1 hw) (h _ _ _ _ _ (S.to (fun w hm hj => by
        rcases List.mem_cons.mp hm with rfl | hm
        · exact hx _ List.mem_cons_self hj
        · exact hx _ hm hj)))
  · exact h.elim
theorem sn_dup2 (C : Cx G D X p l s m args meth c y b rt hh mx) (hd : dcd b pc .dup2 1 nx = true) (h : stp X G.2.2.2 CC Q (PW G D p l e s m args below meth c mx d mc ms Q) (.dup2) nx sd v ls st rc rs n I L A) : PW G D p l e s m args below meth c mx d mc ms Q pc ls st rc rs n I L A := by
  obtain ⟨hdg, rfl⟩ := dcd_spec hd
  dsimp only [stp] at h
  split at h
  · rename_i x1 y1 r1
    cases hw : isW x1.1 with
    | true => rw [hw] at h; exact h.elim
    | false =>
      cases hw2 : isW y1.1 with
      | true => rw [hw, hw2] at h; exact h.elim
      | false =>
        rw [hw, hw2] at h
        intro H locs arr cells slots S
        have hx := S.stk
        exact lv_dup2_11 C.1 C.2.1 hdg (cat_cv1 hw) (cat_cv1 hw2) (h _ _ _ _ _ (S.to (fun w hm hj => by
          rcases List.mem_cons.mp hm with rfl | hm
          · exact hx _ List.mem_cons_self hj
          · rcases List.mem_cons.mp hm with rfl | hm
            · exact hx _ (List.mem_cons_of_mem _ List.mem_cons_self) hj
            · exact hx _ hm hj)))
  · exact h.elim
theorem sn_goto {o1 : Int} {t1 : Nat} (C : Cx G D X p l s m args meth c y b rt hh mx) (hdg : decode b pc = .ok (.goto o1, 3)) (hs : sd = [t1]) (ht : tgt1 pc o1 t1 = true) (h : stp X G.2.2.2 CC Q (PW G D p l e s m args below meth c mx d mc ms Q) (.goto o1) nx sd v ls st rc rs n I L A) : PW G D p l e s m args below meth c mx d mc ms Q pc ls st rc rs n I L A := by
  subst hs
  dsimp only [stp] at h
  intro H locs arr cells slots S
  exact lv_goto C.1 C.2.1 hdg (tgt_spec ht) (h _ _ _ _ _ S)
theorem sn_if_eq {o1 : Int} {t1 : Nat} (C : Cx G D X p l s m args meth c y b rt hh mx) (hd : dcd b pc (.ifCond .eq o1) 3 nx = true) (hs : sd = [t1]) (ht : tgt1 pc o1 t1 = true) (h : stp X G.2.2.2 CC Q (PW G D p l e s m args below meth c mx d mc ms Q) (.ifCond .eq o1) nx sd v ls st rc rs n I L A) : PW G D p l e s m args below meth c mx d mc ms Q pc ls st rc rs n I L A := by
  obtain ⟨hdg, rfl⟩ := dcd_spec hd
  subst hs
  dsimp only [stp] at h
  split at h
  · rename_i i2 x1 t2 r1 e1
    cases e1
    intro H locs arr cells slots S
    exact lv_if_eq C.1 C.2.1 hdg (tgt_spec ht) (fun q => h.1 q _ _ _ _ _ (S.to (wfl_tl S.stk))) (fun q => h.2 q _ _ _ _ _ (S.to (wfl_tl S.stk)))
  · exact h.elim
theorem sn_icmp_eq {o1 : Int} {t1 : Nat} (C : Cx G D X p l s m args meth c y b rt hh mx) (hd : dcd b pc (.if_icmp .eq o1) 3 nx = true) (hs : sd = [t1]) (ht : tgt1 pc o1 t1 = true) (h : stp X G.2.2.2 CC Q (PW G D p l e s m args below meth c mx d mc ms Q) (.if_icmp .eq o1) nx sd v ls st rc rs n I L A) : PW G D p l e s m args below meth c mx d mc ms Q pc ls st rc rs n I L A := by
  obtain ⟨hdg, rfl⟩ := dcd_spec hd
  subst hs
  dsimp only [stp] at h
  split at h
  · rename_i i2 x1 t2 x3 t3 r1 e1
    cases e1
    intro H locs arr cells slots S
    exact lv_icmp_eq C.1 C.2.1 hdg (tgt_spec ht) (fun q => h.1 q _ _ _ _ _ (S.to (wfl_tl (wfl_tl S.stk)))) (fun q => h.2 q _ _ _ _ _ (S.to (wfl_tl (wfl_tl S.stk))))
  · exact h.elim
theorem sn_if_ne {o1 : Int} {t1 : Nat} (C : Cx G D X p l s m args meth c y b rt hh mx) (hd : dcd b pc (.ifCond .ne o1) 3 nx = true) (hs : sd = [t1]) (ht : tgt1 pc o1 t1 = true) (h : stp X G.2.2.2 CC Q (PW G D p l e s m args below meth c mx d mc ms Q) (.ifCond .ne o1) nx sd v ls st rc rs n I L A) : PW G D p l e s m args below meth c mx d mc ms Q pc ls st rc rs n I L A := by
  obtain ⟨hdg, rfl⟩ := dcd_spec hd
  subst hs
  dsimp only [stp] at h
  split at h
  · rename_i i2 x1 t2 r1 e1
    cases e1
    intro H locs arr cells slots S
    exact lv_if_ne C.1 C.2.1 hdg (tgt_spec ht) (fun q => h.1 q _ _ _ _ _ (S.to (wfl_tl S.stk))) (fun q => h.2 q _ _ _ _ _ (S.to (wfl_tl S.stk)))
  · exact h.elim
theorem sn_icmp_ne {o1 : Int} {t1 : Nat} (C : Cx G D X p l s m args meth c y b rt hh mx) (hd : dcd b pc (.if_icmp .ne o1) 3 nx = true) (hs : sd = [t1]) (ht : tgt1 pc o1 t1 = true) (h : stp X G.2.2.2 CC Q (PW G D p l e s m args below meth c mx d mc ms Q) (.if_icmp .ne o1) nx sd v ls st rc rs n I L A) : PW G D p l e s m args below meth c mx d mc ms Q pc ls st rc rs n I L A := by
  obtain ⟨hdg, rfl⟩ := dcd_spec hd
  subst hs
  dsimp only [stp] at h
  split at h
  · rename_i i2 x1 t2 x3 t3 r1 e1
    cases e1
    intro H locs arr cells slots S
    exact lv_icmp_ne C.1 C.2.1 hdg (tgt_spec ht) (fun q => h.1 q _ _ _ _ _ (S.to (wfl_tl (wfl_tl S.stk)))) (fun q => h.2 q _ _ _ _ _ (S.to (wfl_tl (wfl_tl S.stk))))
  · exact h.elim
theorem sn_if_lt {o1 : Int} {t1 : Nat} (C : Cx G D X p l s m args meth c y b rt hh mx) (hd : dcd b pc (.ifCond .lt o1) 3 nx = true) (hs : sd = [t1]) (ht : tgt1 pc o1 t1 = true) (h : stp X G.2.2.2 CC Q (PW G D p l e s m args below meth c mx d mc ms Q) (.ifCond .lt o1) nx sd v ls st rc rs n I L A) : PW G D p l e s m args below meth c mx d mc ms Q pc ls st rc rs n I L A := by
  obtain ⟨hdg, rfl⟩ := dcd_spec hd
  subst hs
  dsimp only [stp] at h
  split at h
  · rename_i i2 x1 t2 r1 e1
    cases e1
    intro H locs arr cells slots S
    exact lv_if_lt C.1 C.2.1 hdg (tgt_spec ht) (fun q => h.1 q _ _ _ _ _ (S.to (wfl_tl S.stk))) (fun q => h.2 q _ _ _ _ _ (S.to (wfl_tl S.stk)))
  · exact h.elim
theorem sn_icmp_lt {o1 : Int} {t1 : Nat} (C : Cx G D X p l s m args meth c y b rt hh mx) (hd : dcd b pc (.if_icmp .lt o1) 3 nx = true) (hs : sd = [t1]) (ht : tgt1 pc o1 t1 = true) (h : stp X G.2.2.2 CC Q (PW G D p l e s m args below meth c mx d mc ms Q) (.if_icmp .lt o1) nx sd v ls st rc rs n I L A) : PW G D p l e s m args below meth c mx d mc ms Q pc ls st rc rs n I L A := by
  obtain ⟨hdg, rfl⟩ := dcd_spec hd
  subst hs
  dsimp only [stp] at h
  split at h
  · rename_i i2 x1 t2 x3 t3 r1 e1
    cases e1
    intro H locs arr cells slots S
    exact lv_icmp_lt C.1 C.2.1 hdg (tgt_spec ht) (fun q => h.1 q _ _ _ _ _ (S.to (wfl_tl (wfl_tl S.stk)))) (fun q => h.2 q _ _ _ _ _ (S.to (wfl_tl (wfl_tl S.stk))))
  · exact h.elim
theorem sn_if_ge {o1 : Int} {t1 : Nat} (C : Cx G D X p l s m args meth c y b rt hh mx) (hd : dcd b pc (.ifCond .ge o1) 3 nx = true) (hs : sd = [t1]) (ht : tgt1 pc o1 t1 = true) (h : stp X G.2.2.2 CC Q (PW G D p l e s m args below meth c mx d mc ms Q) (.ifCond .ge o1) nx sd v ls st rc rs n I L A) : PW G D p l e s m args below meth c mx d mc ms Q pc ls st rc rs n I L A := by
  obtain ⟨hdg, rfl⟩ := dcd_spec hd
  subst hs
  dsimp only [stp] at h
  split at h
  · rename_i i2 x1 t2 r1 e1
    cases e1
    intro H locs arr cells slots S
    exact lv_if_ge C.1 C.2.1 hdg (tgt_spec ht) (fun q => h.1 q _ _ _ _ _ (S.to (wfl_tl S.stk))) (fun q => h.2 q _ _ _ _ _ (S.to (wfl_tl S.stk)))
  · exact h.elim
theorem sn_icmp_ge {o1 : Int} {t1 : Nat} (C : Cx G D X p l s m args meth c y b rt hh mx) (hd : dcd b pc (.if_icmp .ge o1) 3 nx = true) (hs : sd = [t1]) (ht : tgt1 pc o1 t1 = true) (h : stp X G.2.2.2 CC Q (PW G D p l e s m args below meth c mx d mc ms Q) (.if_icmp .ge o1) nx sd v ls st rc rs n I L A) : PW G D p l e s m args below meth c mx d mc ms Q pc ls st rc rs n I L A := by
  obtain ⟨hdg, rfl⟩ := dcd_spec hd
  subst hs
  dsimp only [stp] at h
  split at h
  · rename_i i2 x1 t2 x3 t3 r1 e1
    cases e1
    intro H locs arr cells slots S
    exact lv_icmp_ge C.1 C.2.1 hdg (tgt_spec ht) (fun q => h.1 q _ _ _ _ _ (S.to (wfl_tl (wfl_tl S.stk)))) (fun q => h.2 q _ _ _ _ _ (S.to (wfl_tl (wfl_tl S.stk))))
  · exact h.elim
theorem sn_if_gt {o1 : Int} {t1 : Nat} (C : Cx G D X p l s m args meth c y b rt hh mx) (hd : dcd b pc (.ifCond .gt o1) 3 nx = true) (hs : sd = [t1]) (ht : tgt1 pc o1 t1 = true) (h : stp X G.2.2.2 CC Q (PW G D p l e s m args below meth c mx d mc ms Q) (.ifCond .gt o1) nx sd v ls st rc rs n I L A) : PW G D p l e s m args below meth c mx d mc ms Q pc ls st rc rs n I L A := by
  obtain ⟨hdg, rfl⟩ := dcd_spec hd
  subst hs
  dsimp only [stp] at h
  split at h
  · rename_i i2 x1 t2 r1 e1
    cases e1
    intro H locs arr cells slots S
    exact lv_if_gt C.1 C.2.1 hdg (tgt_spec ht) (fun q => h.1 q _ _ _ _ _ (S.to (wfl_tl S.stk))) (fun q => h.2 q _ _ _ _ _ (S.to (wfl_tl S.stk)))
  · exact h.elim
theorem sn_icmp_gt {o1 : Int} {t1 : Nat} (C : Cx G D X p l s m args meth c y b rt hh mx) (hd : dcd b pc (.if_icmp .gt o1) 3 nx = true) (hs : sd = [t1]) (ht : tgt1 pc o1 t1 = true) (h : stp X G.2.2.2 CC Q (PW G D p l e s m args below meth c mx d mc ms Q) (.if_icmp .gt o1) nx sd v ls st rc rs n I L A) : PW G D p l e s m args below meth c mx d mc ms Q pc ls st rc rs n I L A := by
  obtain ⟨hdg, rfl⟩ := dcd_spec hd
  subst hs
  dsimp only [stp] at h
  split at h
  · rename_i i2 x1 t2 x3 t3 r1 e1
    cases e1
    intro H locs arr cells slots S
    exact lv_icmp_gt C.1 C.2.1 hdg (tgt_spec ht) (fun q => h.1 q _ _ _ _ _ (S.to (wfl_tl (wfl_tl S.stk)))) (fun q => h.2 q _ _ _ _ _ (S.to (wfl_tl (wfl_tl S.stk))))
  · exact h.elim
theorem sn_if_le {o1 : Int} {t1 : Nat} (C : Cx G D X p l s m args meth c y b rt hh mx) (hd : dcd b pc (.ifCond .le o1) 3 nx = true) (hs : sd = [t1]) (ht : tgt1 pc o1 t1 = true) (h : stp X G.2.2.2 CC Q (PW G D p l e s m args below meth c mx d mc ms Q) (.ifCond .le o1) nx sd v ls st rc rs n I L A) : PW G D p l e s m args below meth c mx d mc ms Q pc ls st rc rs n I L A := by
  obtain ⟨hdg, rfl⟩ := dcd_spec hd
  subst hs
  dsimp only [stp] at h
  split at h
  · rename_i i2 x1 t2 r1 e1
    cases e1
    intro H locs arr cells slots S
    exact lv_if_le C.1 C.2.1 hdg (tgt_spec ht) (fun q => h.1 q _ _ _ _ _ (S.to (wfl_tl S.stk))) (fun q => h.2 q _ _ _ _ _ (S.to (wfl_tl S.stk)))
  · exact h.elim
theorem sn_icmp_le {o1 : Int} {t1 : Nat} (C : Cx G D X p l s m args meth c y b rt hh mx) (hd : dcd b pc (.if_icmp .le o1) 3 nx = true) (hs : sd = [t1]) (ht : tgt1 pc o1 t1 = true) (h : stp X G.2.2.2 CC Q (PW G D p l e s m args below meth c mx d mc ms Q) (.if_icmp .le o1) nx sd v ls st rc rs n I L A) : PW G D p l e s m args below meth c mx d mc ms Q pc ls st rc rs n I L A := by
  obtain ⟨hdg, rfl⟩ := dcd_spec hd
  subst hs
  dsimp only [stp] at h
  split at h
  · rename_i i2 x1 t2 x3 t3 r1 e1
    cases e1
    intro H locs arr cells slots S
    exact lv_icmp_le C.1 C.2.1 hdg (tgt_spec ht) (fun q => h.1 q _ _ _ _ _ (S.to (wfl_tl (wfl_tl S.stk)))) (fun q => h.2 q _ _ _ _ _ (S.to (wfl_tl (wfl_tl S.stk))))
  · exact h.elim
theorem sn_acmp_eq {o1 : Int} {t1 : Nat} (C : Cx G D X p l s m args meth c y b rt hh mx) (hd : dcd b pc (.if_acmp .eq o1) 3 nx = true) (hs : sd = [t1]) (ht : tgt1 pc o1 t1 = true) (h : stp X G.2.2.2 CC Q (PW G D p l e s m args below meth c mx d mc ms Q) (.if_acmp .eq o1) nx sd v ls st rc rs n I L A) : PW G D p l e s m args below meth c mx d mc ms Q pc ls st rc rs n I L A := by
  obtain ⟨hdg, rfl⟩ := dcd_spec hd
  subst hs
  dsimp only [stp] at h
  split at h
  · rename_i i2 x1 t2 x3 t3 r1 e1
    cases e1
    cases hb : (Nat.beq t3 10 && Nat.beq t2 10) with
    | false => rw [hb] at h; exact h.elim
    | true =>
      rw [hb] at h
      rw [Bool.and_eq_true] at hb
      have e2 := Nat.eq_of_beq_eq_true hb.1
      have e3 := Nat.eq_of_beq_eq_true hb.2
      subst e2 e3
      intro H locs arr cells slots S
      have g1 := (wfl_hd S.stk rfl).2 rfl
      have g2 := (wfl_hd (wfl_tl S.stk) rfl).2 rfl
      have hinj : (some (adr G 10 x3) = some (adr G 10 x1)) ↔ x3 = x1 := by
        constructor
        · intro q
          rcases g1 with ⟨-, i, hi, h1⟩ | ⟨h1, -⟩ | h1
          · rcases g2 with ⟨-, j, hj, h2⟩ | ⟨h2, -⟩ | h2
            · have h1 : x1 = 10020 + i := h1
              have h2 : x3 = 10020 + j := h2
              subst h1 h2
              have q1 : G.2.2.1 (10020 + j) = G.2.2.1 (10020 + i) := Option.some.inj q
              rw [C.2.2.2.2.2.2.2.2.2.2.1.2.1 j i hj hi q1]
            · cases h2
            · exact absurd h2 (show ¬ (x3, 10) ∈ statL by simp [statL])
          · cases h1
          · exact absurd h1 (show ¬ (x1, 10) ∈ statL by simp [statL])
        · intro q; rw [q]
      exact lv_acmp_eq (rx := some (adr G 10 x3)) (ry := some (adr G 10 x1)) C.1 C.2.1 hdg (tgt_spec ht) (fun q => h.1 (hinj.mp q) _ _ _ _ _ (S.to (wfl_tl (wfl_tl S.stk)))) (fun q => h.2 (fun z => q (hinj.mpr z)) _ _ _ _ _ (S.to (wfl_tl (wfl_tl S.stk))))
  · exact h.elim
theorem sn_acmp_ne {o1 : Int} {t1 : Nat} (C : Cx G D X p l s m args meth c y b rt hh mx) (hd : dcd b pc (.if_acmp .ne o1) 3 nx = true) (hs : sd = [t1]) (ht : tgt1 pc o1 t1 = true) (h : stp X G.2.2.2 CC Q (PW G D p l e s m args below meth c mx d mc ms Q) (.if_acmp .ne o1) nx sd v ls st rc rs n I L A) : PW G D p l e s m args below meth c mx d mc ms Q pc ls st rc rs n I L A := by
  obtain ⟨hdg, rfl⟩ := dcd_spec hd
  subst hs
  dsimp only [stp] at h
  split at h
  · rename_i i2 x1 t2 x3 t3 r1 e1
    cases e1
    cases hb : (Nat.beq t3 10 && Nat.beq t2 10) with
    | false => rw [hb] at h; exact h.elim
    | true =>
      rw [hb] at h
      rw [Bool.and_eq_true] at hb
      have e2 := Nat.eq_of_beq_eq_true hb.1
      have e3 := Nat.eq_of_beq_eq_true hb.2
      subst e2 e3
      intro H locs arr cells slots S
      have g1 := (wfl_hd S.stk rfl).2 rfl
      have g2 := (wfl_hd (wfl_tl S.stk) rfl).2 rfl
      have hinj : (some (adr G 10 x3) = some (adr G 10 x1)) ↔ x3 = x1 := by
        constructor
        · intro q
          rcases g1 with ⟨-, i, hi, h1⟩ | ⟨h1, -⟩ | h1
          · rcases g2 with ⟨-, j, hj, h2⟩ | ⟨h2, -⟩ | h2
            · have h1 : x1 = 10020 + i := h1
              have h2 : x3 = 10020 + j := h2
              subst h1 h2
              have q1 : G.2.2.1 (10020 + j) = G.2.2.1 (10020 + i) := Option.some.inj q
              rw [C.2.2.2.2.2.2.2.2.2.2.1.2.1 j i hj hi q1]
            · cases h2
            · exact absurd h2 (show ¬ (x3, 10) ∈ statL by simp [statL])
          · cases h1
          · exact absurd h1 (show ¬ (x1, 10) ∈ statL by simp [statL])
        · intro q; rw [q]
      exact lv_acmp_ne (rx := some (adr G 10 x3)) (ry := some (adr G 10 x1)) C.1 C.2.1 hdg (tgt_spec ht) (fun q => h.1 (fun z => q (hinj.mpr z)) _ _ _ _ _ (S.to (wfl_tl (wfl_tl S.stk)))) (fun q => h.2 (hinj.mp q) _ _ _ _ _ (S.to (wfl_tl (wfl_tl S.stk))))
  · exact h.elim
theorem sn_tsw {d1 lo hi : Int} {offs : Array Int} {t1 m1 : Nat} {ts : List Nat} (C : Cx G D X p l s m args meth c y b rt hh mx) (hdg : decode b pc = .ok (.tableswitch d1 lo hi offs, nx - pc)) (hs : sd = t1 :: m1 :: ts) (ht : tgt1 pc d1 t1 = true) (hhi : hi = lo + (m1 : Int) - 1) (hlo : lo = tlo v) (hL : tgtL pc offs.toList ts = true) (hz : offs.size = m1) (h : stp X G.2.2.2 CC Q (PW G D p l e s m args below meth c mx d mc ms Q) (.tableswitch d1 lo hi offs) nx sd v ls st rc rs n I L A) : PW G D p l e s m args below meth c mx d mc ms Q pc ls st rc rs n I L A := by
  subst hs
  dsimp only [stp] at h
  split at h
  · rename_i i2 i3 i4 x1 t2 r1 e1
    cases e1
    rw [← hlo] at h
    intro H locs arr cells slots S
    by_cases hq : x1.toInt < lo ∨ lo + (m1 : Int) ≤ x1.toInt
    · exact lv_tableOut C.1 C.2.1 hdg (hq.imp id (fun z => by omega)) (tgt_spec ht) (h.1 hq _ _ _ _ _ (S.to (wfl_tl S.stk)))
    · have h1 : ¬ x1.toInt < lo := fun z => hq (Or.inl z)
      have h2 : ¬ lo + (m1 : Int) ≤ x1.toInt := fun z => hq (Or.inr z)
      have hj : (x1.toInt - lo).toNat < offs.size := by omega
      have ho : offs[(x1.toInt - lo).toNat]? = some (offs[(x1.toInt - lo).toNat]) := Array.getElem?_eq_getElem hj
      have ho2 : offs.toList[(x1.toInt - lo).toNat]? = some (offs[(x1.toInt - lo).toNat]) := by rw [Array.getElem?_toList]; exact ho
      obtain ⟨t, g1, g2⟩ := tgtL_at _ _ _ _ hL ho2
      have g3 := tgs_at (k := fun t => PW G D p l e s m args below meth c mx d mc ms Q t ls r1 rc rs n I L A) ts lo _ t h.2 g1 (by omega)
      exact lv_tableIn C.1 C.2.1 hdg h1 (by omega) ho g2 (g3 _ _ _ _ _ (S.to (wfl_tl S.stk)))
  · exact h.elim
theorem sn_getstatic {i1 r1 t1 q1 : Nat} {c1 f1 d1 : String} (C : Cx G D X p l s m args meth c y b rt hh mx) (hd : dcd b pc (.getstatic i1) 3 nx = true) (hs : sd = [r1, t1]) (hm : (c1, f1, d1, r1, t1) ∈ stL) (hk : lnkF q1 y.cls i1 c1 f1 d1 = true) (h : stp X G.2.2.2 CC Q (PW G D p l e s m args below meth c mx d mc ms Q) (.getstatic i1) nx sd v ls st rc rs n I L A) : PW G D p l e s m args below meth c mx d mc ms Q pc ls st rc rs n I L A := by
  obtain ⟨hdg, rfl⟩ := dcd_spec hd
  subst hs
  dsimp only [stp] at h
  intro H locs arr cells slots S
  have hZ := C.2.2.2.2.2.2.2.2.2.1.2.1 _ hm
  obtain ⟨ho, hX⟩ := stL_wX hm
  have ho : ownT t1 = false := ho
  have e1 : Value.ref (G.2.2.1 r1) = cv G (.ref r1, t1) := by
    show _ = Value.ref (adr G t1 r1)
    unfold adr
    rw [ho]; rfl
  have hS := S.to (wfl_cons (v := (.ref r1, t1)) ⟨fun z => (by rw [show ownT t1 = false from ho] at z; cases z), fun _ => hX⟩ S.stk)
  have k := h _ _ _ _ _ hS
  rw [List.map_cons, ← e1] at k
  rcases lnkF_spec C hk with hl | ⟨host, hl⟩
  · exact va_gets C.1 C.2.1 hZ S.2.1 C.2.2.2.2.2.2.1 hl (fun _ z => z) hdg k
  · exact va_getsN C.1 C.2.1 hZ S.2.1 C.2.2.2.2.2.2.1 (va_Nw.use rfl hl) (fun _ z => z) hdg k
theorem SI.post (S : SI G D s mx mc ms n I L A ls st rc rs H locs arr cells slots) {w : Option AV} (h : Q (.inl w) n I L A) (hw : ∀ u, w = some u → isJ u.1 = false ∧ wfv G n u) {t : State} (ht : t.heap = H) : sQ G D Q args s (.returned (w.map (cv G))) t :=
  ⟨w, n, I, L, A, h, rfl, hw, by rw [ht]; exact S.1, S.2.1.F ht⟩
theorem sn_lreturn (C : Cx G D X p l s m args meth c y b rt hh mx) (hd : dcd b pc .lreturn 1 (pc + 1) = true) (hr : rt = some .long) (h : stp X G.2.2.2 CC Q (PW G D p l e s m args below meth c mx d mc ms Q) (.lreturn) nx sd v ls st rc rs n I L A) : PW G D p l e s m args below meth c mx d mc ms Q pc ls st rc rs n I L A := by
  obtain ⟨hdg, -⟩ := dcd_spec hd
  dsimp only [stp] at h
  split at h
  · rename_i x1 t1
    intro H locs arr cells slots S
    refine W.widen (k := mc) (n := ms) (by have := S.2.2.2.2.2.2.1; omega) (by have := S.2.2.2.2.2.2.2; omega) (vx_ret ?_)
    exact W.lret C.1 C.2.1 (C.2.2.2.1.trans hr) (fun t ht _ => S.post (w := some (.long x1, 0)) h (fun u hu => by cases hu; exact ⟨rfl, wfj⟩) ht) S.2.1.2.2 hdg C.2.2.2.2.1
  · exact h.elim
theorem sn_freturn (C : Cx G D X p l s m args meth c y b rt hh mx) (hd : dcd b pc .freturn 1 (pc + 1) = true) (hr : rt = some .float) (h : stp X G.2.2.2 CC Q (PW G D p l e s m args below meth c mx d mc ms Q) (.freturn) nx sd v ls st rc rs n I L A) : PW G D p l e s m args below meth c mx d mc ms Q pc ls st rc rs n I L A := by
  obtain ⟨hdg, -⟩ := dcd_spec hd
  dsimp only [stp] at h
  split at h
  · rename_i x1 t1
    intro H locs arr cells slots S
    refine W.widen (k := mc) (n := ms) (by have := S.2.2.2.2.2.2.1; omega) (by have := S.2.2.2.2.2.2.2; omega) (vx_ret ?_)
    exact W.fret C.1 C.2.1 (C.2.2.2.1.trans hr) (fun t ht _ => S.post (w := some (.float x1, 0)) h (fun u hu => by cases hu; exact ⟨rfl, wff⟩) ht) S.2.1.2.2 hdg C.2.2.2.2.1
  · exact h.elim
theorem sn_dreturn (C : Cx G D X p l s m args meth c y b rt hh mx) (hd : dcd b pc .dreturn 1 (pc + 1) = true) (hr : rt = some .double) (h : stp X G.2.2.2 CC Q (PW G D p l e s m args below meth c mx d mc ms Q) (.dreturn) nx sd v ls st rc rs n I L A) : PW G D p l e s m args below meth c mx d mc ms Q pc ls st rc rs n I L A := by
  obtain ⟨hdg, -⟩ := dcd_spec hd
  dsimp only [stp] at h
  split at h
  · rename_i x1 t1
    intro H locs arr cells slots S
    refine W.widen (k := mc) (n := ms) (by have := S.2.2.2.2.2.2.1; omega) (by have := S.2.2.2.2.2.2.2; omega) (vx_ret ?_)
    exact W.dret C.1 C.2.1 (C.2.2.2.1.trans hr) (fun t ht _ => S.post (w := some (.double x1, 0)) h (fun u hu => by cases hu; exact ⟨rfl, wfd⟩) ht) S.2.1.2.2 hdg C.2.2.2.2.1
  · exact h.elim
theorem sn_areturn (C : Cx G D X p l s m args meth c y b rt hh mx) (hd : dcd b pc .areturn 1 (pc + 1) = true) (hr : ∃ t, rt = some t ∧ ((∃ n, t = .object n) ∨ ∃ u, t = .array u)) (h : stp X G.2.2.2 CC Q (PW G D p l e s m args below meth c mx d mc ms Q) (.areturn) nx sd v ls st rc rs n I L A) : PW G D p l e s m args below meth c mx d mc ms Q pc ls st rc rs n I L A := by
  obtain ⟨hdg, -⟩ := dcd_spec hd
  obtain ⟨t9, hr, hr2⟩ := hr
  dsimp only [stp] at h
  split at h
  · rename_i x1 t1
    intro H locs arr cells slots S
    refine W.widen (k := mc) (n := ms) (by have := S.2.2.2.2.2.2.1; omega) (by have := S.2.2.2.2.2.2.2; omega) (vx_ret ?_)
    exact W.aret C.1 C.2.1 (C.2.2.2.1.trans hr) hr2 (Or.inr ⟨_, rfl⟩) (fun t ht _ => S.post (w := some (.ref x1, t1)) h (fun u hu => by cases hu; exact ⟨rfl, wfl_hd S.stk rfl⟩) ht) S.2.1.2.2 hdg C.2.2.2.2.1
  · exact h.elim
theorem sn_return (C : Cx G D X p l s m args meth c y b rt hh mx) (hd : dcd b pc .return_ 1 (pc + 1) = true) (hr : rt = none) (h : stp X G.2.2.2 CC Q (PW G D p l e s m args below meth c mx d mc ms Q) (.return_) nx sd v ls st rc rs n I L A) : PW G D p l e s m args below meth c mx d mc ms Q pc ls st rc rs n I L A := by
  obtain ⟨hdg, -⟩ := dcd_spec hd
  dsimp only [stp] at h
  split at h
  · intro H locs arr cells slots S
    refine W.widen (k := mc) (n := ms) (by have := S.2.2.2.2.2.2.1; omega) (by have := S.2.2.2.2.2.2.2; omega) (vx_ret ?_)
    exact W.vret C.1 C.2.1 (C.2.2.2.1.trans hr) (fun t ht _ => S.post (w := none) h (fun u hu => by cases hu) ht) S.2.1.2.2 hdg C.2.2.2.2.1
  · exact h.elim
theorem sn_ireturn (C : Cx G D X p l s m args meth c y b rt hh mx) (hd : dcd b pc .ireturn 1 (pc + 1) = true) (hs : sd = []) (hr : rt = some .int) (h : stp X G.2.2.2 CC Q (PW G D p l e s m args below meth c mx d mc ms Q) (.ireturn) nx sd v ls st rc rs n I L A) : PW G D p l e s m args below meth c mx d mc ms Q pc ls st rc rs n I L A := by
  obtain ⟨hdg, -⟩ := dcd_spec hd
  subst hs
  dsimp only [stp] at h
  split at h
  · rename_i x1 t1 e1
    intro H locs arr cells slots S
    refine W.widen (k := mc) (n := ms) (by have := S.2.2.2.2.2.2.1; omega) (by have := S.2.2.2.2.2.2.2; omega) (vx_ret ?_)
    exact W.iret C.1 C.2.1 (C.2.2.2.1.trans hr) (fun t ht _ => S.post (w := some (.int x1, 0)) h (fun u hu => by cases hu; exact ⟨rfl, wfi⟩) ht) S.2.1.2.2 hdg C.2.2.2.2.1
  · rename_i e1
    cases e1
  · exact h.elim
theorem sn_zreturn {z1 : Nat} (C : Cx G D X p l s m args meth c y b rt hh mx) (hd : dcd b pc .ireturn 1 (pc + 1) = true) (hs : sd = [z1]) (hr : rt = some .boolean) (h : stp X G.2.2.2 CC Q (PW G D p l e s m args below meth c mx d mc ms Q) (.ireturn) nx sd v ls st rc rs n I L A) : PW G D p l e s m args below meth c mx d mc ms Q pc ls st rc rs n I L A := by
  obtain ⟨hdg, -⟩ := dcd_spec hd
  subst hs
  dsimp only [stp] at h
  split at h
  · rename_i e1
    cases e1
  · rename_i z2 x1 t1 e1
    intro H locs arr cells slots S
    refine W.widen (k := mc) (n := ms) (by have := S.2.2.2.2.2.2.1; omega) (by have := S.2.2.2.2.2.2.2; omega) (vx_ret ?_)
    refine W.zret C.1 C.2.1 (C.2.2.2.1.trans hr) ?_ (fun t ht _ => S.post (w := some (.int x1, 0)) h.2 (fun u hu => by cases hu; exact ⟨rfl, wfi⟩) ht) S.2.1.2.2 hdg C.2.2.2.2.1
    rcases h.1 with rfl | rfl <;> rfl
  · exact h.elim
end
