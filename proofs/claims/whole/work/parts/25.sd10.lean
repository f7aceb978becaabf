/-! SOUNDNESS, 10: fields, references into arrays, new things, copies -/
theorem amcl_nm : ∀ c, c < 13 → ¬ c = 9 → (match amCl[c]?, nth clN c with | some q, some C => decide (q.1 = C) | _, _ => false) = true := by decide +kernel
section
variable {G : GE} {D : va_G} {X : Ext} {p : Program} {l : Launch} {e : Env} {s : State} {m : MethodId} {args : Array Value} {below : List Frame} {meth : Method} {c : Code} {y : MethodName} {b : ByteArray} {rt : Option FieldType} {hh : List (Nat × Nat × Nat × Nat)} {mx d mc ms n : Nat} {Q : AQ} {CC : CT} {I : HI} {L : HL} {A : HA} {ls st : List AV} {rc rs : Nat} {pc nx : Nat} {sd : List Nat} {v : Value} {H : Heap} {locs : List Loc} {arr : Array Slot} {cells slots : Nat}

theorem SI.nw (S : SI G D s mx mc ms n I L A ls st rc rs H locs arr cells slots) {I' : HI} {L' : HL} {A' : HA} {st' : List AV} {rc' rs' k1 N1 : Nat} {e9 : va_E} {H1 : Heap} (h0 : ¬ G.2.2.2 n = 0) (he : e9 = ent G I' L' A' n (G.2.2.2 n)) (hne : ∀ r', ¬ r' = n → I' r' = I r' ∧ L' r' = L r' ∧ A' r' = A r') (hA : wfA G (n + 1) A') (hst : wfl G (n + 1) st')
    (hz : H1.size = H.size + 1) (hat : va_at D amCl (G.1 + n, e9) H1) (ho : ∀ q, q < H.size → H1[q]? = H[q]?) (hc : cells + k1 + rc' = mc) (hs : slots + N1 + rs' = ms) : SI G D s mx mc ms (n + 1) I' L' A' ls st' rc' rs' H1 locs arr (cells + k1) (slots + N1) := by
  have hP := S.P
  have hH := S.1.1
  refine ⟨⟨by rw [hz, hH]; omega, ?_, hA⟩, ⟨Nat.le_trans S.2.1.1 (by omega), fun x h1 h2 => (ho x (Nat.lt_of_lt_of_le h1 S.2.1.1)).trans (S.2.1.2.1 x h1 h2), S.2.1.2.2⟩, S.2.2.1, S.2.2.2.1, wfl_mono (Nat.le_succ n) S.lcl, hst, hc, hs⟩
  rw [← wsl_new h0 (fun r hr => ent_congr (hne r (by omega)).1 (hne r (by omega)).2.1 (hne r (by omega)).2.2) he]
  refine (hP.kept (fun k x hx => ho x.1 ((hP k x hx).lt))).app (fun k x hx => ?_)
  have hz : k < 1 := (List.getElem?_eq_some_iff.mp hx).1
  rw [show k = 0 by omega] at hx
  cases hx
  exact hat
theorem Cx.hin (C : Cx G D X p l s m args meth c y b rt hh mx) : ∀ w ∈ tg, w.before args s = true := C.2.2.2.2.2.2.2.1
theorem Cx.own (C : Cx G D X p l s m args meth c y b rt hh mx) : s.vm.findClass y.cls = some m.cls := C.2.2.2.2.2.2.1
theorem Cx.wd (C : Cx G D X p l s m args meth c y b rt hh mx) : Wd G D X s := C.2.2.2.2.2.2.2.2.2.1
theorem sn_aastore (C : Cx G D X p l s m args meth c y b rt hh mx) (hkd : ∀ r, srtB (kSort (G.2.2.2 r)) = true) (hd : dcd b pc .aastore 1 nx = true) (h : stp X G.2.2.2 CC Q (PW G D p l e s m args below meth c mx d mc ms Q) (.aastore) nx sd v ls st rc rs n I L A) : PW G D p l e s m args below meth c mx d mc ms Q pc ls st rc rs n I L A := by
  obtain ⟨hdg, rfl⟩ := dcd_spec hd
  dsimp only [stp] at h
  split at h
  · rename_i x1 tx i1 t1 r1 t2 r9
    intro H locs arr cells slots S
    cases hb : (Nat.ble 10 (kSort t2) && Nat.beq tx (kSort t2 - 9)) with
    | false => rw [hb] at h; exact h.elim
    | true =>
      rw [hb] at h
      have h : inb i1 (kLen t2) ∧ PW G D p l e s m args below meth c mx d mc ms Q (pc + 1) ls r9 rc rs n I L (u2 A r1 i1.toNatClampNeg (x1 + 1)) := h
      rw [Bool.and_eq_true] at hb
      have hb1 := Nat.le_of_ble_eq_true hb.1
      have hb2 := Nat.eq_of_beq_eq_true hb.2
      have hwx := wfl_hd S.stk rfl
      have hw := wfl_hd (wfl_tl (wfl_tl S.stk)) rfl
      have ho : ownT t2 = true := own_arr (by omega) (by omega)
      obtain ⟨hr, ht, h0, hc⟩ := S.cell hw ho
      rw [ent_q hb1] at hc
      have h23 : srtB (kSort t2) = true := by have := hkd r1; rw [ht] at this; exact this
      have h24 : kSort t2 < 23 := by rcases srtB_no h23 hb1 with h | h | h | h <;> omega
      obtain ⟨C9, hC9, hty⟩ := tys_at (G := G) hb1 h23
      obtain ⟨kA, comp, k1, k2, k3, -⟩ := (C.kn.2 _ _ hty).2
      obtain ⟨kE, hkE, -⟩ := Vm.findClass_spec k3
      have hval : ∃ cellV : Cell, H[adr G tx x1]? = some cellV ∧ (∀ q, cellV.vm ≠ .statics q) ∧ cellV.cls = comp := by
        by_cases h9 : kSort t2 = 19
        · rw [h9] at hb2 hC9
          have hb2 : tx = 10 := hb2
          subst hb2
          have hC9 : some RX9 = some C9 := hC9
          cases hC9
          rcases hwx.2 rfl with ⟨-, i, hi, h1⟩ | ⟨h1, -⟩ | h1
          · have h1 : x1 = 10020 + i := h1
            subst h1
            obtain ⟨cell, g1, g2, g3, -⟩ := (C.wd.2.2.2.2.1 i hi).2.2.kept S.2.1.2.1
            exact ⟨cell, g1, (fun q hq => by rw [hq] at g2; cases g2), Option.some.inj (g3.symm.trans k3)⟩
          · cases h1
          · exact absurd h1 (show ¬ (x1, 10) ∈ statL by simp [statL])
        · have hox : ownT tx = true := by
            rw [hb2]
            have := own_obj (c := kSort t2 - 10) (by omega) (by omega)
            rw [show kSort t2 - 10 + 1 = kSort t2 - 9 by omega] at this
            exact this
          obtain ⟨gr, gt, g0, gc⟩ := S.cell hwx hox
          rw [show tx = (kSort t2 - 10) + 1 by omega, ent_obj (by omega)] at gc
          obtain ⟨r', hr', cellV, f1, f2, f3, -⟩ := S.P _ _ gc
          have hn := amcl_nm (kSort t2 - 10) (by omega) (by omega)
          have hr' : amCl[kSort t2 - 10]? = some r' := hr'
          rw [hr', hC9] at hn
          have hn : r'.1 = C9 := of_decide_eq_true hn
          have hcls := (C.kn.1 _ r' hr').2.1
          rw [hn] at hcls
          have f1 : H[G.1 + x1]? = some cellV := f1
          rw [adr_own hox]
          exact ⟨cellV, f1, (fun q hq => by rw [f3] at hq; cases hq), by rw [f2]; exact Option.some.inj (hcls.symm.trans k3)⟩
      obtain ⟨cellV, f1, f2, f3⟩ := hval
      rw [List.map_cons, List.map_cons, List.map_cons, cv_own ho]
      refine W.aast C.1 C.2.1 (S.P _ _ hc) (fun q h => by cases h) (fun h => by cases h) k1 k2 rfl hkE (vp_inq h.1) f1 f2 (by rw [f3]; exact hkE) (by rw [f3]; exact va_asg _ _) rfl rfl hdg fun H1 e1 z oq => ?_
      have haT : aT t2 i1.toNatClampNeg = tx := by rw [aT_q hb1, hb2]
      refine h.2 _ _ _ _ _ (S.wr (A' := u2 A r1 i1.toNatClampNeg (x1 + 1)) hr ht h0 (e9 := .inl (G.2.1 (kSort t2), kLen t2, .inr (.inr (.inr (.inr (u1 (fun i => oA G (kSort t2 - 9) (A r1 i)) i1.toNatClampNeg (some (adr G tx x1)))))))) ?_ (fun r' hn => ⟨rfl, rfl, u2_ne hn⟩) (wfA_u2 S.1.2.2 ht (by rw [haT]; exact hwx)) (wfl_tl (wfl_tl (wfl_tl S.stk))) z (S.P.set (wsl_D n) hc ?_ oq) (S.2.1.put z oq (Nat.le_add_right _ _)))
      · rw [ent_q hb1, u2_at]
        congr 7
        funext q
        unfold u1
        by_cases hq : q = i1.toNatClampNeg
        · rw [if_pos hq, if_pos hq, hb2]; rfl
        · rw [if_neg hq, if_neg hq]
      · show H1[_]? = some (vp_cell _ _)
        rw [e1]; exact congrArg some cell_q
  · exact h.elim
theorem sn_getfield {i1 c1 j1 y1 ft1 N1 : Nat} {C1 : String} {T1 : u_T} (C : Cx G D X p l s m args meth c y b rt hh mx) (hd : dcd b pc (.getfield i1) 3 nx = true) (hs : sd = [c1, j1, y1, ft1]) (h9 : ¬ c1 = 9) (hc : amCl[c1]? = some (C1, T1, N1)) (hj : j1 < N1) (hk : (Cond.fieldLink y.cls i1 (T1 j1).1 (T1 j1).2.1 (T1 j1).2.2.1).before args s = true) (hf : fsr c1 j1 = (y1, ft1)) (hy : y1 ≤ 1) (h : stp X G.2.2.2 CC Q (PW G D p l e s m args below meth c mx d mc ms Q) (.getfield i1) nx sd v ls st rc rs n I L A) : PW G D p l e s m args below meth c mx d mc ms Q pc ls st rc rs n I L A := by
  obtain ⟨hdg, rfl⟩ := dcd_spec hd
  subst hs
  dsimp only [stp] at h
  split at h
  · rename_i c2 j2 y2 f2 r1 t1 r9 e1
    cases e1
    intro H locs arr cells slots S
    cases hb : Nat.beq t1 (kObj c1) with
    | false => rw [hb] at h; exact h.elim
    | true =>
      rw [hb] at h
      have hb : t1 = c1 + 1 := Nat.eq_of_beq_eq_true hb
      subst hb
      have hl13 : c1 < 13 := (List.getElem?_eq_some_iff.mp hc).1
      have ho : ownT (c1 + 1) = true := own_obj (by omega) h9
      obtain ⟨hr, ht, h0, hcl⟩ := S.cell (wfl_hd S.stk rfl) ho
      rw [ent_obj (by omega)] at hcl
      have hfl := fsr_spec hf hy
      have hfv := flds_at (G := G) (fsl c1) 0 j1 (I r1) (A r1) _ hfl
      rw [Nat.zero_add] at hfv
      have hty := (fty_ok hc h9).2 j1 _ hfl
      rw [List.map_cons, cv_own ho]
      rcases (show y1 = 0 ∨ y1 = 1 by omega) with rfl | rfl
      · exact va_get C.1 C.2.1 C.hin (lay_in hc) C.own C.kn S.P (wix G r1) hcl hc j1 hj hk (fun _ h9 => h9) hfv hdg (h _ _ _ _ _ (S.to (wfl_cons wfi (wfl_tl S.stk))))
      · have h : (match A r1 j1 with | 0 => False | a + 1 => PW G D p l e s m args below meth c mx d mc ms Q (pc + 3) ls ((.ref a, ft1) :: r9) rc rs n I L A) := h
        cases hA : A r1 j1 with
        | zero => rw [hA] at h; exact h.elim
        | succ a =>
          rw [hA] at h
          have haT : aT (G.2.2.2 r1) j1 = ft1 := by rw [ht]; exact aT_obj (y := 1) (by omega) hfl
          have hne : ¬ ft1 = 0 := fun z => by subst z; cases hty
          have hwf := S.1.2.2 r1 _ a hr h0 hA (by rw [haT]; exact hne)
          rw [haT] at hwf
          have k := h _ _ _ _ _ (S.to (wfl_cons hwf (wfl_tl S.stk)))
          have e9 : cv G (.ref a, ft1) = fv G 1 ft1 (I r1 j1) (A r1 j1) := by
            show Value.ref (adr G ft1 a) = va_rf (oA G ft1 (A r1 j1))
            rw [hA]; rfl
          rw [List.map_cons, e9] at k
          exact va_get C.1 C.2.1 C.hin (lay_in hc) C.own C.kn S.P (wix G r1) hcl hc j1 hj hk (fun _ h9 => h9) hfv hdg k
  · exact h.elim
theorem sn_gettok {i1 j1 y1 ft1 : Nat} (C : Cx G D X p l s m args meth c y b rt hh mx) (hd : dcd b pc (.getfield i1) 3 nx = true) (hs : sd = [9, j1, y1, ft1]) (hk : (y1 = 2 ∧ (Cond.fieldLink y.cls i1 RX9 "direction" "I").before args s = true) ∨ (y1 = 3 ∧ (Cond.fieldLink y.cls i1 RX9 "text" "Ljava/lang/String;").before args s = true)) (h : stp X G.2.2.2 CC Q (PW G D p l e s m args below meth c mx d mc ms Q) (.getfield i1) nx sd v ls st rc rs n I L A) : PW G D p l e s m args below meth c mx d mc ms Q pc ls st rc rs n I L A := by
  obtain ⟨hdg, rfl⟩ := dcd_spec hd
  subst hs
  dsimp only [stp] at h
  split at h
  · rename_i c2 j2 y2 f2 r1 t1 r9 e1
    cases e1
    intro H locs arr cells slots S
    cases hb : Nat.beq t1 (kObj 9) with
    | false => rw [hb] at h; exact h.elim
    | true =>
      rw [hb] at h
      have hb : t1 = 10 := Nat.eq_of_beq_eq_true hb
      subst hb
      rcases (wfl_hd S.stk rfl).2 rfl with ⟨-, i, hi, h1⟩ | ⟨h1, -⟩ | h1
      · have h1 : r1 = 10020 + i := h1
        subst h1
        rw [List.map_cons, cv_ext (show ownT 10 = false from rfl)]
        rcases hk with ⟨rfl, hk⟩ | ⟨rfl, hk⟩
        · exact vk_getf C.1 C.2.1 (C.wd.2.2.2.2.1 i hi).1 S.2.1 C.own hk (fun _ z => z) hdg (h _ _ _ _ _ (S.to (wfl_cons wfi (wfl_tl S.stk))))
        · obtain ⟨k, hk1, hk2⟩ := C.2.2.2.2.2.2.2.2.2.2.1.1 i hi
          have kk := h _ _ _ _ _ (S.to (wfl_cons (v := (.ref (X.2.2.1 (10020 + i)), 20)) ⟨fun z => (by cases z), fun _ => Or.inr (Or.inl ⟨rfl, k, hk1, hk2⟩)⟩ (wfl_tl S.stk)))
          rw [List.map_cons, cv_ext (show ownT 20 = false from rfl)] at kk
          exact vk_getf C.1 C.2.1 (C.wd.2.2.2.2.1 i hi).2.1 S.2.1 C.own hk (fun _ z => z) hdg kk
      · cases h1
      · exact absurd h1 (show ¬ (r1, 10) ∈ statL by simp [statL])
  · exact h.elim
theorem put_any (C : Cx G D X p l s m args meth c y b rt hh mx) {R : Room} {Q9 : State → Prop} {i1 c1 j1 N1 q0 a : Nat} {C1 : String} {T1 : u_T} {ws : va_W} {fs : List Value} {w : Value} {rest : List Value} {ty : FieldType} (hdg : decode b pc = .ok (.putfield i1, 3)) (hc : amCl[c1]? = some (C1, T1, N1)) (hj : j1 < N1) (hk : (Cond.fieldLink y.cls i1 (T1 j1).1 (T1 j1).2.1 (T1 j1).2.2.1).before args s = true) (hfin : (T1 j1).2.2.2 = false ∨ ((T1 j1).2.2.2 = true ∧ y.name = "<init>" ∧ (T1 j1).1 = y.cls)) (hP : va_P D amCl ws H) (hD : va_D (Af G) ws) (he : ws[q0]? = some (a, .inr (c1, fs))) (hl : j1 < fs.length) (hd : parseFieldDescriptor (T1 j1).2.2.1 = some ty) (hn : narrow ty w = w) (hfit : fits ty w = true)
    (kk : ∀ (H1 : Heap) (f : Nat), va_P D amCl (ws.set q0 (a, .inr (c1, fs.set j1 w))) H1 → H1.size = H.size → (∀ q, q ≠ a → H1[q]? = H[q]?) → W p l e R s m args below meth c H1 (locs ++ [⟨a, f⟩]) cells slots Q9 (F0 m (pc + 3) arr rest)) : W p l e R s m args below meth c H locs cells slots Q9 (F0 m pc arr (w :: .ref a :: rest)) := by
  have hts := C.hin
  have hin := lay_in hc
  have hap := va_apart (own := y.cls) hts hin (tyD T1) (tyD_ok hc) (nmD_ok hc) C.kn hc
  obtain ⟨r, h1, cell, q1, q2, q3, q4⟩ := hP q0 _ he
  have hr : r = (C1, T1, N1) := Option.some.inj (h1.symm.trans hc)
  subst hr
  obtain ⟨hS, hfc, kC, hkC, hkind⟩ := C.kn.1 c1 _ hc
  obtain ⟨cf, kf, fi, f, hi, hsl⟩ := hS j1 hj
  have hlay := hts _ (hin _ (u_in_lay hj))
  unfold u_lay at hlay
  have hst := (u_facts hfc hkC (u_lays hts hin hj) hi).1
  have hend : ∀ H' : Heap, H'[a]? = some (cell.setSlot f.slot w) → H'.size = H.size → (∀ q, q ≠ a → H'[q]? = H[q]?) → va_P D amCl (ws.set q0 (a, .inr (c1, fs.set j1 w))) H' := by
    intro H' e1 e2 e3
    have hsl : f.slot = D.2 c1 j1 := hsl
    rw [hsl] at e1
    exact hP.set hD he ⟨_, hc, t_OB.to (V := updV (vp_V fs) j1 w) ⟨_, e1, q2, q3, t_set q4 hap hj w⟩ (fun j _ => vp_updV_set hl w j)⟩ e3
  rcases hfin with hfin | ⟨hfin, hin2, hdecl⟩
  · rw [if_neg (by rw [hfin]; decide)] at hlay
    have h6 := u_store hfc hkC hkind hlay hi hd hn hfit
    exact W.putK C.1 C.2.1 (f := f) ⟨C.own, hk, ⟨_, _, _, hi⟩, hst⟩ (by rw [q2]; exact h6) q1 q3 (by have hsl : f.slot = D.2 c1 j1 := hsl; rw [hsl]; exact k2_hasslot (q4 j1 hj)) rfl rfl hdg fun H' e1 e2 e3 => kk H' _ (hend H' e1 e2 e3) e2 e3
  · rw [if_pos hfin] at hlay
    have hcf : m.cls = cf := by
      obtain ⟨_, _, c', _, _, _, -, -, hf', -, -, -, hown2, -⟩ := Cond.laysFinal_spec hlay
      have e1 : c' = cf := by have := hi.symm.trans hf'; simp at this; exact this.1.symm
      rw [hdecl] at hown2
      rw [← e1]; exact Option.some.inj (C.own.symm.trans hown2)
    have h6 := u_fits hfc hkC hkind (Or.inr hlay) hi hd hn hfit
    exact W.putFinK C.1 C.2.1 C.own hk hi hst hcf (C.2.2.2.2.2.1.trans hin2) (by rw [q2]; exact h6) q1 q3 (by have hsl : f.slot = D.2 c1 j1 := hsl; rw [hsl]; exact k2_hasslot (q4 j1 hj)) rfl rfl hdg fun H' e1 e2 e3 => kk H' _ (hend H' e1 e2 e3) e2 e3
theorem sn_putfield {i1 c1 j1 y1 ft1 N1 : Nat} {C1 : String} {T1 : u_T} (C : Cx G D X p l s m args meth c y b rt hh mx) (hd : dcd b pc (.putfield i1) 3 nx = true) (hs : sd = [c1, j1, y1, ft1]) (h9 : ¬ c1 = 9) (hc : amCl[c1]? = some (C1, T1, N1)) (hj : j1 < N1) (hk : (Cond.fieldLink y.cls i1 (T1 j1).1 (T1 j1).2.1 (T1 j1).2.2.1).before args s = true) (hfin : (T1 j1).2.2.2 = false ∨ ((T1 j1).2.2.2 = true ∧ y.name = "<init>" ∧ (T1 j1).1 = y.cls)) (hf : fsr c1 j1 = (y1 % 4, ft1)) (hy : (y1 = 0 ∧ (T1 j1).2.2.1 = "I") ∨ (y1 = 4 ∧ (T1 j1).2.2.1 = "Z") ∨ y1 = 1) (h : stp X G.2.2.2 CC Q (PW G D p l e s m args below meth c mx d mc ms Q) (.putfield i1) nx sd v ls st rc rs n I L A) : PW G D p l e s m args below meth c mx d mc ms Q pc ls st rc rs n I L A := by
  obtain ⟨hdg, rfl⟩ := dcd_spec hd
  subst hs
  dsimp only [stp] at h
  split at h
  · rename_i c2 j2 y2 f2 w1 tx r1 t1 r9 e1
    cases e1
    intro H locs arr cells slots S
    cases hb : Nat.beq t1 (kObj c1) with
    | false => rw [hb] at h; exact h.elim
    | true =>
      rw [hb] at h
      have hb : t1 = c1 + 1 := Nat.eq_of_beq_eq_true hb
      subst hb
      have hl13 : c1 < 13 := (List.getElem?_eq_some_iff.mp hc).1
      have ho : ownT (c1 + 1) = true := own_obj (by omega) h9
      obtain ⟨hr, ht, h0, hcl⟩ := S.cell (wfl_hd (wfl_tl S.stk) rfl) ho
      rw [ent_obj (by omega)] at hcl
      have hfl := fsr_spec hf (by rcases hy with ⟨rfl, -⟩ | ⟨rfl, -⟩ | rfl <;> decide)
      have hlen : j1 < (flds G (fsl c1) 0 (I r1) (A r1)).length := by rw [flds_len]; exact (List.getElem?_eq_some_iff.mp hfl).1
      have hty := (fty_ok hc h9).2 j1 _ hfl
      rw [List.map_cons, List.map_cons, cv_own ho]
      rcases hy with ⟨rfl, hy⟩ | ⟨rfl, hy⟩ | rfl
      · cases w1 <;> first | exact h.elim | skip
        rename_i w1
        have hd : parseFieldDescriptor (T1 j1).2.2.1 = some .int := by rw [hy]; rfl
        refine put_any C hdg hc hj hk hfin S.P (wsl_D n) hcl hlen hd rfl rfl (fun H1 f hP z oq => ?_)
        rw [flds_set (fsl c1) 0 j1 (I r1) (u1 (I r1) j1 w1) (A r1) (A r1) _ _ hfl (fun j' hj' => ⟨u1_ne (by omega), rfl⟩) (by rw [Nat.zero_add, u1_at]; rfl)] at hP
        exact h _ _ _ _ _ (S.wr (I' := u2 I r1 j1 w1) hr ht h0 (by rw [ent_obj (by omega), u2_at]) (fun r' hn => ⟨u2_ne hn, rfl, rfl⟩) S.1.2.2 (wfl_tl (wfl_tl S.stk)) z hP (S.2.1.put z oq (Nat.le_add_right _ _)))
      · cases w1 <;> first | exact h.elim | skip
        rename_i w1
        have h : (w1 = 0 ∨ w1 = 1) ∧ PW G D p l e s m args below meth c mx d mc ms Q (pc + 3) ls r9 rc rs n (u2 I r1 j1 w1) L A := h
        have hd : parseFieldDescriptor (T1 j1).2.2.1 = some .boolean := by rw [hy]; rfl
        refine put_any C hdg hc hj hk hfin S.P (wsl_D n) hcl hlen hd (by rcases h.1 with rfl | rfl <;> rfl) (by rcases h.1 with rfl | rfl <;> rfl) (fun H1 f hP z oq => ?_)
        have hv : cv G (.int w1, tx) = fv G 0 ft1 (u1 (I r1) j1 w1 (0 + j1)) (A r1 (0 + j1)) := by rw [Nat.zero_add, u1_at]; rfl
        rw [flds_set (fsl c1) 0 j1 (I r1) (u1 (I r1) j1 w1) (A r1) (A r1) _ _ hfl (fun j' hj' => ⟨u1_ne (by omega), rfl⟩) hv] at hP
        exact h.2 _ _ _ _ _ (S.wr (I' := u2 I r1 j1 w1) hr ht h0 (by rw [ent_obj (by omega), u2_at]) (fun r' hn => ⟨u2_ne hn, rfl, rfl⟩) S.1.2.2 (wfl_tl (wfl_tl S.stk)) z hP (S.2.1.put z oq (Nat.le_add_right _ _)))
      · cases w1 <;> first | exact h.elim | skip
        rename_i w1
        have h2 : (bif Nat.beq tx ft1 then PW G D p l e s m args below meth c mx d mc ms Q (pc + 3) ls r9 rc rs n I L (u2 A r1 j1 (w1 + 1)) else False) := h
        cases hb2 : Nat.beq tx ft1 with
        | false => rw [hb2] at h2; exact h2.elim
        | true =>
          rw [hb2] at h2
          have h2 : PW G D p l e s m args below meth c mx d mc ms Q (pc + 3) ls r9 rc rs n I L (u2 A r1 j1 (w1 + 1)) := h2
          have hb2 := Nat.eq_of_beq_eq_true hb2
          subst hb2
          have hwx := wfl_hd S.stk rfl
          have hd : ∃ ty, parseFieldDescriptor (T1 j1).2.2.1 = some ty ∧ narrow ty (cv G (.ref w1, tx)) = cv G (.ref w1, tx) ∧ fits ty (cv G (.ref w1, tx)) = true := by
            have hty : (!Nat.beq tx 0 && (match parseFieldDescriptor (T1 j1).2.2.1 with | some (.object _) => true | some (.array _) => true | _ => false)) = true := hty
            rw [Bool.and_eq_true] at hty
            have hty := hty.2
            split at hty
            · rename_i z e9; exact ⟨_, e9, rfl, rfl⟩
            · rename_i z e9; exact ⟨_, e9, rfl, rfl⟩
            · cases hty
          obtain ⟨ty, hd, hn, hfit⟩ := hd
          refine put_any C hdg hc hj hk hfin S.P (wsl_D n) hcl hlen hd hn hfit (fun H1 f hP z oq => ?_)
          have hv : cv G (.ref w1, tx) = fv G 1 tx (I r1 (0 + j1)) (u1 (A r1) j1 (w1 + 1) (0 + j1)) := by rw [Nat.zero_add, u1_at]; rfl
          rw [flds_set (fsl c1) 0 j1 (I r1) (I r1) (A r1) (u1 (A r1) j1 (w1 + 1)) _ _ hfl (fun j' hj' => ⟨rfl, u1_ne (by omega)⟩) hv] at hP
          exact h2 _ _ _ _ _ (S.wr (A' := u2 A r1 j1 (w1 + 1)) hr ht h0 (by rw [ent_obj (by omega), u2_at]) (fun r' hn => ⟨rfl, rfl, u2_ne hn⟩) (wfA_u2 S.1.2.2 ht (by rw [aT_obj (y := 1) (by omega) hfl]; exact hwx)) (wfl_tl (wfl_tl S.stk)) z hP (S.2.1.put z oq (Nat.le_add_right _ _)))
  · exact h.elim
end
