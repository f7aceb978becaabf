/-! THE LAW ITSELF, 4: from the walk of its table to its end -/
abbrev lwQ : AQ := fun o _ _ _ _ => o = .inl (some (.int 1, 0))
section
variable {p : Program} {l : Launch} {e : Env} {s : State} {m : MethodId} {args : Array Value} {below : List Frame} {meth : Method} {c : Code} {H : Heap} {locs : List Loc} {cells slots : Nat} {Q : State → Prop} {g : JFrame}
theorem room_le {R R' : Room} (h1 : R'.frames ≤ R.frames) (h2 : R'.cells ≤ R.cells) (h3 : R'.slots ≤ R.slots) (h4 : R'.locals ≤ R.locals) {pl : Platform} (h : s.hasRoom pl R = true) : s.hasRoom pl R' = true := by
  simp only [State.hasRoom, Bool.and_eq_true, decide_eq_true_eq] at h ⊢
  obtain ⟨⟨⟨⟨a1, a2, a3, a4, a5, a6⟩, a7⟩, a8⟩, a9⟩ := h
  exact ⟨⟨⟨⟨Nat.le_trans (by omega) a1, Nat.le_trans (by omega) a2, Nat.le_trans (by omega) a3, Nat.le_trans (by omega) a4, Nat.le_trans (by omega) a5, a6⟩, Nat.le_trans (by omega) a7⟩, Nat.le_trans (by omega) a8⟩, a9⟩
theorem room_W {R R' : Room} (h1 : R'.frames ≤ R.frames) (h2 : R'.cells ≤ R.cells) (h3 : R'.slots ≤ R.slots) (h4 : R'.locals ≤ R.locals) (kk : W p l e R' s m args below meth c H locs cells slots Q g) : W p l e R s m args below meth c H locs cells slots Q g := fun T hT X => kk T hT { X with room := room_le h1 h2 h3 h4 X.room }
theorem law_end {G : GE} {D : va_G} {b : Nat} (hG : G.1 = s.heap.size) (kk : W p l e (rmD 1670 601024 7293034) s m #[Value.ref b] below meth c H [] 0 0 (vx_MQ below (sQ G D lwQ) (sX G D lwQ) #[Value.ref b] s 601024 7293034 (Af G)) g) : W p l e room_1 s m #[Value.ref b] below meth c H [] 0 0 (lw_Z below #[Value.ref b] s) g := by
  refine room_W (R' := rmD 1670 601024 7293034) (by decide) (by decide) (by decide) (by decide) ?_
  intro T hT X
  obtain ⟨t, a1, o, b1, b2, b3⟩ := kk T hT X
  refine ⟨t, a1, o, b1, b2, ?_⟩
  rcases b3 with ⟨⟨v, n', I', L', A', hQ, he, -⟩, Lc, ⟨hv, hW, hs⟩, hL⟩ | ⟨q, he, E, ce, Lc, ⟨i, n', I', L', A', hQ, -⟩, -⟩
  · cases hQ
    refine ⟨he, lw_closed (d0 := s.drawn) (Drawn.sameBut.refl s.drawn lw_cs) hv hW (hs.weaken (fun y hy hlt => ?_) (Nat.le_refl _) (Nat.le_refl _))⟩
    exact absurd hlt (Nat.not_lt.mpr (by have := hL y hy; have this : G.1 ≤ y.base := this; omega))
  · cases hQ
end
theorem okZ_nm {own nm : String} {cc : ByteArray} {mx : Nat} {rt : Option FieldType} {hh : List (Nat × Nat × Nat × Nat)} {h pc : Nat} {en : Ent} (h1 : okZ own "" cc mx rt hh h pc en = true) : okZ own nm cc mx rt hh h pc en = true := by
  obtain ⟨ins, nx, sd, v⟩ := en
  cases ins <;> first
    | exact h1
    | (rename_i i
       rcases sd with _ | ⟨c, _ | ⟨j, _ | ⟨y, _ | ⟨z, _ | ⟨w, r⟩⟩⟩⟩⟩ <;> first
        | exact h1
        | (have h1 : (!Nat.beq c 9 && (match amCl[c]? with
            | some (_, T, _) => plF h own i (T j).1 (T j).2.1 (T j).2.2.1 && (!(T j).2.2.2 || (decide ("" = "<init>") && decide ((T j).1 = own)))
            | none => false)) = true := h1
           show (!Nat.beq c 9 && (match amCl[c]? with
            | some (_, T, _) => plF h own i (T j).1 (T j).2.1 (T j).2.2.1 && (!(T j).2.2.2 || (decide (nm = "<init>") && decide ((T j).1 = own)))
            | none => false)) = true
           cases hc : amCl[c]? with
           | none => rw [hc] at h1; exact h1
           | some q =>
             rw [hc] at h1
             obtain ⟨C, T, N⟩ := q
             simp only [Bool.and_eq_true, Bool.or_eq_true] at h1 ⊢
             refine ⟨h1.1, h1.2.1, ?_⟩
             rcases h1.2.2 with h2 | h2
             · exact Or.inl h2
             · exact absurd (of_decide_eq_true h2.1) (by decide)))
theorem law_body {G : GE} {D : va_G} {X : Ext} {p : Program} {l : Launch} {e : Env} {s : State} {m : MethodId} {below : List Frame} {meth : Method} {c : Code} {b : Nat} (hok : ∀ k, k < 301 → okY k = true) (hoz : ∀ k, k < 301 → okZT k = true) {ht : List (List Nat)} (hlt : okT R_law code 0 (tbm 301).1 ht = true) (hlz : okTF (okZ R_law "" code 9 ret []) 0 (tbm 301).1 ht = true)
    (g : Gd G X) (hW : Wd G D X s) (hl : l.stackTraces = false) (hk23 : ∀ r, srtB (kSort (G.2.2.2 r)) = true) (hx : p.tables.exec = Jvm.exec) (hb : c.code = code) (hml : c.maxLocals = 9) (hr : meth.sig.returnType = ret) (hlocks : meth.locks = false) (hown : s.vm.findClass R_law = some m.cls) (htg : ∀ w ∈ tg, w.before #[Value.ref b] s = true) (htab : c.exceptionTable.toList = []) (hG : G.1 = s.heap.size) (h100 : G.2.2.1 10100 = b)
    (hR : RnD X G.2.2.2 (CnD X G.2.2.2 1669) (tbm 301).1 lwQ 0 (entL [(.ref 10100, 80000)] 9) [] 601024 7293034 0 (fun _ _ => 0) (fun _ _ => 0) (fun _ _ => 0)) :
    W p l e room_1 s m #[Value.ref b] below meth c s.heap [] 0 0 (lw_Z below #[Value.ref b] s) (entryFrame m ([Value.ref b] : List Value).toArray 9) := by
  refine law_end (G := G) (D := D) hG ?_
  have C : Cx G D X p l s m #[Value.ref b] meth c ⟨R_law, meth.name, ""⟩ code ret [] 9 := ⟨hx, hb, hml, hr, hlocks, rfl, hown, htg, htab, hW, g, hl⟩
  have h1 := lv_entry ([Value.ref b]) (n := 9) (Nat.le_of_ble_eq_true rfl)
  rw [lg_entry_eq]
  generalize (lg_sl ([Value.ref b]) ++ List.replicate (9 - (lg_sl ([Value.ref b])).length) Slot.unset).toArray = arr at h1 ⊢
  rw [okT_F] at hlt
  have hP := hR (PW G D p l e s m #[Value.ref b] below meth c 9 1670 601024 7293034 lwQ) (fun pc ls st rc rs n I L A h => by
    unfold stA at h
    cases hlk : lk (tbm 301).1 pc with
    | none => rw [hlk] at h; exact h.elim
    | some en =>
      rw [hlk] at h
      obtain ⟨h1, hE⟩ := okTF_at _ 0 pc _ hlt hlk
      obtain ⟨h2, hZ⟩ := okTF_at _ 0 pc _ hlz hlk
      rw [Nat.zero_add] at hE hZ
      exact snd_step C hok hk23 (sdM_all g hl hok hoz hk23 1669) hE (okZ_nm hZ) h)
  have hz : ∀ v ∈ [((.ref 10100, 80000) : AV)], isJ v.1 = false := fun v hv => by
    rcases List.mem_cons.mp hv with rfl | hv
    · rfl
    · cases hv
  have hcv : ([((.ref 10100, 80000) : AV)].map (cv G)) = [Value.ref b] := by
    show [Value.ref (adr G 80000 10100)] = _
    rw [show adr G 80000 10100 = G.2.2.1 10100 from rfl, h100]
  have hwf : ∀ v ∈ [((.ref 10100, 80000) : AV)], wfv G 0 v := fun v hv => by
    rcases List.mem_cons.mp hv with rfl | hv
    · exact ⟨fun q => (by cases q), fun _ => Or.inr (Or.inr (by decide))⟩
    · cases hv
  refine hP s.heap [] arr 0 0 ⟨⟨hG.symm, fun k q h => by simp [wsl] at h, fun r j a h => absurd h (Nat.not_lt_zero _)⟩, va_S.rf, ⟨h1.1, h1.2.1, fun q hq => h1.2.2 q ?_⟩, rfl, entL_wf _ _ hwf, (fun _ h _ => nomatch h), Nat.zero_add _, Nat.zero_add _⟩
  have h9 := entL_lcs (G := G) [(.ref 10100, 80000)] 0 9 hz q hq
  rw [hcv] at h9
  exact h9
