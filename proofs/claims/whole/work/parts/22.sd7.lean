/-! SOUNDNESS, 7: what is decided of the classes' fields, and the cells of the world -/
set_option maxRecDepth 100000 in
theorem lay_ok : amCl.all (fun q => (u_ws q.1 q.2.1 q.2.2).all (fun w => decide (w ∈ lw_tbl) && goodWord w)) = true := by decide +kernel
theorem lay_in {c : Nat} {q : vw_C} (h : amCl[c]? = some q) : ∀ w ∈ u_ws q.1 q.2.1 q.2.2, w ∈ tg := by
  intro w hw
  have h1 := List.all_eq_true.mp lay_ok q (List.mem_of_getElem? h)
  have h2 := List.all_eq_true.mp h1 w hw
  simp only [Bool.and_eq_true, decide_eq_true_eq] at h2
  exact List.mem_filter.mpr h2
def tyD (T : u_T) (k : Nat) : FieldType := (parseFieldDescriptor (T k).2.2.1).getD .int
theorem tyD_all : amCl.all (fun q => (List.range q.2.2).all (fun k => (parseFieldDescriptor (q.2.1 k).2.2.1).isSome)) = true := by decide +kernel
theorem tyD_ok {c : Nat} {q : vw_C} (h : amCl[c]? = some q) : ∀ k, k < q.2.2 → parseFieldDescriptor (q.2.1 k).2.2.1 = some (tyD q.2.1 k) := by
  intro k hk
  have h1 := List.all_eq_true.mp tyD_all q (List.mem_of_getElem? h)
  have h2 := List.all_eq_true.mp h1 k (List.mem_range.mpr hk)
  obtain ⟨x, hx⟩ := Option.isSome_iff_exists.mp h2
  unfold tyD
  rw [hx]; rfl
theorem nmD_all : amCl.all (fun q => (List.range q.2.2).all (fun a => (List.range q.2.2).all (fun b => decide (a = b) || decide ((q.2.1 a).2.1 ≠ (q.2.1 b).2.1)))) = true := by decide +kernel
theorem nmD_ok {c : Nat} {q : vw_C} (h : amCl[c]? = some q) : ∀ a, a < q.2.2 → ∀ b, b < q.2.2 → a ≠ b → (q.2.1 a).2.1 ≠ (q.2.1 b).2.1 := by
  intro a ha b hb hn
  have h1 := List.all_eq_true.mp nmD_all q (List.mem_of_getElem? h)
  have h2 := List.all_eq_true.mp (List.all_eq_true.mp h1 a (List.mem_range.mpr ha)) b (List.mem_range.mpr hb)
  simp only [Bool.or_eq_true, decide_eq_true_eq] at h2
  exact h2.resolve_left hn
def fty1 (q : vw_C) (j : Nat) : Nat × Nat → Bool
  | (0, _) => true
  | (1, ft) => !Nat.beq ft 0 && (match parseFieldDescriptor (q.2.1 j).2.2.1 with
    | some (.object _) => true
    | some (.array _) => true
    | _ => false)
  | _ => false
theorem fty_all : (List.range 13).all (fun c => Nat.beq c 9 || (match amCl[c]? with
    | some q => Nat.beq (fsl c).length q.2.2 && (List.range q.2.2).all (fun j => match (fsl c)[j]? with
      | some x => fty1 q j x
      | none => false)
    | none => false)) = true := by decide +kernel
theorem fty_ok {c : Nat} {q : vw_C} (h : amCl[c]? = some q) (h9 : ¬ c = 9) : (fsl c).length = q.2.2 ∧ ∀ j x, (fsl c)[j]? = some x → fty1 q j x = true := by
  have hl : c < 13 := (List.getElem?_eq_some_iff.mp h).1
  have h1 := List.all_eq_true.mp fty_all c (List.mem_range.mpr hl)
  rw [beq_f h9, Bool.false_or, h] at h1
  dsimp only at h1
  rw [Bool.and_eq_true] at h1
  have e := Nat.eq_of_beq_eq_true h1.1
  refine ⟨e, fun j x hx => ?_⟩
  have hj : j < q.2.2 := by rw [← e]; exact (List.getElem?_eq_some_iff.mp hx).1
  have h2 := List.all_eq_true.mp h1.2 j (List.mem_range.mpr hj)
  rw [hx] at h2
  exact h2
theorem dft_all : (List.range 13).all (fun c => Nat.beq c 9 || (match amCl[c]? with
    | some q => (List.range q.2.2).all (fun j => decide (defaultValue (tyD q.2.1 j) = vp_V ((fsl c).map (fun z => match z.1 with | 0 => Value.int 0 | _ => Value.null)) j))
    | none => false)) = true := by decide +kernel
set_option maxRecDepth 100000 in
theorem ins_all : (List.range 13).all (fun c => Nat.beq c 9 || (match amCl[c]? with
    | some q => decide (Cond.instantiable q.1 q.2.2 ∈ lw_tbl) && decide (Cond.initialized q.1 ∈ lw_tbl)
    | none => false)) = true := by decide +kernel
set_option maxRecDepth 100000 in
theorem arr_all : [FieldType.int, .boolean, .byte, .long].all (fun t => decide (Cond.arrayClass t ∈ lw_tbl)) = true := by decide +kernel
set_option maxRecDepth 100000 in
theorem obj_in : (.methodLink "java/lang/Object" 0 objectInit : Cond) = .methodLink "java/lang/Object" 0 objectInit ∧ (Cond.instanceMethod objectInit ∈ lw_tbl) ∧ (Cond.code objectInit ⟨#[0xb1]⟩ 1 none ∈ lw_tbl) := by decide +kernel
theorem cp_in : (Cond.native arraycopyName ∈ lw_tbl) ∧ (Cond.static arraycopyName ∈ lw_tbl) ∧ (Cond.initialized "java/lang/System" ∈ lw_tbl) := by decide +kernel
theorem fsr_spec {c j y ft : Nat} (h : fsr c j = (y, ft)) (hy : y ≤ 1) : (fsl c)[j]? = some (y, ft) := by
  unfold fsr at h
  unfold fsl
  cases h1 : nth fsT c with
  | none => rw [h1] at h; cases h; omega
  | some r =>
    rw [h1] at h
    dsimp only at h ⊢
    rw [nth_eq] at h
    cases h2 : r[j]? with
    | none => rw [h2] at h; cases h; omega
    | some x => rw [h2] at h; dsimp only at h; rw [h]
section
variable {G : GE} {I I' : HI} {L L' : HL} {A A' : HA}
theorem ent_obj {c r : Nat} (hc : c ≤ 12) : ent G I L A r (c + 1) = .inr (c, flds G (fsl c) 0 (I r) (A r)) := by
  unfold ent
  rw [show Nat.ble (c + 1) 13 = true from Nat.ble_eq_true_of_le (by omega)]; rfl
theorem bl_f {a b : Nat} (h : b < a) : Nat.ble a b = false := by
  cases h1 : Nat.ble a b with
  | false => rfl
  | true => exact absurd (Nat.le_of_ble_eq_true h1) (by omega)
theorem bl_t {a b : Nat} (h : a ≤ b) : Nat.ble a b = true := Nat.ble_eq_true_of_le h
theorem ks_lt {t : Nat} (h : ¬ kSort t = 0) : 10000 ≤ t := by
  unfold kSort at h
  omega
theorem ent_q {r t : Nat} (h : 10 ≤ kSort t) : ent G I L A r t = .inl (G.2.1 (kSort t), kLen t, .inr (.inr (.inr (.inr (fun i => oA G (kSort t - 9) (A r i)))))) := by
  have h1 := ks_lt (t := t) (by omega)
  unfold ent
  rw [bl_f (show 13 < t by omega), bl_t h]; rfl
theorem ent_l {r t : Nat} (h : kSort t = 4) : ent G I L A r t = .inl (G.2.1 4, kLen t, .inr (.inl (L r))) := by
  have h1 := ks_lt (t := t) (by omega)
  unfold ent
  rw [bl_f (show 13 < t by omega), bl_f (show kSort t < 10 by omega), beq_t h]; rfl
theorem ent_i {r t : Nat} (h0 : ¬ kSort t = 0) (h : kSort t < 4) : ent G I L A r t = .inl (G.2.1 (kSort t), kLen t, .inl (I r)) := by
  have h1 := ks_lt (t := t) h0
  unfold ent
  rw [bl_f (show 13 < t by omega), bl_f (show kSort t < 10 by omega), beq_f (show ¬ kSort t = 4 by omega)]; rfl
theorem ent_congr {r t : Nat} (h1 : I' r = I r) (h2 : L' r = L r) (h3 : A' r = A r) : ent G I' L' A' r t = ent G I L A r t := by
  unfold ent
  rw [h1, h2, h3]
theorem own_obj {c : Nat} (hc : c ≤ 12) (h9 : ¬ c = 9) : ownT (c + 1) = true := by
  unfold ownT
  rw [bl_t (show c + 1 ≤ 13 by omega), beq_f (show ¬ c + 1 = 10 by omega), bl_t (show 1 ≤ c + 1 by omega)]; rfl
theorem own_arr {t : Nat} (h0 : ¬ kSort t = 0) (h : kSort t ≤ 4 ∨ 10 ≤ kSort t) : ownT t = true := by
  have h1 := ks_lt (t := t) h0
  unfold ownT
  rw [bl_f (show 13 < t by omega), show Nat.blt t 10000 = false from bl_f (by omega)]
  rcases h with h | h
  · rw [bl_t h]; rfl
  · rw [bl_f (show 4 < kSort t by omega), bl_t h]; rfl
theorem own_ext {t : Nat} (h0 : 4 < kSort t) (h : kSort t < 10) : ownT t = false := by
  have h1 := ks_lt (t := t) (by omega)
  unfold ownT
  rw [bl_f (show 13 < t by omega), show Nat.blt t 10000 = false from bl_f (by omega), bl_f h0, bl_f h]; rfl
theorem adr_own {t a : Nat} (h : ownT t = true) : adr G t a = G.1 + a := by unfold adr; rw [h]; rfl
theorem adr_ext {t a : Nat} (h : ownT t = false) : adr G t a = G.2.2.1 a := by unfold adr; rw [h]; rfl
theorem cv_own {t a : Nat} (h : ownT t = true) : cv G (.ref a, t) = .ref (G.1 + a) := by show Value.ref (adr G t a) = _; rw [adr_own h]
theorem cv_ext {t a : Nat} (h : ownT t = false) : cv G (.ref a, t) = .ref (G.2.2.1 a) := by show Value.ref (adr G t a) = _; rw [adr_ext h]
theorem flds0 (l : List (Nat × Nat)) : ∀ j, flds G l j (fun _ => 0) (fun _ => 0) = l.map (fun z => match z.1 with | 0 => Value.int 0 | _ => Value.null) := by
  induction l with
  | nil => intro j; rfl
  | cons q l ih =>
    intro j
    show fv G q.1 q.2 0 0 :: flds G l (j + 1) (fun _ => 0) (fun _ => 0) = _ :: _
    rw [ih]
    obtain ⟨a, b⟩ := q
    cases a <;> rfl
theorem u2_at {α : Type} {f : Nat → Nat → α} {r i : Nat} {v : α} : u2 f r i v r = u1 (f r) i v := by unfold u2; rw [if_pos rfl]
theorem u2_ne {α : Type} {f : Nat → Nat → α} {r r' i : Nat} {v : α} (h : ¬ r' = r) : u2 f r i v r' = f r' := by unfold u2; rw [if_neg h]
theorem ur_at {α : Type} {f : Nat → Nat → α} {r : Nat} {g : Nat → α} : ur f r g r = g := by unfold ur; rw [if_pos rfl]
theorem ur_ne {α : Type} {f : Nat → Nat → α} {r r' : Nat} {g : Nat → α} (h : ¬ r' = r) : ur f r g r' = f r' := by unfold ur; rw [if_neg h]
theorem u1_at {α : Type} {g : Nat → α} {i : Nat} {v : α} : u1 g i v i = v := by unfold u1; rw [if_pos rfl]
theorem u1_ne {α : Type} {g : Nat → α} {i j : Nat} {v : α} (h : ¬ j = i) : u1 g i v j = g j := by unfold u1; rw [if_neg h]
theorem inb_in {i : Int32} {n : Nat} (h : inb i n) : vp_in i n := by
  rintro (h1 | h1)
  · have h2 := Int32.lt_iff_toInt_lt.mp h1
    have h3 := Int32.le_iff_toInt_le.mp h.1
    omega
  · exact absurd h.2 (by omega)
theorem aT_obj {c j y ft : Nat} (hc : c ≤ 12) (h : (fsl c)[j]? = some (1, ft)) : aT (c + 1) j = ft := by
  unfold aT
  rw [bl_t (show c + 1 ≤ 13 by omega)]
  show (match nth (fsl (c + 1 - 1)) j with | some (1, ft) => ft | _ => 0) = ft
  rw [nth_eq, Nat.add_sub_cancel, h]
  rfl
theorem aT_q {t j : Nat} (h : 10 ≤ kSort t) : aT t j = kSort t - 9 := by
  have h1 := ks_lt (t := t) (by omega)
  unfold aT
  rw [bl_f (show 13 < t by omega), bl_t h]; rfl
theorem wfA_u2 {n r j a t : Nat} (h : wfA G n A) (hr : G.2.2.2 r = t) (hv : wfv G n (.ref a, aT t j)) : wfA G n (u2 A r j (a + 1)) := by
  intro r1 j1 a1 h1 h0 h2 h3
  by_cases e : r1 = r
  · subst e
    rw [u2_at] at h2
    by_cases e2 : j1 = j
    · subst e2
      rw [u1_at] at h2
      have e3 : a = a1 := by omega
      subst e3
      rw [hr]; exact hv
    · rw [u1_ne e2] at h2
      exact h r1 j1 a1 h1 h0 h2 h3
  · rw [u2_ne e] at h2
    exact h r1 j1 a1 h1 h0 h2 h3
theorem wfA_new {n : Nat} (h : wfA G n A) : wfA G (n + 1) (ur A n fun _ => 0) := by
  intro r1 j1 a1 h1 h0 h2 h3
  by_cases e : r1 = n
  · subst e
    rw [ur_at] at h2
    omega
  · rw [ur_ne e] at h2
    exact wfv_mono (Nat.le_succ n) (h r1 j1 a1 (by omega) h0 h2 h3)
end
