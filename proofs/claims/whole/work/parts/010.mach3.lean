/-! the abstract machine: rules of the heap -/
theorem am_P1 {D : va_G} {cl : List vw_C} {q : Nat × va_E} {H : Heap} (h : va_at D cl q H) : va_P D cl [q] H := by
  intro k x hx
  have hk : k < 1 := (List.getElem?_eq_some_iff.mp hx).1
  rw [show k = 0 by omega] at hx
  cases hx
  exact h
theorem am_okF_spec {o idx ci k pos : Nat} (h : am_okF o idx ci k pos = true) : am_cl[ci]? = some (am_cn ci, am_F ci, am_n ci) ∧ k < am_n ci ∧ am_wat pos = some (6, o, idx, 64 * ci + k) ∧ am_wi (6, o, idx, 64 * ci + k) = Cond.fieldLink (am_cn o) idx (am_cn ci) (am_F ci k).2.1 (am_F ci k).2.2.1 := by
  simp only [am_okF, Bool.and_eq_true, decide_eq_true_eq] at h
  refine ⟨am_cl_in h.1, h.2.1, h.2.2.2, ?_⟩
  have e1 : (64 * ci + k) / 64 = ci := by omega
  have e2 : (64 * ci + k) % 64 = k := by omega
  show Cond.fieldLink _ _ _ _ _ = _
  rw [e1, e2]
theorem am_ce_obj {dA : Nat → ClassId} {B ci n : Nat} {x : am_C} (h : x.1 = (false, ci, n)) : am_ce dA B x = .inr (ci, (List.range (am_n ci)).map (fun j => am_v B (am_sv (am_ft ci j) x j))) := by
  unfold am_ce
  rw [h]
theorem am_ce_arr {dA : Nat → ClassId} {B t n : Nat} {x : am_C} (h : x.1 = (true, t, n)) : am_ce dA B x = .inl (dA t, n, am_con (am_at t) B x) := by
  unfold am_ce
  rw [h]
section AMH
variable {l : Launch} {d : Nat} {M : am_M} {pc : Nat} {ls : List (Option Value)} {st : List Value} {h : am_H} {kc ks : Nat} {Q : Option Value → am_H → Prop} {z : Nat × Nat × Nat}
theorem am_get {a idx ci j pos n : Nat} {x : am_C} {v : Value} (hf : am_fetch M pc = some (.getfield idx, 3, ci, j, pos)) (hh : h[a]? = some x) (hx : x.1 = (false, ci, n)) (hv : am_sv (am_ft ci j) x j = v) (k : am_T l d M (pc + 3) ls (v :: st) h kc ks Q) : am_T l d M pc ls (.ref a :: st) h kc ks Q := by
  subst hv
  intro p e R s m args below meth c D dA B H locs cells slots lc X
  obtain ⟨q1, q2, q4, q5⟩ := am_okF_spec (am_aux X.ok hf)
  have hat := X.w.2 a x hh
  rw [am_ce_obj hx] at hat
  have hcl := am_clok ci _ q1
  have hw := X.word q4
  rw [q5] at hw
  refine va_get (D := D) (C := am_cn ci) (T := am_F ci) (N := am_n ci) (ci := ci) (ref := am_cn ci) X.exec X.bytes X.hts hcl.1 X.own X.env.1 (am_P1 hat) 0 rfl q1 j q2 hw (fun y hy => hy) ?_ (X.dec hf) (k p e R s m args below meth c D dA B H locs cells slots lc X)
  rw [List.getElem?_map, List.getElem?_range q2]
  rfl
theorem am_fields_set {B ci j N : Nat} {x : am_C} {v : Value} (hj : j < N) (hfit : am_fit (am_ft ci j) v = true) : ((List.range N).map (fun i => am_v B (am_sv (am_ft ci i) x i))).set j (am_v B v) = (List.range N).map (fun i => am_v B (am_sv (am_ft ci i) (am_wr (am_ft ci j) x j v) i)) := by
  apply List.ext_getElem?
  intro i
  rw [List.getElem?_set, List.getElem?_map, List.getElem?_map, List.length_map, List.length_range]
  by_cases hi : i < N
  · rw [List.getElem?_range hi]
    by_cases e : j = i
    · subst e
      rw [if_pos rfl, if_pos hj]
      show _ = some (am_v B (am_sv _ _ _))
      rw [am_fit_sv hfit]
    · rw [if_neg e]
      show some (am_v B (am_sv _ _ _)) = some (am_v B (am_sv _ _ _))
      rw [am_sv_ne _ _ _ _ _ _ (Ne.symm e)]
  · have e : ¬ j = i := by omega
    rw [if_neg e, List.getElem?_eq_none (by rw [List.length_range]; omega)]
    rfl
theorem am_put {a idx ci j pos n : Nat} {x : am_C} {v : Value} (hf : am_fetch M pc = some (.putfield idx, 3, ci, j, pos)) (hh : h[a]? = some x) (hx : x.1 = (false, ci, n)) (hfit : am_fit (am_ft ci j) v = true) (k : am_T l d M (pc + 3) ls st (h.set a (am_wr (am_ft ci j) x j v)) kc ks Q) : am_T l d M pc ls (v :: .ref a :: st) h kc ks Q := by
  intro p e R s m args below meth c D dA B H locs cells slots lc X
  have hoa := am_aux X.ok hf
  simp only [am_okA, Bool.and_eq_true] at hoa
  obtain ⟨q1, q2, q4, q5⟩ := am_okF_spec hoa.1
  have hw := X.word q4
  rw [q5] at hw
  have hok2 := hoa.2
  unfold am_okP at hok2
  have hcl := am_clok ci _ q1
  have hat := X.w.2 a x hh
  rw [am_ce_obj hx] at hat
  obtain ⟨r, h1, cell, g1, g2, g3, g4⟩ := hat
  have hr : r = (am_cn ci, am_F ci, am_n ci) := Option.some.inj (h1.symm.trans q1)
  subst hr
  have hK := X.env.1
  have hap := va_apart (own := am_cn ci) X.hts hcl.1 (am_ft ci) hcl.2.1 hcl.2.2.1 hK q1
  obtain ⟨hS, hfc, kC, hkC, hkind⟩ := hK.1 ci _ q1
  obtain ⟨cf, kf, fi, f, hi, hsl⟩ := hS j q2
  have hst := (u_facts hfc hkC (u_lays X.hts hcl.1 q2) hi).1
  have hfi := am_fit_fits B hfit
  have hna : narrow (am_ft ci j) (am_v B v) = am_v B v := am_fit_narrow B hfit
  have hi2 : s.fieldFound? (am_cn ci) (am_F ci j).2.1 (am_F ci j).2.2.1 = some (cf, kf, fi, f) := hi
  have goal : ∀ H' : Heap, H'[B + a]? = some (cell.setSlot f.slot (am_v B v)) → H'.size = H.size → (∀ q, q ≠ B + a → H'[q]? = H[q]?) → W p l e R s m args below meth c H' (locs ++ [⟨B + a, f.slot⟩]) cells slots (MQ below (am_Q D dA B Q) args s R.cells R.slots (fun q => B ≤ q)) (F0 m (pc + 3) lc (st.map (am_v B))) := by
    intro H' e1 e2 e3
    refine k p e R s m args below meth c D dA B H' _ cells slots lc (X.toH (X.w.set ?_ e2 e3) (fun q hq => e3 q (by omega)) X.locs1)
    rw [am_ce_obj (n := n) (by rw [am_wr_1]; exact hx), ← am_fields_set q2 hfit]
    rw [hsl] at e1
    exact ⟨_, q1, t_OB.to (V := updV (vp_V _) j (am_v B v)) ⟨_, e1, g2, g3, t_set g4 hap q2 (am_v B v)⟩ (fun i _ => vp_updV_set (by rw [List.length_map, List.length_range]; exact q2) (am_v B v) i)⟩
  by_cases hfin : (am_F ci j).2.2.2 = true
  · simp only [hfin, Bool.not_true, Bool.false_or, Bool.and_eq_true, decide_eq_true_eq] at hok2
    have hlay := X.hts _ (hcl.1 _ (u_in_lay q2))
    unfold u_lay at hlay
    rw [if_pos hfin] at hlay
    have hcf : m.cls = cf := by
      obtain ⟨_, _, c', _, _, _, -, -, hf', -, -, -, hown2, -⟩ := Cond.laysFinal_spec hlay
      have e1 : c' = cf := by have := hi.symm.trans hf'; simp at this; exact this.1.symm
      rw [← e1]
      have h3 : s.vm.findClass (am_cn M.1.1) = some c' := by rw [← hok2.2]; exact hown2
      exact Option.some.inj (X.own.symm.trans h3)
    have h6 := u_fits hfc hkC hkind (Or.inr hlay) hi (hcl.2.1 j q2) hna hfi
    refine W.putFinK X.exec X.bytes X.own hw hi2 hst hcf (X.name.trans (by simp only [am_y, hok2.1])) (by rw [g2]; exact h6) g1 g3 (by rw [hsl]; exact k2_hasslot (g4 j q2)) rfl rfl (X.dec hf) goal
  · have hlay := X.hts _ (hcl.1 _ (u_in_lay q2))
    unfold u_lay at hlay
    rw [if_neg hfin] at hlay
    have h6 := u_store hfc hkC hkind hlay hi (hcl.2.1 j q2) hna hfi
    exact W.putK X.exec X.bytes (f := f) ⟨X.own, hw, ⟨_, _, _, hi2⟩, hst⟩ (by rw [g2]; exact h6) g1 g3 (by rw [hsl]; exact k2_hasslot (g4 j q2)) rfl rfl (X.dec hf) goal

theorem am_iaload {a t n : Nat} {x : am_C} {i : Int32} (hf : am_fetch M pc = some (.iaload, 1, z)) (hh : h[a]? = some x) (hx : x.1 = (true, t, n)) (ht : t < am_nat ∧ am_at t = .int) (hin : vp_in i n) (k : am_T l d M (pc + 1) ls (.int (x.2.1 i.toNatClampNeg) :: st) h kc ks Q) : am_T l d M pc ls (.int i :: .ref a :: st) h kc ks Q := by
  intro p e R s m args below meth c D dA B H locs cells slots lc X
  have hat := X.w.2 a x hh
  rw [am_ce_arr hx, ht.2] at hat
  exact va_iald (D := D) (f := x.2.1) X.exec X.bytes X.env.1 (am_P1 hat) 0 t rfl (by rw [am_ty_at ht.1, ht.2]) hin (X.dec hf) (k p e R s m args below meth c D dA B H locs cells slots lc X)
theorem am_caload {a t n : Nat} {x : am_C} {i : Int32} (hf : am_fetch M pc = some (.caload, 1, z)) (hh : h[a]? = some x) (hx : x.1 = (true, t, n)) (ht : t < am_nat ∧ am_at t = .char) (hin : vp_in i n) (k : am_T l d M (pc + 1) ls (.int (x.2.1 i.toNatClampNeg) :: st) h kc ks Q) : am_T l d M pc ls (.int i :: .ref a :: st) h kc ks Q := by
  intro p e R s m args below meth c D dA B H locs cells slots lc X
  have hat := X.w.2 a x hh
  rw [am_ce_arr hx, ht.2] at hat
  exact va_cald (D := D) (f := x.2.1) X.exec X.bytes X.env.1 (am_P1 hat) 0 t rfl (by rw [am_ty_at ht.1, ht.2]) hin (X.dec hf) (k p e R s m args below meth c D dA B H locs cells slots lc X)
theorem am_baload {a t n : Nat} {x : am_C} {i : Int32} (hf : am_fetch M pc = some (.baload, 1, z)) (hh : h[a]? = some x) (hx : x.1 = (true, t, n)) (ht : t < am_nat ∧ am_at t = .boolean) (hin : vp_in i n) (k : am_T l d M (pc + 1) ls (.int (x.2.1 i.toNatClampNeg) :: st) h kc ks Q) : am_T l d M pc ls (.int i :: .ref a :: st) h kc ks Q := by
  intro p e R s m args below meth c D dA B H locs cells slots lc X
  have hat := X.w.2 a x hh
  rw [am_ce_arr hx, ht.2] at hat
  exact va_zald (D := D) (f := x.2.1) X.exec X.bytes X.env.1 (am_P1 hat) 0 t rfl (by rw [am_ty_at ht.1, ht.2]) hin (X.dec hf) (k p e R s m args below meth c D dA B H locs cells slots lc X)
theorem am_laload {a t n : Nat} {x : am_C} {i : Int32} (hf : am_fetch M pc = some (.laload, 1, z)) (hh : h[a]? = some x) (hx : x.1 = (true, t, n)) (ht : t < am_nat ∧ am_at t = .long) (hin : vp_in i n) (k : am_T l d M (pc + 1) ls (.long (x.2.2.1 i.toNatClampNeg) :: st) h kc ks Q) : am_T l d M pc ls (.int i :: .ref a :: st) h kc ks Q := by
  intro p e R s m args below meth c D dA B H locs cells slots lc X
  have hat := X.w.2 a x hh
  rw [am_ce_arr hx, ht.2] at hat
  exact va_lald (D := D) (f := x.2.2.1) X.exec X.bytes X.env.1 (am_P1 hat) 0 t rfl (by rw [am_ty_at ht.1, ht.2]) hin (X.dec hf) (k p e R s m args below meth c D dA B H locs cells slots lc X)
theorem am_aaload {a t n : Nat} {x : am_C} {C : String} {i : Int32} {r : Option Nat} (hf : am_fetch M pc = some (.aaload, 1, z)) (hh : h[a]? = some x) (hx : x.1 = (true, t, n)) (ht : t < am_nat ∧ am_at t = .object C) (hin : vp_in i n) (hr : x.2.2.2 i.toNatClampNeg = r) (k : am_T l d M (pc + 1) ls (va_rf r :: st) h kc ks Q) : am_T l d M pc ls (.int i :: .ref a :: st) h kc ks Q := by
  intro p e R s m args below meth c D dA B H locs cells slots lc X
  have hat := X.w.2 a x hh
  rw [am_ce_arr hx, ht.2] at hat
  have k2 := k p e R s m args below meth c D dA B H locs cells slots lc X
  rw [List.map_cons, am_v_rf, ← hr] at k2
  exact va_aldq (D := D) (f := fun j => (x.2.2.2 j).map (fun k => B + k)) X.exec X.bytes X.env.1 (am_P1 hat) 0 t rfl (by rw [am_ty_at ht.1, ht.2]) hin (X.dec hf) k2
theorem am_alen {a t n : Nat} {x : am_C} {v : Int32} (hf : am_fetch M pc = some (.arraylength, 1, z)) (hh : h[a]? = some x) (hx : x.1 = (true, t, n)) (ht : t < am_nat) (hv : Int32.ofNat n = v) (k : am_T l d M (pc + 1) ls (.int v :: st) h kc ks Q) : am_T l d M pc ls (.ref a :: st) h kc ks Q := by
  intro p e R s m args below meth c D dA B H locs cells slots lc X
  have hat := X.w.2 a x hh
  rw [am_ce_arr hx] at hat
  exact va_alen (D := D) X.exec X.bytes X.env.1 (am_P1 hat) 0 t rfl (am_ty_at ht) hv (X.dec hf) (k p e R s m args below meth c D dA B H locs cells slots lc X)
theorem am_iastore {a t n : Nat} {x : am_C} {i : Int32} {y : Int32} (hf : am_fetch M pc = some (.iastore, 1, z)) (hh : h[a]? = some x) (hx : x.1 = (true, t, n)) (ht : t < am_nat ∧ am_at t = .int) (hin : vp_in i n) (k : am_T l d M (pc + 1) ls st (h.set a (x.1, va_up x.2.1 i.toNatClampNeg y, x.2.2)) kc ks Q) : am_T l d M pc ls (.int y :: .int i :: .ref a :: st) h kc ks Q := by
  intro p e R s m args below meth c D dA B H locs cells slots lc X
  have hat := X.w.2 a x hh
  rw [am_ce_arr hx, ht.2] at hat
  refine W.iast X.exec X.bytes hat ((X.env.1.2 t _ (by rw [am_ty_at ht.1, ht.2])).1 n (fun j => .int (x.2.1 j))) (fun q => by cases q) (by show ¬ (i < 0 ∨ (arrV _ _ _).slots.size ≤ _); rw [arrV_size]; exact hin) rfl rfl (X.dec hf) fun H1 e1 e2 e3 => ?_
  have e1 : H1[B + a]? = _ := e1
  have e3 : ∀ q : Nat, q ≠ B + a → H1[q]? = H[q]? := e3
  refine k p e R s m args below meth c D dA B H1 _ cells slots lc (X.toH (X.w.set ?_ e2 e3) (fun q hq => e3 q (by omega)) X.locs1)
  rw [am_ce_arr (x := (x.1, va_up x.2.1 i.toNatClampNeg y, x.2.2)) (t := t) (n := n) hx, ht.2]
  show H1[B + a]? = some (vp_cell _ _)
  rw [e1]
  show some ((vp_cell _ (n, .inl x.2.1)).setSlot _ _) = some (vp_cell _ (n, .inl (va_up x.2.1 i.toNatClampNeg y)))
  rw [vp_cell_i, vp_cell_i, arrV_store]
  congr 2
  funext q
  by_cases hq : q = i.toNatClampNeg
  · subst hq
    simp [updV, va_up]
    try rfl
  · simp [updV, va_up, hq]
theorem am_castore {a t n : Nat} {x : am_C} {i : Int32} {y : Int32} (hf : am_fetch M pc = some (.castore, 1, z)) (hh : h[a]? = some x) (hx : x.1 = (true, t, n)) (ht : t < am_nat ∧ am_at t = .char) (hin : vp_in i n) (k : am_T l d M (pc + 1) ls st (h.set a (x.1, va_up x.2.1 i.toNatClampNeg (vp_nar .char y), x.2.2)) kc ks Q) : am_T l d M pc ls (.int y :: .int i :: .ref a :: st) h kc ks Q := by
  intro p e R s m args below meth c D dA B H locs cells slots lc X
  have hat := X.w.2 a x hh
  rw [am_ce_arr hx, ht.2] at hat
  refine W.cast X.exec X.bytes hat ((X.env.1.2 t _ (by rw [am_ty_at ht.1, ht.2])).1 n (fun j => .int (x.2.1 j))) (fun q => by cases q) (by show ¬ (i < 0 ∨ (arrV _ _ _).slots.size ≤ _); rw [arrV_size]; exact hin) rfl rfl (X.dec hf) fun H1 e1 e2 e3 => ?_
  have e1 : H1[B + a]? = _ := e1
  have e3 : ∀ q : Nat, q ≠ B + a → H1[q]? = H[q]? := e3
  refine k p e R s m args below meth c D dA B H1 _ cells slots lc (X.toH (X.w.set ?_ e2 e3) (fun q hq => e3 q (by omega)) X.locs1)
  rw [am_ce_arr (x := (x.1, va_up x.2.1 i.toNatClampNeg (vp_nar .char y), x.2.2)) (t := t) (n := n) hx, ht.2]
  show H1[B + a]? = some (vp_cell _ _)
  rw [e1]
  show some ((vp_cell _ (n, .inl x.2.1)).setSlot _ _) = some (vp_cell _ (n, .inl (va_up x.2.1 i.toNatClampNeg (vp_nar .char y))))
  rw [vp_cell_i, vp_cell_i, arrV_store]
  congr 2
  funext q
  by_cases hq : q = i.toNatClampNeg
  · subst hq
    simp [updV, va_up, vp_nar]
    try rfl
  · simp [updV, va_up, hq]
theorem am_bastore {a t n : Nat} {x : am_C} {i : Int32} {y : Int32} (hf : am_fetch M pc = some (.bastore, 1, z)) (hh : h[a]? = some x) (hx : x.1 = (true, t, n)) (ht : t < am_nat ∧ am_at t = .boolean) (hin : vp_in i n) (k : am_T l d M (pc + 1) ls st (h.set a (x.1, va_up x.2.1 i.toNatClampNeg (vp_nar .boolean y), x.2.2)) kc ks Q) : am_T l d M pc ls (.int y :: .int i :: .ref a :: st) h kc ks Q := by
  intro p e R s m args below meth c D dA B H locs cells slots lc X
  have hat := X.w.2 a x hh
  rw [am_ce_arr hx, ht.2] at hat
  refine W.zast X.exec X.bytes hat ((X.env.1.2 t _ (by rw [am_ty_at ht.1, ht.2])).1 n (fun j => .int (x.2.1 j))) (fun q => by cases q) (by show ¬ (i < 0 ∨ (arrV _ _ _).slots.size ≤ _); rw [arrV_size]; exact hin) rfl rfl (X.dec hf) fun H1 e1 e2 e3 => ?_
  have e1 : H1[B + a]? = _ := e1
  have e3 : ∀ q : Nat, q ≠ B + a → H1[q]? = H[q]? := e3
  refine k p e R s m args below meth c D dA B H1 _ cells slots lc (X.toH (X.w.set ?_ e2 e3) (fun q hq => e3 q (by omega)) X.locs1)
  rw [am_ce_arr (x := (x.1, va_up x.2.1 i.toNatClampNeg (vp_nar .boolean y), x.2.2)) (t := t) (n := n) hx, ht.2]
  show H1[B + a]? = some (vp_cell _ _)
  rw [e1]
  show some ((vp_cell _ (n, .inl x.2.1)).setSlot _ _) = some (vp_cell _ (n, .inl (va_up x.2.1 i.toNatClampNeg (vp_nar .boolean y))))
  rw [vp_cell_i, vp_cell_i, arrV_store]
  congr 2
  funext q
  by_cases hq : q = i.toNatClampNeg
  · subst hq
    simp [updV, va_up, vp_nar]
    try rfl
  · simp [updV, va_up, hq]
theorem am_lastore {a t n : Nat} {x : am_C} {i : Int32} {y : Int64} (hf : am_fetch M pc = some (.lastore, 1, z)) (hh : h[a]? = some x) (hx : x.1 = (true, t, n)) (ht : t < am_nat ∧ am_at t = .long) (hin : vp_in i n) (k : am_T l d M (pc + 1) ls st (h.set a (x.1, x.2.1, va_up x.2.2.1 i.toNatClampNeg y, x.2.2.2)) kc ks Q) : am_T l d M pc ls (.long y :: .int i :: .ref a :: st) h kc ks Q := by
  intro p e R s m args below meth c D dA B H locs cells slots lc X
  have hat := X.w.2 a x hh
  rw [am_ce_arr hx, ht.2] at hat
  refine W.last X.exec X.bytes hat ((X.env.1.2 t _ (by rw [am_ty_at ht.1, ht.2])).1 n (fun j => .long (x.2.2.1 j))) (fun q => by cases q) (by show ¬ (i < 0 ∨ (arrV _ _ _).slots.size ≤ _); rw [arrV_size]; exact hin) rfl rfl (X.dec hf) fun H1 e1 e2 e3 => ?_
  have e1 : H1[B + a]? = _ := e1
  have e3 : ∀ q : Nat, q ≠ B + a → H1[q]? = H[q]? := e3
  refine k p e R s m args below meth c D dA B H1 _ cells slots lc (X.toH (X.w.set ?_ e2 e3) (fun q hq => e3 q (by omega)) X.locs1)
  rw [am_ce_arr (x := (x.1, x.2.1, va_up x.2.2.1 i.toNatClampNeg y, x.2.2.2)) (t := t) (n := n) hx, ht.2]
  show H1[B + a]? = some (vp_cell _ _)
  rw [e1]
  show some ((vp_cell _ (n, .inr (.inl x.2.2.1))).setSlot _ _) = some (vp_cell _ (n, .inr (.inl (va_up x.2.2.1 i.toNatClampNeg y))))
  rw [vp_cell_l, vp_cell_l, arrV_store]
  congr 2
  funext q
  by_cases hq : q = i.toNatClampNeg
  · subst hq
    simp [updV, va_up]
    try rfl
  · simp [updV, va_up, hq]
theorem am_aastore {a b t n ci n2 : Nat} {x y : am_C} {q : vw_C} {i : Int32} (hf : am_fetch M pc = some (.aastore, 1, z)) (hh : h[a]? = some x) (hx : x.1 = (true, t, n)) (hq : am_cl[ci]? = some q) (ht : t < am_nat ∧ am_at t = .object q.1) (hy : h[b]? = some y) (hy1 : y.1 = (false, ci, n2)) (hin : vp_in i n) (k : am_T l d M (pc + 1) ls st (h.set a (x.1, x.2.1, x.2.2.1, va_up x.2.2.2 i.toNatClampNeg (some b))) kc ks Q) : am_T l d M pc ls (.ref b :: .int i :: .ref a :: st) h kc ks Q := by
  intro p e R s m args below meth c D dA B H locs cells slots lc X
  have hat := X.w.2 a x hh
  rw [am_ce_arr hx, ht.2] at hat
  have hbt := X.w.2 b y hy
  rw [am_ce_obj hy1] at hbt
  have hlt : i.toNatClampNeg < n := Nat.not_le.mp fun q => hin (Or.inr q)
  have h0 : ¬ i < 0 := fun q => hin (Or.inl q)
  obtain ⟨r', hr', cellV, g1, g2, g3, -⟩ := hbt
  have hK := X.env.1
  have hcls := (hK.1 ci q hq).2
  obtain ⟨kA, comp, k1, k2, k3, -⟩ := (hK.2 t _ (by rw [am_ty_at ht.1, ht.2])).2
  have hcomp : comp = D.1 ci := Option.some.inj (k3.symm.trans hcls.1)
  subst hcomp
  obtain ⟨kC, hkC, -⟩ := hcls.2
  refine W.aast X.exec X.bytes hat (fun q h => by cases h) (fun h => by cases h) k1 k2 rfl hkC ⟨h0, by show _ < (arrV _ _ _).slots.size; rw [arrV_size]; exact hlt⟩ g1 (fun q h => by rw [g3] at h; cases h) (by rw [g2]; exact hkC) (by rw [g2]; exact va_assign hcls) rfl rfl (X.dec hf) fun H1 e1 e2 e3 => ?_
  have e1 : H1[B + a]? = _ := e1
  have e3 : ∀ q : Nat, q ≠ B + a → H1[q]? = H[q]? := e3
  refine k p e R s m args below meth c D dA B H1 _ cells slots lc (X.toH (X.w.set ?_ e2 e3) (fun q hq => e3 q (by omega)) X.locs1)
  rw [am_ce_arr (x := (x.1, x.2.1, x.2.2.1, va_up x.2.2.2 i.toNatClampNeg (some b))) (t := t) (n := n) hx, ht.2]
  show H1[B + a]? = some (vp_cell _ _)
  rw [e1]
  show some ((vp_cell _ (n, .inr (.inr (.inr (.inr (fun j => (x.2.2.2 j).map (fun k => B + k))))))).setSlot _ _) = some (vp_cell _ (n, .inr (.inr (.inr (.inr (fun j => ((va_up x.2.2.2 i.toNatClampNeg (some b)) j).map (fun k => B + k)))))))
  rw [vp_cell_q, vp_cell_q, arrV_store]
  congr 2
  funext q
  by_cases hq : q = i.toNatClampNeg
  · subst hq
    simp [updV, va_up, va_rf]
  · simp [updV, va_up, hq]
theorem am_X.grow {p : Program} {R : Room} {s : State} {m : MethodId} {args : Array Value} {meth : Method} {c : Code} {D : va_G} {dA : Nat → ClassId} {B : Nat} {H H1 : Heap} {locs : List Loc} {cells slots n1 n2 : Nat} {lc : Array Slot} {y : am_C} (X : am_X d M ls h (kc + n1) (ks + n2) p R s m args meth c D dA B H locs cells slots lc) (hc : va_at D am_cl (B + h.length, am_ce dA B y) H1) (z : H1.size = H.size + 1) (oq : ∀ q : Nat, q < H.size → H1[q]? = H[q]?) : am_X d M ls (h ++ [y]) kc ks p R s m args meth c D dA B H1 locs (cells + n1) (slots + n2) lc :=
  ⟨X.1, X.w.push hc z oq, X.2.2.1, fun q hq => (oq q (by rw [X.w.1]; omega)).trans (X.old q hq), X.hloc, X.l, by have := X.hkc; omega, by have := X.hks; omega⟩
theorem am_newobj {idx ci pos b : Nat} (hf : am_fetch M pc = some (.new idx, 3, ci, pos, b)) (k : am_T l d M (pc + 3) ls (.ref h.length :: st) (h ++ [am_new (false, ci, 0)]) kc ks Q) : am_T l d M pc ls st h (kc + 1) (ks + am_n ci) Q := by
  intro p e R s m args below meth c D dA B H locs cells slots lc X
  have hoa := am_aux X.ok hf
  simp only [am_okA, am_okC, Bool.and_eq_true, decide_eq_true_eq] at hoa
  have hq := am_cl_in hoa.1
  have hcl := am_clok ci _ hq
  have hKn := X.env.1.1 ci _ hq
  refine W.newcK X.exec X.bytes X.own (X.word hoa.2) (X.hts _ hcl.2.2.2.1) (X.hts _ hcl.2.2.2.2.1) rfl (X.dec hf) (by have := X.hkc; omega) (by have := X.hks; simp only; omega) hKn.2.1 X.w.1 fun H1 kC hkC e1 z1 o1 => ?_
  refine k p e R s m args below meth c D dA B H1 locs _ _ lc (X.grow ?_ (by rw [z1, X.w.1]) (fun q hq => o1 q (by rw [← X.w.1]; exact hq)))
  rw [am_ce_obj (n := 0) rfl]
  refine ⟨_, hq, (u_born (am_ft ci) X.hts hcl.1 hKn hkC e1 hcl.2.1).to (fun j hj => ?_)⟩
  show _ = ((List.range (am_n ci)).map _).getD j Value.null
  rw [List.getD_eq_getElem?_getD, List.getElem?_map, List.getElem?_range hj]
  exact am_def (hcl.2.2.2.2.2 j hj) B _ j
theorem am_newarr {at_ : Jvm.ClassFile.ArrayType} {t pos b n : Nat} {i : Int32} (hf : am_fetch M pc = some (.newarray at_, 2, t, pos, b)) (hi : ¬ i < 0) (hn : i.toNatClampNeg = n) (hb : n ≤ 60000000) (k : am_T l d M (pc + 2) ls (.ref h.length :: st) (h ++ [am_new (true, t, n)]) kc ks Q) : am_T l d M pc ls (.int i :: st) h (kc + 1) (ks + n) Q := by
  intro p e R s m args below meth c D dA B H locs cells slots lc X
  have hoa := am_aux X.ok hf
  simp only [am_okA, Bool.and_eq_true, decide_eq_true_eq] at hoa
  obtain ⟨o1, o2, o3, o4⟩ := hoa
  refine va_newaK X.exec X.bytes (by rw [o2]; exact X.word o3) rfl (X.dec hf) rfl hi hn ?_ (by have := X.hkc; omega) (by have := X.hks; omega) X.w.1 fun H1 cA e1 z1 oq hAr hNm => ?_
  · have : componentBytes (newarray.typeOf at_) ≤ 8 := by cases at_ <;> decide
    have h2 : n * componentBytes (newarray.typeOf at_) ≤ n * 8 := Nat.mul_le_mul_left _ this
    omega
  · refine k p e R s m args below meth c D dA B H1 locs _ _ lc (X.grow ?_ (by rw [z1, X.w.1]) (fun q hq => oq q (by rw [← X.w.1]; exact hq)))
    rw [am_ce_arr (t := t) (n := n) rfl]
    have hd : cA = dA t := by
      have h1 := (X.env.1.2 t _ (am_ty_at o1)).2
      rw [o2] at hNm
      cases ht : am_at t <;> rw [ht] at h1 hNm o2 <;> first
        | exact Option.some.inj (hNm.symm.trans h1)
        | (cases at_ <;> cases o2)
    subst hd
    show H1[_]? = some (vp_cell _ _)
    rw [e1, o2]
    cases ht : am_at t <;> rw [ht] at o2 o4 <;> first | rfl | exact absurd rfl o4.1 | exact absurd rfl o4.2 | (cases at_ <;> cases o2)
theorem am_newref {idx t pos b n : Nat} {i : Int32} (hf : am_fetch M pc = some (.anewarray idx, 3, t, pos, b)) (hi : ¬ i < 0) (hn : i.toNatClampNeg = n) (hb : n ≤ 60000000) (k : am_T l d M (pc + 3) ls (.ref h.length :: st) (h ++ [am_new (true, t, n)]) kc ks Q) : am_T l d M pc ls (.int i :: st) h (kc + 1) (ks + n) Q := by
  intro p e R s m args below meth c D dA B H locs cells slots lc X
  have hoa := am_aux X.ok hf
  simp only [am_okA, Bool.and_eq_true, Bool.or_eq_true, decide_eq_true_eq] at hoa
  have key : ∃ C, am_at t = .object C ∧ C ∈ am_ao ∧ t < am_nat ∧ (Cond.classLink (am_y M).cls idx C).before args s = true := by
    rcases hoa with ⟨rfl, g⟩ | ⟨rfl, g⟩
    · exact ⟨_, rfl, List.mem_cons_self, by decide, X.word g⟩
    · exact ⟨_, rfl, List.mem_cons_of_mem _ List.mem_cons_self, by decide, X.word g⟩
  obtain ⟨C, hC, hao, o1, hlk⟩ := key
  subst hn
  refine W.anew X.exec X.bytes X.own hlk (va_AO.use (X.env.2.2 C hao)) rfl (X.dec hf) rfl hi (by omega) (by have := X.hkc; omega) (by have := X.hks; omega) fun cA kA comp f1 f2 f3 f4 => ?_
  have e0 : B + h.length = H.size := X.w.1.symm
  have hk := k p e R s m args below meth c D dA B (H.push { cls := cA, slots := Array.replicate i.toNatClampNeg .null, vm := .none }) locs (cells + 1) (slots + i.toNatClampNeg) lc (X.grow ?_ (by rw [Array.size_push]) (fun q hq => by rw [Array.getElem?_push, if_neg (Nat.ne_of_lt hq)]))
  · rw [← e0]
    exact hk
  · rw [am_ce_arr (t := t) (n := i.toNatClampNeg) rfl, hC]
    have hd : cA = dA t := by
      have h1 := (X.env.1.2 t _ (am_ty_at o1)).2
      rw [hC] at h1
      obtain ⟨_, _, -, -, -, h4⟩ := h1
      exact Option.some.inj (f1.symm.trans h4)
    subst hd
    show (H.push _)[B + h.length]? = some (vp_cell _ (_, .inr (.inr (.inr (.inr (fun j => Option.map (fun k => B + k) none))))))
    rw [e0, Array.getElem?_push_size, vp_cell_q, ← arrV_new]
    rfl
theorem am_objinit {idx a b : Nat} {o : Nat} (hf : am_fetch M pc = some (.invokespecial idx, 3, a, b, 9)) (hs : (st.map fun v => v.category).sum + 12 ≤ 64) (k : am_T l (d + 1) M (pc + 3) ls st h kc ks Q) : am_T l (d + 1) M pc ls (.ref o :: st) h kc ks Q := by
  intro p e R s m args below meth c D dA B H locs cells slots lc X
  have hoa := am_aux X.ok hf
  simp only [am_okA, decide_eq_true_eq] at hoa
  refine W.objInit X.exec X.bytes X.own (X.word hoa) (X.hts _ am_oi.1) (X.hts _ am_oi.2) rfl (by rw [X.maxl]; exact X.lsz) rfl (X.dec hf) (by have := X.fr; omega) ?_ (k p e R s m args below meth c D dA B H locs cells slots lc X)
  show 2 * 0 + _ + 12 ≤ R.locals
  rw [am_v_sum]
  have := X.lo
  omega
theorem am_mmax {idx a b : Nat} {x y : Int32} (hf : am_fetch M pc = some (.invokestatic idx, 3, a, b, 7)) (hs : (st.map fun v => v.category).sum + 13 ≤ 64) (k : am_T l (d + 1) M (pc + 3) ls (.int (if x < y then y else x) :: st) h kc ks Q) : am_T l (d + 1) M pc ls (.int y :: .int x :: st) h kc ks Q := by
  intro p e R s m args below meth c D dA B H locs cells slots lc X
  have hoa := am_aux X.ok hf
  simp only [am_okA, decide_eq_true_eq] at hoa
  refine va_mmax X.exec X.bytes (X.maxl.trans X.lsz.symm) X.own (X.word hoa) (X.hts _ am_mw1.1) (X.hts _ am_mw1.2.1) (X.hts _ am_mw1.2.2) (by have := X.fr; omega) ?_ (Nat.le_trans (Nat.le_add_right _ _) X.hkc) (Nat.le_trans (Nat.le_add_right _ _) X.hks) (X.dec hf) (k p e R s m args below meth c D dA B H locs cells slots lc X)
  rw [am_v_sum]
  have := X.lo
  omega
theorem am_mmin {idx a b : Nat} {x y : Int64} (hf : am_fetch M pc = some (.invokestatic idx, 3, a, b, 6)) (hs : (st.map fun v => v.category).sum + 20 ≤ 64) (k : am_T l (d + 1) M (pc + 3) ls (.long (if y < x then y else x) :: st) h kc ks Q) : am_T l (d + 1) M pc ls (.long y :: .long x :: st) h kc ks Q := by
  intro p e R s m args below meth c D dA B H locs cells slots lc X
  have hoa := am_aux X.ok hf
  simp only [am_okA, decide_eq_true_eq] at hoa
  refine va_mmin_long X.exec X.bytes (X.maxl.trans X.lsz.symm) X.own (X.word hoa) (X.hts _ am_mw2.1) (X.hts _ am_mw2.2.1) (X.hts _ am_mw2.2.2) (by have := X.fr; omega) ?_ (Nat.le_trans (Nat.le_add_right _ _) X.hkc) (Nat.le_trans (Nat.le_add_right _ _) X.hks) (X.dec hf) (k p e R s m args below meth c D dA B H locs cells slots lc X)
  rw [am_v_sum]
  have := X.lo
  omega
end AMH
