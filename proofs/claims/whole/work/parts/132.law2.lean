/-! the law: its loop, and the claim out of the operations -/
set_option maxRecDepth 100000 in
theorem lw_nw : [125, 171, 244, 264, 532, 547, 603, 618, 651, 890, 950].map (fun p => lw_tbl[p]?) = (am_nw.map (fun q => Cond.methodLinkNest q.1 q.2.1 q.2.2 am_host)).map some := by rfl
set_option maxRecDepth 100000 in
theorem lw_ao : [123, 169].map (fun p => lw_tbl[p]?) = (am_ao.map (fun C => Cond.arrayOver (.object C))).map some := by rfl
theorem lw_env {p : Program} {s : State} {m : MethodId} {meth : Method} {c : Code} {b L : Nat} {xs : Nat → Int32} (C0 : lw_At p s m meth c b L xs) : ∃ (D : va_G) (dA : Nat → ClassId), am_E D dA s := by
  have hall := C0.2.2.2.2.2.1
  have hts : ∀ w ∈ am_ws, w.before #[Value.ref b] s = true := fun w hw => hall w (am_ws_tbl w hw)
  have hc : ∀ ci, ∃ (q : ClassId × (Nat → Nat)), ci < am_ncl → u_Kn s (am_cn ci) (am_F ci) (am_n ci) q.1 q.2 := by
    intro ci
    by_cases h : ci < am_ncl
    · have hcl := am_clok ci _ (am_cl_in h)
      obtain ⟨cC, iS, hk⟩ := u_known hts hcl.1 (hts _ hcl.2.2.2.1)
      exact ⟨(cC, iS), fun _ => hk⟩
    · exact ⟨(0, fun _ => 0), fun q => absurd q h⟩
  have prim : ∀ (t : Nat) (ty : FieldType), (Cond.arrayClass ty).before #[Value.ref b] s = true → (∀ C, ty ≠ .object C) → ∃ cA, ArrOfT s cA ty ∧ va_RA s cA ty := by
    intro t ty h hne
    obtain ⟨cA, k, comp, h1, h2, h3⟩ := Cond.arrayClass_spec h
    refine ⟨cA, fun n z => ⟨fun q hq => (by cases hq), k, h2, comp, h3⟩, ?_⟩
    cases ty <;> first | exact h1 | exact absurd rfl (hne _)
  have obj : ∀ (C : String), (Cond.arrayOver (.object C)).before #[Value.ref b] s = true → ∃ cA, ArrOfT s cA (.object C) ∧ va_RA s cA (.object C) := by
    intro C h
    obtain ⟨comp, cA, k, h1, h2, h3, h4, h5⟩ := Cond.arrayOver_spec h
    exact ⟨cA, fun n z => ⟨fun q hq => (by cases hq), k, h3, comp, h4⟩, k, comp, h3, h4, h1, h5⟩
  have hao : ∀ C ∈ am_ao, (Cond.arrayOver (.object C)).before #[Value.ref b] s = true := fun C hC => hall _ (am_wt lw_ao _ (List.mem_map.mpr ⟨C, hC, rfl⟩))
  have ha : ∀ t, ∃ cA, t < am_nat → ArrOfT s cA (am_at t) ∧ va_RA s cA (am_at t) := by
    intro t
    match t with
    | 0 => exact (prim 0 .int (hts _ (am_wat_mem (p := 156) (w := (12, 0, 0, 0)) (by decide +kernel))) (fun C h => by cases h)).imp fun _ h _ => h
    | 1 => exact (prim 1 .long (hts _ (am_wat_mem (p := 259) (w := (12, 1, 0, 0)) (by decide +kernel))) (fun C h => by cases h)).imp fun _ h _ => h
    | 2 => exact (prim 2 .char (hts _ (am_wat_mem (p := 155) (w := (12, 2, 0, 0)) (by decide +kernel))) (fun C h => by cases h)).imp fun _ h _ => h
    | 3 => exact (prim 3 .boolean (hts _ (am_wat_mem (p := 301) (w := (12, 3, 0, 0)) (by decide +kernel))) (fun C h => by cases h)).imp fun _ h _ => h
    | 4 => exact (obj _ (hao _ List.mem_cons_self)).imp fun _ h _ => h
    | 5 => exact (obj _ (hao _ (List.mem_cons_of_mem _ List.mem_cons_self))).imp fun _ h _ => h
    | k + 6 => exact ⟨0, fun h => absurd h (by show ¬ k + 6 < 6; omega)⟩
  refine ⟨(fun ci => (Classical.choose (hc ci)).1, fun ci => (Classical.choose (hc ci)).2), fun t => Classical.choose (ha t), ⟨fun ci q hq => ?_, fun t q hq => ?_⟩, fun q hq => va_Nw.of rfl (hall _ (am_wt lw_nw _ (List.mem_map.mpr ⟨q, hq, rfl⟩))), fun C hC => va_AO.of (hao C hC)⟩
  · obtain ⟨hlt, rfl⟩ := am_cl_at hq
    exact Classical.choose_spec (hc ci) hlt
  · have hlt : t < am_nat := by
      have := (List.getElem?_eq_some_iff.mp hq).1
      rw [am_ty, List.length_map, List.length_range] at this
      exact this
    rw [am_ty_at hlt] at hq
    cases hq
    exact Classical.choose_spec (ha t) hlt
abbrev hs_P : Type := (Nat → Nat → Int32) → (Nat → Nat → Int64) → (Nat → Nat → Option Nat) → Prop
def kI (r : Option Value) : Prop := ∃ v, r = some (.int v)
def kL (r : Option Value) : Prop := ∃ v, r = some (.long v)
def kV (r : Option Value) : Prop := r = none
/-- an operation of the class and of the reference: one answer, and the invariant behind them -/
def law_ok (l : Launch) (Inv : hs_P) (K : Option Value → Prop) (ix im : Nat) (As : List Value) : Prop :=
  ∀ mi ml mr, Inv mi ml mr → ∃ P : Option Value → hs_P,
    am_T l 60 (am_m ix) 0 (am_entry (am_m ix).2.2.1 (.ref 0 :: As)) [] (hm mi ml mr) 0 0 (fun r h => K r ∧ ∃ mi' ml' mr', h = hm mi' ml' mr' ∧ P r mi' ml' mr') ∧
    ∀ r mi' ml' mr', K r → P r mi' ml' mr' → am_T l 60 (am_m im) 0 (am_entry (am_m im).2.2.1 (.ref 116 :: As)) [] (hm mi' ml' mr') 0 0 (fun r2 h => r2 = r ∧ ∃ mi'' ml'' mr'', h = hm mi'' ml'' mr'' ∧ Inv mi'' ml'' mr'')
def lw_lv (i : Nat) : List (Nat × Value) := [(3, .int (nI i)), (2, .ref 116), (1, .ref 0), (0, .retAddr 0)]
section LWC
variable {l : Launch} {b L : Nat} {xs : Nat → Int32} {kc ks : Nat} {Inv : hs_P} {mi : Nat → Nat → Int32} {ml : Nat → Nat → Int64} {mr : Nat → Nat → Option Nat}
theorem lw_case0 {i : Nat} (hi : i + 3 ≤ L) (hL : L ≤ 1536) (ho : law_ok l Inv kI 10 121 [.int ((xs (i + 1)).toUInt32 % 65536).toInt32]) (hInv : Inv mi ml mr) (hk : ∀ mi ml mr, Inv mi ml mr → lw_T l b L xs 542 (lw_lv i) [] (hm mi ml mr) kc ks) : lw_T l b L xs 128 (lw_lv i) [] (hm mi ml mr) kc ks := by
  obtain ⟨P, hx, hm2⟩ := ho mi ml mr hInv
  refine lw_aload (j := 2) rfl rfl ?_
  refine lw_aload0 (j := 3) rfl rfl ?_
  refine lw_iload (j := 0) rfl rfl ?_
  refine lw_iconst (v := nI 1) rfl (by decide) ?_
  refine lw_iadd rfl ?_
  rw [nI_add]
  refine lw_sld rfl (by omega) (by omega) ?_
  refine lw_i2c rfl rfl ?_
  refine lw_callv (As := [.int ((xs (i + 1)).toUInt32 % 65536).toInt32]) (kc1 := 0) (ks1 := 0) (a := 0) (ci := 0) (n := 0) (kk := (am_p 10).2.2.2 - 2) rfl (by decide) rfl (hm_at (by decide)) rfl (am_cl_in (by decide)) rfl rfl (Nat.le_of_ble_eq_true rfl) (Nat.le_of_ble_eq_true rfl) (by simp) (hx) ?_ ?_
  · rintro r h ⟨hK, -⟩ v hv
    obtain ⟨u, rfl⟩ := hK
    cases hv; exact fun _ h => by cases h
  rintro r h ⟨hK, mi1, ml1, mr1, rfl, hP⟩
  obtain ⟨u, rfl⟩ := id hK
  refine lw_aload (j := 1) rfl rfl ?_
  refine lw_aload0 (j := 3) rfl rfl ?_
  refine lw_iload (j := 0) rfl rfl ?_
  refine lw_iconst (v := nI 1) rfl (by decide) ?_
  refine lw_iadd rfl ?_
  rw [nI_add]
  refine lw_sld rfl (by omega) (by omega) ?_
  refine lw_i2c rfl rfl ?_
  refine lw_callv (As := [.int ((xs (i + 1)).toUInt32 % 65536).toInt32]) (kc1 := 0) (ks1 := 0) (a := 116) (ci := 10) (n := 0) (kk := (am_p 121).2.2.2 - 2) rfl (by decide) rfl (hm_at (by decide)) rfl (am_cl_in (by decide)) rfl rfl (Nat.le_of_ble_eq_true rfl) (Nat.le_of_ble_eq_true rfl) (by simp) (hm2 (some (.int u)) mi1 ml1 mr1 hK hP) ?_ ?_
  · rintro r h ⟨rfl, -⟩ v hv
    cases hv; exact fun _ h => by cases h
  rintro r2 h ⟨rfl, mi2, ml2, mr2, rfl, hI2⟩
  exact lw_icmpeq rfl (hk mi2 ml2 mr2 hI2)
theorem lw_case1 {i : Nat} (hi : i + 3 ≤ L) (hL : L ≤ 1536) (ho : law_ok l Inv kV 11 122 []) (hInv : Inv mi ml mr) (hk : ∀ mi ml mr, Inv mi ml mr → lw_T l b L xs 542 (lw_lv i) [] (hm mi ml mr) kc ks) : lw_T l b L xs 153 (lw_lv i) [] (hm mi ml mr) kc ks := by
  obtain ⟨P, hx, hm2⟩ := ho mi ml mr hInv
  refine lw_aload (j := 2) rfl rfl ?_
  refine lw_callv (As := []) (kc1 := 0) (ks1 := 0) (a := 0) (ci := 0) (n := 0) (kk := (am_p 11).2.2.2 - 2) rfl (by decide) rfl (hm_at (by decide)) rfl (am_cl_in (by decide)) rfl rfl (Nat.le_of_ble_eq_true rfl) (Nat.le_of_ble_eq_true rfl) (by simp) (hx) ?_ ?_
  · rintro r h ⟨hK, -⟩ v hv
    rw [show r = none from hK] at hv
    cases hv
  rintro r h ⟨hK, mi1, ml1, mr1, rfl, hP⟩
  have hr : r = none := hK
  subst hr
  refine lw_aload (j := 1) rfl rfl ?_
  refine lw_callv (As := []) (kc1 := 0) (ks1 := 0) (a := 116) (ci := 10) (n := 0) (kk := (am_p 122).2.2.2 - 2) rfl (by decide) rfl (hm_at (by decide)) rfl (am_cl_in (by decide)) rfl rfl (Nat.le_of_ble_eq_true rfl) (Nat.le_of_ble_eq_true rfl) (by simp) (hm2 none mi1 ml1 mr1 hK hP) ?_ ?_
  · rintro r h ⟨rfl, -⟩ v hv
    cases hv
  rintro r2 h ⟨rfl, mi2, ml2, mr2, rfl, hI2⟩
  exact lw_goto rfl (hk mi2 ml2 mr2 hI2)
theorem lw_case2 {i : Nat} (hi : i + 3 ≤ L) (hL : L ≤ 1536) (ho : law_ok l Inv kI 12 123 []) (hInv : Inv mi ml mr) (hk : ∀ mi ml mr, Inv mi ml mr → lw_T l b L xs 542 (lw_lv i) [] (hm mi ml mr) kc ks) : lw_T l b L xs 164 (lw_lv i) [] (hm mi ml mr) kc ks := by
  obtain ⟨P, hx, hm2⟩ := ho mi ml mr hInv
  refine lw_aload (j := 2) rfl rfl ?_
  refine lw_callv (As := []) (kc1 := 0) (ks1 := 0) (a := 0) (ci := 0) (n := 0) (kk := (am_p 12).2.2.2 - 2) rfl (by decide) rfl (hm_at (by decide)) rfl (am_cl_in (by decide)) rfl rfl (Nat.le_of_ble_eq_true rfl) (Nat.le_of_ble_eq_true rfl) (by simp) (hx) ?_ ?_
  · rintro r h ⟨hK, -⟩ v hv
    obtain ⟨u, rfl⟩ := hK
    cases hv; exact fun _ h => by cases h
  rintro r h ⟨hK, mi1, ml1, mr1, rfl, hP⟩
  obtain ⟨u, rfl⟩ := id hK
  refine lw_aload (j := 1) rfl rfl ?_
  refine lw_callv (As := []) (kc1 := 0) (ks1 := 0) (a := 116) (ci := 10) (n := 0) (kk := (am_p 123).2.2.2 - 2) rfl (by decide) rfl (hm_at (by decide)) rfl (am_cl_in (by decide)) rfl rfl (Nat.le_of_ble_eq_true rfl) (Nat.le_of_ble_eq_true rfl) (by simp) (hm2 (some (.int u)) mi1 ml1 mr1 hK hP) ?_ ?_
  · rintro r h ⟨rfl, -⟩ v hv
    cases hv; exact fun _ h => by cases h
  rintro r2 h ⟨rfl, mi2, ml2, mr2, rfl, hI2⟩
  exact lw_icmpeq rfl (hk mi2 ml2 mr2 hI2)
theorem lw_case3 {i : Nat} (hi : i + 3 ≤ L) (hL : L ≤ 1536) (ho : law_ok l Inv kI 42 135 []) (hInv : Inv mi ml mr) (hk : ∀ mi ml mr, Inv mi ml mr → lw_T l b L xs 542 (lw_lv i) [] (hm mi ml mr) kc ks) : lw_T l b L xs 177 (lw_lv i) [] (hm mi ml mr) kc ks := by
  obtain ⟨P, hx, hm2⟩ := ho mi ml mr hInv
  refine lw_aload (j := 2) rfl rfl ?_
  refine lw_callv (As := []) (kc1 := 0) (ks1 := 0) (a := 0) (ci := 0) (n := 0) (kk := (am_p 42).2.2.2 - 2) rfl (by decide) rfl (hm_at (by decide)) rfl (am_cl_in (by decide)) rfl rfl (Nat.le_of_ble_eq_true rfl) (Nat.le_of_ble_eq_true rfl) (by simp) (hx) ?_ ?_
  · rintro r h ⟨hK, -⟩ v hv
    obtain ⟨u, rfl⟩ := hK
    cases hv; exact fun _ h => by cases h
  rintro r h ⟨hK, mi1, ml1, mr1, rfl, hP⟩
  obtain ⟨u, rfl⟩ := id hK
  refine lw_aload (j := 1) rfl rfl ?_
  refine lw_callv (As := []) (kc1 := 0) (ks1 := 0) (a := 116) (ci := 10) (n := 0) (kk := (am_p 135).2.2.2 - 2) rfl (by decide) rfl (hm_at (by decide)) rfl (am_cl_in (by decide)) rfl rfl (Nat.le_of_ble_eq_true rfl) (Nat.le_of_ble_eq_true rfl) (by simp) (hm2 (some (.int u)) mi1 ml1 mr1 hK hP) ?_ ?_
  · rintro r h ⟨rfl, -⟩ v hv
    cases hv; exact fun _ h => by cases h
  rintro r2 h ⟨rfl, mi2, ml2, mr2, rfl, hI2⟩
  exact lw_icmpeq rfl (hk mi2 ml2 mr2 hI2)
theorem lw_case4 {i : Nat} (hi : i + 3 ≤ L) (hL : L ≤ 1536) (ho : law_ok l Inv kI 46 183 []) (hInv : Inv mi ml mr) (hk : ∀ mi ml mr, Inv mi ml mr → lw_T l b L xs 542 (lw_lv i) [] (hm mi ml mr) kc ks) : lw_T l b L xs 190 (lw_lv i) [] (hm mi ml mr) kc ks := by
  obtain ⟨P, hx, hm2⟩ := ho mi ml mr hInv
  refine lw_aload (j := 2) rfl rfl ?_
  refine lw_callv (As := []) (kc1 := 0) (ks1 := 0) (a := 0) (ci := 0) (n := 0) (kk := (am_p 46).2.2.2 - 2) rfl (by decide) rfl (hm_at (by decide)) rfl (am_cl_in (by decide)) rfl rfl (Nat.le_of_ble_eq_true rfl) (Nat.le_of_ble_eq_true rfl) (by simp) (hx) ?_ ?_
  · rintro r h ⟨hK, -⟩ v hv
    obtain ⟨u, rfl⟩ := hK
    cases hv; exact fun _ h => by cases h
  rintro r h ⟨hK, mi1, ml1, mr1, rfl, hP⟩
  obtain ⟨u, rfl⟩ := id hK
  refine lw_aload (j := 1) rfl rfl ?_
  refine lw_callv (As := []) (kc1 := 0) (ks1 := 0) (a := 116) (ci := 10) (n := 0) (kk := (am_p 183).2.2.2 - 2) rfl (by decide) rfl (hm_at (by decide)) rfl (am_cl_in (by decide)) rfl rfl (Nat.le_of_ble_eq_true rfl) (Nat.le_of_ble_eq_true rfl) (by simp) (hm2 (some (.int u)) mi1 ml1 mr1 hK hP) ?_ ?_
  · rintro r h ⟨rfl, -⟩ v hv
    cases hv; exact fun _ h => by cases h
  rintro r2 h ⟨rfl, mi2, ml2, mr2, rfl, hI2⟩
  exact lw_icmpeq rfl (hk mi2 ml2 mr2 hI2)
theorem lw_case5 {i : Nat} (hi : i + 3 ≤ L) (hL : L ≤ 1536) (ho : law_ok l Inv kI 47 185 [.int (xs (i + 1))]) (hInv : Inv mi ml mr) (hk : ∀ mi ml mr, Inv mi ml mr → lw_T l b L xs 542 (lw_lv i) [] (hm mi ml mr) kc ks) : lw_T l b L xs 203 (lw_lv i) [] (hm mi ml mr) kc ks := by
  obtain ⟨P, hx, hm2⟩ := ho mi ml mr hInv
  refine lw_aload (j := 2) rfl rfl ?_
  refine lw_aload0 (j := 3) rfl rfl ?_
  refine lw_iload (j := 0) rfl rfl ?_
  refine lw_iconst (v := nI 1) rfl (by decide) ?_
  refine lw_iadd rfl ?_
  rw [nI_add]
  refine lw_sld rfl (by omega) (by omega) ?_
  refine lw_callv (As := [.int (xs (i + 1))]) (kc1 := 0) (ks1 := 0) (a := 0) (ci := 0) (n := 0) (kk := (am_p 47).2.2.2 - 2) rfl (by decide) rfl (hm_at (by decide)) rfl (am_cl_in (by decide)) rfl rfl (Nat.le_of_ble_eq_true rfl) (Nat.le_of_ble_eq_true rfl) (by simp) (hx) ?_ ?_
  · rintro r h ⟨hK, -⟩ v hv
    obtain ⟨u, rfl⟩ := hK
    cases hv; exact fun _ h => by cases h
  rintro r h ⟨hK, mi1, ml1, mr1, rfl, hP⟩
  obtain ⟨u, rfl⟩ := id hK
  refine lw_aload (j := 1) rfl rfl ?_
  refine lw_aload0 (j := 3) rfl rfl ?_
  refine lw_iload (j := 0) rfl rfl ?_
  refine lw_iconst (v := nI 1) rfl (by decide) ?_
  refine lw_iadd rfl ?_
  rw [nI_add]
  refine lw_sld rfl (by omega) (by omega) ?_
  refine lw_callv (As := [.int (xs (i + 1))]) (kc1 := 0) (ks1 := 0) (a := 116) (ci := 10) (n := 0) (kk := (am_p 185).2.2.2 - 2) rfl (by decide) rfl (hm_at (by decide)) rfl (am_cl_in (by decide)) rfl rfl (Nat.le_of_ble_eq_true rfl) (Nat.le_of_ble_eq_true rfl) (by simp) (hm2 (some (.int u)) mi1 ml1 mr1 hK hP) ?_ ?_
  · rintro r h ⟨rfl, -⟩ v hv
    cases hv; exact fun _ h => by cases h
  rintro r2 h ⟨rfl, mi2, ml2, mr2, rfl, hI2⟩
  exact lw_icmpeq rfl (hk mi2 ml2 mr2 hI2)
theorem lw_case6 {i : Nat} (hi : i + 3 ≤ L) (hL : L ≤ 1536) (ho : law_ok l Inv kI 49 186 [.int (xs (i + 1))]) (hInv : Inv mi ml mr) (hk : ∀ mi ml mr, Inv mi ml mr → lw_T l b L xs 542 (lw_lv i) [] (hm mi ml mr) kc ks) : lw_T l b L xs 226 (lw_lv i) [] (hm mi ml mr) kc ks := by
  obtain ⟨P, hx, hm2⟩ := ho mi ml mr hInv
  refine lw_aload (j := 2) rfl rfl ?_
  refine lw_aload0 (j := 3) rfl rfl ?_
  refine lw_iload (j := 0) rfl rfl ?_
  refine lw_iconst (v := nI 1) rfl (by decide) ?_
  refine lw_iadd rfl ?_
  rw [nI_add]
  refine lw_sld rfl (by omega) (by omega) ?_
  refine lw_callv (As := [.int (xs (i + 1))]) (kc1 := 0) (ks1 := 0) (a := 0) (ci := 0) (n := 0) (kk := (am_p 49).2.2.2 - 2) rfl (by decide) rfl (hm_at (by decide)) rfl (am_cl_in (by decide)) rfl rfl (Nat.le_of_ble_eq_true rfl) (Nat.le_of_ble_eq_true rfl) (by simp) (hx) ?_ ?_
  · rintro r h ⟨hK, -⟩ v hv
    obtain ⟨u, rfl⟩ := hK
    cases hv; exact fun _ h => by cases h
  rintro r h ⟨hK, mi1, ml1, mr1, rfl, hP⟩
  obtain ⟨u, rfl⟩ := id hK
  refine lw_aload (j := 1) rfl rfl ?_
  refine lw_aload0 (j := 3) rfl rfl ?_
  refine lw_iload (j := 0) rfl rfl ?_
  refine lw_iconst (v := nI 1) rfl (by decide) ?_
  refine lw_iadd rfl ?_
  rw [nI_add]
  refine lw_sld rfl (by omega) (by omega) ?_
  refine lw_callv (As := [.int (xs (i + 1))]) (kc1 := 0) (ks1 := 0) (a := 116) (ci := 10) (n := 0) (kk := (am_p 186).2.2.2 - 2) rfl (by decide) rfl (hm_at (by decide)) rfl (am_cl_in (by decide)) rfl rfl (Nat.le_of_ble_eq_true rfl) (Nat.le_of_ble_eq_true rfl) (by simp) (hm2 (some (.int u)) mi1 ml1 mr1 hK hP) ?_ ?_
  · rintro r h ⟨rfl, -⟩ v hv
    cases hv; exact fun _ h => by cases h
  rintro r2 h ⟨rfl, mi2, ml2, mr2, rfl, hI2⟩
  exact lw_icmpeq rfl (hk mi2 ml2 mr2 hI2)
theorem lw_case7 {i : Nat} (hi : i + 3 ≤ L) (hL : L ≤ 1536) (ho : law_ok l Inv kI 59 137 []) (hInv : Inv mi ml mr) (hk : ∀ mi ml mr, Inv mi ml mr → lw_T l b L xs 542 (lw_lv i) [] (hm mi ml mr) kc ks) : lw_T l b L xs 249 (lw_lv i) [] (hm mi ml mr) kc ks := by
  obtain ⟨P, hx, hm2⟩ := ho mi ml mr hInv
  refine lw_aload (j := 2) rfl rfl ?_
  refine lw_callv (As := []) (kc1 := 0) (ks1 := 0) (a := 0) (ci := 0) (n := 0) (kk := (am_p 59).2.2.2 - 2) rfl (by decide) rfl (hm_at (by decide)) rfl (am_cl_in (by decide)) rfl rfl (Nat.le_of_ble_eq_true rfl) (Nat.le_of_ble_eq_true rfl) (by simp) (hx) ?_ ?_
  · rintro r h ⟨hK, -⟩ v hv
    obtain ⟨u, rfl⟩ := hK
    cases hv; exact fun _ h => by cases h
  rintro r h ⟨hK, mi1, ml1, mr1, rfl, hP⟩
  obtain ⟨u, rfl⟩ := id hK
  refine lw_aload (j := 1) rfl rfl ?_
  refine lw_callv (As := []) (kc1 := 0) (ks1 := 0) (a := 116) (ci := 10) (n := 0) (kk := (am_p 137).2.2.2 - 2) rfl (by decide) rfl (hm_at (by decide)) rfl (am_cl_in (by decide)) rfl rfl (Nat.le_of_ble_eq_true rfl) (Nat.le_of_ble_eq_true rfl) (by simp) (hm2 (some (.int u)) mi1 ml1 mr1 hK hP) ?_ ?_
  · rintro r h ⟨rfl, -⟩ v hv
    cases hv; exact fun _ h => by cases h
  rintro r2 h ⟨rfl, mi2, ml2, mr2, rfl, hI2⟩
  exact lw_icmpeq rfl (hk mi2 ml2 mr2 hI2)
theorem lw_case8 {i : Nat} (hi : i + 3 ≤ L) (hL : L ≤ 1536) (ho : law_ok l Inv kL 69 149 [.int (xs (i + 1))]) (hInv : Inv mi ml mr) (hk : ∀ mi ml mr, Inv mi ml mr → lw_T l b L xs 542 (lw_lv i) [] (hm mi ml mr) kc ks) : lw_T l b L xs 262 (lw_lv i) [] (hm mi ml mr) kc ks := by
  obtain ⟨P, hx, hm2⟩ := ho mi ml mr hInv
  refine lw_aload (j := 2) rfl rfl ?_
  refine lw_aload0 (j := 3) rfl rfl ?_
  refine lw_iload (j := 0) rfl rfl ?_
  refine lw_iconst (v := nI 1) rfl (by decide) ?_
  refine lw_iadd rfl ?_
  rw [nI_add]
  refine lw_sld rfl (by omega) (by omega) ?_
  refine lw_callv (As := [.int (xs (i + 1))]) (kc1 := 0) (ks1 := 0) (a := 0) (ci := 0) (n := 0) (kk := (am_p 69).2.2.2 - 2) rfl (by decide) rfl (hm_at (by decide)) rfl (am_cl_in (by decide)) rfl rfl (Nat.le_of_ble_eq_true rfl) (Nat.le_of_ble_eq_true rfl) (by simp) (hx) ?_ ?_
  · rintro r h ⟨hK, -⟩ v hv
    obtain ⟨u, rfl⟩ := hK
    cases hv; exact fun _ h => by cases h
  rintro r h ⟨hK, mi1, ml1, mr1, rfl, hP⟩
  obtain ⟨u, rfl⟩ := id hK
  refine lw_aload (j := 1) rfl rfl ?_
  refine lw_aload0 (j := 3) rfl rfl ?_
  refine lw_iload (j := 0) rfl rfl ?_
  refine lw_iconst (v := nI 1) rfl (by decide) ?_
  refine lw_iadd rfl ?_
  rw [nI_add]
  refine lw_sld rfl (by omega) (by omega) ?_
  refine lw_callv (As := [.int (xs (i + 1))]) (kc1 := 0) (ks1 := 0) (a := 116) (ci := 10) (n := 0) (kk := (am_p 149).2.2.2 - 2) rfl (by decide) rfl (hm_at (by decide)) rfl (am_cl_in (by decide)) rfl rfl (Nat.le_of_ble_eq_true rfl) (Nat.le_of_ble_eq_true rfl) (by simp) (hm2 (some (.long u)) mi1 ml1 mr1 hK hP) ?_ ?_
  · rintro r h ⟨rfl, -⟩ v hv
    cases hv; exact fun _ h => by cases h
  rintro r2 h ⟨rfl, mi2, ml2, mr2, rfl, hI2⟩
  refine lw_lcmp rfl ?_
  exact lw_ifeq rfl (lg_cmp_0.mpr rfl) (hk mi2 ml2 mr2 hI2)
theorem lw_case9 {i : Nat} (hi : i + 3 ≤ L) (hL : L ≤ 1536) (ho : law_ok l Inv kL 71 152 [.int (xs (i + 1)), .int (xs (i + 2))]) (hInv : Inv mi ml mr) (hk : ∀ mi ml mr, Inv mi ml mr → lw_T l b L xs 542 (lw_lv i) [] (hm mi ml mr) kc ks) : lw_T l b L xs 286 (lw_lv i) [] (hm mi ml mr) kc ks := by
  obtain ⟨P, hx, hm2⟩ := ho mi ml mr hInv
  refine lw_aload (j := 2) rfl rfl ?_
  refine lw_aload0 (j := 3) rfl rfl ?_
  refine lw_iload (j := 0) rfl rfl ?_
  refine lw_iconst (v := nI 1) rfl (by decide) ?_
  refine lw_iadd rfl ?_
  rw [nI_add]
  refine lw_sld rfl (by omega) (by omega) ?_
  refine lw_aload0 (j := 3) rfl rfl ?_
  refine lw_iload (j := 0) rfl rfl ?_
  refine lw_iconst (v := nI 2) rfl (by decide) ?_
  refine lw_iadd rfl ?_
  rw [nI_add]
  refine lw_sld rfl (by omega) (by omega) ?_
  refine lw_callv (As := [.int (xs (i + 1)), .int (xs (i + 2))]) (kc1 := 0) (ks1 := 0) (a := 0) (ci := 0) (n := 0) (kk := (am_p 71).2.2.2 - 2) rfl (by decide) rfl (hm_at (by decide)) rfl (am_cl_in (by decide)) rfl rfl (Nat.le_of_ble_eq_true rfl) (Nat.le_of_ble_eq_true rfl) (by simp) (hx) ?_ ?_
  · rintro r h ⟨hK, -⟩ v hv
    obtain ⟨u, rfl⟩ := hK
    cases hv; exact fun _ h => by cases h
  rintro r h ⟨hK, mi1, ml1, mr1, rfl, hP⟩
  obtain ⟨u, rfl⟩ := id hK
  refine lw_aload (j := 1) rfl rfl ?_
  refine lw_aload0 (j := 3) rfl rfl ?_
  refine lw_iload (j := 0) rfl rfl ?_
  refine lw_iconst (v := nI 1) rfl (by decide) ?_
  refine lw_iadd rfl ?_
  rw [nI_add]
  refine lw_sld rfl (by omega) (by omega) ?_
  refine lw_aload0 (j := 3) rfl rfl ?_
  refine lw_iload (j := 0) rfl rfl ?_
  refine lw_iconst (v := nI 2) rfl (by decide) ?_
  refine lw_iadd rfl ?_
  rw [nI_add]
  refine lw_sld rfl (by omega) (by omega) ?_
  refine lw_callv (As := [.int (xs (i + 1)), .int (xs (i + 2))]) (kc1 := 0) (ks1 := 0) (a := 116) (ci := 10) (n := 0) (kk := (am_p 152).2.2.2 - 2) rfl (by decide) rfl (hm_at (by decide)) rfl (am_cl_in (by decide)) rfl rfl (Nat.le_of_ble_eq_true rfl) (Nat.le_of_ble_eq_true rfl) (by simp) (hm2 (some (.long u)) mi1 ml1 mr1 hK hP) ?_ ?_
  · rintro r h ⟨rfl, -⟩ v hv
    cases hv; exact fun _ h => by cases h
  rintro r2 h ⟨rfl, mi2, ml2, mr2, rfl, hI2⟩
  refine lw_lcmp rfl ?_
  exact lw_ifeq rfl (lg_cmp_0.mpr rfl) (hk mi2 ml2 mr2 hI2)
theorem lw_case10 {i : Nat} (hi : i + 3 ≤ L) (hL : L ≤ 1536) (ho : law_ok l Inv kL 72 153 [.int (xs (i + 1)), .int (xs (i + 2))]) (hInv : Inv mi ml mr) (hk : ∀ mi ml mr, Inv mi ml mr → lw_T l b L xs 542 (lw_lv i) [] (hm mi ml mr) kc ks) : lw_T l b L xs 320 (lw_lv i) [] (hm mi ml mr) kc ks := by
  obtain ⟨P, hx, hm2⟩ := ho mi ml mr hInv
  refine lw_aload (j := 2) rfl rfl ?_
  refine lw_aload0 (j := 3) rfl rfl ?_
  refine lw_iload (j := 0) rfl rfl ?_
  refine lw_iconst (v := nI 1) rfl (by decide) ?_
  refine lw_iadd rfl ?_
  rw [nI_add]
  refine lw_sld rfl (by omega) (by omega) ?_
  refine lw_aload0 (j := 3) rfl rfl ?_
  refine lw_iload (j := 0) rfl rfl ?_
  refine lw_iconst (v := nI 2) rfl (by decide) ?_
  refine lw_iadd rfl ?_
  rw [nI_add]
  refine lw_sld rfl (by omega) (by omega) ?_
  refine lw_callv (As := [.int (xs (i + 1)), .int (xs (i + 2))]) (kc1 := 0) (ks1 := 0) (a := 0) (ci := 0) (n := 0) (kk := (am_p 72).2.2.2 - 2) rfl (by decide) rfl (hm_at (by decide)) rfl (am_cl_in (by decide)) rfl rfl (Nat.le_of_ble_eq_true rfl) (Nat.le_of_ble_eq_true rfl) (by simp) (hx) ?_ ?_
  · rintro r h ⟨hK, -⟩ v hv
    obtain ⟨u, rfl⟩ := hK
    cases hv; exact fun _ h => by cases h
  rintro r h ⟨hK, mi1, ml1, mr1, rfl, hP⟩
  obtain ⟨u, rfl⟩ := id hK
  refine lw_aload (j := 1) rfl rfl ?_
  refine lw_aload0 (j := 3) rfl rfl ?_
  refine lw_iload (j := 0) rfl rfl ?_
  refine lw_iconst (v := nI 1) rfl (by decide) ?_
  refine lw_iadd rfl ?_
  rw [nI_add]
  refine lw_sld rfl (by omega) (by omega) ?_
  refine lw_aload0 (j := 3) rfl rfl ?_
  refine lw_iload (j := 0) rfl rfl ?_
  refine lw_iconst (v := nI 2) rfl (by decide) ?_
  refine lw_iadd rfl ?_
  rw [nI_add]
  refine lw_sld rfl (by omega) (by omega) ?_
  refine lw_callv (As := [.int (xs (i + 1)), .int (xs (i + 2))]) (kc1 := 0) (ks1 := 0) (a := 116) (ci := 10) (n := 0) (kk := (am_p 153).2.2.2 - 2) rfl (by decide) rfl (hm_at (by decide)) rfl (am_cl_in (by decide)) rfl rfl (Nat.le_of_ble_eq_true rfl) (Nat.le_of_ble_eq_true rfl) (by simp) (hm2 (some (.long u)) mi1 ml1 mr1 hK hP) ?_ ?_
  · rintro r h ⟨rfl, -⟩ v hv
    cases hv; exact fun _ h => by cases h
  rintro r2 h ⟨rfl, mi2, ml2, mr2, rfl, hI2⟩
  refine lw_lcmp rfl ?_
  exact lw_ifeq rfl (lg_cmp_0.mpr rfl) (hk mi2 ml2 mr2 hI2)
theorem lw_case11 {i : Nat} (hi : i + 3 ≤ L) (hL : L ≤ 1536) (ho : law_ok l Inv kL 82 158 [.int (xs (i + 1))]) (hInv : Inv mi ml mr) (hk : ∀ mi ml mr, Inv mi ml mr → lw_T l b L xs 542 (lw_lv i) [] (hm mi ml mr) kc ks) : lw_T l b L xs 354 (lw_lv i) [] (hm mi ml mr) kc ks := by
  obtain ⟨P, hx, hm2⟩ := ho mi ml mr hInv
  refine lw_aload (j := 2) rfl rfl ?_
  refine lw_aload0 (j := 3) rfl rfl ?_
  refine lw_iload (j := 0) rfl rfl ?_
  refine lw_iconst (v := nI 1) rfl (by decide) ?_
  refine lw_iadd rfl ?_
  rw [nI_add]
  refine lw_sld rfl (by omega) (by omega) ?_
  refine lw_callv (As := [.int (xs (i + 1))]) (kc1 := 0) (ks1 := 0) (a := 0) (ci := 0) (n := 0) (kk := (am_p 82).2.2.2 - 2) rfl (by decide) rfl (hm_at (by decide)) rfl (am_cl_in (by decide)) rfl rfl (Nat.le_of_ble_eq_true rfl) (Nat.le_of_ble_eq_true rfl) (by simp) (hx) ?_ ?_
  · rintro r h ⟨hK, -⟩ v hv
    obtain ⟨u, rfl⟩ := hK
    cases hv; exact fun _ h => by cases h
  rintro r h ⟨hK, mi1, ml1, mr1, rfl, hP⟩
  obtain ⟨u, rfl⟩ := id hK
  refine lw_aload (j := 1) rfl rfl ?_
  refine lw_aload0 (j := 3) rfl rfl ?_
  refine lw_iload (j := 0) rfl rfl ?_
  refine lw_iconst (v := nI 1) rfl (by decide) ?_
  refine lw_iadd rfl ?_
  rw [nI_add]
  refine lw_sld rfl (by omega) (by omega) ?_
  refine lw_callv (As := [.int (xs (i + 1))]) (kc1 := 0) (ks1 := 0) (a := 116) (ci := 10) (n := 0) (kk := (am_p 158).2.2.2 - 2) rfl (by decide) rfl (hm_at (by decide)) rfl (am_cl_in (by decide)) rfl rfl (Nat.le_of_ble_eq_true rfl) (Nat.le_of_ble_eq_true rfl) (by simp) (hm2 (some (.long u)) mi1 ml1 mr1 hK hP) ?_ ?_
  · rintro r h ⟨rfl, -⟩ v hv
    cases hv; exact fun _ h => by cases h
  rintro r2 h ⟨rfl, mi2, ml2, mr2, rfl, hI2⟩
  refine lw_lcmp rfl ?_
  exact lw_ifeq rfl (lg_cmp_0.mpr rfl) (hk mi2 ml2 mr2 hI2)
theorem lw_case12 {i : Nat} (hi : i + 3 ≤ L) (hL : L ≤ 1536) (ho : law_ok l Inv kI 92 172 [.int (xs (i + 1))]) (hInv : Inv mi ml mr) (hk : ∀ mi ml mr, Inv mi ml mr → lw_T l b L xs 542 (lw_lv i) [] (hm mi ml mr) kc ks) : lw_T l b L xs 378 (lw_lv i) [] (hm mi ml mr) kc ks := by
  obtain ⟨P, hx, hm2⟩ := ho mi ml mr hInv
  refine lw_aload (j := 2) rfl rfl ?_
  refine lw_aload0 (j := 3) rfl rfl ?_
  refine lw_iload (j := 0) rfl rfl ?_
  refine lw_iconst (v := nI 1) rfl (by decide) ?_
  refine lw_iadd rfl ?_
  rw [nI_add]
  refine lw_sld rfl (by omega) (by omega) ?_
  refine lw_callv (As := [.int (xs (i + 1))]) (kc1 := 0) (ks1 := 0) (a := 0) (ci := 0) (n := 0) (kk := (am_p 92).2.2.2 - 2) rfl (by decide) rfl (hm_at (by decide)) rfl (am_cl_in (by decide)) rfl rfl (Nat.le_of_ble_eq_true rfl) (Nat.le_of_ble_eq_true rfl) (by simp) (hx) ?_ ?_
  · rintro r h ⟨hK, -⟩ v hv
    obtain ⟨u, rfl⟩ := hK
    cases hv; exact fun _ h => by cases h
  rintro r h ⟨hK, mi1, ml1, mr1, rfl, hP⟩
  obtain ⟨u, rfl⟩ := id hK
  refine lw_aload (j := 1) rfl rfl ?_
  refine lw_aload0 (j := 3) rfl rfl ?_
  refine lw_iload (j := 0) rfl rfl ?_
  refine lw_iconst (v := nI 1) rfl (by decide) ?_
  refine lw_iadd rfl ?_
  rw [nI_add]
  refine lw_sld rfl (by omega) (by omega) ?_
  refine lw_callv (As := [.int (xs (i + 1))]) (kc1 := 0) (ks1 := 0) (a := 116) (ci := 10) (n := 0) (kk := (am_p 172).2.2.2 - 2) rfl (by decide) rfl (hm_at (by decide)) rfl (am_cl_in (by decide)) rfl rfl (Nat.le_of_ble_eq_true rfl) (Nat.le_of_ble_eq_true rfl) (by simp) (hm2 (some (.int u)) mi1 ml1 mr1 hK hP) ?_ ?_
  · rintro r h ⟨rfl, -⟩ v hv
    cases hv; exact fun _ h => by cases h
  rintro r2 h ⟨rfl, mi2, ml2, mr2, rfl, hI2⟩
  exact lw_icmpeq rfl (hk mi2 ml2 mr2 hI2)
theorem lw_case13 {i : Nat} (hi : i + 3 ≤ L) (hL : L ≤ 1536) (ho : law_ok l Inv kI 95 173 [.int (xs (i + 1))]) (hInv : Inv mi ml mr) (hk : ∀ mi ml mr, Inv mi ml mr → lw_T l b L xs 542 (lw_lv i) [] (hm mi ml mr) kc ks) : lw_T l b L xs 401 (lw_lv i) [] (hm mi ml mr) kc ks := by
  obtain ⟨P, hx, hm2⟩ := ho mi ml mr hInv
  refine lw_aload (j := 2) rfl rfl ?_
  refine lw_aload0 (j := 3) rfl rfl ?_
  refine lw_iload (j := 0) rfl rfl ?_
  refine lw_iconst (v := nI 1) rfl (by decide) ?_
  refine lw_iadd rfl ?_
  rw [nI_add]
  refine lw_sld rfl (by omega) (by omega) ?_
  refine lw_callv (As := [.int (xs (i + 1))]) (kc1 := 0) (ks1 := 0) (a := 0) (ci := 0) (n := 0) (kk := (am_p 95).2.2.2 - 2) rfl (by decide) rfl (hm_at (by decide)) rfl (am_cl_in (by decide)) rfl rfl (Nat.le_of_ble_eq_true rfl) (Nat.le_of_ble_eq_true rfl) (by simp) (hx) ?_ ?_
  · rintro r h ⟨hK, -⟩ v hv
    obtain ⟨u, rfl⟩ := hK
    cases hv; exact fun _ h => by cases h
  rintro r h ⟨hK, mi1, ml1, mr1, rfl, hP⟩
  obtain ⟨u, rfl⟩ := id hK
  refine lw_aload (j := 1) rfl rfl ?_
  refine lw_aload0 (j := 3) rfl rfl ?_
  refine lw_iload (j := 0) rfl rfl ?_
  refine lw_iconst (v := nI 1) rfl (by decide) ?_
  refine lw_iadd rfl ?_
  rw [nI_add]
  refine lw_sld rfl (by omega) (by omega) ?_
  refine lw_callv (As := [.int (xs (i + 1))]) (kc1 := 0) (ks1 := 0) (a := 116) (ci := 10) (n := 0) (kk := (am_p 173).2.2.2 - 2) rfl (by decide) rfl (hm_at (by decide)) rfl (am_cl_in (by decide)) rfl rfl (Nat.le_of_ble_eq_true rfl) (Nat.le_of_ble_eq_true rfl) (by simp) (hm2 (some (.int u)) mi1 ml1 mr1 hK hP) ?_ ?_
  · rintro r h ⟨rfl, -⟩ v hv
    cases hv; exact fun _ h => by cases h
  rintro r2 h ⟨rfl, mi2, ml2, mr2, rfl, hI2⟩
  exact lw_icmpeq rfl (hk mi2 ml2 mr2 hI2)
theorem lw_case14 {i : Nat} (hi : i + 3 ≤ L) (hL : L ≤ 1536) (ho : law_ok l Inv kI 104 181 [.int (xs (i + 1))]) (hInv : Inv mi ml mr) (hk : ∀ mi ml mr, Inv mi ml mr → lw_T l b L xs 542 (lw_lv i) [] (hm mi ml mr) kc ks) : lw_T l b L xs 424 (lw_lv i) [] (hm mi ml mr) kc ks := by
  obtain ⟨P, hx, hm2⟩ := ho mi ml mr hInv
  refine lw_aload (j := 2) rfl rfl ?_
  refine lw_aload0 (j := 3) rfl rfl ?_
  refine lw_iload (j := 0) rfl rfl ?_
  refine lw_iconst (v := nI 1) rfl (by decide) ?_
  refine lw_iadd rfl ?_
  rw [nI_add]
  refine lw_sld rfl (by omega) (by omega) ?_
  refine lw_callv (As := [.int (xs (i + 1))]) (kc1 := 0) (ks1 := 0) (a := 0) (ci := 0) (n := 0) (kk := (am_p 104).2.2.2 - 2) rfl (by decide) rfl (hm_at (by decide)) rfl (am_cl_in (by decide)) rfl rfl (Nat.le_of_ble_eq_true rfl) (Nat.le_of_ble_eq_true rfl) (by simp) (hx) ?_ ?_
  · rintro r h ⟨hK, -⟩ v hv
    obtain ⟨u, rfl⟩ := hK
    cases hv; exact fun _ h => by cases h
  rintro r h ⟨hK, mi1, ml1, mr1, rfl, hP⟩
  obtain ⟨u, rfl⟩ := id hK
  refine lw_aload (j := 1) rfl rfl ?_
  refine lw_aload0 (j := 3) rfl rfl ?_
  refine lw_iload (j := 0) rfl rfl ?_
  refine lw_iconst (v := nI 1) rfl (by decide) ?_
  refine lw_iadd rfl ?_
  rw [nI_add]
  refine lw_sld rfl (by omega) (by omega) ?_
  refine lw_callv (As := [.int (xs (i + 1))]) (kc1 := 0) (ks1 := 0) (a := 116) (ci := 10) (n := 0) (kk := (am_p 181).2.2.2 - 2) rfl (by decide) rfl (hm_at (by decide)) rfl (am_cl_in (by decide)) rfl rfl (Nat.le_of_ble_eq_true rfl) (Nat.le_of_ble_eq_true rfl) (by simp) (hm2 (some (.int u)) mi1 ml1 mr1 hK hP) ?_ ?_
  · rintro r h ⟨rfl, -⟩ v hv
    cases hv; exact fun _ h => by cases h
  rintro r2 h ⟨rfl, mi2, ml2, mr2, rfl, hI2⟩
  exact lw_icmpeq rfl (hk mi2 ml2 mr2 hI2)
theorem lw_case15 {i : Nat} (hi : i + 3 ≤ L) (hL : L ≤ 1536) (ho : law_ok l Inv kI 108 193 [.int (xs (i + 1))]) (hInv : Inv mi ml mr) (hk : ∀ mi ml mr, Inv mi ml mr → lw_T l b L xs 542 (lw_lv i) [] (hm mi ml mr) kc ks) : lw_T l b L xs 447 (lw_lv i) [] (hm mi ml mr) kc ks := by
  obtain ⟨P, hx, hm2⟩ := ho mi ml mr hInv
  refine lw_aload (j := 2) rfl rfl ?_
  refine lw_aload0 (j := 3) rfl rfl ?_
  refine lw_iload (j := 0) rfl rfl ?_
  refine lw_iconst (v := nI 1) rfl (by decide) ?_
  refine lw_iadd rfl ?_
  rw [nI_add]
  refine lw_sld rfl (by omega) (by omega) ?_
  refine lw_callv (As := [.int (xs (i + 1))]) (kc1 := 0) (ks1 := 0) (a := 0) (ci := 0) (n := 0) (kk := (am_p 108).2.2.2 - 2) rfl (by decide) rfl (hm_at (by decide)) rfl (am_cl_in (by decide)) rfl rfl (Nat.le_of_ble_eq_true rfl) (Nat.le_of_ble_eq_true rfl) (by simp) (hx) ?_ ?_
  · rintro r h ⟨hK, -⟩ v hv
    obtain ⟨u, rfl⟩ := hK
    cases hv; exact fun _ h => by cases h
  rintro r h ⟨hK, mi1, ml1, mr1, rfl, hP⟩
  obtain ⟨u, rfl⟩ := id hK
  refine lw_aload (j := 1) rfl rfl ?_
  refine lw_aload0 (j := 3) rfl rfl ?_
  refine lw_iload (j := 0) rfl rfl ?_
  refine lw_iconst (v := nI 1) rfl (by decide) ?_
  refine lw_iadd rfl ?_
  rw [nI_add]
  refine lw_sld rfl (by omega) (by omega) ?_
  refine lw_callv (As := [.int (xs (i + 1))]) (kc1 := 0) (ks1 := 0) (a := 116) (ci := 10) (n := 0) (kk := (am_p 193).2.2.2 - 2) rfl (by decide) rfl (hm_at (by decide)) rfl (am_cl_in (by decide)) rfl rfl (Nat.le_of_ble_eq_true rfl) (Nat.le_of_ble_eq_true rfl) (by simp) (hm2 (some (.int u)) mi1 ml1 mr1 hK hP) ?_ ?_
  · rintro r h ⟨rfl, -⟩ v hv
    cases hv; exact fun _ h => by cases h
  rintro r2 h ⟨rfl, mi2, ml2, mr2, rfl, hI2⟩
  exact lw_icmpeq rfl (hk mi2 ml2 mr2 hI2)
theorem lw_case16 {i : Nat} (hi : i + 3 ≤ L) (hL : L ≤ 1536) (ho : law_ok l Inv kI 115 189 []) (hInv : Inv mi ml mr) (hk : ∀ mi ml mr, Inv mi ml mr → lw_T l b L xs 542 (lw_lv i) [] (hm mi ml mr) kc ks) : lw_T l b L xs 470 (lw_lv i) [] (hm mi ml mr) kc ks := by
  obtain ⟨P, hx, hm2⟩ := ho mi ml mr hInv
  refine lw_aload (j := 2) rfl rfl ?_
  refine lw_callv (As := []) (kc1 := 0) (ks1 := 0) (a := 0) (ci := 0) (n := 0) (kk := (am_p 115).2.2.2 - 2) rfl (by decide) rfl (hm_at (by decide)) rfl (am_cl_in (by decide)) rfl rfl (Nat.le_of_ble_eq_true rfl) (Nat.le_of_ble_eq_true rfl) (by simp) (hx) ?_ ?_
  · rintro r h ⟨hK, -⟩ v hv
    obtain ⟨u, rfl⟩ := hK
    cases hv; exact fun _ h => by cases h
  rintro r h ⟨hK, mi1, ml1, mr1, rfl, hP⟩
  obtain ⟨u, rfl⟩ := id hK
  refine lw_aload (j := 1) rfl rfl ?_
  refine lw_callv (As := []) (kc1 := 0) (ks1 := 0) (a := 116) (ci := 10) (n := 0) (kk := (am_p 189).2.2.2 - 2) rfl (by decide) rfl (hm_at (by decide)) rfl (am_cl_in (by decide)) rfl rfl (Nat.le_of_ble_eq_true rfl) (Nat.le_of_ble_eq_true rfl) (by simp) (hm2 (some (.int u)) mi1 ml1 mr1 hK hP) ?_ ?_
  · rintro r h ⟨rfl, -⟩ v hv
    cases hv; exact fun _ h => by cases h
  rintro r2 h ⟨rfl, mi2, ml2, mr2, rfl, hI2⟩
  exact lw_icmpeq rfl (hk mi2 ml2 mr2 hI2)
theorem lw_case17 {i : Nat} (hi : i + 3 ≤ L) (hL : L ≤ 1536) (ho : law_ok l Inv kI 116 190 [.int (xs (i + 1))]) (hInv : Inv mi ml mr) (hk : ∀ mi ml mr, Inv mi ml mr → lw_T l b L xs 542 (lw_lv i) [] (hm mi ml mr) kc ks) : lw_T l b L xs 483 (lw_lv i) [] (hm mi ml mr) kc ks := by
  obtain ⟨P, hx, hm2⟩ := ho mi ml mr hInv
  refine lw_aload (j := 2) rfl rfl ?_
  refine lw_aload0 (j := 3) rfl rfl ?_
  refine lw_iload (j := 0) rfl rfl ?_
  refine lw_iconst (v := nI 1) rfl (by decide) ?_
  refine lw_iadd rfl ?_
  rw [nI_add]
  refine lw_sld rfl (by omega) (by omega) ?_
  refine lw_callv (As := [.int (xs (i + 1))]) (kc1 := 0) (ks1 := 0) (a := 0) (ci := 0) (n := 0) (kk := (am_p 116).2.2.2 - 2) rfl (by decide) rfl (hm_at (by decide)) rfl (am_cl_in (by decide)) rfl rfl (Nat.le_of_ble_eq_true rfl) (Nat.le_of_ble_eq_true rfl) (by simp) (hx) ?_ ?_
  · rintro r h ⟨hK, -⟩ v hv
    obtain ⟨u, rfl⟩ := hK
    cases hv; exact fun _ h => by cases h
  rintro r h ⟨hK, mi1, ml1, mr1, rfl, hP⟩
  obtain ⟨u, rfl⟩ := id hK
  refine lw_aload (j := 1) rfl rfl ?_
  refine lw_aload0 (j := 3) rfl rfl ?_
  refine lw_iload (j := 0) rfl rfl ?_
  refine lw_iconst (v := nI 1) rfl (by decide) ?_
  refine lw_iadd rfl ?_
  rw [nI_add]
  refine lw_sld rfl (by omega) (by omega) ?_
  refine lw_callv (As := [.int (xs (i + 1))]) (kc1 := 0) (ks1 := 0) (a := 116) (ci := 10) (n := 0) (kk := (am_p 190).2.2.2 - 2) rfl (by decide) rfl (hm_at (by decide)) rfl (am_cl_in (by decide)) rfl rfl (Nat.le_of_ble_eq_true rfl) (Nat.le_of_ble_eq_true rfl) (by simp) (hm2 (some (.int u)) mi1 ml1 mr1 hK hP) ?_ ?_
  · rintro r h ⟨rfl, -⟩ v hv
    cases hv; exact fun _ h => by cases h
  rintro r2 h ⟨rfl, mi2, ml2, mr2, rfl, hI2⟩
  exact lw_icmpeq rfl (hk mi2 ml2 mr2 hI2)
theorem lw_case18 {i : Nat} (hi : i + 3 ≤ L) (hL : L ≤ 1536) (ho : law_ok l Inv kI 117 191 [.int (xs (i + 1))]) (hInv : Inv mi ml mr) (hk : ∀ mi ml mr, Inv mi ml mr → lw_T l b L xs 542 (lw_lv i) [] (hm mi ml mr) kc ks) : lw_T l b L xs 506 (lw_lv i) [] (hm mi ml mr) kc ks := by
  obtain ⟨P, hx, hm2⟩ := ho mi ml mr hInv
  refine lw_aload (j := 2) rfl rfl ?_
  refine lw_aload0 (j := 3) rfl rfl ?_
  refine lw_iload (j := 0) rfl rfl ?_
  refine lw_iconst (v := nI 1) rfl (by decide) ?_
  refine lw_iadd rfl ?_
  rw [nI_add]
  refine lw_sld rfl (by omega) (by omega) ?_
  refine lw_callv (As := [.int (xs (i + 1))]) (kc1 := 0) (ks1 := 0) (a := 0) (ci := 0) (n := 0) (kk := (am_p 117).2.2.2 - 2) rfl (by decide) rfl (hm_at (by decide)) rfl (am_cl_in (by decide)) rfl rfl (Nat.le_of_ble_eq_true rfl) (Nat.le_of_ble_eq_true rfl) (by simp) (hx) ?_ ?_
  · rintro r h ⟨hK, -⟩ v hv
    obtain ⟨u, rfl⟩ := hK
    cases hv; exact fun _ h => by cases h
  rintro r h ⟨hK, mi1, ml1, mr1, rfl, hP⟩
  obtain ⟨u, rfl⟩ := id hK
  refine lw_aload (j := 1) rfl rfl ?_
  refine lw_aload0 (j := 3) rfl rfl ?_
  refine lw_iload (j := 0) rfl rfl ?_
  refine lw_iconst (v := nI 1) rfl (by decide) ?_
  refine lw_iadd rfl ?_
  rw [nI_add]
  refine lw_sld rfl (by omega) (by omega) ?_
  refine lw_callv (As := [.int (xs (i + 1))]) (kc1 := 0) (ks1 := 0) (a := 116) (ci := 10) (n := 0) (kk := (am_p 191).2.2.2 - 2) rfl (by decide) rfl (hm_at (by decide)) rfl (am_cl_in (by decide)) rfl rfl (Nat.le_of_ble_eq_true rfl) (Nat.le_of_ble_eq_true rfl) (by simp) (hm2 (some (.int u)) mi1 ml1 mr1 hK hP) ?_ ?_
  · rintro r h ⟨rfl, -⟩ v hv
    cases hv; exact fun _ h => by cases h
  rintro r2 h ⟨rfl, mi2, ml2, mr2, rfl, hI2⟩
  exact lw_icmpeq rfl (hk mi2 ml2 mr2 hI2)
theorem lw_case19 {i : Nat} (hi : i + 3 ≤ L) (hL : L ≤ 1536) (ho : law_ok l Inv kI 118 192 []) (hInv : Inv mi ml mr) (hk : ∀ mi ml mr, Inv mi ml mr → lw_T l b L xs 542 (lw_lv i) [] (hm mi ml mr) kc ks) : lw_T l b L xs 529 (lw_lv i) [] (hm mi ml mr) kc ks := by
  obtain ⟨P, hx, hm2⟩ := ho mi ml mr hInv
  refine lw_aload (j := 2) rfl rfl ?_
  refine lw_callv (As := []) (kc1 := 0) (ks1 := 0) (a := 0) (ci := 0) (n := 0) (kk := (am_p 118).2.2.2 - 2) rfl (by decide) rfl (hm_at (by decide)) rfl (am_cl_in (by decide)) rfl rfl (Nat.le_of_ble_eq_true rfl) (Nat.le_of_ble_eq_true rfl) (by simp) (hx) ?_ ?_
  · rintro r h ⟨hK, -⟩ v hv
    obtain ⟨u, rfl⟩ := hK
    cases hv; exact fun _ h => by cases h
  rintro r h ⟨hK, mi1, ml1, mr1, rfl, hP⟩
  obtain ⟨u, rfl⟩ := id hK
  refine lw_aload (j := 1) rfl rfl ?_
  refine lw_callv (As := []) (kc1 := 0) (ks1 := 0) (a := 116) (ci := 10) (n := 0) (kk := (am_p 192).2.2.2 - 2) rfl (by decide) rfl (hm_at (by decide)) rfl (am_cl_in (by decide)) rfl rfl (Nat.le_of_ble_eq_true rfl) (Nat.le_of_ble_eq_true rfl) (by simp) (hm2 (some (.int u)) mi1 ml1 mr1 hK hP) ?_ ?_
  · rintro r h ⟨rfl, -⟩ v hv
    cases hv; exact fun _ h => by cases h
  rintro r2 h ⟨rfl, mi2, ml2, mr2, rfl, hI2⟩
  exact lw_icmpeq rfl (hk mi2 ml2 mr2 hI2)
end LWC
def law_ops (l : Launch) (Inv : hs_P) : Prop :=
  (∀ x : Int32, law_ok l Inv kI 10 121 [.int (x.toUInt32 % 65536).toInt32]) ∧
  (law_ok l Inv kV 11 122 []) ∧
  (law_ok l Inv kI 12 123 []) ∧
  (law_ok l Inv kI 42 135 []) ∧
  (law_ok l Inv kI 46 183 []) ∧
  (∀ x : Int32, law_ok l Inv kI 47 185 [.int x]) ∧
  (∀ x : Int32, law_ok l Inv kI 49 186 [.int x]) ∧
  (law_ok l Inv kI 59 137 []) ∧
  (∀ x : Int32, law_ok l Inv kL 69 149 [.int x]) ∧
  (∀ x y : Int32, law_ok l Inv kL 71 152 [.int x, .int y]) ∧
  (∀ x y : Int32, law_ok l Inv kL 72 153 [.int x, .int y]) ∧
  (∀ x : Int32, law_ok l Inv kL 82 158 [.int x]) ∧
  (∀ x : Int32, law_ok l Inv kI 92 172 [.int x]) ∧
  (∀ x : Int32, law_ok l Inv kI 95 173 [.int x]) ∧
  (∀ x : Int32, law_ok l Inv kI 104 181 [.int x]) ∧
  (∀ x : Int32, law_ok l Inv kI 108 193 [.int x]) ∧
  (law_ok l Inv kI 115 189 []) ∧
  (∀ x : Int32, law_ok l Inv kI 116 190 [.int x]) ∧
  (∀ x : Int32, law_ok l Inv kI 117 191 [.int x]) ∧
  (law_ok l Inv kI 118 192 [])
theorem lw_last {i L : Nat} (hi : i ≤ 2000) (hL : L ≤ 1536) : nI L - nI 3 < nI i ↔ L < i + 3 := by
  rw [Int32.lt_iff_toInt_lt, Int32.toInt_sub, nI_toInt (by omega), nI_toInt (by omega), nI_toInt (by omega)]
  rw [Int.bmod_eq_of_le (by omega) (by omega)]
  omega
theorem lw_loop {l : Launch} {b L : Nat} {xs : Nat → Int32} {kc ks : Nat} {Inv : hs_P} (hL : L ≤ 1536) (ops : law_ops l Inv) : ∀ (n i : Nat) (mi : Nat → Nat → Int32) (ml : Nat → Nat → Int64) (mr : Nat → Nat → Option Nat), i ≤ L + 3 → L + 3 - i ≤ n → Inv mi ml mr → lw_T l b L xs 18 (lw_lv i) [] (hm mi ml mr) kc ks := by
  intro n
  induction n with
  | zero =>
    intro i mi ml mr hi hn hInv
    have hi2 : i = L + 3 := by omega
    refine lw_iload (j := 0) rfl rfl ?_
    refine lw_aload0 (j := 3) rfl rfl ?_
    refine lw_slen rfl ?_
    refine lw_iconst (v := nI 3) rfl (by decide) ?_
    refine lw_isub rfl ?_
    refine lw_icmpgt rfl (fun _ => ?_) (fun q => absurd ((lw_last (by omega) hL).mpr (by omega)) q)
    refine lw_iconst (v := 1) rfl (by decide) ?_
    exact lw_end rfl
  | succ n ih =>
    intro i mi ml mr hi hn hInv
    refine lw_iload (j := 0) rfl rfl ?_
    refine lw_aload0 (j := 3) rfl rfl ?_
    refine lw_slen rfl ?_
    refine lw_iconst (v := nI 3) rfl (by decide) ?_
    refine lw_isub rfl ?_
    refine lw_icmpgt rfl (fun _ => ?_) (fun q => ?_)
    · refine lw_iconst (v := 1) rfl (by decide) ?_
      exact lw_end rfl
    have hi3 : i + 3 ≤ L := by
      rcases Nat.lt_or_ge L (i + 3) with h | h
      · exact absurd ((lw_last (by omega) hL).mpr h) q
      · exact h
    have hk : ∀ mi ml mr, Inv mi ml mr → lw_T l b L xs 542 (lw_lv i) [] (hm mi ml mr) kc ks := by
      intro mi ml mr hInv
      refine lw_iinc (j := 0) (v := nI (i + 3)) rfl rfl (by decide) (nI_inc i 3) rfl ?_
      refine lw_goto rfl ?_
      exact ih (i + 3) mi ml mr (by omega) (by omega) hInv
    refine lw_aload0 (j := 3) rfl rfl ?_
    refine lw_iload (j := 0) rfl rfl ?_
    refine lw_sld rfl (by omega) (by omega) ?_
    refine lw_bipush (v := nI 31) rfl (by decide) ?_
    refine lw_iand rfl ?_
    generalize xs i &&& nI 31 = t
    by_cases ht : t.toInt < 0 ∨ 19 < t.toInt
    · exact lw_swout ht (hk mi ml mr hInv)
    have h1 : ¬ t.toInt < 0 := fun h => ht (Or.inl h)
    have h2 : ¬ 19 < t.toInt := fun h => ht (Or.inr h)
    have hcase : t.toInt = 0 ∨ t.toInt = 1 ∨ t.toInt = 2 ∨ t.toInt = 3 ∨ t.toInt = 4 ∨ t.toInt = 5 ∨ t.toInt = 6 ∨ t.toInt = 7 ∨ t.toInt = 8 ∨ t.toInt = 9 ∨ t.toInt = 10 ∨ t.toInt = 11 ∨ t.toInt = 12 ∨ t.toInt = 13 ∨ t.toInt = 14 ∨ t.toInt = 15 ∨ t.toInt = 16 ∨ t.toInt = 17 ∨ t.toInt = 18 ∨ t.toInt = 19 := by omega
    obtain ⟨o0, o1, o2, o3, o4, o5, o6, o7, o8, o9, o10, o11, o12, o13, o14, o15, o16, o17, o18, o19⟩ := ops
    rcases hcase with h | h | h | h | h | h | h | h | h | h | h | h | h | h | h | h | h | h | h | h
    · exact lw_swin h1 h2 (by rw [h]; rfl) rfl (lw_case0 hi3 hL (o0 _) hInv hk)
    · exact lw_swin h1 h2 (by rw [h]; rfl) rfl (lw_case1 hi3 hL o1 hInv hk)
    · exact lw_swin h1 h2 (by rw [h]; rfl) rfl (lw_case2 hi3 hL o2 hInv hk)
    · exact lw_swin h1 h2 (by rw [h]; rfl) rfl (lw_case3 hi3 hL o3 hInv hk)
    · exact lw_swin h1 h2 (by rw [h]; rfl) rfl (lw_case4 hi3 hL o4 hInv hk)
    · exact lw_swin h1 h2 (by rw [h]; rfl) rfl (lw_case5 hi3 hL (o5 _) hInv hk)
    · exact lw_swin h1 h2 (by rw [h]; rfl) rfl (lw_case6 hi3 hL (o6 _) hInv hk)
    · exact lw_swin h1 h2 (by rw [h]; rfl) rfl (lw_case7 hi3 hL o7 hInv hk)
    · exact lw_swin h1 h2 (by rw [h]; rfl) rfl (lw_case8 hi3 hL (o8 _) hInv hk)
    · exact lw_swin h1 h2 (by rw [h]; rfl) rfl (lw_case9 hi3 hL (o9 _ _) hInv hk)
    · exact lw_swin h1 h2 (by rw [h]; rfl) rfl (lw_case10 hi3 hL (o10 _ _) hInv hk)
    · exact lw_swin h1 h2 (by rw [h]; rfl) rfl (lw_case11 hi3 hL (o11 _) hInv hk)
    · exact lw_swin h1 h2 (by rw [h]; rfl) rfl (lw_case12 hi3 hL (o12 _) hInv hk)
    · exact lw_swin h1 h2 (by rw [h]; rfl) rfl (lw_case13 hi3 hL (o13 _) hInv hk)
    · exact lw_swin h1 h2 (by rw [h]; rfl) rfl (lw_case14 hi3 hL (o14 _) hInv hk)
    · exact lw_swin h1 h2 (by rw [h]; rfl) rfl (lw_case15 hi3 hL (o15 _) hInv hk)
    · exact lw_swin h1 h2 (by rw [h]; rfl) rfl (lw_case16 hi3 hL o16 hInv hk)
    · exact lw_swin h1 h2 (by rw [h]; rfl) rfl (lw_case17 hi3 hL (o17 _) hInv hk)
    · exact lw_swin h1 h2 (by rw [h]; rfl) rfl (lw_case18 hi3 hL (o18 _) hInv hk)
    · exact lw_swin h1 h2 (by rw [h]; rfl) rfl (lw_case19 hi3 hL o19 hInv hk)
/-- the claim's walk, out of the operations -/
theorem whole_of {Inv : Launch → hs_P} (h0 : ∀ l mi ml mr, (∀ k j, k < hs_nc → j < hs_sz k → mi k j = 0 ∧ ml k j = 0 ∧ mr k j = hs_ref k j) → Inv l mi ml mr) (ops : ∀ l, law_ops l (Inv l)) {p : Program} {e : Env} {s : State} {m : MethodId} {below : List Frame} {meth : Method} {c : Code} (l : Launch) {b L : Nat} {xs : Nat → Int32} (hL : L ≤ 1536) (C0 : lw_At p s m meth c b L xs) : W p l e room_1 s m #[Value.ref b] below meth c s.heap [] 0 0 (lw_Z below #[Value.ref b] s) (entryFrame m ([Value.ref b] : List Value).toArray 4) := by
  obtain ⟨D, dA, hE⟩ := lw_env C0
  obtain ⟨hX, mi, ml, mr, hXl, hcX, hcM, hz⟩ := hs_ctor l
  have key : lw_T l b L xs 0 [(0, .retAddr 0)] [] [] (599857 + 26 + 1 + 115 + 1) (7280459 + 11446 + am_n 10 + 10293 + am_n 0) := by
    refine lw_new (kc := 599857 + 26 + 1 + 115) (ks := 7280459 + 11446 + am_n 10 + 10293) rfl ?_
    refine lw_dup rfl rfl ?_
    refine lw_calli (d := 8) (a := 0) (kc := 599857 + 26 + 1) (ks := 7280459 + 11446 + am_n 10) (kc1 := 115) (ks1 := 10293) rfl (by decide) rfl rfl rfl (by decide) (by decide) hcX (fun r h q => q.1) (fun r h q => ?_)
    obtain ⟨rfl, rfl⟩ := q
    refine lw_astore (lv' := [(1, .ref 0), (0, .retAddr 0)]) rfl rfl ?_
    refine lw_new (kc := 599857 + 26) (ks := 7280459 + 11446) rfl ?_
    rw [hXl]
    refine lw_dup rfl rfl ?_
    refine lw_calli (d := 8) (a := 116) (kc := 599857) (ks := 7280459) (kc1 := 26) (ks1 := 11446) rfl (by decide) rfl rfl rfl (by decide) (by decide) hcM (fun r h q => q.1) (fun r h q => ?_)
    obtain ⟨rfl, rfl⟩ := q
    refine lw_astore (lv' := [(2, .ref 116), (1, .ref 0), (0, .retAddr 0)]) rfl rfl ?_
    refine lw_iconst (v := nI 0) rfl (by decide) ?_
    refine lw_istore (lv' := lw_lv 0) rfl rfl ?_
    exact lw_loop hL (ops l) (L + 3) 0 mi ml mr (by omega) (by omega) (h0 l mi ml mr hz)
  rw [lg_entry_eq]
  have hl := lv_entry ([Value.ref b]) (n := 4) (Nat.le_of_ble_eq_true rfl)
  exact key p e s m below meth c D dA s.heap [] 0 0 _ C0 hE ⟨⟨rfl, fun k c hk => by cases hk⟩, fun _ _ => rfl, fun q hq => (by cases hq), by decide, by decide⟩ hl
