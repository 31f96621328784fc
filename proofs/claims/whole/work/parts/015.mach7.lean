/-! the heap behind the constructors: hs_kind is fixed, the contents are functions -/
def up2 {α : Type} (f : Nat → Nat → α) (a j : Nat) (v : α) : Nat → Nat → α := fun k i => if k = a ∧ i = j then v else f k i
theorem up2_row {α : Type} (f : Nat → Nat → α) (a j : Nat) (v : α) : up2 f a j v a = va_up (f a) j v := by
  funext i
  simp [up2, va_up]
theorem up2_off {α : Type} (f : Nat → Nat → α) {a k : Nat} (j : Nat) (v : α) (h : k ≠ a) : up2 f a j v k = f k := by
  funext i
  simp [up2, h]
def hm (mi : Nat → Nat → Int32) (ml : Nat → Nat → Int64) (mr : Nat → Nat → Option Nat) : am_H := (List.range hs_nc).map (fun k => (hs_kind k, mi k, ml k, mr k))
section HM
variable {mi : Nat → Nat → Int32} {ml : Nat → Nat → Int64} {mr : Nat → Nat → Option Nat} {a : Nat}
theorem hm_at (h : a < hs_nc) : (hm mi ml mr)[a]? = some (hs_kind a, mi a, ml a, mr a) := by
  rw [hm, List.getElem?_map, List.getElem?_range h]
  rfl
theorem hm_set {mi' : Nat → Nat → Int32} {ml' : Nat → Nat → Int64} {mr' : Nat → Nat → Option Nat} (x : am_C) (hx : x = (hs_kind a, mi' a, ml' a, mr' a)) (h1 : ∀ k, k ≠ a → mi' k = mi k) (h2 : ∀ k, k ≠ a → ml' k = ml k) (h3 : ∀ k, k ≠ a → mr' k = mr k) : (hm mi ml mr).set a x = hm mi' ml' mr' := by
  apply List.ext_getElem?
  intro i
  rw [List.getElem?_set, hm, hm, List.length_map, List.length_range, List.getElem?_map, List.getElem?_map]
  by_cases hi : i < hs_nc
  · rw [List.getElem?_range hi]
    by_cases e : a = i
    · subst e
      rw [if_pos rfl, if_pos hi, hx]
      rfl
    · rw [if_neg e]
      show some (hs_kind i, mi i, ml i, mr i) = some (hs_kind i, mi' i, ml' i, mr' i)
      rw [h1 i (Ne.symm e), h2 i (Ne.symm e), h3 i (Ne.symm e)]
  · rw [List.getElem?_eq_none (by rw [List.length_range]; omega)]
    by_cases e : a = i
    · subst e
      rw [if_pos rfl, if_neg hi]
      rfl
    · rw [if_neg e]
      rfl
end HM
def am_isI (ty : FieldType) : Bool := match ty with
  | .int => true
  | .boolean => true
  | .char => true
  | _ => false
def am_isR (ty : FieldType) : Bool := match ty with
  | .object _ => true
  | .array _ => true
  | _ => false
theorem am_sv_I {ty : FieldType} (h : am_isI ty = true) (c : am_C) (j : Nat) : am_sv ty c j = .int (c.2.1 j) := by
  cases ty <;> first | rfl | cases h
theorem am_sv_R {ty : FieldType} (h : am_isR ty = true) (c : am_C) (j : Nat) : am_sv ty c j = va_rf (c.2.2.2 j) := by
  cases ty <;> first | rfl | cases h
theorem am_wr_I {ty : FieldType} (h : am_isI ty = true) (c : am_C) (j : Nat) (v : Int32) : am_wr ty c j (.int v) = (c.1, va_up c.2.1 j v, c.2.2.1, c.2.2.2) := by
  cases ty <;> first | rfl | cases h
theorem am_wr_R {ty : FieldType} (h : am_isR ty = true) (c : am_C) (j : Nat) (v : Nat) : am_wr ty c j (.ref v) = (c.1, c.2.1, c.2.2.1, va_up c.2.2.2 j (some v)) := by
  cases ty <;> first | rfl | cases h
theorem am_fit_R {ty : FieldType} (h : am_isR ty = true) (v : Nat) : am_fit ty (.ref v) = true := by
  cases ty <;> first | rfl | cases h
theorem am_fit_I {ty : FieldType} (h : ty = .int) (v : Int32) : am_fit ty (.int v) = true := by
  subst h
  rfl
theorem am_fit_Z {ty : FieldType} (h : ty = .boolean) {v : Int32} (hv : v = 0 ∨ v = 1) : am_fit ty (.int v) = true := by
  subst h
  rcases hv with rfl | rfl <;> rfl
section HO
variable {l : Launch} {d : Nat} {M : am_M} {pc : Nat} {ls : List (Option Value)} {st : List Value} {Q : Option Value → am_H → Prop} {z : Nat × Nat × Nat}
variable {mi : Nat → Nat → Int32} {ml : Nat → Nat → Int64} {mr : Nat → Nat → Option Nat} {a : Nat}
theorem ho_getI {idx ci j pos : Nat} (hf : am_fetch M pc = some (.getfield idx, 3, ci, j, pos)) (ha : hs_kind a = (false, ci, 0)) (ht : am_isI (am_ft ci j) = true) (k : am_T l d M (pc + 3) ls (.int (mi a j) :: st) (hm mi ml mr) 0 0 Q) : am_T l d M pc ls (.ref a :: st) (hm mi ml mr) 0 0 Q :=
  am_get hf (hm_at (hs_lt1 ha)) ha (am_sv_I ht _ _) k
theorem ho_getL {idx ci j pos : Nat} (hf : am_fetch M pc = some (.getfield idx, 3, ci, j, pos)) (ha : hs_kind a = (false, ci, 0)) (ht : am_ft ci j = .long) (k : am_T l d M (pc + 3) ls (.long (ml a j) :: st) (hm mi ml mr) 0 0 Q) : am_T l d M pc ls (.ref a :: st) (hm mi ml mr) 0 0 Q :=
  am_get hf (hm_at (hs_lt1 ha)) ha (by rw [ht]; rfl) k
theorem ho_getR {idx ci j pos b : Nat} (hf : am_fetch M pc = some (.getfield idx, 3, ci, j, pos)) (ha : hs_kind a = (false, ci, 0)) (ht : am_isR (am_ft ci j) = true) (hr : mr a j = some b) (k : am_T l d M (pc + 3) ls (.ref b :: st) (hm mi ml mr) 0 0 Q) : am_T l d M pc ls (.ref a :: st) (hm mi ml mr) 0 0 Q :=
  am_get hf (hm_at (hs_lt1 ha)) ha ((am_sv_R ht _ _).trans (congrArg va_rf hr)) k
theorem ho_putI {idx ci j pos : Nat} {v : Int32} (hf : am_fetch M pc = some (.putfield idx, 3, ci, j, pos)) (ha : hs_kind a = (false, ci, 0)) (ht : am_isI (am_ft ci j) = true) (hv : am_fit (am_ft ci j) (.int v) = true) (k : am_T l d M (pc + 3) ls st (hm (up2 mi a j v) ml mr) 0 0 Q) : am_T l d M pc ls (.int v :: .ref a :: st) (hm mi ml mr) 0 0 Q := by
  refine am_put hf (hm_at (hs_lt1 ha)) ha hv ?_
  rw [am_wr_I ht, hm_set (mi' := up2 mi a j v) (ml' := ml) (mr' := mr) _ (by rw [up2_row]) (fun k hk => up2_off mi j v hk) (fun _ _ => rfl) (fun _ _ => rfl)]
  exact k
theorem ho_putL {idx ci j pos : Nat} {v : Int64} (hf : am_fetch M pc = some (.putfield idx, 3, ci, j, pos)) (ha : hs_kind a = (false, ci, 0)) (ht : am_ft ci j = .long) (k : am_T l d M (pc + 3) ls st (hm mi (up2 ml a j v) mr) 0 0 Q) : am_T l d M pc ls (.long v :: .ref a :: st) (hm mi ml mr) 0 0 Q := by
  refine am_put hf (hm_at (hs_lt1 ha)) ha (by rw [ht]; rfl) ?_
  rw [ht]
  rw [hm_set (mi' := mi) (ml' := up2 ml a j v) (mr' := mr) _ (by rw [up2_row]; rfl) (fun _ _ => rfl) (fun k hk => up2_off ml j v hk) (fun _ _ => rfl)]
  exact k
theorem ho_putR {idx ci j pos b : Nat} (hf : am_fetch M pc = some (.putfield idx, 3, ci, j, pos)) (ha : hs_kind a = (false, ci, 0)) (ht : am_isR (am_ft ci j) = true) (k : am_T l d M (pc + 3) ls st (hm mi ml (up2 mr a j (some b))) 0 0 Q) : am_T l d M pc ls (.ref b :: .ref a :: st) (hm mi ml mr) 0 0 Q := by
  refine am_put hf (hm_at (hs_lt1 ha)) ha (am_fit_R ht b) ?_
  rw [am_wr_R ht, hm_set (mi' := mi) (ml' := ml) (mr' := up2 mr a j (some b)) _ (by rw [up2_row]) (fun _ _ => rfl) (fun _ _ => rfl) (fun k hk => up2_off mr j _ hk)]
  exact k
def hs_cvok (i ci n : Nat) : Bool := decide (ci < am_ncl) && (decide ((am_m i).1.1 = ci) && (decide (n = am_na i) && decide (2 ≤ (am_p i).2.2.2)))
theorem hs_cvok_s {i ci n : Nat} (h : hs_cvok i ci n = true) : ∃ (q : vw_C) (kk : Nat), am_cl[ci]? = some q ∧ (am_p i).2.2.2 = kk + 2 ∧ q.1 = (am_y (am_m i)).cls ∧ n = am_na i := by
  simp only [hs_cvok, Bool.and_eq_true, decide_eq_true_eq] at h
  refine ⟨_, (am_p i).2.2.2 - 2, am_cl_in h.1, by omega, ?_, h.2.2.1⟩
  show am_cn ci = am_cn (am_m i).1.1
  rw [h.2.1]
def hs_csok (i n : Nat) : Bool := decide (n = am_na i) && decide ((am_p i).2.2.2 = 0)
theorem hs_csok_s {i n : Nat} (h : hs_csok i n = true) : (am_p i).2.2.2 = 0 ∧ n = am_na i := by
  simp only [hs_csok, Bool.and_eq_true, decide_eq_true_eq] at h
  exact ⟨h.2, h.1⟩
theorem ho_cl {i : Nat} {n : Nat} (hi : i < n) (hn : n < 2 ^ 31) : vp_in (nI i) n := vp_in_nI hi hn
theorem ho_iaload {i n : Nat} (hf : am_fetch M pc = some (.iaload, 1, z)) (ha : hs_kind a = (true, 0, n)) (hi : i < n) (k : am_T l d M (pc + 1) ls (.int (mi a i) :: st) (hm mi ml mr) 0 0 Q) : am_T l d M pc ls (.int (nI i) :: .ref a :: st) (hm mi ml mr) 0 0 Q := by
  have hn := hs_small ha
  refine am_iaload hf (hm_at (hs_lt2 ha (by decide))) ha ⟨by decide, rfl⟩ (vp_in_nI hi (by omega)) ?_
  rw [nI_clamp (by omega)]
  exact k
theorem ho_iastore {i n : Nat} {v : Int32} (hf : am_fetch M pc = some (.iastore, 1, z)) (ha : hs_kind a = (true, 0, n)) (hi : i < n) (k : am_T l d M (pc + 1) ls st (hm (up2 mi a i v) ml mr) 0 0 Q) : am_T l d M pc ls (.int v :: .int (nI i) :: .ref a :: st) (hm mi ml mr) 0 0 Q := by
  have hn := hs_small ha
  refine am_iastore hf (hm_at (hs_lt2 ha (by decide))) ha ⟨by decide, rfl⟩ (vp_in_nI hi (by omega)) ?_
  rw [nI_clamp (by omega), hm_set (mi' := up2 mi a i v) (ml' := ml) (mr' := mr) _ (by rw [up2_row]) (fun k hk => up2_off mi i v hk) (fun _ _ => rfl) (fun _ _ => rfl)]
  exact k
theorem ho_caload {i n : Nat} (hf : am_fetch M pc = some (.caload, 1, z)) (ha : hs_kind a = (true, 2, n)) (hi : i < n) (k : am_T l d M (pc + 1) ls (.int (mi a i) :: st) (hm mi ml mr) 0 0 Q) : am_T l d M pc ls (.int (nI i) :: .ref a :: st) (hm mi ml mr) 0 0 Q := by
  have hn := hs_small ha
  refine am_caload hf (hm_at (hs_lt2 ha (by decide))) ha ⟨by decide, rfl⟩ (vp_in_nI hi (by omega)) ?_
  rw [nI_clamp (by omega)]
  exact k
theorem ho_castore {i n : Nat} {v : Int32} (hf : am_fetch M pc = some (.castore, 1, z)) (ha : hs_kind a = (true, 2, n)) (hi : i < n) (hv : vp_nar .char v = v) (k : am_T l d M (pc + 1) ls st (hm (up2 mi a i v) ml mr) 0 0 Q) : am_T l d M pc ls (.int v :: .int (nI i) :: .ref a :: st) (hm mi ml mr) 0 0 Q := by
  have hn := hs_small ha
  refine am_castore hf (hm_at (hs_lt2 ha (by decide))) ha ⟨by decide, rfl⟩ (vp_in_nI hi (by omega)) ?_
  rw [nI_clamp (by omega), hv, hm_set (mi' := up2 mi a i v) (ml' := ml) (mr' := mr) _ (by rw [up2_row]) (fun k hk => up2_off mi i v hk) (fun _ _ => rfl) (fun _ _ => rfl)]
  exact k
theorem ho_baload {i n : Nat} (hf : am_fetch M pc = some (.baload, 1, z)) (ha : hs_kind a = (true, 3, n)) (hi : i < n) (k : am_T l d M (pc + 1) ls (.int (mi a i) :: st) (hm mi ml mr) 0 0 Q) : am_T l d M pc ls (.int (nI i) :: .ref a :: st) (hm mi ml mr) 0 0 Q := by
  have hn := hs_small ha
  refine am_baload hf (hm_at (hs_lt2 ha (by decide))) ha ⟨by decide, rfl⟩ (vp_in_nI hi (by omega)) ?_
  rw [nI_clamp (by omega)]
  exact k
theorem ho_bastore {i n : Nat} {v : Int32} (hf : am_fetch M pc = some (.bastore, 1, z)) (ha : hs_kind a = (true, 3, n)) (hi : i < n) (hv : vp_nar .boolean v = v) (k : am_T l d M (pc + 1) ls st (hm (up2 mi a i v) ml mr) 0 0 Q) : am_T l d M pc ls (.int v :: .int (nI i) :: .ref a :: st) (hm mi ml mr) 0 0 Q := by
  have hn := hs_small ha
  refine am_bastore hf (hm_at (hs_lt2 ha (by decide))) ha ⟨by decide, rfl⟩ (vp_in_nI hi (by omega)) ?_
  rw [nI_clamp (by omega), hv, hm_set (mi' := up2 mi a i v) (ml' := ml) (mr' := mr) _ (by rw [up2_row]) (fun k hk => up2_off mi i v hk) (fun _ _ => rfl) (fun _ _ => rfl)]
  exact k
theorem ho_laload {i n : Nat} (hf : am_fetch M pc = some (.laload, 1, z)) (ha : hs_kind a = (true, 1, n)) (hi : i < n) (k : am_T l d M (pc + 1) ls (.long (ml a i) :: st) (hm mi ml mr) 0 0 Q) : am_T l d M pc ls (.int (nI i) :: .ref a :: st) (hm mi ml mr) 0 0 Q := by
  have hn := hs_small ha
  refine am_laload hf (hm_at (hs_lt2 ha (by decide))) ha ⟨by decide, rfl⟩ (vp_in_nI hi (by omega)) ?_
  rw [nI_clamp (by omega)]
  exact k
theorem ho_lastore {i n : Nat} {v : Int64} (hf : am_fetch M pc = some (.lastore, 1, z)) (ha : hs_kind a = (true, 1, n)) (hi : i < n) (k : am_T l d M (pc + 1) ls st (hm mi (up2 ml a i v) mr) 0 0 Q) : am_T l d M pc ls (.long v :: .int (nI i) :: .ref a :: st) (hm mi ml mr) 0 0 Q := by
  have hn := hs_small ha
  refine am_lastore hf (hm_at (hs_lt2 ha (by decide))) ha ⟨by decide, rfl⟩ (vp_in_nI hi (by omega)) ?_
  rw [nI_clamp (by omega), hm_set (mi' := mi) (ml' := up2 ml a i v) (mr' := mr) _ (by rw [up2_row]) (fun _ _ => rfl) (fun k hk => up2_off ml i v hk) (fun _ _ => rfl)]
  exact k
theorem ho_aaload {i n t b : Nat} {C : String} (hf : am_fetch M pc = some (.aaload, 1, z)) (ha : hs_kind a = (true, t, n)) (ht : t < am_nat ∧ am_at t = .object C) (hi : i < n) (hr : mr a i = some b) (k : am_T l d M (pc + 1) ls (.ref b :: st) (hm mi ml mr) 0 0 Q) : am_T l d M pc ls (.int (nI i) :: .ref a :: st) (hm mi ml mr) 0 0 Q := by
  have hn := hs_small ha
  refine am_aaload hf (hm_at (hs_lt2 ha (Nat.lt_trans ht.1 (by decide)))) ha ht (vp_in_nI hi (by omega)) (r := some b) ?_ k
  rw [nI_clamp (by omega)]
  exact hr
theorem ho_aastore {i n t b ci : Nat} {q : vw_C} (hf : am_fetch M pc = some (.aastore, 1, z)) (ha : hs_kind a = (true, t, n)) (hq : am_cl[ci]? = some q) (ht : t < am_nat ∧ am_at t = .object q.1) (hb : hs_kind b = (false, ci, 0)) (hi : i < n) (k : am_T l d M (pc + 1) ls st (hm mi ml (up2 mr a i (some b))) 0 0 Q) : am_T l d M pc ls (.ref b :: .int (nI i) :: .ref a :: st) (hm mi ml mr) 0 0 Q := by
  have hn := hs_small ha
  refine am_aastore hf (hm_at (hs_lt2 ha (Nat.lt_trans ht.1 (by decide)))) ha hq ht (hm_at (hs_lt1 hb)) hb (vp_in_nI hi (by omega)) ?_
  rw [nI_clamp (by omega), hm_set (mi' := mi) (ml' := ml) (mr' := up2 mr a i (some b)) _ (by rw [up2_row]) (fun _ _ => rfl) (fun _ _ => rfl) (fun k hk => up2_off mr i _ hk)]
  exact k
theorem ho_alen {n t : Nat} (hf : am_fetch M pc = some (.arraylength, 1, z)) (ha : hs_kind a = (true, t, n)) (ht : t < am_nat) (k : am_T l d M (pc + 1) ls (.int (nI n) :: st) (hm mi ml mr) 0 0 Q) : am_T l d M pc ls (.ref a :: st) (hm mi ml mr) 0 0 Q :=
  am_alen hf (hm_at (hs_lt2 ha (Nat.lt_trans ht (by decide)))) ha ht rfl k
theorem ho_cv0 {i idx pos ci : Nat} {Q2 : Option Value → am_H → Prop} (hf : am_fetch M pc = some (.invokevirtual idx, 3, i, pos, 0)) (ha : hs_kind a = (false, ci, 0)) (hp : hs_cvok i ci 0 = true) (hl : (am_sl (.ref a :: [])).length ≤ (am_m i).2.2.1) (hs : (st.map fun v => v.category).sum ≤ 8) (hT : am_T l d (am_m i) 0 (am_entry (am_m i).2.2.1 (.ref a :: [])) [] (hm mi ml mr) 0 0 Q2) (hk : ∀ r h', Q2 r h' → am_T l (d + 1) M (pc + 3) ls (r.toList ++ st) h' 0 0 Q) : am_T l (d + 1) M pc ls (.ref a :: st) (hm mi ml mr) 0 0 Q := by
  obtain ⟨q, kk, h1, h2, h3, h4⟩ := hs_cvok_s hp
  exact am_callv (b := 0) (kk := kk) (As := []) (kc := 0) (ks := 0) (kc1 := 0) (ks1 := 0) hf h2 (hm_at (hs_lt1 ha)) ha h1 h3 h4 hl hs hT hk
theorem ho_cs0 {i idx pos : Nat} {h : am_H} {Q2 : Option Value → am_H → Prop} (hf : am_fetch M pc = some (.invokestatic idx, 3, i, pos, 0)) (hp : hs_csok i 0 = true) (hl : (am_sl []).length ≤ (am_m i).2.2.1) (hs : (st.map fun v => v.category).sum ≤ 8) (hT : am_T l d (am_m i) 0 (am_entry (am_m i).2.2.1 []) [] h 0 0 Q2) (hk : ∀ r h', Q2 r h' → am_T l (d + 1) M (pc + 3) ls (r.toList ++ st) h' 0 0 Q) : am_T l (d + 1) M pc ls (st) h 0 0 Q := by
  obtain ⟨h2, h4⟩ := hs_csok_s hp
  exact am_calls (As := []) (kc := 0) (ks := 0) (kc1 := 0) (ks1 := 0) hf h2 h4 hl hs hT hk
theorem ho_cn0 {i idx pos : Nat} {h : am_H} {Q2 : Option Value → am_H → Prop} (hf : am_fetch M pc = some (.invokestatic idx, 3, i, pos, 1)) (hp : hs_csok i 0 = true) (hl : (am_sl []).length ≤ (am_m i).2.2.1) (hs : (st.map fun v => v.category).sum ≤ 8) (hT : am_T l d (am_m i) 0 (am_entry (am_m i).2.2.1 []) [] h 0 0 Q2) (hk : ∀ r h', Q2 r h' → am_T l (d + 1) M (pc + 3) ls (r.toList ++ st) h' 0 0 Q) : am_T l (d + 1) M pc ls (st) h 0 0 Q := by
  obtain ⟨h2, h4⟩ := hs_csok_s hp
  exact am_calln (As := []) (kc := 0) (ks := 0) (kc1 := 0) (ks1 := 0) hf h2 h4 hl hs hT hk
theorem ho_cv1 {i idx pos ci : Nat} {v0 : Value} {Q2 : Option Value → am_H → Prop} (hf : am_fetch M pc = some (.invokevirtual idx, 3, i, pos, 0)) (ha : hs_kind a = (false, ci, 0)) (hp : hs_cvok i ci 1 = true) (hl : (am_sl (.ref a :: [v0])).length ≤ (am_m i).2.2.1) (hs : (st.map fun v => v.category).sum ≤ 8) (hT : am_T l d (am_m i) 0 (am_entry (am_m i).2.2.1 (.ref a :: [v0])) [] (hm mi ml mr) 0 0 Q2) (hk : ∀ r h', Q2 r h' → am_T l (d + 1) M (pc + 3) ls (r.toList ++ st) h' 0 0 Q) : am_T l (d + 1) M pc ls (v0 :: .ref a :: st) (hm mi ml mr) 0 0 Q := by
  obtain ⟨q, kk, h1, h2, h3, h4⟩ := hs_cvok_s hp
  exact am_callv (b := 0) (kk := kk) (As := [v0]) (kc := 0) (ks := 0) (kc1 := 0) (ks1 := 0) hf h2 (hm_at (hs_lt1 ha)) ha h1 h3 h4 hl hs hT hk
theorem ho_cs1 {i idx pos : Nat} {v0 : Value} {h : am_H} {Q2 : Option Value → am_H → Prop} (hf : am_fetch M pc = some (.invokestatic idx, 3, i, pos, 0)) (hp : hs_csok i 1 = true) (hl : (am_sl [v0]).length ≤ (am_m i).2.2.1) (hs : (st.map fun v => v.category).sum ≤ 8) (hT : am_T l d (am_m i) 0 (am_entry (am_m i).2.2.1 [v0]) [] h 0 0 Q2) (hk : ∀ r h', Q2 r h' → am_T l (d + 1) M (pc + 3) ls (r.toList ++ st) h' 0 0 Q) : am_T l (d + 1) M pc ls (v0 :: st) h 0 0 Q := by
  obtain ⟨h2, h4⟩ := hs_csok_s hp
  exact am_calls (As := [v0]) (kc := 0) (ks := 0) (kc1 := 0) (ks1 := 0) hf h2 h4 hl hs hT hk
theorem ho_cn1 {i idx pos : Nat} {v0 : Value} {h : am_H} {Q2 : Option Value → am_H → Prop} (hf : am_fetch M pc = some (.invokestatic idx, 3, i, pos, 1)) (hp : hs_csok i 1 = true) (hl : (am_sl [v0]).length ≤ (am_m i).2.2.1) (hs : (st.map fun v => v.category).sum ≤ 8) (hT : am_T l d (am_m i) 0 (am_entry (am_m i).2.2.1 [v0]) [] h 0 0 Q2) (hk : ∀ r h', Q2 r h' → am_T l (d + 1) M (pc + 3) ls (r.toList ++ st) h' 0 0 Q) : am_T l (d + 1) M pc ls (v0 :: st) h 0 0 Q := by
  obtain ⟨h2, h4⟩ := hs_csok_s hp
  exact am_calln (As := [v0]) (kc := 0) (ks := 0) (kc1 := 0) (ks1 := 0) hf h2 h4 hl hs hT hk
theorem ho_cv2 {i idx pos ci : Nat} {v0 v1 : Value} {Q2 : Option Value → am_H → Prop} (hf : am_fetch M pc = some (.invokevirtual idx, 3, i, pos, 0)) (ha : hs_kind a = (false, ci, 0)) (hp : hs_cvok i ci 2 = true) (hl : (am_sl (.ref a :: [v0, v1])).length ≤ (am_m i).2.2.1) (hs : (st.map fun v => v.category).sum ≤ 8) (hT : am_T l d (am_m i) 0 (am_entry (am_m i).2.2.1 (.ref a :: [v0, v1])) [] (hm mi ml mr) 0 0 Q2) (hk : ∀ r h', Q2 r h' → am_T l (d + 1) M (pc + 3) ls (r.toList ++ st) h' 0 0 Q) : am_T l (d + 1) M pc ls (v1 :: v0 :: .ref a :: st) (hm mi ml mr) 0 0 Q := by
  obtain ⟨q, kk, h1, h2, h3, h4⟩ := hs_cvok_s hp
  exact am_callv (b := 0) (kk := kk) (As := [v0, v1]) (kc := 0) (ks := 0) (kc1 := 0) (ks1 := 0) hf h2 (hm_at (hs_lt1 ha)) ha h1 h3 h4 hl hs hT hk
theorem ho_cs2 {i idx pos : Nat} {v0 v1 : Value} {h : am_H} {Q2 : Option Value → am_H → Prop} (hf : am_fetch M pc = some (.invokestatic idx, 3, i, pos, 0)) (hp : hs_csok i 2 = true) (hl : (am_sl [v0, v1]).length ≤ (am_m i).2.2.1) (hs : (st.map fun v => v.category).sum ≤ 8) (hT : am_T l d (am_m i) 0 (am_entry (am_m i).2.2.1 [v0, v1]) [] h 0 0 Q2) (hk : ∀ r h', Q2 r h' → am_T l (d + 1) M (pc + 3) ls (r.toList ++ st) h' 0 0 Q) : am_T l (d + 1) M pc ls (v1 :: v0 :: st) h 0 0 Q := by
  obtain ⟨h2, h4⟩ := hs_csok_s hp
  exact am_calls (As := [v0, v1]) (kc := 0) (ks := 0) (kc1 := 0) (ks1 := 0) hf h2 h4 hl hs hT hk
theorem ho_cn2 {i idx pos : Nat} {v0 v1 : Value} {h : am_H} {Q2 : Option Value → am_H → Prop} (hf : am_fetch M pc = some (.invokestatic idx, 3, i, pos, 1)) (hp : hs_csok i 2 = true) (hl : (am_sl [v0, v1]).length ≤ (am_m i).2.2.1) (hs : (st.map fun v => v.category).sum ≤ 8) (hT : am_T l d (am_m i) 0 (am_entry (am_m i).2.2.1 [v0, v1]) [] h 0 0 Q2) (hk : ∀ r h', Q2 r h' → am_T l (d + 1) M (pc + 3) ls (r.toList ++ st) h' 0 0 Q) : am_T l (d + 1) M pc ls (v1 :: v0 :: st) h 0 0 Q := by
  obtain ⟨h2, h4⟩ := hs_csok_s hp
  exact am_calln (As := [v0, v1]) (kc := 0) (ks := 0) (kc1 := 0) (ks1 := 0) hf h2 h4 hl hs hT hk
theorem ho_cv3 {i idx pos ci : Nat} {v0 v1 v2 : Value} {Q2 : Option Value → am_H → Prop} (hf : am_fetch M pc = some (.invokevirtual idx, 3, i, pos, 0)) (ha : hs_kind a = (false, ci, 0)) (hp : hs_cvok i ci 3 = true) (hl : (am_sl (.ref a :: [v0, v1, v2])).length ≤ (am_m i).2.2.1) (hs : (st.map fun v => v.category).sum ≤ 8) (hT : am_T l d (am_m i) 0 (am_entry (am_m i).2.2.1 (.ref a :: [v0, v1, v2])) [] (hm mi ml mr) 0 0 Q2) (hk : ∀ r h', Q2 r h' → am_T l (d + 1) M (pc + 3) ls (r.toList ++ st) h' 0 0 Q) : am_T l (d + 1) M pc ls (v2 :: v1 :: v0 :: .ref a :: st) (hm mi ml mr) 0 0 Q := by
  obtain ⟨q, kk, h1, h2, h3, h4⟩ := hs_cvok_s hp
  exact am_callv (b := 0) (kk := kk) (As := [v0, v1, v2]) (kc := 0) (ks := 0) (kc1 := 0) (ks1 := 0) hf h2 (hm_at (hs_lt1 ha)) ha h1 h3 h4 hl hs hT hk
theorem ho_cs3 {i idx pos : Nat} {v0 v1 v2 : Value} {h : am_H} {Q2 : Option Value → am_H → Prop} (hf : am_fetch M pc = some (.invokestatic idx, 3, i, pos, 0)) (hp : hs_csok i 3 = true) (hl : (am_sl [v0, v1, v2]).length ≤ (am_m i).2.2.1) (hs : (st.map fun v => v.category).sum ≤ 8) (hT : am_T l d (am_m i) 0 (am_entry (am_m i).2.2.1 [v0, v1, v2]) [] h 0 0 Q2) (hk : ∀ r h', Q2 r h' → am_T l (d + 1) M (pc + 3) ls (r.toList ++ st) h' 0 0 Q) : am_T l (d + 1) M pc ls (v2 :: v1 :: v0 :: st) h 0 0 Q := by
  obtain ⟨h2, h4⟩ := hs_csok_s hp
  exact am_calls (As := [v0, v1, v2]) (kc := 0) (ks := 0) (kc1 := 0) (ks1 := 0) hf h2 h4 hl hs hT hk
theorem ho_cn3 {i idx pos : Nat} {v0 v1 v2 : Value} {h : am_H} {Q2 : Option Value → am_H → Prop} (hf : am_fetch M pc = some (.invokestatic idx, 3, i, pos, 1)) (hp : hs_csok i 3 = true) (hl : (am_sl [v0, v1, v2]).length ≤ (am_m i).2.2.1) (hs : (st.map fun v => v.category).sum ≤ 8) (hT : am_T l d (am_m i) 0 (am_entry (am_m i).2.2.1 [v0, v1, v2]) [] h 0 0 Q2) (hk : ∀ r h', Q2 r h' → am_T l (d + 1) M (pc + 3) ls (r.toList ++ st) h' 0 0 Q) : am_T l (d + 1) M pc ls (v2 :: v1 :: v0 :: st) h 0 0 Q := by
  obtain ⟨h2, h4⟩ := hs_csok_s hp
  exact am_calln (As := [v0, v1, v2]) (kc := 0) (ks := 0) (kc1 := 0) (ks1 := 0) hf h2 h4 hl hs hT hk
theorem ho_cv4 {i idx pos ci : Nat} {v0 v1 v2 v3 : Value} {Q2 : Option Value → am_H → Prop} (hf : am_fetch M pc = some (.invokevirtual idx, 3, i, pos, 0)) (ha : hs_kind a = (false, ci, 0)) (hp : hs_cvok i ci 4 = true) (hl : (am_sl (.ref a :: [v0, v1, v2, v3])).length ≤ (am_m i).2.2.1) (hs : (st.map fun v => v.category).sum ≤ 8) (hT : am_T l d (am_m i) 0 (am_entry (am_m i).2.2.1 (.ref a :: [v0, v1, v2, v3])) [] (hm mi ml mr) 0 0 Q2) (hk : ∀ r h', Q2 r h' → am_T l (d + 1) M (pc + 3) ls (r.toList ++ st) h' 0 0 Q) : am_T l (d + 1) M pc ls (v3 :: v2 :: v1 :: v0 :: .ref a :: st) (hm mi ml mr) 0 0 Q := by
  obtain ⟨q, kk, h1, h2, h3, h4⟩ := hs_cvok_s hp
  exact am_callv (b := 0) (kk := kk) (As := [v0, v1, v2, v3]) (kc := 0) (ks := 0) (kc1 := 0) (ks1 := 0) hf h2 (hm_at (hs_lt1 ha)) ha h1 h3 h4 hl hs hT hk
theorem ho_cs4 {i idx pos : Nat} {v0 v1 v2 v3 : Value} {h : am_H} {Q2 : Option Value → am_H → Prop} (hf : am_fetch M pc = some (.invokestatic idx, 3, i, pos, 0)) (hp : hs_csok i 4 = true) (hl : (am_sl [v0, v1, v2, v3]).length ≤ (am_m i).2.2.1) (hs : (st.map fun v => v.category).sum ≤ 8) (hT : am_T l d (am_m i) 0 (am_entry (am_m i).2.2.1 [v0, v1, v2, v3]) [] h 0 0 Q2) (hk : ∀ r h', Q2 r h' → am_T l (d + 1) M (pc + 3) ls (r.toList ++ st) h' 0 0 Q) : am_T l (d + 1) M pc ls (v3 :: v2 :: v1 :: v0 :: st) h 0 0 Q := by
  obtain ⟨h2, h4⟩ := hs_csok_s hp
  exact am_calls (As := [v0, v1, v2, v3]) (kc := 0) (ks := 0) (kc1 := 0) (ks1 := 0) hf h2 h4 hl hs hT hk
theorem ho_cn4 {i idx pos : Nat} {v0 v1 v2 v3 : Value} {h : am_H} {Q2 : Option Value → am_H → Prop} (hf : am_fetch M pc = some (.invokestatic idx, 3, i, pos, 1)) (hp : hs_csok i 4 = true) (hl : (am_sl [v0, v1, v2, v3]).length ≤ (am_m i).2.2.1) (hs : (st.map fun v => v.category).sum ≤ 8) (hT : am_T l d (am_m i) 0 (am_entry (am_m i).2.2.1 [v0, v1, v2, v3]) [] h 0 0 Q2) (hk : ∀ r h', Q2 r h' → am_T l (d + 1) M (pc + 3) ls (r.toList ++ st) h' 0 0 Q) : am_T l (d + 1) M pc ls (v3 :: v2 :: v1 :: v0 :: st) h 0 0 Q := by
  obtain ⟨h2, h4⟩ := hs_csok_s hp
  exact am_calln (As := [v0, v1, v2, v3]) (kc := 0) (ks := 0) (kc1 := 0) (ks1 := 0) hf h2 h4 hl hs hT hk
theorem ho_cv5 {i idx pos ci : Nat} {v0 v1 v2 v3 v4 : Value} {Q2 : Option Value → am_H → Prop} (hf : am_fetch M pc = some (.invokevirtual idx, 3, i, pos, 0)) (ha : hs_kind a = (false, ci, 0)) (hp : hs_cvok i ci 5 = true) (hl : (am_sl (.ref a :: [v0, v1, v2, v3, v4])).length ≤ (am_m i).2.2.1) (hs : (st.map fun v => v.category).sum ≤ 8) (hT : am_T l d (am_m i) 0 (am_entry (am_m i).2.2.1 (.ref a :: [v0, v1, v2, v3, v4])) [] (hm mi ml mr) 0 0 Q2) (hk : ∀ r h', Q2 r h' → am_T l (d + 1) M (pc + 3) ls (r.toList ++ st) h' 0 0 Q) : am_T l (d + 1) M pc ls (v4 :: v3 :: v2 :: v1 :: v0 :: .ref a :: st) (hm mi ml mr) 0 0 Q := by
  obtain ⟨q, kk, h1, h2, h3, h4⟩ := hs_cvok_s hp
  exact am_callv (b := 0) (kk := kk) (As := [v0, v1, v2, v3, v4]) (kc := 0) (ks := 0) (kc1 := 0) (ks1 := 0) hf h2 (hm_at (hs_lt1 ha)) ha h1 h3 h4 hl hs hT hk
theorem ho_cs5 {i idx pos : Nat} {v0 v1 v2 v3 v4 : Value} {h : am_H} {Q2 : Option Value → am_H → Prop} (hf : am_fetch M pc = some (.invokestatic idx, 3, i, pos, 0)) (hp : hs_csok i 5 = true) (hl : (am_sl [v0, v1, v2, v3, v4]).length ≤ (am_m i).2.2.1) (hs : (st.map fun v => v.category).sum ≤ 8) (hT : am_T l d (am_m i) 0 (am_entry (am_m i).2.2.1 [v0, v1, v2, v3, v4]) [] h 0 0 Q2) (hk : ∀ r h', Q2 r h' → am_T l (d + 1) M (pc + 3) ls (r.toList ++ st) h' 0 0 Q) : am_T l (d + 1) M pc ls (v4 :: v3 :: v2 :: v1 :: v0 :: st) h 0 0 Q := by
  obtain ⟨h2, h4⟩ := hs_csok_s hp
  exact am_calls (As := [v0, v1, v2, v3, v4]) (kc := 0) (ks := 0) (kc1 := 0) (ks1 := 0) hf h2 h4 hl hs hT hk
theorem ho_cn5 {i idx pos : Nat} {v0 v1 v2 v3 v4 : Value} {h : am_H} {Q2 : Option Value → am_H → Prop} (hf : am_fetch M pc = some (.invokestatic idx, 3, i, pos, 1)) (hp : hs_csok i 5 = true) (hl : (am_sl [v0, v1, v2, v3, v4]).length ≤ (am_m i).2.2.1) (hs : (st.map fun v => v.category).sum ≤ 8) (hT : am_T l d (am_m i) 0 (am_entry (am_m i).2.2.1 [v0, v1, v2, v3, v4]) [] h 0 0 Q2) (hk : ∀ r h', Q2 r h' → am_T l (d + 1) M (pc + 3) ls (r.toList ++ st) h' 0 0 Q) : am_T l (d + 1) M pc ls (v4 :: v3 :: v2 :: v1 :: v0 :: st) h 0 0 Q := by
  obtain ⟨h2, h4⟩ := hs_csok_s hp
  exact am_calln (As := [v0, v1, v2, v3, v4]) (kc := 0) (ks := 0) (kc1 := 0) (ks1 := 0) hf h2 h4 hl hs hT hk
theorem ho_cv6 {i idx pos ci : Nat} {v0 v1 v2 v3 v4 v5 : Value} {Q2 : Option Value → am_H → Prop} (hf : am_fetch M pc = some (.invokevirtual idx, 3, i, pos, 0)) (ha : hs_kind a = (false, ci, 0)) (hp : hs_cvok i ci 6 = true) (hl : (am_sl (.ref a :: [v0, v1, v2, v3, v4, v5])).length ≤ (am_m i).2.2.1) (hs : (st.map fun v => v.category).sum ≤ 8) (hT : am_T l d (am_m i) 0 (am_entry (am_m i).2.2.1 (.ref a :: [v0, v1, v2, v3, v4, v5])) [] (hm mi ml mr) 0 0 Q2) (hk : ∀ r h', Q2 r h' → am_T l (d + 1) M (pc + 3) ls (r.toList ++ st) h' 0 0 Q) : am_T l (d + 1) M pc ls (v5 :: v4 :: v3 :: v2 :: v1 :: v0 :: .ref a :: st) (hm mi ml mr) 0 0 Q := by
  obtain ⟨q, kk, h1, h2, h3, h4⟩ := hs_cvok_s hp
  exact am_callv (b := 0) (kk := kk) (As := [v0, v1, v2, v3, v4, v5]) (kc := 0) (ks := 0) (kc1 := 0) (ks1 := 0) hf h2 (hm_at (hs_lt1 ha)) ha h1 h3 h4 hl hs hT hk
theorem ho_cs6 {i idx pos : Nat} {v0 v1 v2 v3 v4 v5 : Value} {h : am_H} {Q2 : Option Value → am_H → Prop} (hf : am_fetch M pc = some (.invokestatic idx, 3, i, pos, 0)) (hp : hs_csok i 6 = true) (hl : (am_sl [v0, v1, v2, v3, v4, v5]).length ≤ (am_m i).2.2.1) (hs : (st.map fun v => v.category).sum ≤ 8) (hT : am_T l d (am_m i) 0 (am_entry (am_m i).2.2.1 [v0, v1, v2, v3, v4, v5]) [] h 0 0 Q2) (hk : ∀ r h', Q2 r h' → am_T l (d + 1) M (pc + 3) ls (r.toList ++ st) h' 0 0 Q) : am_T l (d + 1) M pc ls (v5 :: v4 :: v3 :: v2 :: v1 :: v0 :: st) h 0 0 Q := by
  obtain ⟨h2, h4⟩ := hs_csok_s hp
  exact am_calls (As := [v0, v1, v2, v3, v4, v5]) (kc := 0) (ks := 0) (kc1 := 0) (ks1 := 0) hf h2 h4 hl hs hT hk
theorem ho_cn6 {i idx pos : Nat} {v0 v1 v2 v3 v4 v5 : Value} {h : am_H} {Q2 : Option Value → am_H → Prop} (hf : am_fetch M pc = some (.invokestatic idx, 3, i, pos, 1)) (hp : hs_csok i 6 = true) (hl : (am_sl [v0, v1, v2, v3, v4, v5]).length ≤ (am_m i).2.2.1) (hs : (st.map fun v => v.category).sum ≤ 8) (hT : am_T l d (am_m i) 0 (am_entry (am_m i).2.2.1 [v0, v1, v2, v3, v4, v5]) [] h 0 0 Q2) (hk : ∀ r h', Q2 r h' → am_T l (d + 1) M (pc + 3) ls (r.toList ++ st) h' 0 0 Q) : am_T l (d + 1) M pc ls (v5 :: v4 :: v3 :: v2 :: v1 :: v0 :: st) h 0 0 Q := by
  obtain ⟨h2, h4⟩ := hs_csok_s hp
  exact am_calln (As := [v0, v1, v2, v3, v4, v5]) (kc := 0) (ks := 0) (kc1 := 0) (ks1 := 0) hf h2 h4 hl hs hT hk
/-! numbers that are not negative -/
theorem ho_addn {x y : Nat} {h : am_H} (hf : am_fetch M pc = some (.iadd, 1, z)) (k : am_T l d M (pc + 1) ls (.int (nI (x + y)) :: st) h 0 0 Q) : am_T l d M pc ls (.int (nI y) :: .int (nI x) :: st) h 0 0 Q := by
  refine am_iadd hf ?_
  rw [nI_add]
  exact k
theorem ho_muln {x y : Nat} {h : am_H} (hf : am_fetch M pc = some (.imul, 1, z)) (k : am_T l d M (pc + 1) ls (.int (nI (x * y)) :: st) h 0 0 Q) : am_T l d M pc ls (.int (nI y) :: .int (nI x) :: st) h 0 0 Q := by
  refine am_imul hf ?_
  rw [show nI x * nI y = nI (x * y) from (Int32.ofNat_mul x y).symm]
  exact k
theorem nI_subn {x y : Nat} (h : y ≤ x) : nI x - nI y = nI (x - y) := by
  have e : nI x = nI (x - y) + nI y := by rw [nI_add, Nat.sub_add_cancel h]
  rw [e, Int32.add_sub_cancel]
theorem ho_subn {x y : Nat} {h : am_H} (hf : am_fetch M pc = some (.isub, 1, z)) (hxy : y ≤ x) (k : am_T l d M (pc + 1) ls (.int (nI (x - y)) :: st) h 0 0 Q) : am_T l d M pc ls (.int (nI y) :: .int (nI x) :: st) h 0 0 Q := by
  refine am_isub hf ?_
  rw [nI_subn hxy]
  exact k
theorem nI_inc1 (x : Nat) : nI x + Int32.ofInt 1 = nI (x + 1) := nI_1 x
theorem nI_dec1 (x : Nat) : nI (x + 1) + Int32.ofInt (-1) = nI x := by
  rw [show nI (x + 1) = nI x + 1 from nI_succ x, Int32.add_assoc, show (1 : Int32) + Int32.ofInt (-1) = 0 by decide, Int32.add_zero]
theorem nI_inc (x n : Nat) : nI x + Int32.ofInt (n : Int) = nI (x + n) := by
  rw [← nI_add]
  rfl
theorem ho_icmp_eq {off : Int} {t b w x y : Nat} {h : am_H} (hf : am_fetch M pc = some (.if_icmp .eq off, 3, t, b, w)) (hx : x < 2 ^ 31) (hy : y < 2 ^ 31) (kt : x = y → am_T l d M t ls st h 0 0 Q) (kf : ¬ x = y → am_T l d M (pc + 3) ls st h 0 0 Q) : am_T l d M pc ls (.int (nI y) :: .int (nI x) :: st) h 0 0 Q :=
  am_icmp_eq hf (fun q => kt ((nI_eq hx hy).mp q)) (fun q => kf (fun e => q ((nI_eq hx hy).mpr e)))
theorem ho_icmp_ne {off : Int} {t b w x y : Nat} {h : am_H} (hf : am_fetch M pc = some (.if_icmp .ne off, 3, t, b, w)) (hx : x < 2 ^ 31) (hy : y < 2 ^ 31) (kt : ¬ x = y → am_T l d M t ls st h 0 0 Q) (kf : x = y → am_T l d M (pc + 3) ls st h 0 0 Q) : am_T l d M pc ls (.int (nI y) :: .int (nI x) :: st) h 0 0 Q :=
  am_icmp_ne hf (fun q => kt (fun e => q ((nI_eq hx hy).mpr e))) (fun q => kf ((nI_eq hx hy).mp q))
theorem ho_icmp_lt {off : Int} {t b w x y : Nat} {h : am_H} (hf : am_fetch M pc = some (.if_icmp .lt off, 3, t, b, w)) (hx : x < 2 ^ 31) (hy : y < 2 ^ 31) (kt : x < y → am_T l d M t ls st h 0 0 Q) (kf : ¬ x < y → am_T l d M (pc + 3) ls st h 0 0 Q) : am_T l d M pc ls (.int (nI y) :: .int (nI x) :: st) h 0 0 Q :=
  am_icmp_lt hf (fun q => kt ((nI_ltI hx hy).mp q)) (fun q => kf (fun e => q ((nI_ltI hx hy).mpr e)))
theorem ho_icmp_ge {off : Int} {t b w x y : Nat} {h : am_H} (hf : am_fetch M pc = some (.if_icmp .ge off, 3, t, b, w)) (hx : x < 2 ^ 31) (hy : y < 2 ^ 31) (kt : y ≤ x → am_T l d M t ls st h 0 0 Q) (kf : ¬ y ≤ x → am_T l d M (pc + 3) ls st h 0 0 Q) : am_T l d M pc ls (.int (nI y) :: .int (nI x) :: st) h 0 0 Q :=
  am_icmp_ge hf (fun q => kt ((nI_leI hy hx).mp q)) (fun q => kf (fun e => q ((nI_leI hy hx).mpr e)))
theorem ho_icmp_gt {off : Int} {t b w x y : Nat} {h : am_H} (hf : am_fetch M pc = some (.if_icmp .gt off, 3, t, b, w)) (hx : x < 2 ^ 31) (hy : y < 2 ^ 31) (kt : y < x → am_T l d M t ls st h 0 0 Q) (kf : ¬ y < x → am_T l d M (pc + 3) ls st h 0 0 Q) : am_T l d M pc ls (.int (nI y) :: .int (nI x) :: st) h 0 0 Q :=
  am_icmp_gt hf (fun q => kt ((nI_ltI hy hx).mp q)) (fun q => kf (fun e => q ((nI_ltI hy hx).mpr e)))
theorem ho_icmp_le {off : Int} {t b w x y : Nat} {h : am_H} (hf : am_fetch M pc = some (.if_icmp .le off, 3, t, b, w)) (hx : x < 2 ^ 31) (hy : y < 2 ^ 31) (kt : x ≤ y → am_T l d M t ls st h 0 0 Q) (kf : ¬ x ≤ y → am_T l d M (pc + 3) ls st h 0 0 Q) : am_T l d M pc ls (.int (nI y) :: .int (nI x) :: st) h 0 0 Q :=
  am_icmp_le hf (fun q => kt ((nI_leI hx hy).mp q)) (fun q => kf (fun e => q ((nI_leI hx hy).mpr e)))
end HO

