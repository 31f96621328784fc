/-! the ways in which a hedge begins -/
noncomputable def hd (S : Rs) (f : Nat) (x y : Int64) : Int64 := if f = 0 then K0 S else belF S f (tb x) (tb y)
/-- what a function chooses: nothing, as it is not of the input; or some clause or none -/
noncomputable def wch (S : Rs) (F : Fn) (f : Nat) (x y : Int64) : Option (Option Nat) := if inN S (tb (hd S f x y)) F.1 then some (chs S F.2.2 f (tb x) (tb y)) else none
def wcI (o : Option (Option Nat)) : Int32 := match o with
  | none => -1
  | some q => nI (chI2 q)
def wF (cnt i : Nat) : Nat := if i = 0 then 0 else (i - 1) / (cnt * cnt) + 1
def wC (cnt i : Nat) : Nat := if i = 0 then 0 else (i - 1) / cnt % cnt
def wW (cnt i : Nat) : Nat := if i = 0 then 0 else (i - 1) % cnt
theorem div3 {n a c w : Nat} (hc : c < n) (hw : w < n) : ((a * n + c) * n + w) / (n * n) = a ∧ ((a * n + c) * n + w) / n % n = c ∧ ((a * n + c) * n + w) % n = w ∧ ((a * n + c) * n + w) / n / n = a := by
  have hn : 0 < n := by omega
  have h1 : ((a * n + c) * n + w) / n = a * n + c := by
    rw [Nat.mul_comm (a * n + c) n, Nat.mul_add_div hn, Nat.div_eq_of_lt hw, Nat.add_zero]
  have h2 : (a * n + c) / n = a := by
    rw [Nat.mul_comm a n, Nat.mul_add_div hn, Nat.div_eq_of_lt hc, Nat.add_zero]
  refine ⟨?_, ?_, ?_, ?_⟩
  · rw [← Nat.div_div_eq_div_mul, h1, h2]
  · rw [h1, Nat.mul_comm a n, Nat.mul_add_mod, Nat.mod_eq_of_lt hc]
  · rw [Nat.mul_comm (a * n + c) n, Nat.mul_add_mod, Nat.mod_eq_of_lt hw]
  · rw [h1, h2]
theorem w_in {cnt i : Nat} (h1 : 1 ≤ cnt) (hi : i < 1 + 5 * cnt * cnt) : wF cnt i ≤ 5 ∧ wC cnt i < cnt ∧ wW cnt i < cnt := by
  unfold wF wC wW
  by_cases e : i = 0
  · rw [if_pos e, if_pos e, if_pos e]
    omega
  · rw [if_neg e, if_neg e, if_neg e]
    have hp : 0 < cnt * cnt := Nat.mul_pos h1 h1
    refine ⟨?_, Nat.mod_lt _ h1, Nat.mod_lt _ h1⟩
    have : (i - 1) / (cnt * cnt) < 5 := by
      rw [Nat.div_lt_iff_lt_mul hp]
      rw [Nat.mul_assoc] at hi
      omega
    omega
theorem w_at {cnt f c w : Nat} (hf : 1 ≤ f) (hf5 : f ≤ 5) (hc : c < cnt) (hw : w < cnt) : ∃ i, i < 1 + 5 * cnt * cnt ∧ i ≠ 0 ∧ wF cnt i = f ∧ wC cnt i = c ∧ wW cnt i = w := by
  obtain ⟨d1, d2, d3, -⟩ := div3 (a := f - 1) hc hw
  refine ⟨((f - 1) * cnt + c) * cnt + w + 1, ?_, by omega, ?_, ?_, ?_⟩
  · have h1 : (f - 1) * cnt + c + 1 ≤ 5 * cnt := by
      have : (f - 1 + 1) * cnt ≤ 5 * cnt := Nat.mul_le_mul_right _ (by omega)
      rw [Nat.succ_mul] at this
      omega
    have h2 := Nat.mul_le_mul_right cnt h1
    rw [Nat.succ_mul] at h2
    omega
  · unfold wF
    rw [if_neg (by omega), Nat.add_sub_cancel, d1]
    omega
  · unfold wC
    rw [if_neg (by omega), Nat.add_sub_cancel, d2]
  · unfold wW
    rw [if_neg (by omega), Nat.add_sub_cancel, d3]
theorem sq_le {cnt : Nat} (h : cnt ≤ 40) : cnt * cnt ≤ 1600 := Nat.mul_le_mul h h
theorem ftx_2 (a : Nat) (F : Fn) : sgn (ftx a F) 2 = F.1 + 65 ∧ sgn (ftx a F) 4 = F.2.1 + 65 := by
  unfold sgn ftx
  constructor <;> rfl
section G1
variable {l : Launch} {d : Nat} {mi : Nat → Nat → Int32} {ml : Nat → Nat → Int64} {mr : Nat → Nat → Option Nat} {S : Rs} {cnt : Nat}
theorem c_m_ways (hc : mi 116 18 = nI cnt) (h40 : cnt ≤ 40) : am_T l d M_m_ways 0 [some (.ref 116)] [] (hm mi ml mr) 0 0 (fun r h' => r = some (.int (nI (1 + 5 * cnt * cnt))) ∧ h' = hm mi ml mr) := by
  refine am_iconst (v := nI 1) rfl (by decide) ?_
  refine am_iconst (v := nI 5) rfl (by decide) ?_
  refine am_aload_n rfl rfl ?_
  refine ho_getI rfl (by first | rfl | assumption) rfl ?_
  rw [hc]
  first | refine ho_muln rfl ?_ | refine am_imul rfl ?_
  refine am_aload_n rfl rfl ?_
  refine ho_getI rfl (by first | rfl | assumption) rfl ?_
  rw [hc]
  first | refine ho_muln rfl ?_ | refine am_imul rfl ?_
  first | refine ho_addn rfl ?_ | refine am_iadd rfl ?_
  exact am_ireturn rfl rfl ⟨rfl, rfl⟩
theorem c_m_wayFirst (hc : mi 116 18 = nI cnt) (h1 : 1 ≤ cnt) (h40 : cnt ≤ 40) (i : Nat) (hi : i < 10000) : am_T l d M_m_wayFirst 0 [some (.ref 116), some (.int (nI i))] [] (hm mi ml mr) 0 0 (fun r h' => r = some (.int (fI (wF cnt i))) ∧ h' = hm mi ml mr) := by
  have hp : 0 < cnt * cnt := Nat.mul_pos h1 h1
  have hs := sq_le h40
  refine am_iload_n rfl rfl ?_
  refine am_if_ne rfl (fun z => ?_) (fun z => ?_)
  · have hi0 : i ≠ 0 := fun q => z (by rw [q]; rfl)
    refine am_iload_n rfl rfl ?_
    refine am_iconst (v := nI 1) rfl (by decide) ?_
    first | refine ho_subn rfl (by omega) ?_ | refine am_isub rfl ?_
    refine am_aload_n rfl rfl ?_
    refine ho_getI rfl (by first | rfl | assumption) rfl ?_
    rw [hc]
    refine am_aload_n rfl rfl ?_
    refine ho_getI rfl (by first | rfl | assumption) rfl ?_
    rw [hc]
    first | refine ho_muln rfl ?_ | refine am_imul rfl ?_
    refine am_idiv rfl (nI_nz hp (by omega)) ?_
    rw [nI_div (by omega) (by omega)]
    refine am_ireturn rfl rfl ⟨?_, rfl⟩
    unfold wF fI
    rw [if_neg hi0, if_neg (Nat.succ_ne_zero _), Nat.add_sub_cancel]
  · have hi0 : i = 0 := (nI_eq (a := i) (b := 0) (by omega) (by omega)).mp z
    refine am_iconst (v := -1) rfl (by decide) ?_
    refine am_goto rfl ?_
    refine am_ireturn rfl rfl ⟨?_, rfl⟩
    unfold wF fI
    rw [if_pos hi0, if_pos rfl]
theorem c_m_wayInside (hc : mi 116 18 = nI cnt) (h1 : 1 ≤ cnt) (h40 : cnt ≤ 40) (i : Nat) (hi : i < 10000) : am_T l d M_m_wayInside 0 [some (.ref 116), some (.int (nI i))] [] (hm mi ml mr) 0 0 (fun r h' => r = some (.int (nI (wC cnt i))) ∧ h' = hm mi ml mr) := by
  refine am_iload_n rfl rfl ?_
  refine am_if_ne rfl (fun z => ?_) (fun z => ?_)
  · have hi0 : i ≠ 0 := fun q => z (by rw [q]; rfl)
    refine am_iload_n rfl rfl ?_
    refine am_iconst (v := nI 1) rfl (by decide) ?_
    first | refine ho_subn rfl (by omega) ?_ | refine am_isub rfl ?_
    refine am_aload_n rfl rfl ?_
    refine ho_getI rfl (by first | rfl | assumption) rfl ?_
    rw [hc]
    refine am_idiv rfl (nI_nz h1 (by omega)) ?_
    rw [nI_div (by omega) (by omega)]
    refine am_aload_n rfl rfl ?_
    refine ho_getI rfl (by first | rfl | assumption) rfl ?_
    rw [hc]
    refine am_irem rfl (nI_nz h1 (by omega)) ?_
    rw [nI_mod (Nat.lt_of_le_of_lt (Nat.div_le_self (i - 1) cnt) (by omega)) (by omega)]
    refine am_ireturn rfl rfl ⟨?_, rfl⟩
    unfold wC
    rw [if_neg hi0]
  · have hi0 : i = 0 := (nI_eq (a := i) (b := 0) (by omega) (by omega)).mp z
    refine am_iconst (v := nI 0) rfl (by decide) ?_
    refine am_goto rfl ?_
    refine am_ireturn rfl rfl ⟨?_, rfl⟩
    unfold wC
    rw [if_pos hi0]
theorem c_m_wayAfter (hc : mi 116 18 = nI cnt) (h1 : 1 ≤ cnt) (h40 : cnt ≤ 40) (i : Nat) (hi : i < 10000) : am_T l d M_m_wayAfter 0 [some (.ref 116), some (.int (nI i))] [] (hm mi ml mr) 0 0 (fun r h' => r = some (.int (nI (wW cnt i))) ∧ h' = hm mi ml mr) := by
  refine am_iload_n rfl rfl ?_
  refine am_if_ne rfl (fun z => ?_) (fun z => ?_)
  · have hi0 : i ≠ 0 := fun q => z (by rw [q]; rfl)
    refine am_iload_n rfl rfl ?_
    refine am_iconst (v := nI 1) rfl (by decide) ?_
    first | refine ho_subn rfl (by omega) ?_ | refine am_isub rfl ?_
    refine am_aload_n rfl rfl ?_
    refine ho_getI rfl (by first | rfl | assumption) rfl ?_
    rw [hc]
    refine am_irem rfl (nI_nz h1 (by omega)) ?_
    rw [nI_mod (by omega) (by omega)]
    refine am_ireturn rfl rfl ⟨?_, rfl⟩
    unfold wW
    rw [if_neg hi0]
  · have hi0 : i = 0 := (nI_eq (a := i) (b := 0) (by omega) (by omega)).mp z
    refine am_iconst (v := nI 0) rfl (by decide) ?_
    refine am_goto rfl ?_
    refine am_ireturn rfl rfl ⟨?_, rfl⟩
    unfold wW
    rw [if_pos hi0]
theorem c_m_input (hR : SR mr) (f : Nat) (hf : f < 3) (F : Fn) (hF : okF F) (hE : EN mi (6 + f) (ftx (102 + f) F)) : am_T l (d + 1) M_m_input 0 [some (.ref 116), some (.int (nI f))] [] (hm mi ml mr) 0 0 (fun r h' => r = some (.int (nI F.1)) ∧ h' = hm mi ml mr) := by
  refine am_aload_n rfl rfl ?_
  refine am_iload_n rfl rfl ?_
  refine am_iconst (v := nI 2) rfl (by decide) ?_
  refine ho_cv2 rfl (by first | rfl | assumption) rfl (Nat.le_of_ble_eq_true rfl) (Nat.le_of_ble_eq_true rfl) (c_m_sign hR f hf _ hE 2 (by omega)) ?_
  rintro v h' ⟨rfl, rfl⟩
  rw [(ftx_2 (102 + f) F).1]
  refine am_bipush (v := nI 65) rfl (by decide) ?_
  first | refine ho_subn rfl (by omega) ?_ | refine am_isub rfl ?_
  rw [Nat.add_sub_cancel]
  exact am_ireturn rfl rfl ⟨rfl, rfl⟩
theorem c_m_output (hR : SR mr) (f : Nat) (hf : f < 3) (F : Fn) (hF : okF F) (hE : EN mi (6 + f) (ftx (102 + f) F)) : am_T l (d + 1) M_m_output 0 [some (.ref 116), some (.int (nI f))] [] (hm mi ml mr) 0 0 (fun r h' => r = some (.int (nI F.2.1)) ∧ h' = hm mi ml mr) := by
  refine am_aload_n rfl rfl ?_
  refine am_iload_n rfl rfl ?_
  refine am_iconst (v := nI 4) rfl (by decide) ?_
  refine ho_cv2 rfl (by first | rfl | assumption) rfl (Nat.le_of_ble_eq_true rfl) (Nat.le_of_ble_eq_true rfl) (c_m_sign hR f hf _ hE 4 (by omega)) ?_
  rintro v h' ⟨rfl, rfl⟩
  rw [(ftx_2 (102 + f) F).2]
  refine am_bipush (v := nI 65) rfl (by decide) ?_
  first | refine ho_subn rfl (by omega) ?_ | refine am_isub rfl ?_
  rw [Nat.add_sub_cancel]
  exact am_ireturn rfl rfl ⟨rfl, rfl⟩
theorem c_m_wayKind (hR : SR mr) (hM : MKn S cnt mi ml) (h40 : cnt ≤ 40) (i : Nat) (hi : i < 1 + 5 * cnt * cnt) : am_T l (d + 1) M_m_wayKind 0 [some (.ref 116), some (.int (nI i))] [] (hm mi ml mr) 0 0 (fun r h' => ∃ k, k < cnt ∧ r = some (.int (nI k)) ∧ h' = hm mi ml mr ∧ ml 127 k = hd S (wF cnt i) (ml 127 (wC cnt i)) (ml 127 (wW cnt i))) := by
  obtain ⟨⟨c1, c2⟩, hc, c3, c4, c5⟩ := id hM.1
  have hs := sq_le h40
  rw [Nat.mul_assoc] at hi
  have hi' : i < 1 + 5 * cnt * cnt := by rw [Nat.mul_assoc]; exact hi
  obtain ⟨w1, w2, w3⟩ := w_in c1 hi'
  refine am_iload_n rfl rfl ?_
  refine am_if_ne rfl (fun z => ?_) (fun z => ?_)
  · have hi0 : i ≠ 0 := fun q => z (by rw [q]; rfl)
    have hwF : wF cnt i = (wF cnt i - 1) + 1 := by
      unfold wF
      rw [if_neg hi0]
      rfl
    refine am_aload_n rfl rfl ?_
    refine am_aload_n rfl rfl ?_
    refine am_iload_n rfl rfl ?_
    refine ho_cv1 rfl (by first | rfl | assumption) rfl (Nat.le_of_ble_eq_true rfl) (Nat.le_of_ble_eq_true rfl) (c_m_wayFirst hc c1 h40 i (by omega)) ?_
    rintro v h' ⟨rfl, rfl⟩
    refine am_aload_n rfl rfl ?_
    refine am_iload_n rfl rfl ?_
    refine ho_cv1 rfl (by first | rfl | assumption) rfl (Nat.le_of_ble_eq_true rfl) (Nat.le_of_ble_eq_true rfl) (c_m_wayInside hc c1 h40 i (by omega)) ?_
    rintro v h' ⟨rfl, rfl⟩
    refine am_aload_n rfl rfl ?_
    refine am_iload_n rfl rfl ?_
    refine ho_cv1 rfl (by first | rfl | assumption) rfl (Nat.le_of_ble_eq_true rfl) (Nat.le_of_ble_eq_true rfl) (c_m_wayAfter hc c1 h40 i (by omega)) ?_
    rintro v h' ⟨rfl, rfl⟩
    rw [show fI (wF cnt i) = nI (wF cnt i - 1) by unfold fI; rw [if_neg (by omega)]]
    refine ho_cv3 rfl (by first | rfl | assumption) rfl (Nat.le_of_ble_eq_true rfl) (Nat.le_of_ble_eq_true rfl) (c_m_joined hR (wF cnt i - 1) (wC cnt i) (wW cnt i) (by omega) (by omega) (by omega)) ?_
    rintro v h' ⟨rfl, rfl⟩
    obtain ⟨k, k1, k2, k3, k4⟩ := (hM.2.1 h40).1 (wF cnt i - 1) (by omega) _ _ w2 w3
    refine am_ireturn rfl rfl ⟨k, k2, by rw [k3], rfl, ?_⟩
    unfold hd
    rw [if_neg (by omega), k4, ← hwF]
  · have hi0 : i = 0 := (nI_eq (a := i) (b := 0) (by omega) (by omega)).mp z
    refine am_iconst (v := nI 0) rfl (by decide) ?_
    refine am_goto rfl ?_
    refine am_ireturn rfl rfl ⟨0, c1, rfl, rfl, ?_⟩
    unfold hd wF
    rw [if_pos hi0, if_pos rfl, c3]
theorem c_m_wayChoice (hR : SR mr) (hS : okS S) (hr : repS S mi) (hM : MKn S cnt mi ml) (h40 : cnt ≤ 40) (f : Nat) (hf : f < 3) (F : Fn) (hF : okF F) (hE : EN mi (6 + f) (ftx (102 + f) F)) (i : Nat) (hi : i < 1 + 5 * cnt * cnt) : am_T l (d + 4) M_m_wayChoice 0 [some (.ref 116), some (.int (nI f)), some (.int (nI i)), none] [] (hm mi ml mr) 0 0 (fun r h' => r = some (.int (wcI (wch S F (wF cnt i) (ml 127 (wC cnt i)) (ml 127 (wW cnt i))))) ∧ h' = hm mi ml mr) := by
  obtain ⟨⟨c1, c2⟩, hc, c3, c4, c5⟩ := id hM.1
  have hs := sq_le h40
  obtain ⟨w1, w2, w3⟩ := w_in c1 hi
  have hi2 := hi
  rw [Nat.mul_assoc] at hi2
  refine am_aload_n rfl rfl ?_
  refine am_iload_n rfl rfl ?_
  refine ho_cv1 rfl (by first | rfl | assumption) rfl (Nat.le_of_ble_eq_true rfl) (Nat.le_of_ble_eq_true rfl) (c_m_wayKind hR hM h40 i hi) ?_
  rintro v h' ⟨k, k1, rfl, rfl, k2⟩
  refine am_istore_n rfl (Nat.le_of_ble_eq_true rfl) ?_
  show am_T _ _ _ _ [_, _, _, some _] _ _ _ _ _
  refine am_aload_n rfl rfl ?_
  refine am_aload_n rfl rfl ?_
  refine ho_getR rfl (by first | rfl | assumption) rfl (by first | assumption | exact hR _ _ _ rfl) ?_
  refine am_iload_n rfl rfl ?_
  refine ho_laload rfl (by first | rfl | assumption) (by omega) ?_
  refine am_aload_n rfl rfl ?_
  refine am_iload_n rfl rfl ?_
  rw [k2]
  refine ho_cv1 rfl (by first | rfl | assumption) rfl (Nat.le_of_ble_eq_true rfl) (Nat.le_of_ble_eq_true rfl) (c_m_input hR f hf F hF hE) ?_
  rintro v h' ⟨rfl, rfl⟩
  refine ho_cv2 rfl (by first | rfl | assumption) rfl (Nat.le_of_ble_eq_true rfl) (Nat.le_of_ble_eq_true rfl) (c_m_inName hR hS hr _ F.1 hF.1) ?_
  rintro v h' ⟨rfl, rfl⟩
  unfold wch
  cases hin : inN S (tb (hd S (wF cnt i) (ml 127 (wC cnt i)) (ml 127 (wW cnt i)))) F.1 with
  | false =>
    refine am_if_ne rfl (fun z => absurd rfl z) (fun _ => ?_)
    refine am_iconst (v := -1) rfl (by decide) ?_
    exact am_ireturn rfl rfl ⟨rfl, rfl⟩
  | true =>
    refine am_if_ne rfl (fun _ => ?_) (fun z => by cases z)
    refine am_aload_n rfl rfl ?_
    refine am_iload_n rfl rfl ?_
    refine am_aload_n rfl rfl ?_
    refine am_iload_n rfl rfl ?_
    refine ho_cv1 rfl (by first | rfl | assumption) rfl (Nat.le_of_ble_eq_true rfl) (Nat.le_of_ble_eq_true rfl) (c_m_wayFirst hc c1 h40 i (by omega)) ?_
    rintro v h' ⟨rfl, rfl⟩
    refine am_aload_n rfl rfl ?_
    refine ho_getR rfl (by first | rfl | assumption) rfl (by first | assumption | exact hR _ _ _ rfl) ?_
    refine am_aload_n rfl rfl ?_
    refine am_iload_n rfl rfl ?_
    refine ho_cv1 rfl (by first | rfl | assumption) rfl (Nat.le_of_ble_eq_true rfl) (Nat.le_of_ble_eq_true rfl) (c_m_wayInside hc c1 h40 i (by omega)) ?_
    rintro v h' ⟨rfl, rfl⟩
    refine ho_laload rfl (by first | rfl | assumption) (by omega) ?_
    refine am_aload_n rfl rfl ?_
    refine ho_getR rfl (by first | rfl | assumption) rfl (by first | assumption | exact hR _ _ _ rfl) ?_
    refine am_aload_n rfl rfl ?_
    refine am_iload_n rfl rfl ?_
    refine ho_cv1 rfl (by first | rfl | assumption) rfl (Nat.le_of_ble_eq_true rfl) (Nat.le_of_ble_eq_true rfl) (c_m_wayAfter hc c1 h40 i (by omega)) ?_
    rintro v h' ⟨rfl, rfl⟩
    refine ho_laload rfl (by first | rfl | assumption) (by omega) ?_
    refine ho_cv4 rfl (by first | rfl | assumption) rfl (Nat.le_of_ble_eq_true rfl) (Nat.le_of_ble_eq_true rfl) (c_m_choice hR hS hr f hf F hF hE (wF cnt i) w1 (ml 127 (wC cnt i)) (ml 127 (wW cnt i))) ?_
    rintro v h' ⟨rfl, rfl⟩
    exact am_ireturn rfl rfl ⟨rfl, rfl⟩
end G1
