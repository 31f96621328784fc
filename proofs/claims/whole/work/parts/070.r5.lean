/-! the class: readPart, readEnd, readResult -/
def RSt (cap : Nat) (T : List Nat) (o : Nat) (mi0 : Nat → Nat → Int32) (mr : Nat → Nat → Option Nat) (i n : Nat) (C : List Cl) (p : Nat × Nat × Nat) (K : List Nat) (mi : Nat → Nat → Int32) : Prop := rd 1 cap T mi mr ∧ mi 82 2 = nI i ∧ mi 82 3 = nI n ∧ CA mi o (C ++ [(p, K)]) ∧ FF o mi0 mi
theorem RSt.go {cap : Nat} {T : List Nat} {o : Nat} {mi0 mi : Nat → Nat → Int32} {mr : Nat → Nat → Option Nat} {i n : Nat} {C : List Cl} {p : Nat × Nat × Nat} {K : List Nat} (h : RSt cap T o mi0 mr i n C p K mi) (ho : o ≤ 64) (j : Nat) : RSt cap T o mi0 mr j n C p K (up2 mi 82 2 (nI j)) := by
  obtain ⟨h1, h2, h3, h4, h5⟩ := h
  exact ⟨rd_at (by decide) h1, by simp [up2], by rw [show up2 mi 82 2 (nI j) 82 3 = mi 82 3 by unfold up2; rw [if_neg (by omega)]]; exact h3, CA_at ho h4, h5.tr (FF_at (Or.inl rfl) ho)⟩
theorem RSt.tok {cap : Nat} {T : List Nat} {o : Nat} {mi0 mi : Nat → Nat → Int32} {mr : Nat → Nat → Option Nat} {i n : Nat} {C : List Cl} {p : Nat × Nat × Nat} {K : List Nat} (h : RSt cap T o mi0 mr i n C p K mi) (ho : 46 ≤ o ∧ o ≤ 64) (k : Nat) : RSt cap T o mi0 mr i n C p (K ++ [k]) (tkU mi o (C.length + 1) (ntk C + K.length) (nI k)) := by
  obtain ⟨h1, h2, h3, h4, h5⟩ := h
  have hF := FF_tk (n := C.length + 1) (e := ntk C + K.length) (mi := mi) (k := nI k) ho.2
  have hu : ∀ j, tkU mi o (C.length + 1) (ntk C + K.length) (nI k) 82 j = mi 82 j := fun j => by unfold tkU; rw [up2_off _ _ _ (by omega), up2_off _ _ _ (by omega)]
  exact ⟨hF.rd ho.1 h1, by rw [hu]; exact h2, by rw [hu]; exact h3, CA_token h4 k, h5.tr hF⟩
section R6
variable {l : Launch} {d : Nat} {ml : Nat → Nat → Int64} {mr : Nat → Nat → Option Nat} {cap o : Nat} {T : List Nat}
theorem c_R_mayBePart {h : am_H} (c p : Nat) (hc : c < 127) (hp : p ≤ 5) : am_T l (d + 1) M_R_mayBePart 0 [some (.ref 82), some (.int (nI c)), some (.int (nI (fp p)))] [] h 0 0 (fun r h' => r = some (.int (bI (isDig c || isLab c || decide (c = 35 ∧ p = 1)))) ∧ h' = h) := by
  obtain ⟨f1, f2, f3, f4⟩ := fp_r hp
  have yes : (isDig c || isLab c || decide (c = 35 ∧ p = 1)) = true → am_T l (d + 1) M_R_mayBePart 25 [some (.ref 82), some (.int (nI c)), some (.int (nI (fp p)))] [] h 0 0 (fun r h' => r = some (.int (bI (isDig c || isLab c || decide (c = 35 ∧ p = 1)))) ∧ h' = h) := by
    intro e
    refine am_iconst (v := nI 1) rfl (by decide) ?_
    refine am_goto rfl ?_
    exact am_zreturn rfl rfl (Or.inr rfl) ⟨by rw [e]; rfl, rfl⟩
  have no : (isDig c || isLab c || decide (c = 35 ∧ p = 1)) = false → am_T l (d + 1) M_R_mayBePart 29 [some (.ref 82), some (.int (nI c)), some (.int (nI (fp p)))] [] h 0 0 (fun r h' => r = some (.int (bI (isDig c || isLab c || decide (c = 35 ∧ p = 1)))) ∧ h' = h) := by
    intro e
    refine am_iconst (v := nI 0) rfl (by decide) ?_
    exact am_zreturn rfl rfl (Or.inl rfl) ⟨by rw [e]; rfl, rfl⟩
  refine am_iload_n rfl rfl ?_
  refine ho_cn1 rfl rfl (Nat.le_of_ble_eq_true rfl) (Nat.le_of_ble_eq_true rfl) (c_X_isDigit c (by omega)) ?_
  rintro v h' ⟨rfl, rfl⟩
  refine am_if_ne rfl (fun z => yes (by rw [(bI_ne _).mp z]; rfl)) (fun z => ?_)
  have z := (bI_eq _).mp z
  refine am_iload_n rfl rfl ?_
  refine ho_cn1 rfl rfl (Nat.le_of_ble_eq_true rfl) (Nat.le_of_ble_eq_true rfl) (c_X_isLabel c (by omega)) ?_
  rintro v h' ⟨rfl, rfl⟩
  refine am_if_ne rfl (fun y => yes (by rw [(bI_ne _).mp y, Bool.or_true]; rfl)) (fun y => ?_)
  have y := (bI_eq _).mp y
  refine am_iload_n rfl rfl ?_
  refine am_bipush (v := nI 35) rfl (by decide) ?_
  refine ho_icmp_ne rfl (by omega) (by omega) (fun x => no (by rw [z, y, decide_eq_false (fun q => x q.1)]; rfl)) (fun x => ?_)
  refine am_iload_n rfl rfl ?_
  refine am_iconst (v := nI 4) rfl (by decide) ?_
  refine ho_icmp_ne rfl (by omega) (by omega) (fun w => no (by rw [z, y, decide_eq_false (fun q => w (f3.mpr q.2))]; rfl)) (fun w => yes (by rw [decide_eq_true ⟨x, f3.mp w⟩, Bool.or_true]))
theorem c_R_mayBeHedge {h : am_H} (hT : okT T) (i p : Nat) (hp : p ≤ 5) : am_T l d M_R_mayBeHedge 0 [some (.ref 82), some (.int (lkI T i)), some (.int (nI (fp p)))] [] h 0 0 (fun r h' => r = some (.int (bI (decide ((T.getD i 0 = 120 ∧ 2 ≤ p) ∨ (T.getD i 0 = 121 ∧ 1 ≤ p))))) ∧ h' = h) := by
  obtain ⟨f1, f2, f3, f4⟩ := fp_r hp
  have yes : ((T.getD i 0 = 120 ∧ 2 ≤ p) ∨ (T.getD i 0 = 121 ∧ 1 ≤ p)) → am_T l d M_R_mayBeHedge 22 [some (.ref 82), some (.int (lkI T i)), some (.int (nI (fp p)))] [] h 0 0 (fun r h' => r = some (.int (bI (decide ((T.getD i 0 = 120 ∧ 2 ≤ p) ∨ (T.getD i 0 = 121 ∧ 1 ≤ p))))) ∧ h' = h) := by
    intro e
    refine am_iconst (v := nI 1) rfl (by decide) ?_
    refine am_goto rfl ?_
    exact am_zreturn rfl rfl (Or.inr rfl) ⟨by rw [decide_eq_true e]; rfl, rfl⟩
  have no : ¬ ((T.getD i 0 = 120 ∧ 2 ≤ p) ∨ (T.getD i 0 = 121 ∧ 1 ≤ p)) → am_T l d M_R_mayBeHedge 26 [some (.ref 82), some (.int (lkI T i)), some (.int (nI (fp p)))] [] h 0 0 (fun r h' => r = some (.int (bI (decide ((T.getD i 0 = 120 ∧ 2 ≤ p) ∨ (T.getD i 0 = 121 ∧ 1 ≤ p))))) ∧ h' = h) := by
    intro e
    refine am_iconst (v := nI 0) rfl (by decide) ?_
    exact am_zreturn rfl rfl (Or.inl rfl) ⟨by rw [decide_eq_false e]; rfl, rfl⟩
  have s11 : ¬ (T.getD i 0 = 120 ∧ 2 ≤ p) → am_T l d M_R_mayBeHedge 11 [some (.ref 82), some (.int (lkI T i)), some (.int (nI (fp p)))] [] h 0 0 (fun r h' => r = some (.int (bI (decide ((T.getD i 0 = 120 ∧ 2 ≤ p) ∨ (T.getD i 0 = 121 ∧ 1 ≤ p))))) ∧ h' = h) := by
    intro e
    refine am_iload_n rfl rfl ?_
    refine am_bipush (v := nI 121) rfl (by decide) ?_
    refine am_icmp_ne rfl (fun z => no (fun q => q.elim e (fun k => z ((lkI_eq hT (by decide) (by decide)).mpr k.1)))) (fun z => ?_)
    have z := (lkI_eq hT (by decide) (by decide)).mp z
    refine am_iload_n rfl rfl ?_
    refine am_iconst (v := nI 5) rfl (by decide) ?_
    refine ho_icmp_eq rfl (by omega) (by omega) (fun y => no (fun q => q.elim e (fun k => ?_))) (fun y => yes (Or.inr ⟨z, ?_⟩))
    · have := f4.mp y
      omega
    · have : ¬ p = 0 := fun q => y (f4.mpr q)
      omega
  refine am_iload_n rfl rfl ?_
  refine am_bipush (v := nI 120) rfl (by decide) ?_
  refine am_icmp_ne rfl (fun z => s11 (fun q => z ((lkI_eq hT (by decide) (by decide)).mpr q.1))) (fun z => ?_)
  have z := (lkI_eq hT (by decide) (by decide)).mp z
  refine am_iload_n rfl rfl ?_
  refine am_iconst (v := nI 4) rfl (by decide) ?_
  refine ho_icmp_lt rfl (by omega) (by omega) (fun y => yes (Or.inl ⟨z, f2.mp y⟩)) (fun y => s11 (fun q => y (f2.mpr q.2)))
theorem c_R_readPart (hFn : isFn mr o) (mi0 : Nat → Nat → Int32) (i n : Nat) (C : List Cl) (p : Nat × Nat × Nat) (K : List Nat) (mi : Nat → Nat → Int32) (hS : RSt cap T o mi0 mr i n C p K mi) (hi : i < T.length) (hn : n ≤ 12) (h6 : C.length < 6) (h80 : ntk C + K.length ≤ i) :
    am_T l (d + 2) M_R_readPart 0 [some (.ref 82), some (.ref o), none] [] (hm mi ml mr) 0 0 (fun r h' => (12 ≤ n ∧ r = some (.int (bI false)) ∧ h' = hm mi ml mr) ∨ (n < 12 ∧ ∃ mi', h' = hm mi' ml mr ∧ ((isLab (T.getD i 0) = false ∧ r = some (.int (bI true)) ∧ RSt cap T o mi0 mr (i + 1) (n + 1) C p (K ++ [T.getD i 0]) mi') ∨ (isLab (T.getD i 0) = true ∧ T.getD (i + 1) 0 = 91 ∧ r = some (.int (bI true)) ∧ RSt cap T o mi0 mr (i + 2) (n + 1) C p (K ++ [T.getD i 0]) mi') ∨ (isLab (T.getD i 0) = true ∧ T.getD (i + 1) 0 ≠ 91 ∧ r = some (.int (bI false)) ∧ mi' 82 2 = nI (i + 1) ∧ FF o mi0 mi')))) := by
  have o64 := hFn.1
  have hk0 := hFn.2.1
  obtain ⟨h1, h2, h3, h4, h5⟩ := hS
  have hr3 := h1.2.2.1
  have hr4 := h1.2.2.2.1
  have hT := h1.2.2.2.2.2.2
  have hc := okT_at hT i
  refine am_aload_n rfl rfl ?_
  refine ho_getI rfl (by first | rfl | assumption) rfl ?_
  rw [h3]
  refine am_bipush (v := nI 12) rfl (by decide) ?_
  refine ho_icmp_lt rfl (by omega) (by omega) (fun z => ?_) (fun z => ?_)
  case refine_2 =>
    refine am_iconst (v := nI 0) rfl (by decide) ?_
    exact am_zreturn rfl rfl (Or.inl rfl) (Or.inl ⟨by omega, rfl, rfl⟩)
  refine am_aload_n rfl rfl ?_
  refine am_dup rfl rfl ?_
  refine ho_getI rfl (by first | rfl | assumption) rfl ?_
  rw [h3]
  refine am_iconst (v := nI 1) rfl (by decide) ?_
  first | refine ho_addn rfl ?_ | refine am_iadd rfl ?_
  refine ho_putI rfl (by first | rfl | assumption) rfl rfl ?_
  refine am_aload_n rfl rfl ?_
  have hS1 : RSt cap T o mi0 mr i (n + 1) C p K (up2 mi 82 3 (nI (n + 1))) := by
    have hF := FF_at (o := o) (mi := mi) (x := nI (n + 1)) (j := 3) (Or.inr rfl) o64.2
    exact ⟨hF.rd o64.1 h1, by rw [show up2 mi 82 3 (nI (n + 1)) 82 2 = mi 82 2 by unfold up2; rw [if_neg (by omega)]]; exact h2, by simp [up2], CA_at o64.2 h4, h5.tr hF⟩
  refine ho_cv0 rfl (by first | rfl | assumption) rfl (Nat.le_of_ble_eq_true rfl) (Nat.le_of_ble_eq_true rfl) (c_R_look hS1.1 i hS1.2.1 (by omega)) ?_
  rintro v h' ⟨rfl, rfl⟩
  rw [show lkI T i = nI (T.getD i 0) by unfold lkI; rw [if_pos hi]]
  refine am_istore_n rfl (Nat.le_of_ble_eq_true rfl) ?_
  show am_T _ _ _ _ [_, _, some _] _ _ _ _ _
  refine am_aload_n rfl rfl ?_
  refine am_iload_n rfl rfl ?_
  refine ho_cv1 rfl (by first | rfl | assumption) rfl (Nat.le_of_ble_eq_true rfl) (Nat.le_of_ble_eq_true rfl) (c_F_addToken _ hFn C p K hS1.2.2.2.1 h6 (by omega) (nI (T.getD i 0))) ?_
  rintro v h' ⟨rfl, rfl⟩
  have hS2 := hS1.tok o64 (T.getD i 0)
  refine am_aload_n rfl rfl ?_
  refine am_dup rfl rfl ?_
  refine ho_getI rfl (by first | rfl | assumption) rfl ?_
  rw [hS2.2.1]
  refine am_iconst (v := nI 1) rfl (by decide) ?_
  first | refine ho_addn rfl ?_ | refine am_iadd rfl ?_
  refine ho_putI rfl (by first | rfl | assumption) rfl rfl ?_
  refine am_iload_n rfl rfl ?_
  have hS3 := hS2.go o64.2 (i + 1)
  refine ho_cn1 rfl rfl (Nat.le_of_ble_eq_true rfl) (Nat.le_of_ble_eq_true rfl) (c_X_isLabel _ (by omega)) ?_
  rintro v h' ⟨rfl, rfl⟩
  refine am_if_eq rfl (fun y => ?_) (fun y => ?_)
  · refine am_iconst (v := nI 1) rfl (by decide) ?_
    refine am_goto rfl ?_
    exact am_zreturn rfl rfl (Or.inr rfl) (Or.inr ⟨z, _, rfl, Or.inl ⟨(bI_eq _).mp y, rfl, hS3⟩⟩)
  have y := (bI_ne _).mp y
  refine am_aload_n rfl rfl ?_
  refine am_bipush (v := nI 91) rfl (by decide) ?_
  refine ho_cv1 rfl (by first | rfl | assumption) rfl (Nat.le_of_ble_eq_true rfl) (Nat.le_of_ble_eq_true rfl) (c_R_pass hS3.1 (i + 1) hS3.2.1 (by omega) 91 (by decide) (by decide)) ?_
  rintro v h' (⟨e1, rfl, rfl⟩ | ⟨e1, rfl, rfl⟩)
  · refine am_if_eq rfl (fun x => by cases x) (fun _ => ?_)
    refine am_iconst (v := nI 1) rfl (by decide) ?_
    refine am_goto rfl ?_
    exact am_zreturn rfl rfl (Or.inr rfl) (Or.inr ⟨z, _, rfl, Or.inr (Or.inl ⟨y, e1, rfl, hS3.go o64.2 (i + 2)⟩)⟩)
  · refine am_if_eq rfl (fun _ => ?_) (fun x => absurd rfl x)
    refine am_iconst (v := nI 0) rfl (by decide) ?_
    exact am_zreturn rfl rfl (Or.inl rfl) (Or.inr ⟨z, _, rfl, Or.inr (Or.inr ⟨y, e1, rfl, hS3.2.1, hS3.2.2.2.2⟩)⟩)
/-- how readEnd ends -/
theorem c_R_readEnd (hFn : isFn mr o) (mi0 : Nat → Nat → Int32) (i n : Nat) (C : List Cl) (p : Nat × Nat × Nat) (K : List Nat) (mi : Nat → Nat → Int32) (hS : RSt cap T o mi0 mr i n C p K mi) (hp : p.1 ≤ 5) (hi : i < T.length) (h6 : C.length < 6) (h80 : ntk C + K.length ≤ i) :
    am_T l (d + 2) M_R_readEnd 0 [some (.ref 82), some (.ref o), some (.int (nI (fp p.1))), none] [] (hm mi ml mr) 0 0 (fun r h' => ∃ mi', h' = hm mi' ml mr ∧ ((((T.getD i 0 = 120 ∧ 2 ≤ p.1) ∨ (T.getD i 0 = 121 ∧ 1 ≤ p.1)) ∧ r = some (.int (bI true)) ∧ RSt cap T o mi0 mr (i + 1) n C p (K ++ [T.getD i 0]) mi') ∨ (¬ ((T.getD i 0 = 120 ∧ 2 ≤ p.1) ∨ (T.getD i 0 = 121 ∧ 1 ≤ p.1)) ∧
      ((r = some (.int (bI false)) ∧ FF o mi0 mi' ∧ (((isFun (T.getD i 0) = false ∨ p.1 = 0) ∧ mi' 82 2 = nI i) ∨ (¬ (isFun (T.getD i 0) = false ∨ p.1 = 0) ∧ ((T.getD (i + 1) 0 ≠ 40 ∧ mi' 82 2 = nI (i + 1)) ∨ (T.getD (i + 1) 0 = 40 ∧ ((¬ (T.getD (i + 2) 0 = 121 ∨ (T.getD (i + 2) 0 = 120 ∧ 2 ≤ p.1)) ∧ mi' 82 2 = nI (i + 2)) ∨ ((T.getD (i + 2) 0 = 121 ∨ (T.getD (i + 2) 0 = 120 ∧ 2 ≤ p.1)) ∧ T.getD (i + 3) 0 ≠ 41 ∧ mi' 82 2 = nI (i + 3)))))))) ∨
      (r = some (.int (bI true)) ∧ ¬ (isFun (T.getD i 0) = false ∨ p.1 = 0) ∧ T.getD (i + 1) 0 = 40 ∧ (T.getD (i + 2) 0 = 121 ∨ (T.getD (i + 2) 0 = 120 ∧ 2 ≤ p.1)) ∧ T.getD (i + 3) 0 = 41 ∧ RSt cap T o mi0 mr (i + 4) n C p (K ++ [256 + 2 * (T.getD i 0 - 102) + (if T.getD (i + 2) 0 = 121 then 1 else 0)]) mi'))))) := by
  have o64 := hFn.1
  have hk0 := hFn.2.1
  have hS' := hS
  obtain ⟨h1, h2, h3, h4, h5⟩ := hS'
  obtain ⟨f1, f2, f3, f4⟩ := fp_r hp
  have hr3 := h1.2.2.1
  have hr4 := h1.2.2.2.1
  have hT := h1.2.2.2.2.2.2
  have hc := okT_at hT i
  refine am_aload_n rfl rfl ?_
  refine ho_cv0 rfl (by first | rfl | assumption) rfl (Nat.le_of_ble_eq_true rfl) (Nat.le_of_ble_eq_true rfl) (c_R_look h1 i h2 (by omega)) ?_
  rintro v h' ⟨rfl, rfl⟩
  refine am_istore_n rfl (Nat.le_of_ble_eq_true rfl) ?_
  show am_T _ _ _ _ [_, _, _, some _] _ _ _ _ _
  refine am_aload_n rfl rfl ?_
  refine am_iload_n rfl rfl ?_
  refine am_iload_n rfl rfl ?_
  refine ho_cv2 rfl (by first | rfl | assumption) rfl (Nat.le_of_ble_eq_true rfl) (Nat.le_of_ble_eq_true rfl) (c_R_mayBeHedge hT i p.1 hp) ?_
  rintro v h' ⟨rfl, rfl⟩
  have elk : lkI T i = nI (T.getD i 0) := by unfold lkI; rw [if_pos hi]
  refine am_if_eq rfl (fun z => ?_) (fun z => ?_)
  case refine_2 =>
    have z := of_decide_eq_true ((bI_ne _).mp z)
    rw [elk]
    refine am_aload_n rfl rfl ?_
    refine am_iload_n rfl rfl ?_
    refine ho_cv1 rfl (by first | rfl | assumption) rfl (Nat.le_of_ble_eq_true rfl) (Nat.le_of_ble_eq_true rfl) (c_F_addToken _ hFn C p K h4 h6 (by omega) (nI (T.getD i 0))) ?_
    rintro v h' ⟨rfl, rfl⟩
    have hS2 := hS.tok o64 (T.getD i 0)
    refine am_aload_n rfl rfl ?_
    refine am_dup rfl rfl ?_
    refine ho_getI rfl (by first | rfl | assumption) rfl ?_
    rw [hS2.2.1]
    refine am_iconst (v := nI 1) rfl (by decide) ?_
    first | refine ho_addn rfl ?_ | refine am_iadd rfl ?_
    refine ho_putI rfl (by first | rfl | assumption) rfl rfl ?_
    refine am_iconst (v := nI 1) rfl (by decide) ?_
    exact am_zreturn rfl rfl (Or.inr rfl) ⟨_, rfl, Or.inl ⟨z, rfl, hS2.go o64.2 (i + 1)⟩⟩
  have z := of_decide_eq_false ((bI_eq _).mp z)
  refine am_iload_n rfl rfl ?_
  refine ho_cn1 rfl rfl (Nat.le_of_ble_eq_true rfl) (Nat.le_of_ble_eq_true rfl) (c_X_isFunctionL hT i) ?_
  rintro v h' ⟨rfl, rfl⟩
  refine am_if_eq rfl (fun y => ?_) (fun y => ?_)
  · refine am_iconst (v := nI 0) rfl (by decide) ?_
    exact am_zreturn rfl rfl (Or.inl rfl) ⟨mi, rfl, Or.inr ⟨z, Or.inl ⟨rfl, h5, Or.inl ⟨Or.inl ((bI_eq _).mp y), h2⟩⟩⟩⟩
  have y := (bI_ne _).mp y
  have yr := isFun_r y
  refine am_iload_n rfl rfl ?_
  refine am_iconst (v := nI 5) rfl (by decide) ?_
  refine ho_icmp_ne rfl (by omega) (by omega) (fun x => ?_) (fun x => ?_)
  case refine_2 =>
    refine am_iconst (v := nI 0) rfl (by decide) ?_
    exact am_zreturn rfl rfl (Or.inl rfl) ⟨mi, rfl, Or.inr ⟨z, Or.inl ⟨rfl, h5, Or.inl ⟨Or.inr (f4.mp x), h2⟩⟩⟩⟩
  have hnf : ¬ (isFun (T.getD i 0) = false ∨ p.1 = 0) := by
    rintro (q | q)
    · rw [y] at q
      cases q
    · exact x (f4.mpr q)
  refine am_aload_n rfl rfl ?_
  refine am_dup rfl rfl ?_
  refine ho_getI rfl (by first | rfl | assumption) rfl ?_
  rw [h2]
  refine am_iconst (v := nI 1) rfl (by decide) ?_
  first | refine ho_addn rfl ?_ | refine am_iadd rfl ?_
  refine ho_putI rfl (by first | rfl | assumption) rfl rfl ?_
  refine am_aload_n rfl rfl ?_
  refine am_bipush (v := nI 40) rfl (by decide) ?_
  have hS1 := hS.go o64.2 (i + 1)
  refine ho_cv1 rfl (by first | rfl | assumption) rfl (Nat.le_of_ble_eq_true rfl) (Nat.le_of_ble_eq_true rfl) (c_R_pass hS1.1 (i + 1) hS1.2.1 (by omega) 40 (by decide) (by decide)) ?_
  rintro v h' (⟨e1, rfl, rfl⟩ | ⟨e1, rfl, rfl⟩)
  case inr =>
    refine am_if_eq rfl (fun _ => ?_) (fun w => absurd rfl w)
    refine am_iconst (v := nI 0) rfl (by decide) ?_
    exact am_zreturn rfl rfl (Or.inl rfl) ⟨_, rfl, Or.inr ⟨z, Or.inl ⟨rfl, hS1.2.2.2.2, Or.inr ⟨hnf, Or.inl ⟨e1, hS1.2.1⟩⟩⟩⟩⟩
  refine am_if_eq rfl (fun w => by cases w) (fun _ => ?_)
  have hS2 := hS1.go o64.2 (i + 2)
  refine am_aload_n rfl rfl ?_
  refine am_aload_n rfl rfl ?_
  refine ho_cv0 rfl (by first | rfl | assumption) rfl (Nat.le_of_ble_eq_true rfl) (Nat.le_of_ble_eq_true rfl) (c_R_look hS2.1 (i + 2) hS2.2.1 (by omega)) ?_
  rintro v h' ⟨rfl, rfl⟩
  refine am_iload_n rfl rfl ?_
  refine ho_cv2 rfl (by first | rfl | assumption) rfl (Nat.le_of_ble_eq_true rfl) (Nat.le_of_ble_eq_true rfl) (c_R_mayBeHedge hT (i + 2) p.1 hp) ?_
  rintro v h' ⟨rfl, rfl⟩
  have hiff : ((T.getD (i + 2) 0 = 120 ∧ 2 ≤ p.1) ∨ (T.getD (i + 2) 0 = 121 ∧ 1 ≤ p.1)) ↔ (T.getD (i + 2) 0 = 121 ∨ (T.getD (i + 2) 0 = 120 ∧ 2 ≤ p.1)) := by
    have : ¬ p.1 = 0 := fun q => hnf (Or.inr q)
    constructor
    · rintro (q | q)
      · exact Or.inr q
      · exact Or.inl q.1
    · rintro (q | q)
      · exact Or.inr ⟨q, by omega⟩
      · exact Or.inl q
  refine am_if_ne rfl (fun w => ?_) (fun w => ?_)
  case refine_2 =>
    have w := of_decide_eq_false ((bI_eq _).mp w)
    refine am_iconst (v := nI 0) rfl (by decide) ?_
    exact am_zreturn rfl rfl (Or.inl rfl) ⟨_, rfl, Or.inr ⟨z, Or.inl ⟨rfl, hS2.2.2.2.2, Or.inr ⟨hnf, Or.inr ⟨e1, Or.inl ⟨fun q => w (hiff.mpr q), hS2.2.1⟩⟩⟩⟩⟩⟩
  have w := hiff.mp (of_decide_eq_true ((bI_ne _).mp w))
  have hl2 : i + 2 < T.length := lt_of_getD rfl (by omega)
  rw [elk]
  refine am_aload_n rfl rfl ?_
  refine am_sipush (v := nI 256) rfl (by decide) ?_
  refine am_iconst (v := nI 2) rfl (by decide) ?_
  refine am_iload_n rfl rfl ?_
  refine am_bipush (v := nI 102) rfl (by decide) ?_
  first | refine ho_subn rfl (by omega) ?_ | refine am_isub rfl ?_
  first | refine ho_muln rfl ?_ | refine am_imul rfl ?_
  first | refine ho_addn rfl ?_ | refine am_iadd rfl ?_
  refine am_aload_n rfl rfl ?_
  refine ho_cv0 rfl (by first | rfl | assumption) rfl (Nat.le_of_ble_eq_true rfl) (Nat.le_of_ble_eq_true rfl) (c_R_look hS2.1 (i + 2) hS2.2.1 (by omega)) ?_
  rintro v h' ⟨rfl, rfl⟩
  refine am_bipush (v := nI 121) rfl (by decide) ?_
  have s103 : ∀ b : Nat, b = (if T.getD (i + 2) 0 = 121 then 1 else 0) → am_T l (d + 2) M_R_readEnd 103 [some (.ref 82), some (.ref o), some (.int (nI (fp p.1))), some (.int (nI (T.getD i 0)))] [.int (nI b), .int (nI (256 + 2 * (T.getD i 0 - 102))), .ref o] (hm (up2 (up2 mi 82 2 (nI (i + 1))) 82 2 (nI (i + 2))) ml mr) 0 0 (fun r h' => ∃ mi', h' = hm mi' ml mr ∧ ((((T.getD i 0 = 120 ∧ 2 ≤ p.1) ∨ (T.getD i 0 = 121 ∧ 1 ≤ p.1)) ∧ r = some (.int (bI true)) ∧ RSt cap T o mi0 mr (i + 1) n C p (K ++ [T.getD i 0]) mi') ∨ (¬ ((T.getD i 0 = 120 ∧ 2 ≤ p.1) ∨ (T.getD i 0 = 121 ∧ 1 ≤ p.1)) ∧
      ((r = some (.int (bI false)) ∧ FF o mi0 mi' ∧ (((isFun (T.getD i 0) = false ∨ p.1 = 0) ∧ mi' 82 2 = nI i) ∨ (¬ (isFun (T.getD i 0) = false ∨ p.1 = 0) ∧ ((T.getD (i + 1) 0 ≠ 40 ∧ mi' 82 2 = nI (i + 1)) ∨ (T.getD (i + 1) 0 = 40 ∧ ((¬ (T.getD (i + 2) 0 = 121 ∨ (T.getD (i + 2) 0 = 120 ∧ 2 ≤ p.1)) ∧ mi' 82 2 = nI (i + 2)) ∨ ((T.getD (i + 2) 0 = 121 ∨ (T.getD (i + 2) 0 = 120 ∧ 2 ≤ p.1)) ∧ T.getD (i + 3) 0 ≠ 41 ∧ mi' 82 2 = nI (i + 3)))))))) ∨
      (r = some (.int (bI true)) ∧ ¬ (isFun (T.getD i 0) = false ∨ p.1 = 0) ∧ T.getD (i + 1) 0 = 40 ∧ (T.getD (i + 2) 0 = 121 ∨ (T.getD (i + 2) 0 = 120 ∧ 2 ≤ p.1)) ∧ T.getD (i + 3) 0 = 41 ∧ RSt cap T o mi0 mr (i + 4) n C p (K ++ [256 + 2 * (T.getD i 0 - 102) + (if T.getD (i + 2) 0 = 121 then 1 else 0)]) mi'))))) := by
    intro b hb
    first | refine ho_addn rfl ?_ | refine am_iadd rfl ?_
    rw [hb]
    refine ho_cv1 rfl (by first | rfl | assumption) rfl (Nat.le_of_ble_eq_true rfl) (Nat.le_of_ble_eq_true rfl) (c_F_addToken _ hFn C p K hS2.2.2.2.1 h6 (by omega) (nI (256 + 2 * (T.getD i 0 - 102) + (if T.getD (i + 2) 0 = 121 then 1 else 0)))) ?_
    rintro v h' ⟨rfl, rfl⟩
    have hS3 := hS2.tok o64 (256 + 2 * (T.getD i 0 - 102) + (if T.getD (i + 2) 0 = 121 then 1 else 0))
    refine am_aload_n rfl rfl ?_
    refine am_dup rfl rfl ?_
    refine ho_getI rfl (by first | rfl | assumption) rfl ?_
    rw [hS3.2.1]
    refine am_iconst (v := nI 1) rfl (by decide) ?_
    first | refine ho_addn rfl ?_ | refine am_iadd rfl ?_
    refine ho_putI rfl (by first | rfl | assumption) rfl rfl ?_
    refine am_aload_n rfl rfl ?_
    refine am_bipush (v := nI 41) rfl (by decide) ?_
    have hS4 := hS3.go o64.2 (i + 3)
    refine ho_cv1 rfl (by first | rfl | assumption) rfl (Nat.le_of_ble_eq_true rfl) (Nat.le_of_ble_eq_true rfl) (c_R_pass hS4.1 (i + 3) hS4.2.1 (by omega) 41 (by decide) (by decide)) ?_
    rintro v h' (⟨e2, rfl, rfl⟩ | ⟨e2, rfl, rfl⟩)
    · exact am_zreturn rfl rfl (Or.inr rfl) ⟨_, rfl, Or.inr ⟨z, Or.inr ⟨rfl, hnf, e1, w, e2, hS4.go o64.2 (i + 4)⟩⟩⟩
    · exact am_zreturn rfl rfl (Or.inl rfl) ⟨_, rfl, Or.inr ⟨z, Or.inl ⟨rfl, hS4.2.2.2.2, Or.inr ⟨hnf, Or.inr ⟨e1, Or.inr ⟨w, e2, hS4.2.1⟩⟩⟩⟩⟩⟩
  refine am_icmp_ne rfl (fun u => ?_) (fun u => ?_)
  · refine am_iconst (v := nI 0) rfl (by decide) ?_
    exact s103 0 (by rw [if_neg (fun q => u ((lkI_eq hT (by decide) (by decide)).mpr q))])
  · refine am_iconst (v := nI 1) rfl (by decide) ?_
    refine am_goto rfl ?_
    exact s103 1 (by rw [if_pos ((lkI_eq hT (by decide) (by decide)).mp u)])
end R6
