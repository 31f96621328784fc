/-! the class: its public methods: type, clear, size, text, valid, kinds, differ, value .. take, read -/
theorem isH_of {mr : Nat → Nat → Option Nat} (hR : SR mr) {t : Nat} (h : t = 70 ∨ t = 73) : isH mr t 12 := by
  rcases h with e | e <;> subst e <;> exact ⟨rfl, rfl, rfl, hR _ _ _ rfl, hR _ _ _ rfl, by decide⟩
theorem isH_of2 {mr : Nat → Nat → Option Nat} (hR : SR mr) {t : Nat} (h : t = 76 ∨ t = 79) : isH mr t 20 := by
  rcases h with e | e <;> subst e <;> exact ⟨rfl, rfl, rfl, hR _ _ _ rfl, hR _ _ _ rfl, by decide⟩
section E1
variable {l : Launch} {d : Nat} {mi : Nat → Nat → Int32} {ml : Nat → Nat → Int64} {mr : Nat → Nat → Option Nat} {S : Rs} {ip : Nat → Nat} {n t : Nat} {N : Nd}
theorem c_X_type (hR : SR mr) (n : Nat) (hn : mi 0 1 = nI n) (hl : n ≤ 80) (c : Nat) (hc : c < 65536) : am_T l d M_X_type 0 [some (.ref 0), some (.int (nI c))] [] (hm mi ml mr) 0 0 (fun r h' => (¬ (32 ≤ c ∧ c ≤ 126 ∧ n < 80) → r = some (.int 0) ∧ h' = hm mi ml mr) ∧ (32 ≤ c ∧ c ≤ 126 ∧ n < 80 → r = some (.int 1) ∧ h' = hm (up2 (up2 mi 1 n (nI c)) 0 1 (nI (n + 1))) ml mr)) := by
  have no : ¬ (32 ≤ c ∧ c ≤ 126 ∧ n < 80) → am_T l d M_X_type 21 [some (.ref 0), some (.int (nI c))] [] (hm mi ml mr) 0 0 (fun r h' => (¬ (32 ≤ c ∧ c ≤ 126 ∧ n < 80) → r = some (.int 0) ∧ h' = hm mi ml mr) ∧ (32 ≤ c ∧ c ≤ 126 ∧ n < 80 → r = some (.int 1) ∧ h' = hm (up2 (up2 mi 1 n (nI c)) 0 1 (nI (n + 1))) ml mr)) := by
    intro h
    refine am_iconst (v := nI 0) rfl (by decide) ?_
    exact am_zreturn rfl rfl (Or.inl rfl) ⟨fun _ => ⟨rfl, rfl⟩, fun q => absurd q h⟩
  refine am_iload_n rfl rfl ?_
  refine am_bipush (v := nI 32) rfl (by decide) ?_
  refine ho_icmp_lt rfl (by omega) (by omega) (fun z => no (by omega)) (fun z => ?_)
  refine am_iload_n rfl rfl ?_
  refine am_bipush (v := nI 126) rfl (by decide) ?_
  refine ho_icmp_gt rfl (by omega) (by omega) (fun y => no (by omega)) (fun y => ?_)
  refine am_aload_n rfl rfl ?_
  refine ho_getI rfl (by first | rfl | assumption) rfl ?_
  rw [hn]
  refine am_bipush (v := nI 80) rfl (by decide) ?_
  refine ho_icmp_lt rfl (by omega) (by omega) (fun x => ?_) (fun x => no (by omega))
  refine am_aload_n rfl rfl ?_
  refine ho_getR rfl (by first | rfl | assumption) rfl (by first | assumption | exact hR _ _ _ rfl) ?_
  refine am_aload_n rfl rfl ?_
  refine ho_getI rfl (by first | rfl | assumption) rfl ?_
  rw [hn]
  refine am_iload_n rfl rfl ?_
  have hch : vp_nar .char (nI c) = nI c := am_char_nar (nI_pos' (by omega)) (by have := nI_le (a := c) (b := 65535) (by omega) (by omega); exact this)
  refine ho_castore rfl rfl (by omega) hch ?_
  refine am_aload_n rfl rfl ?_
  refine am_dup rfl rfl ?_
  refine ho_getI rfl (by first | rfl | assumption) rfl ?_
  rw [up2_off _ _ _ (show (0 : Nat) ≠ 1 by decide), hn]
  refine am_iconst (v := nI 1) rfl (by decide) ?_
  first | refine ho_addn rfl ?_ | refine am_iadd rfl ?_
  refine ho_putI rfl (by first | rfl | assumption) rfl rfl ?_
  refine am_iconst (v := nI 1) rfl (by decide) ?_
  exact am_zreturn rfl rfl (Or.inr rfl) ⟨fun q => absurd ⟨by omega, by omega, x⟩ q, fun _ => ⟨rfl, rfl⟩⟩
theorem c_X_clear : am_T l d M_X_clear 0 [some (.ref 0)] [] (hm mi ml mr) 0 0 (fun r h' => r = none ∧ h' = hm (up2 mi 0 1 (nI 0)) ml mr) := by
  refine am_aload_n rfl rfl ?_
  refine am_iconst (v := nI 0) rfl (by decide) ?_
  refine ho_putI rfl (by first | rfl | assumption) rfl rfl ?_
  exact am_return rfl rfl ⟨rfl, rfl⟩
theorem c_X_size (ht : mr 0 6 = some t) (hk : hs_kind t = (false, 3, 0)) : am_T l d M_X_size 0 [some (.ref 0)] [] (hm mi ml mr) 0 0 (fun r h' => r = some (.int (mi t 2)) ∧ h' = hm mi ml mr) := by
  refine am_aload_n rfl rfl ?_
  refine ho_getR rfl (by first | rfl | assumption) rfl (by first | assumption | exact hR _ _ _ rfl) ?_
  refine ho_getI rfl (by first | rfl | assumption) rfl ?_
  exact am_ireturn rfl rfl ⟨rfl, rfl⟩
theorem c_X_valueSize (ht : mr 0 8 = some t) (hk : hs_kind t = (false, 3, 0)) : am_T l d M_X_valueSize 0 [some (.ref 0)] [] (hm mi ml mr) 0 0 (fun r h' => r = some (.int (mi t 2)) ∧ h' = hm mi ml mr) := by
  refine am_aload_n rfl rfl ?_
  refine ho_getR rfl (by first | rfl | assumption) rfl (by first | assumption | exact hR _ _ _ rfl) ?_
  refine ho_getI rfl (by first | rfl | assumption) rfl ?_
  exact am_ireturn rfl rfl ⟨rfl, rfl⟩
theorem c_X_text {cap : Nat} (ht : mr 0 6 = some t) (hH : isH mr t cap) (hN : HA mi t N) (hl : N.length ≤ cap) (hok : okN 0 N) (k : Int32) : am_T l (d + 2) M_X_text 0 [some (.ref 0), some (.int k)] [] (hm mi ml mr) 0 0 (fun r h' => r = some (.int (at1 (tx N 0) k)) ∧ h' = hm mi ml mr) := by
  have hk := hH.1
  refine am_aload_n rfl rfl ?_
  refine ho_getR rfl (by first | rfl | assumption) rfl (by first | assumption | exact hR _ _ _ rfl) ?_
  refine am_iload_n rfl rfl ?_
  refine ho_cv1 rfl (by first | rfl | assumption) rfl (Nat.le_of_ble_eq_true rfl) (Nat.le_of_ble_eq_true rfl) (c_H_characterAt hH hN hl hok k) ?_
  rintro v h' ⟨rfl, rfl⟩
  exact am_ireturn rfl rfl ⟨rfl, rfl⟩
theorem c_X_value {cap : Nat} (ht : mr 0 8 = some t) (hH : isH mr t cap) (hN : HA mi t N) (hl : N.length ≤ cap) (hok : okN 0 N) (k : Int32) : am_T l (d + 2) M_X_value 0 [some (.ref 0), some (.int k)] [] (hm mi ml mr) 0 0 (fun r h' => r = some (.int (at1 (tx N 0) k)) ∧ h' = hm mi ml mr) := by
  have hk := hH.1
  refine am_aload_n rfl rfl ?_
  refine ho_getR rfl (by first | rfl | assumption) rfl (by first | assumption | exact hR _ _ _ rfl) ?_
  refine am_iload_n rfl rfl ?_
  refine ho_cv1 rfl (by first | rfl | assumption) rfl (Nat.le_of_ble_eq_true rfl) (Nat.le_of_ble_eq_true rfl) (c_H_characterAt hH hN hl hok k) ?_
  rintro v h' ⟨rfl, rfl⟩
  exact am_ireturn rfl rfl ⟨rfl, rfl⟩
theorem c_X_valid {cap : Nat} (hR : SR mr) (hS : okS S) (hX : repX S ip n mi ml) (ht : mr 0 6 = some t) (hH : isH mr t cap) (hN : HA mi t N) (hl : N.length ≤ cap) (x : Int32) : am_T l (d + 3) M_X_valid 0 [some (.ref 0), some (.int x)] [] (hm mi ml mr) 0 0 (fun r h' => (isNm x = false ∧ r = some (.int (bI false)) ∧ h' = hm mi ml mr) ∨ (isNm x = true ∧ ∃ a ml', a < 6 ∧ x = nI a ∧ h' = hm mi ml' mr ∧ (∀ b, b ≠ 92 → ml' b = ml b) ∧ (∀ j, j < N.length → NM S N (ml' 92) j) ∧ r = some (.int (bI (inN S (tb (if N.length = 0 then K0 S else ml' 92 0)) a))))) := by
  have hk := hH.1
  refine am_iload_n rfl rfl ?_
  refine ho_cs1 rfl rfl (Nat.le_of_ble_eq_true rfl) (Nat.le_of_ble_eq_true rfl) (c_X_isNameNumber x) ?_
  rintro v h' ⟨rfl, rfl⟩
  refine am_if_eq rfl (fun z => ?_) (fun z => ?_)
  · refine am_iconst (v := nI 0) rfl (by decide) ?_
    exact am_zreturn rfl rfl (Or.inl rfl) (Or.inl ⟨(bI_eq _).mp z, rfl, rfl⟩)
  have z := (bI_ne _).mp z
  obtain ⟨a, ha, rfl⟩ := isNm_nI z
  refine am_aload_n rfl rfl ?_
  refine ho_getR rfl (by first | rfl | assumption) rfl (by first | assumption | exact hR _ _ _ rfl) ?_
  refine am_aload_n rfl rfl ?_
  refine ho_getR rfl (by first | rfl | assumption) rfl (by first | assumption | exact hR _ _ _ rfl) ?_
  refine am_aload_n rfl rfl ?_
  refine ho_getR rfl (by first | rfl | assumption) rfl (by first | assumption | exact hR _ _ _ rfl) ?_
  refine ho_cv1 rfl (by first | rfl | assumption) rfl (Nat.le_of_ble_eq_true rfl) (Nat.le_of_ble_eq_true rfl) (c_S_ofHedge ml hR hS hX hH hN hl) ?_
  rintro v h' ⟨ml', g1, g2, g3, rfl, rfl⟩
  refine am_iload_n rfl rfl ?_
  refine ho_cv2 rfl (by first | rfl | assumption) rfl (Nat.le_of_ble_eq_true rfl) (Nat.le_of_ble_eq_true rfl) (c_S_belongs hR hS g1 _ a ha) ?_
  rintro v h' ⟨rfl, rfl⟩
  refine am_if_eq rfl (fun y => ?_) (fun y => ?_)
  · refine am_iconst (v := nI 0) rfl (by decide) ?_
    exact am_zreturn rfl rfl (Or.inl rfl) (Or.inr ⟨z, a, ml', ha, rfl, rfl, g2, g3, by rw [(bI_eq _).mp y]; rfl⟩)
  · refine am_iconst (v := nI 1) rfl (by decide) ?_
    refine am_goto rfl ?_
    exact am_zreturn rfl rfl (Or.inr rfl) (Or.inr ⟨z, a, ml', ha, rfl, rfl, g2, g3, by rw [(bI_ne _).mp y]; rfl⟩)
theorem c_X_valueValid {cap : Nat} (hR : SR mr) (hS : okS S) (hX : repX S ip n mi ml) (ht : mr 0 8 = some t) (hH : isH mr t cap) (hN : HA mi t N) (hl : N.length ≤ cap) (x : Int32) : am_T l (d + 3) M_X_valueValid 0 [some (.ref 0), some (.int x)] [] (hm mi ml mr) 0 0 (fun r h' => (isNm x = false ∧ r = some (.int (bI false)) ∧ h' = hm mi ml mr) ∨ (isNm x = true ∧ ∃ a ml', a < 6 ∧ x = nI a ∧ h' = hm mi ml' mr ∧ (∀ b, b ≠ 92 → ml' b = ml b) ∧ (∀ j, j < N.length → NM S N (ml' 92) j) ∧ r = some (.int (bI (inN S (tb (if N.length = 0 then K0 S else ml' 92 0)) a))))) := by
  have hk := hH.1
  refine am_iload_n rfl rfl ?_
  refine ho_cs1 rfl rfl (Nat.le_of_ble_eq_true rfl) (Nat.le_of_ble_eq_true rfl) (c_X_isNameNumber x) ?_
  rintro v h' ⟨rfl, rfl⟩
  refine am_if_eq rfl (fun z => ?_) (fun z => ?_)
  · refine am_iconst (v := nI 0) rfl (by decide) ?_
    exact am_zreturn rfl rfl (Or.inl rfl) (Or.inl ⟨(bI_eq _).mp z, rfl, rfl⟩)
  have z := (bI_ne _).mp z
  obtain ⟨a, ha, rfl⟩ := isNm_nI z
  refine am_aload_n rfl rfl ?_
  refine ho_getR rfl (by first | rfl | assumption) rfl (by first | assumption | exact hR _ _ _ rfl) ?_
  refine am_aload_n rfl rfl ?_
  refine ho_getR rfl (by first | rfl | assumption) rfl (by first | assumption | exact hR _ _ _ rfl) ?_
  refine am_aload_n rfl rfl ?_
  refine ho_getR rfl (by first | rfl | assumption) rfl (by first | assumption | exact hR _ _ _ rfl) ?_
  refine ho_cv1 rfl (by first | rfl | assumption) rfl (Nat.le_of_ble_eq_true rfl) (Nat.le_of_ble_eq_true rfl) (c_S_ofHedge ml hR hS hX hH hN hl) ?_
  rintro v h' ⟨ml', g1, g2, g3, rfl, rfl⟩
  refine am_iload_n rfl rfl ?_
  refine ho_cv2 rfl (by first | rfl | assumption) rfl (Nat.le_of_ble_eq_true rfl) (Nat.le_of_ble_eq_true rfl) (c_S_belongs hR hS g1 _ a ha) ?_
  rintro v h' ⟨rfl, rfl⟩
  refine am_if_eq rfl (fun y => ?_) (fun y => ?_)
  · refine am_iconst (v := nI 0) rfl (by decide) ?_
    exact am_zreturn rfl rfl (Or.inl rfl) (Or.inr ⟨z, a, ml', ha, rfl, rfl, g2, g3, by rw [(bI_eq _).mp y]; rfl⟩)
  · refine am_iconst (v := nI 1) rfl (by decide) ?_
    refine am_goto rfl ?_
    exact am_zreturn rfl rfl (Or.inr rfl) (Or.inr ⟨z, a, ml', ha, rfl, rfl, g2, g3, by rw [(bI_ne _).mp y]; rfl⟩)
theorem c_X_kinds (hR : SR mr) (hS : okS S) (hX : repX S ip n mi ml) (kn : Bool) (hkn : mi 93 1 = bI kn) (hk : kn = true → ∃ cnt tm, XKn S ip n cnt tm mi ml) : am_T l (d + 5) M_X_kinds 0 [some (.ref 0)] [] (hm mi ml mr) 0 0 (fun r h' => ∃ cnt tm mi' ml', h' = hm mi' ml' mr ∧ repX S ip n mi' ml' ∧ XKn S ip n cnt tm mi' ml' ∧ mi' 93 1 = bI true ∧ Fy mi mi' ml ml' ∧ r = some (.int (if tm then -3 else nI cnt))) := by
  refine am_aload_n rfl rfl ?_
  refine ho_getR rfl (by first | rfl | assumption) rfl (by first | assumption | exact hR _ _ _ rfl) ?_
  refine ho_cv0 rfl (by first | rfl | assumption) rfl (Nat.le_of_ble_eq_true rfl) (Nat.le_of_ble_eq_true rfl) (c_K_fitsRoom hR hS mi ml hX kn hkn hk) ?_
  rintro v h' ⟨cnt, tm, mi1, ml1, rfl, rfl, g1, g2, g3, g4⟩
  obtain ⟨L, hK, -⟩ := id g2
  cases tm with
  | true =>
    refine am_if_eq rfl (fun _ => ?_) (fun q => absurd rfl q)
    refine am_bipush (v := -3) rfl (by decide) ?_
    exact am_ireturn rfl rfl ⟨cnt, true, mi1, ml1, rfl, g1, g2, g3, g4, rfl⟩
  | false =>
    refine am_if_eq rfl (fun q => by cases q) (fun _ => ?_)
    refine am_aload_n rfl rfl ?_
    refine ho_getR rfl (by first | rfl | assumption) rfl (by first | assumption | exact hR _ _ _ rfl) ?_
    refine ho_getI rfl (by first | rfl | assumption) rfl ?_
    rw [hK.2.1.1]
    refine am_goto rfl ?_
    exact am_ireturn rfl rfl ⟨cnt, false, mi1, ml1, rfl, g1, g2, g3, g4, rfl⟩
theorem c_X_differ (hR : SR mr) (hS : okS S) (hX : repX S ip n mi ml) (kn : Bool) (hkn : mi 93 1 = bI kn) (hk : kn = true → ∃ cnt tm, XKn S ip n cnt tm mi ml) (x y : Int32) : am_T l (d + 5) M_X_differ 0 [some (.ref 0), some (.int x), some (.int y)] [] (hm mi ml mr) 0 0 (fun r h' => ((isNm x && isNm y) = false ∧ r = some (.long (-2)) ∧ h' = hm mi ml mr) ∨ ((isNm x && isNm y) = true ∧ ∃ cnt tm mi' ml', h' = hm mi' ml' mr ∧ repX S ip n mi' ml' ∧ XKn S ip n cnt tm mi' ml' ∧ mi' 93 1 = bI true ∧ Fy mi mi' ml ml' ∧ ((tm = true ∧ r = some (.long (-3))) ∨ (tm = false ∧ ∃ a b v z, a < 6 ∧ b < 6 ∧ x = nI a ∧ y = nI b ∧ XV S cnt v ml' ∧ FinV S (ml' 94) cnt v ∧ r = some (.long z) ∧ Lst (tb (ml' 101 a &&& (ml' 101 b ^^^ (-1)))) cnt v z)))) := by
  have no : (isNm x && isNm y) = false → am_T l (d + 5) M_X_differ 14 [some (.ref 0), some (.int x), some (.int y)] [] (hm mi ml mr) 0 0 (fun r h' => ((isNm x && isNm y) = false ∧ r = some (.long (-2)) ∧ h' = hm mi ml mr) ∨ ((isNm x && isNm y) = true ∧ ∃ cnt tm mi' ml', h' = hm mi' ml' mr ∧ repX S ip n mi' ml' ∧ XKn S ip n cnt tm mi' ml' ∧ mi' 93 1 = bI true ∧ Fy mi mi' ml ml' ∧ ((tm = true ∧ r = some (.long (-3))) ∨ (tm = false ∧ ∃ a b v z, a < 6 ∧ b < 6 ∧ x = nI a ∧ y = nI b ∧ XV S cnt v ml' ∧ FinV S (ml' 94) cnt v ∧ r = some (.long z) ∧ Lst (tb (ml' 101 a &&& (ml' 101 b ^^^ (-1)))) cnt v z)))) := by
    intro e
    refine am_ldc2m rfl rfl ?_
    exact am_lreturn rfl rfl (Or.inl ⟨e, rfl, rfl⟩)
  refine am_iload_n rfl rfl ?_
  refine ho_cs1 rfl rfl (Nat.le_of_ble_eq_true rfl) (Nat.le_of_ble_eq_true rfl) (c_X_isNameNumber x) ?_
  rintro v h' ⟨rfl, rfl⟩
  refine am_if_eq rfl (fun z => no (by rw [(bI_eq _).mp z]; rfl)) (fun z => ?_)
  have z := (bI_ne _).mp z
  refine am_iload_n rfl rfl ?_
  refine ho_cs1 rfl rfl (Nat.le_of_ble_eq_true rfl) (Nat.le_of_ble_eq_true rfl) (c_X_isNameNumber y) ?_
  rintro v h' ⟨rfl, rfl⟩
  refine am_if_ne rfl (fun w => ?_) (fun w => no (by rw [(bI_eq _).mp w, Bool.and_false]))
  have w := (bI_ne _).mp w
  have hb : (isNm x && isNm y) = true := by rw [z, w]; rfl
  obtain ⟨a, ha, rfl⟩ := isNm_nI z
  obtain ⟨b, hb6, rfl⟩ := isNm_nI w
  refine am_aload_n rfl rfl ?_
  refine ho_getR rfl (by first | rfl | assumption) rfl (by first | assumption | exact hR _ _ _ rfl) ?_
  refine ho_cv0 rfl (by first | rfl | assumption) rfl (Nat.le_of_ble_eq_true rfl) (Nat.le_of_ble_eq_true rfl) (c_K_fitsRoom hR hS mi ml hX kn hkn hk) ?_
  rintro v h' ⟨cnt, tm, mi1, ml1, rfl, rfl, g1, g2, g3, g4⟩
  cases tm with
  | true =>
    refine am_if_ne rfl (fun q => absurd rfl q) (fun _ => ?_)
    refine am_ldc2m rfl rfl ?_
    exact am_lreturn rfl rfl (Or.inr ⟨hb, cnt, true, mi1, ml1, rfl, g1, g2, g3, g4, Or.inl ⟨rfl, rfl⟩⟩)
  | false =>
    refine am_if_ne rfl (fun _ => ?_) (fun q => by cases q)
    obtain ⟨L, hK, hK2⟩ := id g2
    obtain ⟨hA, hM, u, hV, hFin⟩ := hK2 rfl
    refine am_aload_n rfl rfl ?_
    refine ho_getR rfl (by first | rfl | assumption) rfl (by first | assumption | exact hR _ _ _ rfl) ?_
    refine am_aload_n rfl rfl ?_
    refine ho_getR rfl (by first | rfl | assumption) rfl (by first | assumption | exact hR _ _ _ rfl) ?_
    refine ho_getR rfl (by first | rfl | assumption) rfl (by first | assumption | exact hR _ _ _ rfl) ?_
    refine am_iload_n rfl rfl ?_
    refine ho_laload rfl (by first | rfl | assumption) (by omega) ?_
    refine am_aload_n rfl rfl ?_
    refine ho_getR rfl (by first | rfl | assumption) rfl (by first | assumption | exact hR _ _ _ rfl) ?_
    refine ho_getR rfl (by first | rfl | assumption) rfl (by first | assumption | exact hR _ _ _ rfl) ?_
    refine am_iload_n rfl rfl ?_
    refine ho_laload rfl (by first | rfl | assumption) (by omega) ?_
    refine am_ldc2m rfl rfl ?_
    refine am_lxor rfl ?_
    refine am_land rfl ?_
    refine ho_cv1 rfl (by first | rfl | assumption) rfl (Nat.le_of_ble_eq_true rfl) (Nat.le_of_ble_eq_true rfl) (c_K_leastOf hR hK.1.1.2 hK.2.1.1 u hV.1 hV.2.2.1 _) ?_
    rintro v h' ⟨r, rfl, rfl, hr⟩
    exact am_lreturn rfl rfl (Or.inr ⟨hb, cnt, false, mi1, ml1, rfl, g1, g2, g3, g4, Or.inr ⟨rfl, a, b, u, r, ha, hb6, rfl, rfl, hV, hFin, rfl, hr⟩⟩)
theorem c_X_take {u : Nat} {V : Nd} (hH : isH mr t 12) (hU : isH mr u 20) (ht : mr 0 6 = some t) (hu : mr 0 8 = some u) (htu : t = 70 ∨ t = 73) (huu : u = 76 ∨ u = 79) (hV : HA mi u V) (hl : V.length ≤ 20) : am_T l (d + 2) M_X_take 0 [some (.ref 0)] [] (hm mi ml mr) 0 0 (fun r h' => (12 < V.length ∧ r = some (.int 0) ∧ h' = hm mi ml mr) ∨ (V.length ≤ 12 ∧ r = some (.int 1) ∧ ∃ mi', h' = hm mi' ml mr ∧ HA mi' t V ∧ ∀ a, a ≠ t → a ≠ t + 1 → a ≠ t + 2 → mi' a = mi a)) := by
  have k1 := hH.1
  have k2 := hU.1
  refine am_aload_n rfl rfl ?_
  refine ho_getR rfl (by first | rfl | assumption) rfl (by first | assumption | exact hR _ _ _ rfl) ?_
  refine ho_getI rfl (by first | rfl | assumption) rfl ?_
  rw [hV.1]
  refine am_bipush (v := nI 12) rfl (by decide) ?_
  refine ho_icmp_le rfl (by omega) (by omega) (fun z => ?_) (fun z => ?_)
  · refine am_aload_n rfl rfl ?_
    refine ho_getR rfl (by first | rfl | assumption) rfl (by first | assumption | exact hR _ _ _ rfl) ?_
    refine am_aload_n rfl rfl ?_
    refine ho_getR rfl (by first | rfl | assumption) rfl (by first | assumption | exact hR _ _ _ rfl) ?_
    refine ho_cv1 rfl (by first | rfl | assumption) rfl (Nat.le_of_ble_eq_true rfl) (Nat.le_of_ble_eq_true rfl) (c_H_copyFrom hH hU (by omega) hV z hl) ?_
    rintro v h' ⟨rfl, mi', rfl, h1, h2⟩
    refine am_iconst (v := nI 1) rfl (by decide) ?_
    exact am_zreturn rfl rfl (Or.inr rfl) (Or.inr ⟨z, rfl, mi', rfl, h1, h2⟩)
  · refine am_iconst (v := nI 0) rfl (by decide) ?_
    exact am_zreturn rfl rfl (Or.inl rfl) (Or.inl ⟨by omega, rfl, rfl⟩)
theorem c_R_open {w t : Nat} {x : Int32} : am_T l d M_R_open 0 [some (.ref 82), some (.ref w), some (.int x)] [] (hm mi ml mr) 0 0 (fun r h' => r = none ∧ h' = hm (up2 mi 82 1 x) ml (up2 mr 82 0 (some w))) := by
  refine am_aload_n rfl rfl ?_
  refine am_aload_n rfl rfl ?_
  refine ho_putR rfl (by first | rfl | assumption) rfl ?_
  refine am_aload_n rfl rfl ?_
  refine am_iload_n rfl rfl ?_
  refine ho_putI rfl (by first | rfl | assumption) rfl rfl ?_
  exact am_return rfl rfl ⟨rfl, rfl⟩
theorem SR_82 {w : Nat} (hR : SR mr) : SR (up2 mr 82 0 (some w)) := by
  intro k j b h
  unfold up2
  split
  · next q =>
    rw [q.1, q.2] at h
    cases h
  · exact hR k j b h
theorem c_X_changeDocument {t u : Nat} (hR : SR mr) (ht : mr 0 6 = some t) (hu : mr 0 7 = some u) : am_T l d M_X_changeDocument 0 [some (.ref 0), none] [] (hm mi ml mr) 0 0 (fun r h' => r = none ∧ h' = hm mi ml (up2 (up2 mr 0 6 (some u)) 0 7 (some t))) := by
  refine am_aload_n rfl rfl ?_
  refine ho_getR rfl (by first | rfl | assumption) rfl (by first | assumption | exact hR _ _ _ rfl) ?_
  refine am_astore_n rfl (Nat.le_of_ble_eq_true rfl) ?_
  show am_T _ _ _ _ [_, some _] _ _ _ _ _
  refine am_aload_n rfl rfl ?_
  refine am_aload_n rfl rfl ?_
  refine ho_getR rfl (by first | rfl | assumption) rfl (by first | assumption | exact hR _ _ _ rfl) ?_
  refine ho_putR rfl (by first | rfl | assumption) rfl ?_
  refine am_aload_n rfl rfl ?_
  refine am_aload_n rfl rfl ?_
  refine ho_putR rfl rfl rfl ?_
  exact am_return rfl rfl ⟨rfl, rfl⟩
theorem SR_doc {t u : Nat} (hR : SR mr) : SR (up2 (up2 mr 0 6 (some u)) 0 7 (some t)) := by
  intro k j b h
  unfold up2
  split
  · next q =>
    rw [q.1, q.2] at h
    cases h
  · split
    · next q =>
      rw [q.1, q.2] at h
      cases h
    · exact hR k j b h
theorem c_X_read {T : List Nat} {t u : Nat} (hR : SR mr) (hP : PX T mi) (h80 : T.length ≤ 80) (hT : okT T) (ht : mr 0 6 = some t) (hu : mr 0 7 = some u) (huu : u = 70 ∨ u = 73) : am_T l (d + 2) M_X_read 0 [some (.ref 0)] [] (hm mi ml mr) 0 0 (fun r h' => ∃ mi', Fh u (up2 mi 82 1 (nI T.length)) mi' ∧ match hScan T (T.length + 1) 0 0 [] with
    | .inl s => r = some (.int (nI (1 + s))) ∧ h' = hm mi' ml (up2 mr 82 0 (some 1))
    | .inr N => r = some (.int 0) ∧ HA mi' u N ∧ h' = hm mi' ml (up2 (up2 (up2 mr 82 0 (some 1)) 0 6 (some u)) 0 7 (some t))) := by
  have hR1 := SR_82 (w := 1) hR
  have hu1 : up2 mr 82 0 (some 1) 0 7 = some u := by rw [up2_off _ _ _ (by decide)]; exact hu
  have ht1 : up2 mr 82 0 (some 1) 0 6 = some t := by rw [up2_off _ _ _ (by decide)]; exact ht
  have hrd : rd 1 80 T (up2 mi 82 1 (nI T.length)) (up2 mr 82 0 (some 1)) := ⟨by simp [up2], rfl, h80, by decide, by simp [up2], fun i hi => by rw [up2_off _ _ _ (by decide)]; exact hP.2 i hi, hT⟩
  refine am_aload_n rfl rfl ?_
  refine ho_getR rfl (by first | rfl | assumption) rfl (by first | assumption | exact hR _ _ _ rfl) ?_
  refine am_aload_n rfl rfl ?_
  refine ho_getR rfl (by first | rfl | assumption) rfl (by first | assumption | exact hR _ _ _ rfl) ?_
  refine am_aload_n rfl rfl ?_
  refine ho_getI rfl (by first | rfl | assumption) rfl ?_
  rw [hP.1]
  refine ho_cv2 rfl (by first | rfl | assumption) rfl (Nat.le_of_ble_eq_true rfl) (Nat.le_of_ble_eq_true rfl) (c_R_open (t := 0)) ?_
  rintro v h' ⟨rfl, rfl⟩
  refine am_aload_n rfl rfl ?_
  refine ho_getR rfl rfl rfl (hR1 _ _ _ rfl) ?_
  refine am_aload_n rfl rfl ?_
  refine ho_getR rfl rfl rfl hu1 ?_
  refine ho_cv1 rfl (by first | rfl | assumption) rfl (Nat.le_of_ble_eq_true rfl) (Nat.le_of_ble_eq_true rfl) (c_R_readHedge (isH_of hR1 huu) (by omega) (by omega) _ hrd) ?_
  cases hs : hScan T (T.length + 1) 0 0 [] with
  | inl s =>
    rintro v h' ⟨mi', rfl, hF, rfl, hat⟩
    refine am_if_ne rfl (fun z => absurd rfl z) (fun _ => ?_)
    refine am_iconst (v := nI 1) rfl (by decide) ?_
    refine am_aload_n rfl rfl ?_
    refine ho_getR rfl rfl rfl (hR1 _ _ _ rfl) ?_
    refine ho_getI rfl rfl rfl ?_
    rw [hat]
    refine ho_addn rfl ?_
    exact am_ireturn rfl rfl ⟨mi', hF, rfl, rfl⟩
  | inr N =>
    rintro v h' ⟨mi', rfl, hF, rfl, hA⟩
    refine am_if_ne rfl (fun _ => ?_) (fun z => by cases z)
    refine am_aload_n rfl rfl ?_
    refine ho_cv0 rfl (by first | rfl | assumption) rfl (Nat.le_of_ble_eq_true rfl) (Nat.le_of_ble_eq_true rfl) (c_X_changeDocument hR1 ht1 hu1) ?_
    rintro v h' ⟨rfl, rfl⟩
    refine am_iconst (v := nI 0) rfl (by decide) ?_
    exact am_ireturn rfl rfl ⟨mi', hF, rfl, hA, rfl⟩
end E1
