/-! the class: least -/
section Y7
variable {l : Launch} {d : Nat} {mr : Nat → Nat → Option Nat} {S : Rs} {ip : Nat → Nat} {n : Nat}
theorem c_X_least (hR : SR mr) (hS : okS S) (mi : Nat → Nat → Int32) (ml : Nat → Nat → Int64) (hX : repX S ip n mi ml) (kn : Bool) (hkn : mi 93 1 = bI kn) (hk : kn = true → ∃ cnt tm, XKn S ip n cnt tm mi ml) (x : Int32) : am_T l (d + 5) M_X_least 0 [some (.ref 0), some (.int x)] [] (hm mi ml mr) 0 0 (fun r h' => (isNm x = false ∧ r = some (.long (-2)) ∧ h' = hm mi ml mr) ∨ (isNm x = true ∧ ∃ cnt tm mi' ml', h' = hm mi' ml' mr ∧ repX S ip n mi' ml' ∧ XKn S ip n cnt tm mi' ml' ∧ mi' 93 1 = bI true ∧ Fy mi mi' ml ml' ∧ ((tm = true ∧ r = some (.long (-3))) ∨ (tm = false ∧ ∃ a v y, a < 6 ∧ x = nI a ∧ XV S cnt v ml' ∧ FinV S (ml' 94) cnt v ∧ r = some (.long y) ∧ Lst (tb (ml' 101 a)) cnt v y)))) := by
  refine am_iload_n rfl rfl ?_
  refine ho_cs1 rfl rfl (Nat.le_of_ble_eq_true rfl) (Nat.le_of_ble_eq_true rfl) (c_X_isNameNumber x) ?_
  rintro v h' ⟨rfl, rfl⟩
  show am_T _ _ _ _ _ (_ :: []) _ _ _ _
  refine am_if_ne rfl (fun q => ?_) (fun q => ?_)
  · have hx := (bI_ne _).mp q
    refine am_aload_n rfl rfl ?_
    refine ho_getR rfl (by first | rfl | assumption) rfl (by first | assumption | exact hR _ _ _ rfl) ?_
    refine ho_cv0 rfl (by first | rfl | assumption) rfl (Nat.le_of_ble_eq_true rfl) (Nat.le_of_ble_eq_true rfl) (c_K_fitsRoom hR hS mi ml hX kn hkn hk) ?_
    rintro v h' ⟨cnt, tm, mi1, ml1, rfl, rfl, g1, g2, g3, g4⟩
    show am_T _ _ _ _ _ (_ :: []) _ _ _ _
    refine am_if_ne rfl (fun q2 => ?_) (fun q2 => ?_)
    · have htm : tm = false := by
        have := (bI_ne _).mp q2
        cases tm with
        | false => rfl
        | true => cases this
      subst htm
      obtain ⟨a, ha, rfl⟩ := isNm_nI hx
      obtain ⟨L, hK, hK2⟩ := id g2
      obtain ⟨hA, hM, w, hV, hFin⟩ := hK2 rfl
      refine am_aload_n rfl rfl ?_
      refine ho_getR rfl (by first | rfl | assumption) rfl (by first | assumption | exact hR _ _ _ rfl) ?_
      refine am_aload_n rfl rfl ?_
      refine ho_getR rfl (by first | rfl | assumption) rfl (by first | assumption | exact hR _ _ _ rfl) ?_
      refine ho_getR rfl (by first | rfl | assumption) rfl (by first | assumption | exact hR _ _ _ rfl) ?_
      refine am_iload_n rfl rfl ?_
      refine ho_laload rfl (by first | rfl | assumption) (by omega) ?_
      refine ho_cv1 rfl (by first | rfl | assumption) rfl (Nat.le_of_ble_eq_true rfl) (Nat.le_of_ble_eq_true rfl) (c_K_leastOf hR hK.1.1.2 hK.2.1.1 w hV.1 hV.2.2.1 (ml1 101 a)) ?_
      rintro v h' ⟨y, rfl, rfl, hy⟩
      show am_T _ _ _ _ _ (_ :: []) _ _ _ _
      exact am_lreturn rfl rfl (Or.inr ⟨hx, cnt, false, mi1, ml1, rfl, g1, g2, g3, g4, Or.inr ⟨rfl, a, w, y, ha, rfl, hV, hFin, rfl, hy⟩⟩)
    · have htm : tm = true := by
        have := (bI_eq _).mp q2
        cases tm with
        | true => rfl
        | false => cases this
      refine am_ldc2m rfl rfl ?_
      exact am_lreturn rfl rfl (Or.inr ⟨hx, cnt, tm, mi1, ml1, rfl, g1, g2, g3, g4, Or.inl ⟨htm, rfl⟩⟩)
  · refine am_ldc2m rfl rfl ?_
    exact am_lreturn rfl rfl (Or.inl ⟨(bI_eq _).mp q, rfl, rfl⟩)
end Y7
