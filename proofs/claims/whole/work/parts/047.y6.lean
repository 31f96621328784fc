/-! both: a name's number -/
def isNm (x : Int32) : Bool := decide (0 ≤ x.toInt ∧ x.toInt < 6)
theorem isNm_nI {x : Int32} (h : isNm x = true) : ∃ a, a < 6 ∧ x = nI a := by
  obtain ⟨h1, h2⟩ := of_decide_eq_true h
  refine ⟨x.toInt.toNat, by omega, ?_⟩
  rw [← Int32.toInt_inj, nI_toInt (by omega)]
  omega
section Y6
variable {l : Launch} {d : Nat} {h : am_H}
theorem c_X_isNameNumber (x : Int32) : am_T l d M_X_isNameNumber 0 [some (.int x)] [] h 0 0 (fun r h' => r = some (.int (bI (isNm x))) ∧ h' = h) := by
  refine am_iload_n rfl rfl ?_
  refine am_if_lt rfl (fun q => ?_) (fun q => ?_)
  · have q' := Int32.lt_iff_toInt_lt.mp q
    rw [show (0 : Int32).toInt = 0 from rfl] at q'
    refine am_iconst (v := nI 0) rfl (by decide) ?_
    exact am_zreturn rfl rfl (Or.inl rfl) ⟨by rw [show isNm x = false from decide_eq_false (by omega)]; rfl, rfl⟩
  have q' : ¬ x.toInt < 0 := fun z => q (Int32.lt_iff_toInt_lt.mpr z)
  refine am_iload_n rfl rfl ?_
  refine am_bipush (v := nI 6) rfl (by decide) ?_
  refine am_icmp_ge rfl (fun w => ?_) (fun w => ?_)
  · have w' := Int32.le_iff_toInt_le.mp w
    rw [show (nI 6).toInt = 6 from rfl] at w'
    refine am_iconst (v := nI 0) rfl (by decide) ?_
    exact am_zreturn rfl rfl (Or.inl rfl) ⟨by rw [show isNm x = false from decide_eq_false (by omega)]; rfl, rfl⟩
  · have w' : ¬ 6 ≤ x.toInt := fun z => w (Int32.le_iff_toInt_le.mpr z)
    refine am_iconst (v := nI 1) rfl (by decide) ?_
    refine am_goto rfl ?_
    exact am_zreturn rfl rfl (Or.inr rfl) ⟨by rw [show isNm x = true from decide_eq_true (by omega)]; rfl, rfl⟩
theorem c_m_isName (x : Int32) : am_T l d M_m_isName 0 [some (.int x)] [] h 0 0 (fun r h' => r = some (.int (bI (isNm x))) ∧ h' = h) := by
  refine am_iload_n rfl rfl ?_
  refine am_if_lt rfl (fun q => ?_) (fun q => ?_)
  · have q' := Int32.lt_iff_toInt_lt.mp q
    rw [show (0 : Int32).toInt = 0 from rfl] at q'
    refine am_iconst (v := nI 0) rfl (by decide) ?_
    exact am_zreturn rfl rfl (Or.inl rfl) ⟨by rw [show isNm x = false from decide_eq_false (by omega)]; rfl, rfl⟩
  have q' : ¬ x.toInt < 0 := fun z => q (Int32.lt_iff_toInt_lt.mpr z)
  refine am_iload_n rfl rfl ?_
  refine am_iconst (v := nI 5) rfl (by decide) ?_
  refine am_icmp_gt rfl (fun w => ?_) (fun w => ?_)
  · have w' := Int32.lt_iff_toInt_lt.mp w
    rw [show (nI 5).toInt = 5 from rfl] at w'
    refine am_iconst (v := nI 0) rfl (by decide) ?_
    exact am_zreturn rfl rfl (Or.inl rfl) ⟨by rw [show isNm x = false from decide_eq_false (by omega)]; rfl, rfl⟩
  · have w' : ¬ 5 < x.toInt := fun z => w (Int32.lt_iff_toInt_lt.mpr z)
    refine am_iconst (v := nI 1) rfl (by decide) ?_
    refine am_goto rfl ?_
    exact am_zreturn rfl rfl (Or.inr rfl) ⟨by rw [show isNm x = true from decide_eq_true (by omega)]; rfl, rfl⟩
end Y6
