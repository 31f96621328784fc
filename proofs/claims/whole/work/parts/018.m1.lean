/-! the reference: its smallest methods -/
def bI (p : Bool) : Int32 := if p then 1 else 0
theorem bI_01 (p : Bool) : bI p = 0 ∨ bI p = 1 := by cases p <;> simp [bI]
theorem bI_ne (p : Bool) : ¬ bI p = 0 ↔ p = true := by cases p <;> simp [bI]
theorem bI_eq (p : Bool) : bI p = 0 ↔ p = false := by cases p <;> simp [bI]
def isDig (k : Nat) : Bool := decide (48 ≤ k ∧ k ≤ 57)
def isLab (k : Nat) : Bool := decide (97 ≤ k ∧ k ≤ 100)
def isNam (k : Nat) : Bool := decide (65 ≤ k ∧ k ≤ 70)
def isFun (k : Nat) : Bool := decide (102 ≤ k ∧ k ≤ 104)
/-- an array holds a text -/
def txt (mi : Nat → Nat → Int32) (a : Nat) (T : List Nat) : Prop := ∀ i, i < T.length → mi a i = nI (T.getD i 0)
/-- the references that never change -/
def SR (mr : Nat → Nat → Option Nat) : Prop := ∀ k j b, hs_st k j = some b → mr k j = some b
def okT (T : List Nat) : Prop := ∀ c ∈ T, c < 127
theorem okT_at {T : List Nat} (h : okT T) (i : Nat) : T.getD i 0 < 127 := by
  rw [List.getD_eq_getElem?_getD]
  cases hi : T[i]? with
  | none => simp
  | some c => exact h c (List.mem_of_getElem? hi)
section M1
variable {l : Launch} {d : Nat} {mi : Nat → Nat → Int32} {ml : Nat → Nat → Int64} {mr : Nat → Nat → Option Nat} {h : am_H}
theorem c_m_digit (k : Nat) (hk : k < 65536) : am_T l d M_m_digit 0 [some (.int (nI k))] [] h 0 0 (fun r h' => r = some (.int (bI (isDig k))) ∧ h' = h) := by
  refine am_iload_n rfl rfl ?_
  refine am_bipush (v := nI 48) rfl (by decide) ?_
  refine ho_icmp_lt rfl (by omega) (by omega) (fun h1 => ?_) (fun h1 => ?_)
  · refine am_iconst (v := nI 0) rfl (by decide) ?_
    exact am_zreturn rfl rfl (Or.inl rfl) ⟨by rw [show isDig k = false from decide_eq_false (by omega)]; rfl, rfl⟩
  refine am_iload_n rfl rfl ?_
  refine am_bipush (v := nI 57) rfl (by decide) ?_
  refine ho_icmp_gt rfl (by omega) (by omega) (fun h2 => ?_) (fun h2 => ?_)
  · refine am_iconst (v := nI 0) rfl (by decide) ?_
    exact am_zreturn rfl rfl (Or.inl rfl) ⟨by rw [show isDig k = false from decide_eq_false (by omega)]; rfl, rfl⟩
  · refine am_iconst (v := nI 1) rfl (by decide) ?_
    refine am_goto rfl ?_
    exact am_zreturn rfl rfl (Or.inr rfl) ⟨by rw [show isDig k = true from decide_eq_true (by omega)]; rfl, rfl⟩
theorem c_m_label (k : Nat) (hk : k < 65536) : am_T l d M_m_label 0 [some (.int (nI k))] [] h 0 0 (fun r h' => r = some (.int (bI (isLab k))) ∧ h' = h) := by
  refine am_iload_n rfl rfl ?_
  refine am_bipush (v := nI 97) rfl (by decide) ?_
  refine ho_icmp_lt rfl (by omega) (by omega) (fun h1 => ?_) (fun h1 => ?_)
  · refine am_iconst (v := nI 0) rfl (by decide) ?_
    exact am_zreturn rfl rfl (Or.inl rfl) ⟨by rw [show isLab k = false from decide_eq_false (by omega)]; rfl, rfl⟩
  refine am_iload_n rfl rfl ?_
  refine am_bipush (v := nI 100) rfl (by decide) ?_
  refine ho_icmp_gt rfl (by omega) (by omega) (fun h2 => ?_) (fun h2 => ?_)
  · refine am_iconst (v := nI 0) rfl (by decide) ?_
    exact am_zreturn rfl rfl (Or.inl rfl) ⟨by rw [show isLab k = false from decide_eq_false (by omega)]; rfl, rfl⟩
  · refine am_iconst (v := nI 1) rfl (by decide) ?_
    refine am_goto rfl ?_
    exact am_zreturn rfl rfl (Or.inr rfl) ⟨by rw [show isLab k = true from decide_eq_true (by omega)]; rfl, rfl⟩
theorem c_m_name (k : Nat) (hk : k < 65536) : am_T l d M_m_name 0 [some (.int (nI k))] [] h 0 0 (fun r h' => r = some (.int (bI (isNam k))) ∧ h' = h) := by
  refine am_iload_n rfl rfl ?_
  refine am_bipush (v := nI 65) rfl (by decide) ?_
  refine ho_icmp_lt rfl (by omega) (by omega) (fun h1 => ?_) (fun h1 => ?_)
  · refine am_iconst (v := nI 0) rfl (by decide) ?_
    exact am_zreturn rfl rfl (Or.inl rfl) ⟨by rw [show isNam k = false from decide_eq_false (by omega)]; rfl, rfl⟩
  refine am_iload_n rfl rfl ?_
  refine am_bipush (v := nI 70) rfl (by decide) ?_
  refine ho_icmp_gt rfl (by omega) (by omega) (fun h2 => ?_) (fun h2 => ?_)
  · refine am_iconst (v := nI 0) rfl (by decide) ?_
    exact am_zreturn rfl rfl (Or.inl rfl) ⟨by rw [show isNam k = false from decide_eq_false (by omega)]; rfl, rfl⟩
  · refine am_iconst (v := nI 1) rfl (by decide) ?_
    refine am_goto rfl ?_
    exact am_zreturn rfl rfl (Or.inr rfl) ⟨by rw [show isNam k = true from decide_eq_true (by omega)]; rfl, rfl⟩
theorem c_m_letter (k : Nat) (hk : k < 65536) : am_T l d M_m_letter 0 [some (.int (nI k))] [] h 0 0 (fun r h' => r = some (.int (bI (isFun k))) ∧ h' = h) := by
  refine am_iload_n rfl rfl ?_
  refine am_bipush (v := nI 102) rfl (by decide) ?_
  refine ho_icmp_lt rfl (by omega) (by omega) (fun h1 => ?_) (fun h1 => ?_)
  · refine am_iconst (v := nI 0) rfl (by decide) ?_
    exact am_zreturn rfl rfl (Or.inl rfl) ⟨by rw [show isFun k = false from decide_eq_false (by omega)]; rfl, rfl⟩
  refine am_iload_n rfl rfl ?_
  refine am_bipush (v := nI 104) rfl (by decide) ?_
  refine ho_icmp_gt rfl (by omega) (by omega) (fun h2 => ?_) (fun h2 => ?_)
  · refine am_iconst (v := nI 0) rfl (by decide) ?_
    exact am_zreturn rfl rfl (Or.inl rfl) ⟨by rw [show isFun k = false from decide_eq_false (by omega)]; rfl, rfl⟩
  · refine am_iconst (v := nI 1) rfl (by decide) ?_
    refine am_goto rfl ?_
    exact am_zreturn rfl rfl (Or.inr rfl) ⟨by rw [show isFun k = true from decide_eq_true (by omega)]; rfl, rfl⟩
/-- a node's own character -/
def isNod (k : Nat) : Bool := isDig k || isLab k
theorem c_m_count (k : Nat) (hk : k < 65536) : am_T l (d + 1) M_m_count 0 [some (.int (nI k))] [] h 0 0 (fun r h' => r = some (.int (bI (isNod k))) ∧ h' = h) := by
  refine am_iload_n rfl rfl ?_
  refine ho_cs1 rfl rfl (Nat.le_of_ble_eq_true rfl) (Nat.le_of_ble_eq_true rfl) (c_m_digit k hk) ?_
  rintro r h' ⟨rfl, rfl⟩
  refine am_if_ne rfl (fun h1 => ?_) (fun h1 => ?_)
  · refine am_iconst (v := nI 1) rfl (by decide) ?_
    refine am_goto rfl ?_
    exact am_ireturn rfl rfl ⟨by rw [show isNod k = true from by rw [isNod, (bI_ne _).mp h1]; rfl]; rfl, rfl⟩
  refine am_iload_n rfl rfl ?_
  refine ho_cs1 rfl rfl (Nat.le_of_ble_eq_true rfl) (Nat.le_of_ble_eq_true rfl) (c_m_label k hk) ?_
  rintro r h' ⟨rfl, rfl⟩
  refine am_if_eq rfl (fun h2 => ?_) (fun h2 => ?_)
  · refine am_iconst (v := nI 0) rfl (by decide) ?_
    exact am_ireturn rfl rfl ⟨by rw [show isNod k = false from by rw [isNod, (bI_eq _).mp h1, (bI_eq _).mp h2]; rfl]; rfl, rfl⟩
  · refine am_iconst (v := nI 1) rfl (by decide) ?_
    refine am_goto rfl ?_
    exact am_ireturn rfl rfl ⟨by rw [show isNod k = true from by rw [isNod, (bI_ne _).mp h2, Bool.or_true]]; rfl, rfl⟩
/-- at(i): the pad's character, or 0 -/
theorem c_m_at (hR : SR mr) (T : List Nat) (hT : txt mi 117 T) (hn : mi 116 1 = nI T.length) (hl : T.length ≤ 80) (hok : okT T) (i : Nat) (hi : i < 1000) : am_T l d M_m_at 0 [some (.ref 116), some (.int (nI i))] [] (hm mi ml mr) 0 0 (fun r h' => r = some (.int (nI (T.getD i 0))) ∧ h' = hm mi ml mr) := by
  refine am_iload_n rfl rfl ?_
  refine am_aload_n rfl rfl ?_
  refine ho_getI rfl (by first | rfl | assumption) rfl ?_
  rw [hn]
  refine ho_icmp_ge rfl (by omega) (by omega) (fun h1 => ?_) (fun h1 => ?_)
  · refine am_iconst (v := nI 0) rfl (by decide) ?_
    refine am_creturn rfl rfl rfl ⟨?_, rfl⟩
    rw [List.getD_eq_getElem?_getD, List.getElem?_eq_none (by omega)]
    rfl
  · refine am_aload_n rfl rfl ?_
    refine ho_getR rfl (by first | rfl | assumption) rfl (by first | assumption | exact hR _ _ _ rfl) ?_
    refine am_iload_n rfl rfl ?_
    refine ho_caload rfl (by first | rfl | assumption) (by omega) ?_
    refine am_goto rfl ?_
    rw [hT i (by omega)]
    have := okT_at hok i
    refine am_creturn rfl rfl ?_ ⟨rfl, rfl⟩
    exact congrArg Value.int (am_char_nar (nI_pos' (by omega)) (by have := nI_le (a := T.getD i 0) (b := 65535) (by omega) (by omega); exact this))
end M1
