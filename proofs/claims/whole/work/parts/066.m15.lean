/-! the reference: endSteps, resultEnd, functionStop -/
def pch (p : Nat) : Nat := if p = 0 then 46 else if p = 1 then 35 else p + 95
theorem pch_r {p : Nat} (h : p ≤ 5) : pch p < 127 ∧ (isLab (pch p) = true ↔ 2 ≤ p) ∧ (pch p = 46 ↔ p = 0) ∧ (pch p = 35 ↔ p = 1) := by
  have : p = 0 ∨ p = 1 ∨ p = 2 ∨ p = 3 ∨ p = 4 ∨ p = 5 := by omega
  rcases this with e | e | e | e | e | e <;> subst e <;> decide
def ngI (s : Nat) : Int32 := -1 - nI s
theorem ngI_neg : ∀ s, s < 200 → ngI s < 0 := by decide +kernel
theorem ngI_inv : ∀ s, s < 200 → (-1 : Int32) - ngI s = nI s := by decide +kernel
theorem ngI_2 : ∀ s, s < 200 → (-2 : Int32) - nI s = ngI (s + 1) := by decide +kernel
theorem ngI_p0 : ∀ s, s < 200 → (-1 : Int32) - nI s + nI 0 = ngI s := by decide +kernel
theorem ngI_p1 : ∀ s, s < 200 → (-1 : Int32) - nI s + (-1) = ngI (s + 1) := by decide +kernel
theorem ngI_p2 : ∀ s, s < 200 → (-1 : Int32) - nI s + (-2) = ngI (s + 2) := by decide +kernel
theorem ngI_p3 : ∀ s, s < 200 → (-1 : Int32) - nI s + (-3) = ngI (s + 3) := by decide +kernel
/-- what endSteps answers -/
def eS (T : List Nat) (i p : Nat) : Int32 := if (T.getD i 0 = 120 ∧ 2 ≤ p) ∨ (T.getD i 0 = 121 ∧ 1 ≤ p) then nI 1 else if isFun (T.getD i 0) = false ∨ p = 0 then nI 0 else if T.getD (i + 1) 0 ≠ 40 then -1 else if ¬ (T.getD (i + 2) 0 = 121 ∨ (T.getD (i + 2) 0 = 120 ∧ 2 ≤ p)) then -2 else if T.getD (i + 3) 0 ≠ 41 then -3 else nI 4
def reI (R : Nat ⊕ (Nat × List Nat)) : Int32 := match R with
  | .inl s => ngI s
  | .inr (j, _) => nI j
section M15
variable {l : Launch} {d : Nat} {mi : Nat → Nat → Int32} {ml : Nat → Nat → Int64} {mr : Nat → Nat → Option Nat} {T : List Nat}
theorem c_m_endSteps (hR : SR mr) (hP : PM T mi) (i p : Nat) (hi : i < 500) (hp : p ≤ 5) : am_T l (d + 1) M_m_endSteps 0 [some (.ref 116), some (.int (nI i)), some (.int (nI (pch p))), none, none] [] (hm mi ml mr) 0 0 (fun r h' => r = some (.int (eS T i p)) ∧ h' = hm mi ml mr) := by
  obtain ⟨p1, p2, p3, p4⟩ := hP
  obtain ⟨q1, q2, q3, q4⟩ := pch_r hp
  have c0 := okT_at p4 i
  have c1 := okT_at p4 (i + 1)
  have c2 := okT_at p4 (i + 2)
  have c3 := okT_at p4 (i + 3)
  refine am_aload_n rfl rfl ?_
  refine am_iload_n rfl rfl ?_
  refine ho_cv1 rfl (by first | rfl | assumption) rfl (Nat.le_of_ble_eq_true rfl) (Nat.le_of_ble_eq_true rfl) (c_m_at hR T p1 p2 p3 p4 i (by omega)) ?_
  rintro v h' ⟨rfl, rfl⟩
  refine am_istore_n rfl (Nat.le_of_ble_eq_true rfl) ?_
  show am_T _ _ _ _ [_, _, _, some _, _] _ _ _ _ _
  refine am_aload_n rfl rfl ?_
  refine am_iload_n rfl rfl ?_
  refine am_iconst (v := nI 2) rfl (by decide) ?_
  first | refine ho_addn rfl ?_ | refine am_iadd rfl ?_
  refine ho_cv1 rfl (by first | rfl | assumption) rfl (Nat.le_of_ble_eq_true rfl) (Nat.le_of_ble_eq_true rfl) (c_m_at hR T p1 p2 p3 p4 (i + 2) (by omega)) ?_
  rintro v h' ⟨rfl, rfl⟩
  refine am_istore rfl (Nat.le_of_ble_eq_true rfl) ?_
  show am_T _ _ _ _ [_, _, _, _, some _] _ _ _ _ _
  refine am_iload_n rfl rfl ?_
  refine am_bipush (v := nI 120) rfl (by decide) ?_
  unfold eS
  have s40 : ((T.getD i 0 = 120 ∧ 2 ≤ p) ∨ (T.getD i 0 = 121 ∧ 1 ≤ p)) → am_T l (d + 1) M_m_endSteps 40 [some (.ref 116), some (.int (nI i)), some (.int (nI (pch p))), some (.int (nI (T.getD i 0))), some (.int (nI (T.getD (i + 2) 0)))] [] (hm mi ml mr) 0 0 (fun r h' => r = some (.int (if (T.getD i 0 = 120 ∧ 2 ≤ p) ∨ (T.getD i 0 = 121 ∧ 1 ≤ p) then nI 1 else if isFun (T.getD i 0) = false ∨ p = 0 then nI 0 else if T.getD (i + 1) 0 ≠ 40 then -1 else if ¬ (T.getD (i + 2) 0 = 121 ∨ (T.getD (i + 2) 0 = 120 ∧ 2 ≤ p)) then -2 else if T.getD (i + 3) 0 ≠ 41 then -3 else nI 4)) ∧ h' = hm mi ml mr) := by
    intro h
    rw [if_pos h]
    refine am_iconst (v := nI 1) rfl (by decide) ?_
    exact am_ireturn rfl rfl ⟨rfl, rfl⟩
  have s42 : ¬ ((T.getD i 0 = 120 ∧ 2 ≤ p) ∨ (T.getD i 0 = 121 ∧ 1 ≤ p)) → am_T l (d + 1) M_m_endSteps 42 [some (.ref 116), some (.int (nI i)), some (.int (nI (pch p))), some (.int (nI (T.getD i 0))), some (.int (nI (T.getD (i + 2) 0)))] [] (hm mi ml mr) 0 0 (fun r h' => r = some (.int (if (T.getD i 0 = 120 ∧ 2 ≤ p) ∨ (T.getD i 0 = 121 ∧ 1 ≤ p) then nI 1 else if isFun (T.getD i 0) = false ∨ p = 0 then nI 0 else if T.getD (i + 1) 0 ≠ 40 then -1 else if ¬ (T.getD (i + 2) 0 = 121 ∨ (T.getD (i + 2) 0 = 120 ∧ 2 ≤ p)) then -2 else if T.getD (i + 3) 0 ≠ 41 then -3 else nI 4)) ∧ h' = hm mi ml mr) := by
    intro h
    rw [if_neg h]
    refine am_iload_n rfl rfl ?_
    refine ho_cs1 rfl rfl (Nat.le_of_ble_eq_true rfl) (Nat.le_of_ble_eq_true rfl) (c_m_letter _ (by omega)) ?_
    rintro v h' ⟨rfl, rfl⟩
    refine am_if_eq rfl (fun z => ?_) (fun z => ?_)
    · rw [if_pos (Or.inl ((bI_eq _).mp z))]
      refine am_iconst (v := nI 0) rfl (by decide) ?_
      exact am_ireturn rfl rfl ⟨rfl, rfl⟩
    have z := (bI_ne _).mp z
    refine am_iload_n rfl rfl ?_
    refine am_bipush (v := nI 46) rfl (by decide) ?_
    refine ho_icmp_ne rfl (by omega) (by omega) (fun y => ?_) (fun y => ?_)
    case refine_2 =>
      rw [if_pos (Or.inr (q3.mp y))]
      refine am_iconst (v := nI 0) rfl (by decide) ?_
      exact am_ireturn rfl rfl ⟨rfl, rfl⟩
    rw [if_neg (fun q => q.elim (fun q => by rw [z] at q; cases q) (fun q => y (q3.mpr q)))]
    refine am_aload_n rfl rfl ?_
    refine am_iload_n rfl rfl ?_
    refine am_iconst (v := nI 1) rfl (by decide) ?_
    first | refine ho_addn rfl ?_ | refine am_iadd rfl ?_
    refine ho_cv1 rfl (by first | rfl | assumption) rfl (Nat.le_of_ble_eq_true rfl) (Nat.le_of_ble_eq_true rfl) (c_m_at hR T p1 p2 p3 p4 (i + 1) (by omega)) ?_
    rintro v h' ⟨rfl, rfl⟩
    refine am_bipush (v := nI 40) rfl (by decide) ?_
    refine ho_icmp_eq rfl (by omega) (by omega) (fun x => ?_) (fun x => ?_)
    case refine_2 =>
      rw [if_pos x]
      refine am_iconst (v := -1) rfl (by decide) ?_
      exact am_ireturn rfl rfl ⟨rfl, rfl⟩
    rw [if_neg (fun q => q x)]
    have s95 : (T.getD (i + 2) 0 = 121 ∨ (T.getD (i + 2) 0 = 120 ∧ 2 ≤ p)) → am_T l (d + 1) M_m_endSteps 95 [some (.ref 116), some (.int (nI i)), some (.int (nI (pch p))), some (.int (nI (T.getD i 0))), some (.int (nI (T.getD (i + 2) 0)))] [] (hm mi ml mr) 0 0 (fun r h' => r = some (.int (if ¬ (T.getD (i + 2) 0 = 121 ∨ (T.getD (i + 2) 0 = 120 ∧ 2 ≤ p)) then -2 else if T.getD (i + 3) 0 ≠ 41 then -3 else nI 4)) ∧ h' = hm mi ml mr) := by
      intro hw
      rw [if_neg (fun q => q hw)]
      refine am_aload_n rfl rfl ?_
      refine am_iload_n rfl rfl ?_
      refine am_iconst (v := nI 3) rfl (by decide) ?_
      first | refine ho_addn rfl ?_ | refine am_iadd rfl ?_
      refine ho_cv1 rfl (by first | rfl | assumption) rfl (Nat.le_of_ble_eq_true rfl) (Nat.le_of_ble_eq_true rfl) (c_m_at hR T p1 p2 p3 p4 (i + 3) (by omega)) ?_
      rintro v h' ⟨rfl, rfl⟩
      refine am_bipush (v := nI 41) rfl (by decide) ?_
      refine ho_icmp_ne rfl (by omega) (by omega) (fun w => ?_) (fun w => ?_)
      · rw [if_pos w]
        refine am_bipush (v := -3) rfl (by decide) ?_
        exact am_ireturn rfl rfl ⟨rfl, rfl⟩
      · rw [if_neg (fun q => q w)]
        refine am_iconst (v := nI 4) rfl (by decide) ?_
        refine am_goto rfl ?_
        exact am_ireturn rfl rfl ⟨rfl, rfl⟩
    have s92 : ¬ (T.getD (i + 2) 0 = 121 ∨ (T.getD (i + 2) 0 = 120 ∧ 2 ≤ p)) → am_T l (d + 1) M_m_endSteps 92 [some (.ref 116), some (.int (nI i)), some (.int (nI (pch p))), some (.int (nI (T.getD i 0))), some (.int (nI (T.getD (i + 2) 0)))] [] (hm mi ml mr) 0 0 (fun r h' => r = some (.int (if ¬ (T.getD (i + 2) 0 = 121 ∨ (T.getD (i + 2) 0 = 120 ∧ 2 ≤ p)) then -2 else if T.getD (i + 3) 0 ≠ 41 then -3 else nI 4)) ∧ h' = hm mi ml mr) := by
      intro hw
      rw [if_pos hw]
      refine am_bipush (v := -2) rfl (by decide) ?_
      exact am_ireturn rfl rfl ⟨rfl, rfl⟩
    refine am_iload rfl rfl ?_
    refine am_bipush (v := nI 121) rfl (by decide) ?_
    refine ho_icmp_eq rfl (by omega) (by omega) (fun w => s95 (Or.inl w)) (fun w => ?_)
    refine am_iload rfl rfl ?_
    refine am_bipush (v := nI 120) rfl (by decide) ?_
    refine ho_icmp_ne rfl (by omega) (by omega) (fun u => s92 (fun q => q.elim w (fun k => u k.1))) (fun u => ?_)
    refine am_iload_n rfl rfl ?_
    refine ho_cs1 rfl rfl (Nat.le_of_ble_eq_true rfl) (Nat.le_of_ble_eq_true rfl) (c_m_label _ (by omega)) ?_
    rintro v h' ⟨rfl, rfl⟩
    refine am_if_ne rfl (fun k => s95 (Or.inr ⟨u, q2.mp ((bI_ne _).mp k)⟩)) (fun k => s92 (fun q => q.elim w (fun j => ?_)))
    have k := (bI_eq _).mp k
    rw [q2.mpr j.2] at k
    cases k
  have s28 : ¬ (T.getD i 0 = 120 ∧ 2 ≤ p) → am_T l (d + 1) M_m_endSteps 28 [some (.ref 116), some (.int (nI i)), some (.int (nI (pch p))), some (.int (nI (T.getD i 0))), some (.int (nI (T.getD (i + 2) 0)))] [] (hm mi ml mr) 0 0 (fun r h' => r = some (.int (if (T.getD i 0 = 120 ∧ 2 ≤ p) ∨ (T.getD i 0 = 121 ∧ 1 ≤ p) then nI 1 else if isFun (T.getD i 0) = false ∨ p = 0 then nI 0 else if T.getD (i + 1) 0 ≠ 40 then -1 else if ¬ (T.getD (i + 2) 0 = 121 ∨ (T.getD (i + 2) 0 = 120 ∧ 2 ≤ p)) then -2 else if T.getD (i + 3) 0 ≠ 41 then -3 else nI 4)) ∧ h' = hm mi ml mr) := by
    intro h
    refine am_iload_n rfl rfl ?_
    refine am_bipush (v := nI 121) rfl (by decide) ?_
    refine ho_icmp_ne rfl (by omega) (by omega) (fun z => s42 (fun q => q.elim h (fun k => z k.1))) (fun z => ?_)
    refine am_iload_n rfl rfl ?_
    refine am_bipush (v := nI 46) rfl (by decide) ?_
    refine ho_icmp_eq rfl (by omega) (by omega) (fun y => s42 (fun q => q.elim h (fun k => ?_))) (fun y => s40 (Or.inr ⟨z, ?_⟩))
    · have := q3.mp y
      omega
    · have : ¬ p = 0 := fun e => y (q3.mpr e)
      omega
  refine ho_icmp_ne rfl (by omega) (by omega) (fun z => s28 (fun q => z q.1)) (fun z => ?_)
  refine am_iload_n rfl rfl ?_
  refine ho_cs1 rfl rfl (Nat.le_of_ble_eq_true rfl) (Nat.le_of_ble_eq_true rfl) (c_m_label _ (by omega)) ?_
  rintro v h' ⟨rfl, rfl⟩
  refine am_if_ne rfl (fun k => s40 (Or.inl ⟨z, q2.mp ((bI_ne _).mp k)⟩)) (fun k => s28 (fun q => ?_))
  have k := (bI_eq _).mp k
  rw [q2.mpr q.2] at k
  cases k
theorem c_m_resultEnd_loop (hR : SR mr) (hP : PM T mi) (p : Nat) (hp : p ≤ 5) (x1 : Option Value) : ∀ (g i e n : Nat) (en : Bool) (K : List Nat), T.length < i + g → i ≤ T.length → e ≤ i → n ≤ 12 →
    am_T l (d + 2) M_m_resultEnd 11 [some (.ref 116), x1, some (.int (nI (pch p))), some (.int (nI i)), some (.int (nI e)), some (.int (nI n)), some (.int (bI en)), none, none] [] (hm mi ml mr) 0 0 (fun r h' => r = some (.int (reI (rScan T p g i e n en K))) ∧ h' = hm mi ml mr) := by
  have hP' := hP
  obtain ⟨p1, p2, p3, p4⟩ := hP'
  obtain ⟨q1, q2, q3, q4⟩ := pch_r hp
  intro g
  induction g with
  | zero =>
    intro i e n en K h1 h2
    omega
  | succ g ih =>
    intro i e n en K hg hi he hn
    have hc := okT_at p4 i
    have hc1 := okT_at p4 (i + 1)
    rw [rScan]
    have s177 : ∀ (s e' n' : Nat) (en' : Bool) (K' : List Nat), 1 ≤ s → i + s ≤ T.length → e' ≤ i + s → n' ≤ 12 → am_T l (d + 2) M_m_resultEnd 177 [some (.ref 116), x1, some (.int (nI (pch p))), some (.int (nI i)), some (.int (nI e')), some (.int (nI n')), some (.int (bI en')), some (.int (nI (T.getD i 0))), some (.int (nI s))] [] (hm mi ml mr) 0 0 (fun r h' => r = some (.int (reI (rScan T p g (i + s) e' n' en' K'))) ∧ h' = hm mi ml mr) := by
      intro s e' n' en' K' h1 h2 h3 h4
      refine am_iload_n rfl rfl ?_
      refine am_iload rfl rfl ?_
      first | refine ho_addn rfl ?_ | refine am_iadd rfl ?_
      refine am_istore_n rfl (Nat.le_of_ble_eq_true rfl) ?_
      show am_T _ _ _ _ [_, _, _, some _, _, _, _, _, _] _ _ _ _ _
      refine am_goto rfl ?_
      refine am_drops [7, 8] ?_
      exact ih (i + s) e' n' en' K' (by omega) h2 h3 h4
    refine am_iload_n rfl rfl ?_
    refine am_aload_n rfl rfl ?_
    refine ho_getI rfl (by first | rfl | assumption) rfl ?_
    rw [p2]
    refine ho_icmp_ge rfl (by omega) (by omega) (fun z => ?_) (fun z => ?_)
    · rw [if_pos z]
      refine am_iload rfl rfl ?_
      refine am_if_le rfl (fun y => ?_) (fun y => ?_)
      · have y : nI e ≤ nI 0 := y
        rw [nI_leI (by omega) (by omega)] at y
        refine am_iload_n rfl rfl ?_
        exact am_ireturn rfl rfl ⟨by rw [if_neg (by omega)]; rfl, rfl⟩
      · have y : ¬ nI e ≤ nI 0 := y
        rw [nI_leI (by omega) (by omega)] at y
        refine am_iconst (v := -1) rfl (by decide) ?_
        refine am_iload_n rfl rfl ?_
        refine am_isub rfl ?_
        refine am_goto rfl ?_
        exact am_ireturn rfl rfl ⟨by rw [if_pos (by omega)]; rfl, rfl⟩
    rw [if_neg z]
    have s154 : ¬ (T.getD i 0 = 47 ∧ e = 0) → ¬ (T.getD i 0 = 93 ∧ 0 < e) → en = false → ¬ (n < 12 ∧ (isDig (T.getD i 0) = true ∨ (T.getD i 0 = 35 ∧ p = 1))) → ¬ (n < 12 ∧ isLab (T.getD i 0) = true) → am_T l (d + 2) M_m_resultEnd 154 [some (.ref 116), x1, some (.int (nI (pch p))), some (.int (nI i)), some (.int (nI e)), some (.int (nI n)), some (.int (bI en)), some (.int (nI (T.getD i 0))), some (.int (nI 1))] [] (hm mi ml mr) 0 0 (fun r h' => r = some (.int (reI (if (T.getD i 0 = 120 ∧ 2 ≤ p) ∨ (T.getD i 0 = 121 ∧ 1 ≤ p) then rScan T p g (i + 1) e n true (K ++ [T.getD i 0])
    else if isFun (T.getD i 0) = false ∨ p = 0 then .inl i
    else if T.getD (i + 1) 0 ≠ 40 then .inl (i + 1)
    else if ¬ (T.getD (i + 2) 0 = 121 ∨ (T.getD (i + 2) 0 = 120 ∧ 2 ≤ p)) then .inl (i + 2)
    else if T.getD (i + 3) 0 ≠ 41 then .inl (i + 3)
    else rScan T p g (i + 4) e n true (K ++ [256 + 2 * (T.getD i 0 - 102) + (if T.getD (i + 2) 0 = 121 then 1 else 0)])))) ∧ h' = hm mi ml mr) := by
      intro _ _ _ _ _
      refine am_aload_n rfl rfl ?_
      refine am_iload_n rfl rfl ?_
      refine am_iload_n rfl rfl ?_
      refine ho_cv2 rfl (by first | rfl | assumption) rfl (Nat.le_of_ble_eq_true rfl) (Nat.le_of_ble_eq_true rfl) (c_m_endSteps hR hP i p (by omega) hp) ?_
      rintro v h' ⟨rfl, rfl⟩
      have fail : ∀ (x : Int32) (s : Nat), x ≤ 0 → -1 - nI i + x = ngI s → am_T l (d + 2) M_m_resultEnd 160 [some (.ref 116), x1, some (.int (nI (pch p))), some (.int (nI i)), some (.int (nI e)), some (.int (nI n)), some (.int (bI en)), some (.int (nI (T.getD i 0))), some (.int (nI 1))] [.int x] (hm mi ml mr) 0 0 (fun r h' => r = some (.int (reI (.inl s))) ∧ h' = hm mi ml mr) := by
        intro x s hx hs
        refine am_istore rfl (Nat.le_of_ble_eq_true rfl) ?_
        show am_T _ _ _ _ [_, _, _, _, _, _, _, _, some _] _ _ _ _ _
        refine am_iload rfl rfl ?_
        refine am_if_gt rfl (fun y => absurd hx (by rw [Int32.not_le]; exact y)) (fun _ => ?_)
        refine am_iconst (v := -1) rfl (by decide) ?_
        refine am_iload_n rfl rfl ?_
        refine am_isub rfl ?_
        refine am_iload rfl rfl ?_
        refine am_iadd rfl ?_
        exact am_ireturn rfl rfl ⟨by rw [hs]; rfl, rfl⟩
      have good : ∀ (s : Nat) (K' : List Nat), (s = 1 ∨ s = 4) → i + s ≤ T.length → am_T l (d + 2) M_m_resultEnd 160 [some (.ref 116), x1, some (.int (nI (pch p))), some (.int (nI i)), some (.int (nI e)), some (.int (nI n)), some (.int (bI en)), some (.int (nI (T.getD i 0))), some (.int (nI 1))] [.int (nI s)] (hm mi ml mr) 0 0 (fun r h' => r = some (.int (reI (rScan T p g (i + s) e n true K'))) ∧ h' = hm mi ml mr) := by
        intro s K' hs h2
        refine am_istore rfl (Nat.le_of_ble_eq_true rfl) ?_
        show am_T _ _ _ _ [_, _, _, _, _, _, _, _, some _] _ _ _ _ _
        refine am_iload rfl rfl ?_
        refine am_if_gt rfl (fun _ => ?_) (fun y => absurd (by rcases hs with e | e <;> subst e <;> decide) y)
        refine am_iconst (v := nI 1) rfl (by decide) ?_
        refine am_istore rfl (Nat.le_of_ble_eq_true rfl) ?_
        show am_T _ _ _ _ [_, _, _, _, _, _, some _, _, _] _ _ _ _ _
        exact s177 s e n true K' (by omega) h2 (by omega) hn
      unfold eS
      by_cases b1 : (T.getD i 0 = 120 ∧ 2 ≤ p) ∨ (T.getD i 0 = 121 ∧ 1 ≤ p)
      · rw [if_pos b1, if_pos b1]
        exact good 1 _ (Or.inl rfl) (by omega)
      rw [if_neg b1, if_neg b1]
      by_cases b2 : isFun (T.getD i 0) = false ∨ p = 0
      · rw [if_pos b2, if_pos b2]
        exact fail _ i (by decide) (ngI_p0 i (by omega))
      rw [if_neg b2, if_neg b2]
      by_cases b3 : T.getD (i + 1) 0 ≠ 40
      · rw [if_pos b3, if_pos b3]
        exact fail _ (i + 1) (by decide) (ngI_p1 i (by omega))
      rw [if_neg b3, if_neg b3]
      by_cases b4 : ¬ (T.getD (i + 2) 0 = 121 ∨ (T.getD (i + 2) 0 = 120 ∧ 2 ≤ p))
      · rw [if_pos b4, if_pos b4]
        exact fail _ (i + 2) (by decide) (ngI_p2 i (by omega))
      rw [if_neg b4, if_neg b4]
      by_cases b5 : T.getD (i + 3) 0 ≠ 41
      · rw [if_pos b5, if_pos b5]
        exact fail _ (i + 3) (by decide) (ngI_p3 i (by omega))
      rw [if_neg b5, if_neg b5]
      have hl3 := lt_of_getD (Classical.not_not.mp b5) (by decide)
      exact good 4 _ (Or.inr rfl) (by omega)
    have s110 : ¬ (T.getD i 0 = 47 ∧ e = 0) → ¬ (T.getD i 0 = 93 ∧ 0 < e) → en = false → ¬ (n < 12 ∧ (isDig (T.getD i 0) = true ∨ (T.getD i 0 = 35 ∧ p = 1))) → am_T l (d + 2) M_m_resultEnd 110 [some (.ref 116), x1, some (.int (nI (pch p))), some (.int (nI i)), some (.int (nI e)), some (.int (nI n)), some (.int (bI en)), some (.int (nI (T.getD i 0))), some (.int (nI 1))] [] (hm mi ml mr) 0 0 (fun r h' => r = some (.int (reI (if n < 12 ∧ isLab (T.getD i 0) = true then (if T.getD (i + 1) 0 ≠ 91 then .inl (i + 1) else rScan T p g (i + 2) (e + 1) (n + 1) false (K ++ [T.getD i 0]))
    else if (T.getD i 0 = 120 ∧ 2 ≤ p) ∨ (T.getD i 0 = 121 ∧ 1 ≤ p) then rScan T p g (i + 1) e n true (K ++ [T.getD i 0])
    else if isFun (T.getD i 0) = false ∨ p = 0 then .inl i
    else if T.getD (i + 1) 0 ≠ 40 then .inl (i + 1)
    else if ¬ (T.getD (i + 2) 0 = 121 ∨ (T.getD (i + 2) 0 = 120 ∧ 2 ≤ p)) then .inl (i + 2)
    else if T.getD (i + 3) 0 ≠ 41 then .inl (i + 3)
    else rScan T p g (i + 4) e n true (K ++ [256 + 2 * (T.getD i 0 - 102) + (if T.getD (i + 2) 0 = 121 then 1 else 0)])))) ∧ h' = hm mi ml mr) := by
      intro a1 a2 a3 a4
      refine am_iload rfl rfl ?_
      refine am_bipush (v := nI 12) rfl (by decide) ?_
      refine ho_icmp_ge rfl (by omega) (by omega) (fun y => ?_) (fun y => ?_)
      · have hno : ¬ (n < 12 ∧ isLab (T.getD i 0) = true) := fun q => by omega
        rw [if_neg hno]
        exact s154 a1 a2 a3 a4 hno
      refine am_iload rfl rfl ?_
      refine ho_cs1 rfl rfl (Nat.le_of_ble_eq_true rfl) (Nat.le_of_ble_eq_true rfl) (c_m_label _ (by omega)) ?_
      rintro v h' ⟨rfl, rfl⟩
      refine am_if_eq rfl (fun x => ?_) (fun x => ?_)
      · have x := (bI_eq _).mp x
        have hno : ¬ (n < 12 ∧ isLab (T.getD i 0) = true) := fun q => by rw [x] at q; cases q.2
        rw [if_neg hno]
        exact s154 a1 a2 a3 a4 hno
      have x := (bI_ne _).mp x
      rw [if_pos ⟨by omega, x⟩]
      refine am_aload_n rfl rfl ?_
      refine am_iload_n rfl rfl ?_
      refine am_iconst (v := nI 1) rfl (by decide) ?_
      first | refine ho_addn rfl ?_ | refine am_iadd rfl ?_
      refine ho_cv1 rfl (by first | rfl | assumption) rfl (Nat.le_of_ble_eq_true rfl) (Nat.le_of_ble_eq_true rfl) (c_m_at hR T p1 p2 p3 p4 (i + 1) (by omega)) ?_
      rintro v h' ⟨rfl, rfl⟩
      refine am_bipush (v := nI 91) rfl (by decide) ?_
      refine ho_icmp_eq rfl (by omega) (by omega) (fun w => ?_) (fun w => ?_)
      · rw [if_neg (fun q => q w)]
        have hl := lt_of_getD w (by decide)
        refine am_iinc rfl rfl (nI_inc1 _) ?_
        show am_T _ _ _ _ [_, _, _, _, _, some _, _, _, _] _ _ _ _ _
        refine am_iinc rfl rfl (nI_inc1 _) ?_
        show am_T _ _ _ _ [_, _, _, _, some _, _, _, _, _] _ _ _ _ _
        refine am_iconst (v := nI 2) rfl (by decide) ?_
        refine am_istore rfl (Nat.le_of_ble_eq_true rfl) ?_
        show am_T _ _ _ _ [_, _, _, _, _, _, _, _, some _] _ _ _ _ _
        refine am_goto rfl ?_
        subst a3
        exact s177 2 (e + 1) (n + 1) false _ (by omega) (by omega) (by omega) (by omega)
      · rw [if_pos w]
        refine am_bipush (v := -2) rfl (by decide) ?_
        refine am_iload_n rfl rfl ?_
        refine am_isub rfl ?_
        exact am_ireturn rfl rfl ⟨by rw [ngI_2 i (by omega)]; rfl, rfl⟩
    have s35 : ¬ (T.getD i 0 = 47 ∧ e = 0) → am_T l (d + 2) M_m_resultEnd 35 [some (.ref 116), x1, some (.int (nI (pch p))), some (.int (nI i)), some (.int (nI e)), some (.int (nI n)), some (.int (bI en)), none, none] [] (hm mi ml mr) 0 0 (fun r h' => r = some (.int (reI (if T.getD i 0 = 93 ∧ 0 < e then rScan T p g (i + 1) (e - 1) n false (K ++ [93])
    else if en = true then .inl i
    else if n < 12 ∧ (isDig (T.getD i 0) = true ∨ (T.getD i 0 = 35 ∧ p = 1)) then rScan T p g (i + 1) e (n + 1) false (K ++ [T.getD i 0])
    else if n < 12 ∧ isLab (T.getD i 0) = true then (if T.getD (i + 1) 0 ≠ 91 then .inl (i + 1) else rScan T p g (i + 2) (e + 1) (n + 1) false (K ++ [T.getD i 0]))
    else if (T.getD i 0 = 120 ∧ 2 ≤ p) ∨ (T.getD i 0 = 121 ∧ 1 ≤ p) then rScan T p g (i + 1) e n true (K ++ [T.getD i 0])
    else if isFun (T.getD i 0) = false ∨ p = 0 then .inl i
    else if T.getD (i + 1) 0 ≠ 40 then .inl (i + 1)
    else if ¬ (T.getD (i + 2) 0 = 121 ∨ (T.getD (i + 2) 0 = 120 ∧ 2 ≤ p)) then .inl (i + 2)
    else if T.getD (i + 3) 0 ≠ 41 then .inl (i + 3)
    else rScan T p g (i + 4) e n true (K ++ [256 + 2 * (T.getD i 0 - 102) + (if T.getD (i + 2) 0 = 121 then 1 else 0)])))) ∧ h' = hm mi ml mr) := by
      intro a1
      refine am_aload_n rfl rfl ?_
      refine ho_getR rfl (by first | rfl | assumption) rfl (by first | assumption | exact hR _ _ _ rfl) ?_
      refine am_iload_n rfl rfl ?_
      refine ho_caload rfl rfl (by omega) ?_
      rw [p1 i (by omega)]
      refine am_istore rfl (Nat.le_of_ble_eq_true rfl) ?_
      show am_T _ _ _ _ [_, _, _, _, _, _, _, some _, _] _ _ _ _ _
      refine am_iconst (v := nI 1) rfl (by decide) ?_
      refine am_istore rfl (Nat.le_of_ble_eq_true rfl) ?_
      show am_T _ _ _ _ [_, _, _, _, _, _, _, _, some _] _ _ _ _ _
      refine am_iload rfl rfl ?_
      refine am_bipush (v := nI 93) rfl (by decide) ?_
      have s67 : ¬ (T.getD i 0 = 93 ∧ 0 < e) → am_T l (d + 2) M_m_resultEnd 67 [some (.ref 116), x1, some (.int (nI (pch p))), some (.int (nI i)), some (.int (nI e)), some (.int (nI n)), some (.int (bI en)), some (.int (nI (T.getD i 0))), some (.int (nI 1))] [] (hm mi ml mr) 0 0 (fun r h' => r = some (.int (reI (if en = true then .inl i
    else if n < 12 ∧ (isDig (T.getD i 0) = true ∨ (T.getD i 0 = 35 ∧ p = 1)) then rScan T p g (i + 1) e (n + 1) false (K ++ [T.getD i 0])
    else if n < 12 ∧ isLab (T.getD i 0) = true then (if T.getD (i + 1) 0 ≠ 91 then .inl (i + 1) else rScan T p g (i + 2) (e + 1) (n + 1) false (K ++ [T.getD i 0]))
    else if (T.getD i 0 = 120 ∧ 2 ≤ p) ∨ (T.getD i 0 = 121 ∧ 1 ≤ p) then rScan T p g (i + 1) e n true (K ++ [T.getD i 0])
    else if isFun (T.getD i 0) = false ∨ p = 0 then .inl i
    else if T.getD (i + 1) 0 ≠ 40 then .inl (i + 1)
    else if ¬ (T.getD (i + 2) 0 = 121 ∨ (T.getD (i + 2) 0 = 120 ∧ 2 ≤ p)) then .inl (i + 2)
    else if T.getD (i + 3) 0 ≠ 41 then .inl (i + 3)
    else rScan T p g (i + 4) e n true (K ++ [256 + 2 * (T.getD i 0 - 102) + (if T.getD (i + 2) 0 = 121 then 1 else 0)])))) ∧ h' = hm mi ml mr) := by
        intro a2
        refine am_iload rfl rfl ?_
        refine am_if_eq rfl (fun y => ?_) (fun y => ?_)
        case refine_2 =>
          rw [if_pos ((bI_ne _).mp y)]
          refine am_iconst (v := -1) rfl (by decide) ?_
          refine am_iload_n rfl rfl ?_
          refine am_isub rfl ?_
          exact am_ireturn rfl rfl ⟨rfl, rfl⟩
        have y := (bI_eq _).mp y
        rw [if_neg (by rw [y]; decide)]
        refine am_iload rfl rfl ?_
        refine am_bipush (v := nI 12) rfl (by decide) ?_
        refine ho_icmp_ge rfl (by omega) (by omega) (fun w => ?_) (fun w => ?_)
        · have hno : ¬ (n < 12 ∧ (isDig (T.getD i 0) = true ∨ (T.getD i 0 = 35 ∧ p = 1))) := fun q => by omega
          rw [if_neg hno]
          exact s110 a1 a2 y hno
        have h12 : n < 12 := by omega
        have s104 : (isDig (T.getD i 0) = true ∨ (T.getD i 0 = 35 ∧ p = 1)) → am_T l (d + 2) M_m_resultEnd 104 [some (.ref 116), x1, some (.int (nI (pch p))), some (.int (nI i)), some (.int (nI e)), some (.int (nI n)), some (.int (bI en)), some (.int (nI (T.getD i 0))), some (.int (nI 1))] [] (hm mi ml mr) 0 0 (fun r h' => r = some (.int (reI (if n < 12 ∧ (isDig (T.getD i 0) = true ∨ (T.getD i 0 = 35 ∧ p = 1)) then rScan T p g (i + 1) e (n + 1) false (K ++ [T.getD i 0])
    else if n < 12 ∧ isLab (T.getD i 0) = true then (if T.getD (i + 1) 0 ≠ 91 then .inl (i + 1) else rScan T p g (i + 2) (e + 1) (n + 1) false (K ++ [T.getD i 0]))
    else if (T.getD i 0 = 120 ∧ 2 ≤ p) ∨ (T.getD i 0 = 121 ∧ 1 ≤ p) then rScan T p g (i + 1) e n true (K ++ [T.getD i 0])
    else if isFun (T.getD i 0) = false ∨ p = 0 then .inl i
    else if T.getD (i + 1) 0 ≠ 40 then .inl (i + 1)
    else if ¬ (T.getD (i + 2) 0 = 121 ∨ (T.getD (i + 2) 0 = 120 ∧ 2 ≤ p)) then .inl (i + 2)
    else if T.getD (i + 3) 0 ≠ 41 then .inl (i + 3)
    else rScan T p g (i + 4) e n true (K ++ [256 + 2 * (T.getD i 0 - 102) + (if T.getD (i + 2) 0 = 121 then 1 else 0)])))) ∧ h' = hm mi ml mr) := by
          intro hor
          rw [if_pos ⟨h12, hor⟩]
          refine am_iinc rfl rfl (nI_inc1 _) ?_
          show am_T _ _ _ _ [_, _, _, _, _, some _, _, _, _] _ _ _ _ _
          refine am_goto rfl ?_
          subst y
          exact s177 1 e (n + 1) false _ (by omega) (by omega) (by omega) (by omega)
        have sno : ¬ (isDig (T.getD i 0) = true ∨ (T.getD i 0 = 35 ∧ p = 1)) → am_T l (d + 2) M_m_resultEnd 110 [some (.ref 116), x1, some (.int (nI (pch p))), some (.int (nI i)), some (.int (nI e)), some (.int (nI n)), some (.int (bI en)), some (.int (nI (T.getD i 0))), some (.int (nI 1))] [] (hm mi ml mr) 0 0 (fun r h' => r = some (.int (reI (if n < 12 ∧ (isDig (T.getD i 0) = true ∨ (T.getD i 0 = 35 ∧ p = 1)) then rScan T p g (i + 1) e (n + 1) false (K ++ [T.getD i 0])
    else if n < 12 ∧ isLab (T.getD i 0) = true then (if T.getD (i + 1) 0 ≠ 91 then .inl (i + 1) else rScan T p g (i + 2) (e + 1) (n + 1) false (K ++ [T.getD i 0]))
    else if (T.getD i 0 = 120 ∧ 2 ≤ p) ∨ (T.getD i 0 = 121 ∧ 1 ≤ p) then rScan T p g (i + 1) e n true (K ++ [T.getD i 0])
    else if isFun (T.getD i 0) = false ∨ p = 0 then .inl i
    else if T.getD (i + 1) 0 ≠ 40 then .inl (i + 1)
    else if ¬ (T.getD (i + 2) 0 = 121 ∨ (T.getD (i + 2) 0 = 120 ∧ 2 ≤ p)) then .inl (i + 2)
    else if T.getD (i + 3) 0 ≠ 41 then .inl (i + 3)
    else rScan T p g (i + 4) e n true (K ++ [256 + 2 * (T.getD i 0 - 102) + (if T.getD (i + 2) 0 = 121 then 1 else 0)])))) ∧ h' = hm mi ml mr) := by
          intro hnor
          have hno : ¬ (n < 12 ∧ (isDig (T.getD i 0) = true ∨ (T.getD i 0 = 35 ∧ p = 1))) := fun q => hnor q.2
          rw [if_neg hno]
          exact s110 a1 a2 y hno
        refine am_iload rfl rfl ?_
        refine ho_cs1 rfl rfl (Nat.le_of_ble_eq_true rfl) (Nat.le_of_ble_eq_true rfl) (c_m_digit _ (by omega)) ?_
        rintro v h' ⟨rfl, rfl⟩
        refine am_if_ne rfl (fun u => s104 (Or.inl ((bI_ne _).mp u))) (fun u => ?_)
        have u := (bI_eq _).mp u
        refine am_iload rfl rfl ?_
        refine am_bipush (v := nI 35) rfl (by decide) ?_
        refine ho_icmp_ne rfl (by omega) (by omega) (fun k => sno (fun q => q.elim (fun q => by rw [u] at q; cases q) (fun q => k q.1))) (fun k => ?_)
        refine am_iload_n rfl rfl ?_
        refine am_bipush (v := nI 35) rfl (by decide) ?_
        refine ho_icmp_ne rfl (by omega) (by omega) (fun j => sno (fun q => q.elim (fun q => by rw [u] at q; cases q) (fun q => j (q4.mpr q.2)))) (fun j => s104 (Or.inr ⟨k, q4.mp j⟩))
      refine ho_icmp_ne rfl (by omega) (by omega) (fun y => ?_) (fun y => ?_)
      · have hno : ¬ (T.getD i 0 = 93 ∧ 0 < e) := fun q => y q.1
        rw [if_neg hno]
        exact s67 hno
      refine am_iload rfl rfl ?_
      refine am_if_le rfl (fun x => ?_) (fun x => ?_)
      · have x : nI e ≤ nI 0 := x
        rw [nI_leI (by omega) (by omega)] at x
        have hno : ¬ (T.getD i 0 = 93 ∧ 0 < e) := fun q => by omega
        rw [if_neg hno]
        exact s67 hno
      · have x : ¬ nI e ≤ nI 0 := x
        rw [nI_leI (by omega) (by omega)] at x
        obtain ⟨e', rfl⟩ : ∃ e', e = e' + 1 := ⟨e - 1, by omega⟩
        rw [if_pos ⟨y, by omega⟩, Nat.add_sub_cancel]
        refine am_iinc rfl rfl (nI_dec1 _) ?_
        show am_T _ _ _ _ [_, _, _, _, some _, _, _, _, _] _ _ _ _ _
        refine am_iconst (v := nI 0) rfl (by decide) ?_
        refine am_istore rfl (Nat.le_of_ble_eq_true rfl) ?_
        show am_T _ _ _ _ [_, _, _, _, _, _, some _, _, _] _ _ _ _ _
        refine am_goto rfl ?_
        exact s177 1 e' n false _ (by omega) (by omega) (by omega) hn
    refine am_iload rfl rfl ?_
    refine am_if_gt rfl (fun y => ?_) (fun y => ?_)
    · have y : nI 0 < nI e := y
      rw [nI_ltI (by omega) (by omega)] at y
      have hno : ¬ (T.getD i 0 = 47 ∧ e = 0) := fun q => by omega
      rw [if_neg hno]
      exact s35 hno
    · have y : ¬ nI 0 < nI e := y
      rw [nI_ltI (by omega) (by omega)] at y
      refine am_aload_n rfl rfl ?_
      refine ho_getR rfl (by first | rfl | assumption) rfl (by first | assumption | exact hR _ _ _ rfl) ?_
      refine am_iload_n rfl rfl ?_
      refine ho_caload rfl rfl (by omega) ?_
      rw [p1 i (by omega)]
      refine am_bipush (v := nI 47) rfl (by decide) ?_
      refine ho_icmp_eq rfl (by omega) (by omega) (fun x => ?_) (fun x => ?_)
      · rw [if_pos ⟨x, by omega⟩]
        refine am_iload rfl rfl ?_
        refine am_if_le rfl (fun _ => ?_) (fun w => absurd (show nI e ≤ nI 0 by rw [nI_leI (by omega) (by omega)]; omega) w)
        refine am_iload_n rfl rfl ?_
        exact am_ireturn rfl rfl ⟨rfl, rfl⟩
      · have hno : ¬ (T.getD i 0 = 47 ∧ e = 0) := fun q => x q.1
        rw [if_neg hno]
        exact s35 hno
end M15
