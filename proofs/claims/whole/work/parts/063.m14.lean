/-! the reference: bracket, definitionStop -/
def brk (T : List Nat) (i : Nat) : Nat := if T.getD (i + 1) 0 ≠ 91 then 1 else if isNam (T.getD (i + 2) 0) = false then 2 else if T.getD (i + 3) 0 ≠ 93 then 3 else 4
def dRead (T : List Nat) : Nat ⊕ List Rt := if T.getD 1 0 ≠ 61 then .inl 1 else dScan T T.length 2 [] false false
section M14
variable {l : Launch} {d : Nat} {mi : Nat → Nat → Int32} {ml : Nat → Nat → Int64} {mr : Nat → Nat → Option Nat} {T : List Nat}
theorem c_m_bracket (hR : SR mr) (hP : PM T mi) (i : Nat) (hi : i < 500) : am_T l (d + 1) M_m_bracket 0 [some (.ref 116), some (.int (nI i)), none, none, none] [] (hm mi ml mr) 0 0 (fun r h' => r = some (.int (nI (brk T i))) ∧ h' = hm mi ml mr) := by
  obtain ⟨p1, p2, p3, p4⟩ := hP
  have c1 := okT_at p4 (i + 1)
  have c2 := okT_at p4 (i + 2)
  have c3 := okT_at p4 (i + 3)
  refine am_aload_n rfl rfl ?_
  refine am_iload_n rfl rfl ?_
  refine am_iconst (v := nI 1) rfl (by decide) ?_
  first | refine ho_addn rfl ?_ | refine am_iadd rfl ?_
  refine ho_cv1 rfl (by first | rfl | assumption) rfl (Nat.le_of_ble_eq_true rfl) (Nat.le_of_ble_eq_true rfl) (c_m_at hR T p1 p2 p3 p4 (i + 1) (by omega)) ?_
  rintro v h' ⟨rfl, rfl⟩
  refine am_istore_n rfl (Nat.le_of_ble_eq_true rfl) ?_
  show am_T _ _ _ _ [_, _, some _, _, _] _ _ _ _ _
  refine am_aload_n rfl rfl ?_
  refine am_iload_n rfl rfl ?_
  refine am_iconst (v := nI 2) rfl (by decide) ?_
  first | refine ho_addn rfl ?_ | refine am_iadd rfl ?_
  refine ho_cv1 rfl (by first | rfl | assumption) rfl (Nat.le_of_ble_eq_true rfl) (Nat.le_of_ble_eq_true rfl) (c_m_at hR T p1 p2 p3 p4 (i + 2) (by omega)) ?_
  rintro v h' ⟨rfl, rfl⟩
  refine am_istore_n rfl (Nat.le_of_ble_eq_true rfl) ?_
  show am_T _ _ _ _ [_, _, _, some _, _] _ _ _ _ _
  refine am_aload_n rfl rfl ?_
  refine am_iload_n rfl rfl ?_
  refine am_iconst (v := nI 3) rfl (by decide) ?_
  first | refine ho_addn rfl ?_ | refine am_iadd rfl ?_
  refine ho_cv1 rfl (by first | rfl | assumption) rfl (Nat.le_of_ble_eq_true rfl) (Nat.le_of_ble_eq_true rfl) (c_m_at hR T p1 p2 p3 p4 (i + 3) (by omega)) ?_
  rintro v h' ⟨rfl, rfl⟩
  refine am_istore rfl (Nat.le_of_ble_eq_true rfl) ?_
  show am_T _ _ _ _ [_, _, _, _, some _] _ _ _ _ _
  refine am_iload_n rfl rfl ?_
  refine am_bipush (v := nI 91) rfl (by decide) ?_
  unfold brk
  refine ho_icmp_eq rfl (by omega) (by omega) (fun z => ?_) (fun z => ?_)
  case refine_2 =>
    refine am_iconst (v := nI 1) rfl (by decide) ?_
    refine am_goto rfl ?_
    exact am_ireturn rfl rfl ⟨by rw [if_pos z], rfl⟩
  rw [if_neg (fun q => q z)]
  refine am_iload_n rfl rfl ?_
  refine ho_cs1 rfl rfl (Nat.le_of_ble_eq_true rfl) (Nat.le_of_ble_eq_true rfl) (c_m_name _ (by omega)) ?_
  rintro v h' ⟨rfl, rfl⟩
  refine am_if_ne rfl (fun y => ?_) (fun y => ?_)
  case refine_2 =>
    refine am_iconst (v := nI 2) rfl (by decide) ?_
    refine am_goto rfl ?_
    exact am_ireturn rfl rfl ⟨by rw [if_pos ((bI_eq _).mp y)], rfl⟩
  rw [if_neg (by rw [(bI_ne _).mp y]; decide)]
  refine am_iload rfl rfl ?_
  refine am_bipush (v := nI 93) rfl (by decide) ?_
  refine ho_icmp_eq rfl (by omega) (by omega) (fun x => ?_) (fun x => ?_)
  · refine am_iconst (v := nI 4) rfl (by decide) ?_
    exact am_ireturn rfl rfl ⟨by rw [if_neg (fun q => q x)], rfl⟩
  · refine am_iconst (v := nI 3) rfl (by decide) ?_
    refine am_goto rfl ?_
    exact am_ireturn rfl rfl ⟨by rw [if_pos x], rfl⟩
theorem c_m_definitionStop_loop (hR : SR mr) (hP : PM T mi) : ∀ (g i : Nat) (D : List Rt) (mq tl mkl : Bool), T.length < i + g → i ≤ T.length → nit D ≤ 16 → nen (clo D tl) ≤ 8 → (tl = false → mkl = mq) → (mq = true → tl = false ∧ ∃ P w c, D = P ++ [(w, c, 0)] ∧ 1 ≤ w ∧ w ≤ 5) →
    am_T l (d + 2) M_m_definitionStop 24 [some (.ref 116), some (.int (nI i)), some (.int (nI (nen (clo D tl)))), some (.int (nI (nit D))), some (.int (bI mkl)), some (.int (bI tl)), none, none] [] (hm mi ml mr) 0 0 (fun r h' => r = some (.int (stI (dScan T g i D mq tl))) ∧ h' = hm mi ml mr) := by
  have hP' := hP
  obtain ⟨p1, p2, p3, p4⟩ := hP'
  intro g
  induction g with
  | zero =>
    intro i D mq tl mkl h1 h2
    omega
  | succ g ih =>
    intro i D mq tl mkl hg hi hit hen hml hmk
    have hc := okT_at p4 i
    rw [dScan]
    refine am_iload_n rfl rfl ?_
    refine am_aload_n rfl rfl ?_
    refine ho_getI rfl (by first | rfl | assumption) rfl ?_
    rw [p2]
    refine ho_icmp_ge rfl (by omega) (by omega) (fun z => ?_) (fun z => ?_)
    · refine am_iconst (v := -1) rfl (by decide) ?_
      exact am_ireturn rfl rfl ⟨by rw [if_pos z]; rfl, rfl⟩
    rw [if_neg z]
    refine am_aload_n rfl rfl ?_
    refine ho_getR rfl (by first | rfl | assumption) rfl (by first | assumption | exact hR _ _ _ rfl) ?_
    refine am_iload_n rfl rfl ?_
    refine ho_caload rfl rfl (by omega) ?_
    rw [p1 i (by omega)]
    refine am_istore rfl (Nat.le_of_ble_eq_true rfl) ?_
    show am_T _ _ _ _ [_, _, _, _, _, _, some _, _] _ _ _ _ _
    refine am_iconst (v := nI 1) rfl (by decide) ?_
    refine am_istore rfl (Nat.le_of_ble_eq_true rfl) ?_
    show am_T _ _ _ _ [_, _, _, _, _, _, _, some _] _ _ _ _ _
    refine am_iload rfl rfl ?_
    refine am_bipush (v := nI 124) rfl (by decide) ?_
    have s182 : ∀ (s : Nat) (D' : List Rt) (mq' tl' mkl' : Bool) (a n : Nat), a = nen (clo D' tl') → n = nit D' → 1 ≤ s → i + s ≤ T.length → nit D' ≤ 16 → nen (clo D' tl') ≤ 8 → (tl' = false → mkl' = mq') → (mq' = true → tl' = false ∧ ∃ P w c, D' = P ++ [(w, c, 0)] ∧ 1 ≤ w ∧ w ≤ 5) →
        am_T l (d + 2) M_m_definitionStop 182 [some (.ref 116), some (.int (nI i)), some (.int (nI a)), some (.int (nI n)), some (.int (bI mkl')), some (.int (bI tl')), some (.int (nI (T.getD i 0))), some (.int (nI s))] [] (hm mi ml mr) 0 0 (fun r h' => r = some (.int (stI (dScan T g (i + s) D' mq' tl'))) ∧ h' = hm mi ml mr) := by
      intro s D' mq' tl' mkl' a n ha hn h1 h2 h3 h4 h5 h6
      refine am_iload_n rfl rfl ?_
      refine am_iload rfl rfl ?_
      first | refine ho_addn rfl ?_ | refine am_iadd rfl ?_
      refine am_istore_n rfl (Nat.le_of_ble_eq_true rfl) ?_
      show am_T _ _ _ _ [_, some _, _, _, _, _, _, _] _ _ _ _ _
      refine am_goto rfl ?_
      refine am_drops [6, 7] ?_
      rw [ha, hn]
      exact ih (i + s) D' mq' tl' mkl' (by omega) h2 h3 h4 h5 h6
    have s68 : ¬ (T.getD i 0 = 124 ∧ nen (clo D tl) < 8) → am_T l (d + 2) M_m_definitionStop 68 [some (.ref 116), some (.int (nI i)), some (.int (nI (nen (clo D tl)))), some (.int (nI (nit D))), some (.int (bI mkl)), some (.int (bI tl)), some (.int (nI (T.getD i 0))), some (.int (nI 1))] [] (hm mi ml mr) 0 0 (fun r h' => r = some (.int (stI (if tl = true then .inl i else if mq = true ∧ (T.getD i 0 = 42 ∨ T.getD i 0 = 63) then dScan T g (i + 1) (setm D (if T.getD i 0 = 42 then 1 else 2)) false false
    else if isNam (T.getD i 0) = true then dScan T g (i + 1) (D ++ [(T.getD i 0 - 55, 0, 0)]) false true
    else if nit D < 16 ∧ T.getD i 0 = 35 then dScan T g (i + 1) (D ++ [(1, 0, 0)]) true false
    else if nit D < 16 ∧ isLab (T.getD i 0) = true then (if T.getD (i + 1) 0 ≠ 91 then .inl (i + 1) else if isNam (T.getD (i + 2) 0) = false then .inl (i + 2) else if T.getD (i + 3) 0 ≠ 93 then .inl (i + 3) else
      dScan T g (i + 4) (D ++ [(T.getD i 0 - 95, T.getD (i + 2) 0 - 65, 0)]) true false)
    else .inl i))) ∧ h' = hm mi ml mr) := by
      intro hno
      refine am_iload rfl rfl ?_
      refine am_if_eq rfl (fun y => ?_) (fun y => ?_)
      case refine_2 =>
        refine am_iload_n rfl rfl ?_
        exact am_ireturn rfl rfl ⟨by rw [if_pos ((bI_ne _).mp y)]; rfl, rfl⟩
      have y := (bI_eq _).mp y
      subst y
      have hml := hml rfl
      subst hml
      have hen1 : nen (clo D false) = nen D + 1 := (nit_E rfl).2
      rw [if_neg (by decide)]
      have s100 : ¬ (mkl = true ∧ (T.getD i 0 = 42 ∨ T.getD i 0 = 63)) → am_T l (d + 2) M_m_definitionStop 100 [some (.ref 116), some (.int (nI i)), some (.int (nI (nen (clo D false)))), some (.int (nI (nit D))), some (.int (bI mkl)), some (.int (bI false)), some (.int (nI (T.getD i 0))), some (.int (nI 1))] [] (hm mi ml mr) 0 0 (fun r h' => r = some (.int (stI (if isNam (T.getD i 0) = true then dScan T g (i + 1) (D ++ [(T.getD i 0 - 55, 0, 0)]) false true
    else if nit D < 16 ∧ T.getD i 0 = 35 then dScan T g (i + 1) (D ++ [(1, 0, 0)]) true false
    else if nit D < 16 ∧ isLab (T.getD i 0) = true then (if T.getD (i + 1) 0 ≠ 91 then .inl (i + 1) else if isNam (T.getD (i + 2) 0) = false then .inl (i + 2) else if T.getD (i + 3) 0 ≠ 93 then .inl (i + 3) else
      dScan T g (i + 4) (D ++ [(T.getD i 0 - 95, T.getD (i + 2) 0 - 65, 0)]) true false)
    else .inl i))) ∧ h' = hm mi ml mr) := by
        intro hno2
        refine am_iload rfl rfl ?_
        refine ho_cs1 rfl rfl (Nat.le_of_ble_eq_true rfl) (Nat.le_of_ble_eq_true rfl) (c_m_name _ (by omega)) ?_
        rintro v h' ⟨rfl, rfl⟩
        refine am_if_eq rfl (fun x => ?_) (fun x => ?_)
        case refine_2 =>
          have x := (bI_ne _).mp x
          have x' := isNam_r x
          have hE : isE (T.getD i 0 - 55, 0, 0) = true := by simp only [isE, decide_eq_true_eq]; omega
          rw [if_pos x]
          refine am_iconst (v := nI 1) rfl (by decide) ?_
          refine am_istore rfl (Nat.le_of_ble_eq_true rfl) ?_
          show am_T _ _ _ _ [_, _, _, _, _, some _, _, _] _ _ _ _ _
          refine am_goto rfl ?_
          refine s182 1 _ false true mkl _ _ ?_ ?_ (by omega) (by omega) ?_ ?_ (fun e => by cases e) (fun e => by cases e)
          · show nen (clo D false) = nen (D ++ [_])
            rw [(nit_E hE).2, hen1]
          · rw [(nit_E hE).1]
          · rw [(nit_E hE).1]
            exact hit
          · show nen (D ++ [_]) ≤ 8
            rw [(nit_E hE).2]
            omega
        have x := (bI_eq _).mp x
        rw [if_neg (by rw [x]; decide)]
        refine am_iload_n rfl rfl ?_
        refine am_bipush (v := nI 16) rfl (by decide) ?_
        refine ho_icmp_ge rfl (by omega) (by omega) (fun w => ?_) (fun w => ?_)
        · refine am_iload_n rfl rfl ?_
          exact am_ireturn rfl rfl ⟨by rw [if_neg (fun q => by omega), if_neg (fun q => by omega)]; rfl, rfl⟩
        have h16 : nit D < 16 := by omega
        refine am_iload rfl rfl ?_
        refine am_bipush (v := nI 35) rfl (by decide) ?_
        have hI : ∀ r : Rt, isE r = false → nen (clo (D ++ [r]) false) = nen (clo D false) ∧ nit (D ++ [r]) = nit D + 1 := by
          intro r hr
          refine ⟨?_, (nit_I hr).1⟩
          show nen (D ++ [r] ++ [(0, 0, 0)]) = _
          rw [(nit_E rfl).2, (nit_I hr).2, hen1]
        refine ho_icmp_eq rfl (by omega) (by omega) (fun u => ?_) (fun u => ?_)
        · rw [if_pos ⟨h16, u⟩]
          refine am_iload rfl rfl ?_
          refine am_bipush (v := nI 35) rfl (by decide) ?_
          refine ho_icmp_ne rfl (by omega) (by omega) (fun q => absurd u q) (fun _ => ?_)
          refine am_iconst (v := nI 1) rfl (by decide) ?_
          refine am_goto rfl ?_
          refine am_istore rfl (Nat.le_of_ble_eq_true rfl) ?_
          show am_T _ _ _ _ [_, _, _, _, _, _, _, some _] _ _ _ _ _
          refine am_iload rfl rfl ?_
          refine am_bipush (v := nI 35) rfl (by decide) ?_
          refine ho_icmp_eq rfl (by omega) (by omega) (fun _ => ?_) (fun q => absurd u q)
          refine am_iinc rfl rfl (nI_inc1 _) ?_
          show am_T _ _ _ _ [_, _, _, some _, _, _, _, _] _ _ _ _ _
          refine am_iconst (v := nI 1) rfl (by decide) ?_
          refine am_istore rfl (Nat.le_of_ble_eq_true rfl) ?_
          show am_T _ _ _ _ [_, _, _, _, some _, _, _, _] _ _ _ _ _
          refine am_goto rfl ?_
          have := hI (1, 0, 0) rfl
          exact s182 1 _ true false true _ _ this.1.symm this.2.symm (by omega) (by omega) (by omega) (by omega) (fun _ => rfl) (fun _ => ⟨rfl, D, 1, 0, rfl, by decide⟩)
        rw [if_neg (fun q => u q.2)]
        refine am_iload rfl rfl ?_
        refine ho_cs1 rfl rfl (Nat.le_of_ble_eq_true rfl) (Nat.le_of_ble_eq_true rfl) (c_m_label _ (by omega)) ?_
        rintro v h' ⟨rfl, rfl⟩
        refine am_if_eq rfl (fun q => ?_) (fun q => ?_)
        · have q := (bI_eq _).mp q
          rw [if_neg (fun k => by rw [q] at k; cases k.2)]
          refine am_iload_n rfl rfl ?_
          exact am_ireturn rfl rfl ⟨rfl, rfl⟩
        have q := (bI_ne _).mp q
        have q' := isLab_r q
        rw [if_pos ⟨h16, q⟩]
        refine am_iload rfl rfl ?_
        refine am_bipush (v := nI 35) rfl (by decide) ?_
        refine ho_icmp_ne rfl (by omega) (by omega) (fun _ => ?_) (fun k => absurd k u)
        refine am_aload_n rfl rfl ?_
        refine am_iload_n rfl rfl ?_
        refine ho_cv1 rfl (by first | rfl | assumption) rfl (Nat.le_of_ble_eq_true rfl) (Nat.le_of_ble_eq_true rfl) (c_m_bracket hR hP i (by omega)) ?_
        rintro v h' ⟨rfl, rfl⟩
        have hb4 : brk T i ≤ 4 := by
          unfold brk
          split
          · omega
          · split
            · omega
            · split <;> omega
        refine am_istore rfl (Nat.le_of_ble_eq_true rfl) ?_
        show am_T _ _ _ _ [_, _, _, _, _, _, _, some _] _ _ _ _ _
        refine am_iload rfl rfl ?_
        refine am_bipush (v := nI 35) rfl (by decide) ?_
        refine ho_icmp_eq rfl (by omega) (by omega) (fun k => absurd k u) (fun _ => ?_)
        refine am_iload rfl rfl ?_
        refine am_iconst (v := nI 4) rfl (by decide) ?_
        unfold brk at hb4 ⊢
        by_cases b1 : T.getD (i + 1) 0 ≠ 91
        · rw [if_pos b1, if_pos b1]
          refine ho_icmp_ge rfl (by omega) (by omega) (fun k => absurd k (by omega)) (fun _ => ?_)
          refine am_iload_n rfl rfl ?_
          refine am_iload rfl rfl ?_
          first | refine ho_addn rfl ?_ | refine am_iadd rfl ?_
          exact am_ireturn rfl rfl ⟨rfl, rfl⟩
        rw [if_neg b1, if_neg b1]
        by_cases b2 : isNam (T.getD (i + 2) 0) = false
        · rw [if_pos b2, if_pos b2]
          refine ho_icmp_ge rfl (by omega) (by omega) (fun k => absurd k (by omega)) (fun _ => ?_)
          refine am_iload_n rfl rfl ?_
          refine am_iload rfl rfl ?_
          first | refine ho_addn rfl ?_ | refine am_iadd rfl ?_
          exact am_ireturn rfl rfl ⟨rfl, rfl⟩
        rw [if_neg b2, if_neg b2]
        by_cases b3 : T.getD (i + 3) 0 ≠ 93
        · rw [if_pos b3, if_pos b3]
          refine ho_icmp_ge rfl (by omega) (by omega) (fun k => absurd k (by omega)) (fun _ => ?_)
          refine am_iload_n rfl rfl ?_
          refine am_iload rfl rfl ?_
          first | refine ho_addn rfl ?_ | refine am_iadd rfl ?_
          exact am_ireturn rfl rfl ⟨rfl, rfl⟩
        rw [if_neg b3, if_neg b3]
        refine ho_icmp_ge rfl (by omega) (by omega) (fun _ => ?_) (fun k => absurd (by omega) k)
        refine am_iinc rfl rfl (nI_inc1 _) ?_
        show am_T _ _ _ _ [_, _, _, some _, _, _, _, _] _ _ _ _ _
        refine am_iconst (v := nI 1) rfl (by decide) ?_
        refine am_istore rfl (Nat.le_of_ble_eq_true rfl) ?_
        show am_T _ _ _ _ [_, _, _, _, some _, _, _, _] _ _ _ _ _
        refine am_goto rfl ?_
        have hl3 := lt_of_getD (Classical.not_not.mp b3) (by decide)
        have hE : isE (T.getD i 0 - 95, T.getD (i + 2) 0 - 65, 0) = false := by simp only [isE, decide_eq_false_iff_not]; omega
        have := hI _ hE
        exact s182 4 _ true false true _ _ this.1.symm this.2.symm (by omega) (by omega) (by omega) (by omega) (fun _ => rfl) (fun _ => ⟨rfl, D, _, _, rfl, by omega, by omega⟩)
      refine am_iload rfl rfl ?_
      refine am_if_eq rfl (fun x => ?_) (fun x => ?_)
      · have x := (bI_eq _).mp x
        rw [if_neg (fun q => by rw [x] at q; cases q.1)]
        exact s100 (fun q => by rw [x] at q; cases q.1)
      have x := (bI_ne _).mp x
      have s94 : (T.getD i 0 = 42 ∨ T.getD i 0 = 63) → am_T l (d + 2) M_m_definitionStop 94 [some (.ref 116), some (.int (nI i)), some (.int (nI (nen (clo D false)))), some (.int (nI (nit D))), some (.int (bI mkl)), some (.int (bI false)), some (.int (nI (T.getD i 0))), some (.int (nI 1))] [] (hm mi ml mr) 0 0 (fun r h' => r = some (.int (stI (if mkl = true ∧ (T.getD i 0 = 42 ∨ T.getD i 0 = 63) then dScan T g (i + 1) (setm D (if T.getD i 0 = 42 then 1 else 2)) false false
    else if isNam (T.getD i 0) = true then dScan T g (i + 1) (D ++ [(T.getD i 0 - 55, 0, 0)]) false true
    else if nit D < 16 ∧ T.getD i 0 = 35 then dScan T g (i + 1) (D ++ [(1, 0, 0)]) true false
    else if nit D < 16 ∧ isLab (T.getD i 0) = true then (if T.getD (i + 1) 0 ≠ 91 then .inl (i + 1) else if isNam (T.getD (i + 2) 0) = false then .inl (i + 2) else if T.getD (i + 3) 0 ≠ 93 then .inl (i + 3) else
      dScan T g (i + 4) (D ++ [(T.getD i 0 - 95, T.getD (i + 2) 0 - 65, 0)]) true false)
    else .inl i))) ∧ h' = hm mi ml mr) := by
        intro hc2
        rw [if_pos ⟨x, hc2⟩]
        obtain ⟨-, P, w, c, rfl, w1, w5⟩ := hmk x
        rw [setm_app]
        have hE0 : isE (w, c, 0) = false := by simp only [isE, decide_eq_false_iff_not]; omega
        have hE2 : ∀ m, isE (w, c, m) = false := fun m => by simp only [isE, decide_eq_false_iff_not]; omega
        refine am_iconst (v := nI 0) rfl (by decide) ?_
        refine am_istore rfl (Nat.le_of_ble_eq_true rfl) ?_
        show am_T _ _ _ _ [_, _, _, _, some _, _, _, _] _ _ _ _ _
        refine am_goto rfl ?_
        have e1 : nen (clo (P ++ [(w, c, 0)]) false) = nen P + 1 := by rw [hen1, (nit_I hE0).2]
        have e2 : ∀ m, nen (clo (P ++ [(w, c, m)]) false) = nen P + 1 := by
          intro m
          show nen (P ++ [(w, c, m)] ++ [(0, 0, 0)]) = _
          rw [(nit_E rfl).2, (nit_I (hE2 m)).2]
        have e3 : ∀ m, nit (P ++ [(w, c, m)]) = nit P + 1 := fun m => (nit_I (hE2 m)).1
        rw [e3] at hit
        refine s182 1 _ false false false _ _ ?_ ?_ (by omega) (by omega) ?_ ?_ (fun _ => rfl) (fun e => by cases e)
        · rw [e1, e2]
        · rw [e3, e3]
        · rw [e3]
          exact hit
        · rw [e2]
          omega
      refine am_iload rfl rfl ?_
      refine am_bipush (v := nI 42) rfl (by decide) ?_
      refine ho_icmp_eq rfl (by omega) (by omega) (fun w => s94 (Or.inl w)) (fun w => ?_)
      refine am_iload rfl rfl ?_
      refine am_bipush (v := nI 63) rfl (by decide) ?_
      refine ho_icmp_ne rfl (by omega) (by omega) (fun u => ?_) (fun u => s94 (Or.inr u))
      have hno2 : ¬ (mkl = true ∧ (T.getD i 0 = 42 ∨ T.getD i 0 = 63)) := fun q => q.2.elim w u
      rw [if_neg hno2]
      exact s100 hno2
    refine ho_icmp_ne rfl (by omega) (by omega) (fun y => ?_) (fun y => ?_)
    · have hno : ¬ (T.getD i 0 = 124 ∧ nen (clo D tl) < 8) := fun q => y q.1
      rw [if_neg hno]
      exact s68 hno
    refine am_iload_n rfl rfl ?_
    refine am_bipush (v := nI 8) rfl (by decide) ?_
    refine ho_icmp_ge rfl (by omega) (by omega) (fun x => ?_) (fun x => ?_)
    · have hno : ¬ (T.getD i 0 = 124 ∧ nen (clo D tl) < 8) := fun q => by omega
      rw [if_neg hno]
      exact s68 hno
    · rw [if_pos ⟨y, by omega⟩]
      refine am_iinc rfl rfl (nI_inc1 _) ?_
      show am_T _ _ _ _ [_, _, some _, _, _, _, _, _] _ _ _ _ _
      refine am_iconst (v := nI 0) rfl (by decide) ?_
      refine am_istore rfl (Nat.le_of_ble_eq_true rfl) ?_
      show am_T _ _ _ _ [_, _, _, _, _, some _, _, _] _ _ _ _ _
      refine am_iconst (v := nI 0) rfl (by decide) ?_
      refine am_istore rfl (Nat.le_of_ble_eq_true rfl) ?_
      show am_T _ _ _ _ [_, _, _, _, some _, _, _, _] _ _ _ _ _
      refine am_goto rfl ?_
      have hit2 : nit (clo D tl) = nit D := by
        cases tl
        · exact (nit_E rfl).1
        · rfl
      refine s182 1 _ false false false _ _ ?_ hit2.symm (by omega) (by omega) (by omega) ?_ (fun _ => rfl) (fun e => by cases e)
      · show _ = nen (clo D tl ++ [(0, 0, 0)])
        rw [(nit_E rfl).2]
      · show nen (clo D tl ++ [(0, 0, 0)]) ≤ 8
        rw [(nit_E rfl).2]
        omega
theorem c_m_definitionStop (hR : SR mr) (hP : PM T mi) (h0 : 0 < T.length) : am_T l (d + 2) M_m_definitionStop 0 [some (.ref 116), none, none, none, none, none, none, none] [] (hm mi ml mr) 0 0 (fun r h' => r = some (.int (stI (dRead T))) ∧ h' = hm mi ml mr) := by
  have hP' := hP
  obtain ⟨p1, p2, p3, p4⟩ := hP'
  have hc := okT_at p4 1
  refine am_aload_n rfl rfl ?_
  refine am_iconst (v := nI 1) rfl (by decide) ?_
  refine ho_cv1 rfl (by first | rfl | assumption) rfl (Nat.le_of_ble_eq_true rfl) (Nat.le_of_ble_eq_true rfl) (c_m_at hR T p1 p2 p3 p4 1 (by omega)) ?_
  rintro v h' ⟨rfl, rfl⟩
  refine am_bipush (v := nI 61) rfl (by decide) ?_
  unfold dRead
  refine ho_icmp_eq rfl (by omega) (by omega) (fun z => ?_) (fun z => ?_)
  · rw [if_neg (fun q => q z)]
    have hl := lt_of_getD z (by decide)
    refine am_iconst (v := nI 2) rfl (by decide) ?_
    refine am_istore_n rfl (Nat.le_of_ble_eq_true rfl) ?_
    show am_T _ _ _ _ [_, some _, _, _, _, _, _, _] _ _ _ _ _
    refine am_iconst (v := nI 1) rfl (by decide) ?_
    refine am_istore_n rfl (Nat.le_of_ble_eq_true rfl) ?_
    show am_T _ _ _ _ [_, _, some _, _, _, _, _, _] _ _ _ _ _
    refine am_iconst (v := nI 0) rfl (by decide) ?_
    refine am_istore_n rfl (Nat.le_of_ble_eq_true rfl) ?_
    show am_T _ _ _ _ [_, _, _, some _, _, _, _, _] _ _ _ _ _
    refine am_iconst (v := nI 0) rfl (by decide) ?_
    refine am_istore rfl (Nat.le_of_ble_eq_true rfl) ?_
    show am_T _ _ _ _ [_, _, _, _, some _, _, _, _] _ _ _ _ _
    refine am_iconst (v := nI 0) rfl (by decide) ?_
    refine am_istore rfl (Nat.le_of_ble_eq_true rfl) ?_
    show am_T _ _ _ _ [_, _, _, _, _, some _, _, _] _ _ _ _ _
    exact c_m_definitionStop_loop hR hP T.length 2 [] false false false (by omega) (by omega) (by decide) (by decide) (fun _ => rfl) (fun e => by cases e)
  · rw [if_pos z]
    refine am_iconst (v := nI 1) rfl (by decide) ?_
    exact am_ireturn rfl rfl ⟨rfl, rfl⟩
end M14
