/-! the reference: functionStop -/
section M16
variable {l : Launch} {d : Nat} {mi : Nat → Nat → Int32} {ml : Nat → Nat → Int64} {mr : Nat → Nat → Option Nat} {T : List Nat}
theorem c_m_resultEnd (hR : SR mr) (hP : PM T mi) (p : Nat) (hp : p ≤ 5) (g i : Nat) (hg : T.length < i + g) (hi : i ≤ T.length) : am_T l (d + 2) M_m_resultEnd 0 [some (.ref 116), some (.int (nI i)), some (.int (nI (pch p))), none, none, none, none, none, none] [] (hm mi ml mr) 0 0 (fun r h' => r = some (.int (reI (rScan T p g i 0 0 false []))) ∧ h' = hm mi ml mr) := by
  refine am_iload_n rfl rfl ?_
  refine am_istore_n rfl (Nat.le_of_ble_eq_true rfl) ?_
  show am_T _ _ _ _ [_, _, _, some _, _, _, _, _, _] _ _ _ _ _
  refine am_iconst (v := nI 0) rfl (by decide) ?_
  refine am_istore rfl (Nat.le_of_ble_eq_true rfl) ?_
  show am_T _ _ _ _ [_, _, _, _, some _, _, _, _, _] _ _ _ _ _
  refine am_iconst (v := nI 0) rfl (by decide) ?_
  refine am_istore rfl (Nat.le_of_ble_eq_true rfl) ?_
  show am_T _ _ _ _ [_, _, _, _, _, some _, _, _, _] _ _ _ _ _
  refine am_iconst (v := nI 0) rfl (by decide) ?_
  refine am_istore rfl (Nat.le_of_ble_eq_true rfl) ?_
  show am_T _ _ _ _ [_, _, _, _, _, _, some _, _, _] _ _ _ _ _
  exact c_m_resultEnd_loop hR hP p hp _ g i 0 0 false [] hg hi (Nat.zero_le _) (by decide)
theorem rScan_le (T : List Nat) (p : Nat) : ∀ (g i e n : Nat) (en : Bool) (K : List Nat) (s : Nat), i ≤ T.length → rScan T p g i e n en K = .inl s → s ≤ T.length + 3 := by
  intro g
  induction g with
  | zero =>
    intro i e n en K s hi h
    cases h
    omega
  | succ g ih =>
    intro i e n en K s hi h
    rw [rScan] at h
    by_cases h1 : T.length ≤ i
    · rw [if_pos h1] at h
      by_cases h2 : 0 < e
      · rw [if_pos h2] at h
        cases h
        omega
      · rw [if_neg h2] at h
        cases h
    rw [if_neg h1] at h
    by_cases h2 : T.getD i 0 = 47 ∧ e = 0
    · rw [if_pos h2] at h
      cases h
    rw [if_neg h2] at h
    by_cases h3 : T.getD i 0 = 93 ∧ 0 < e
    · rw [if_pos h3] at h
      exact ih _ _ _ _ _ _ (by omega) h
    rw [if_neg h3] at h
    by_cases h4 : en = true
    · rw [if_pos h4] at h
      cases h
      omega
    rw [if_neg h4] at h
    by_cases h5 : n < 12 ∧ (isDig (T.getD i 0) = true ∨ (T.getD i 0 = 35 ∧ p = 1))
    · rw [if_pos h5] at h
      exact ih _ _ _ _ _ _ (by omega) h
    rw [if_neg h5] at h
    by_cases h6 : n < 12 ∧ isLab (T.getD i 0) = true
    · rw [if_pos h6] at h
      by_cases h7 : T.getD (i + 1) 0 ≠ 91
      · rw [if_pos h7] at h
        cases h
        omega
      · rw [if_neg h7] at h
        have := lt_of_getD (Classical.not_not.mp h7) (by decide)
        exact ih _ _ _ _ _ _ (by omega) h
    rw [if_neg h6] at h
    by_cases h7 : (T.getD i 0 = 120 ∧ 2 ≤ p) ∨ (T.getD i 0 = 121 ∧ 1 ≤ p)
    · rw [if_pos h7] at h
      exact ih _ _ _ _ _ _ (by omega) h
    rw [if_neg h7] at h
    by_cases h8 : isFun (T.getD i 0) = false ∨ p = 0
    · rw [if_pos h8] at h
      cases h
      omega
    rw [if_neg h8] at h
    by_cases h9 : T.getD (i + 1) 0 ≠ 40
    · rw [if_pos h9] at h
      cases h
      omega
    rw [if_neg h9] at h
    by_cases h10 : ¬ (T.getD (i + 2) 0 = 121 ∨ (T.getD (i + 2) 0 = 120 ∧ 2 ≤ p))
    · rw [if_pos h10] at h
      cases h
      omega
    rw [if_neg h10] at h
    by_cases h11 : T.getD (i + 3) 0 ≠ 41
    · rw [if_pos h11] at h
      cases h
      omega
    · rw [if_neg h11] at h
      have := lt_of_getD (Classical.not_not.mp h11) (by decide)
      exact ih _ _ _ _ _ _ (by omega) h
theorem c_m_functionStop_loop (hR : SR mr) (hP : PM T mi) : ∀ (g k i : Nat) (C : List Cl), k + g = 6 → C.length = k → i ≤ T.length → am_T l (d + 3) M_m_functionStop 54 [some (.ref 116), some (.int (nI i)), some (.int (nI k)), none, none, none] [] (hm mi ml mr) 0 0 (fun r h' => r = some (.int (stI (cScan T g i C))) ∧ h' = hm mi ml mr) := by
  have hP' := hP
  obtain ⟨p1, p2, p3, p4⟩ := hP'
  intro g
  induction g with
  | zero =>
    intro k i C hk hC hi
    unfold cScan
    refine am_iload_n rfl rfl ?_
    refine am_bipush (v := nI 6) rfl (by decide) ?_
    refine ho_icmp_ge rfl (by omega) (by omega) (fun _ => ?_) (fun z => absurd (by omega) z)
    refine am_iload_n rfl rfl ?_
    refine am_aload_n rfl rfl ?_
    refine ho_getI rfl (by first | rfl | assumption) rfl ?_
    rw [p2]
    refine ho_icmp_lt rfl (by omega) (by omega) (fun z => ?_) (fun z => ?_)
    · refine am_iload_n rfl rfl ?_
      exact am_ireturn rfl rfl ⟨by rw [if_neg (by omega)]; rfl, rfl⟩
    · refine am_iconst (v := -1) rfl (by decide) ?_
      refine am_goto rfl ?_
      exact am_ireturn rfl rfl ⟨by rw [if_pos (by omega)]; rfl, rfl⟩
  | succ g ih =>
    intro k i C hk hC hi
    rw [cScan]
    refine am_iload_n rfl rfl ?_
    refine am_bipush (v := nI 6) rfl (by decide) ?_
    refine ho_icmp_ge rfl (by omega) (by omega) (fun z => absurd z (by omega)) (fun _ => ?_)
    have s74 : ¬ (T.length ≤ i ∧ C ≠ []) → am_T l (d + 3) M_m_functionStop 74 [some (.ref 116), some (.int (nI i)), some (.int (nI k)), none, none, none] [] (hm mi ml mr) 0 0 (fun r h' => r = some (.int (stI (match clScan T i with
    | .inl s => .inl s
    | .inr (q, c) => cScan T g q (C ++ [c])))) ∧ h' = hm mi ml mr) := by
      intro _
      have c0 := okT_at p4 i
      have c1 := okT_at p4 (i + 1)
      refine am_aload_n rfl rfl ?_
      refine am_iload_n rfl rfl ?_
      refine ho_cv1 rfl (by first | rfl | assumption) rfl (Nat.le_of_ble_eq_true rfl) (Nat.le_of_ble_eq_true rfl) (c_m_at hR T p1 p2 p3 p4 i (by omega)) ?_
      rintro v h' ⟨rfl, rfl⟩
      refine am_bipush (v := nI 47) rfl (by decide) ?_
      unfold clScan
      refine ho_icmp_eq rfl (by omega) (by omega) (fun z => ?_) (fun z => ?_)
      case refine_2 =>
        rw [if_pos z]
        refine am_iload_n rfl rfl ?_
        exact am_ireturn rfl rfl ⟨rfl, rfl⟩
      rw [if_neg (fun q => q z)]
      have hil := lt_of_getD z (by decide)
      refine am_iinc rfl rfl (nI_inc1 _) ?_
      show am_T _ _ _ _ [_, some _, _, _, _, _] _ _ _ _ _
      refine am_aload_n rfl rfl ?_
      refine am_iload_n rfl rfl ?_
      refine ho_cv1 rfl (by first | rfl | assumption) rfl (Nat.le_of_ble_eq_true rfl) (Nat.le_of_ble_eq_true rfl) (c_m_at hR T p1 p2 p3 p4 (i + 1) (by omega)) ?_
      rintro v h' ⟨rfl, rfl⟩
      -- the pattern stands: n characters, pattern p
      have good : ∀ (n : Nat) (p : Nat × Nat × Nat), n ≤ 5 → p.1 ≤ 5 → pch p.1 = T.getD (i + 1) 0 → am_T l (d + 3) M_m_functionStop 217 [some (.ref 116), some (.int (nI (i + 1))), some (.int (nI k)), some (.int (nI (T.getD (i + 1) 0))), some (.int (nI n)), some (.int (bI true))] [] (hm mi ml mr) 0 0 (fun r h' => r = some (.int (stI (match (match (.inr (i + 1 + n, p) : Nat ⊕ (Nat × Nat × Nat × Nat)) with
    | .inl s => .inl s
    | .inr (j, p) => if T.getD j 0 ≠ 45 then .inl j else match rScan T p.1 81 (j + 1) 0 0 false [] with
      | .inl s => .inl s
      | .inr (q, K) => .inr (q, (p, K)) : Nat ⊕ (Nat × Cl)) with
    | .inl s => .inl s
    | .inr (q, c) => cScan T g q (C ++ [c])))) ∧ h' = hm mi ml mr) := by
        intro n p hn hp hpc
        have cj := okT_at p4 (i + 1 + n)
        refine am_iload rfl rfl ?_
        refine am_if_eq rfl (fun y => by cases y) (fun _ => ?_)
        refine am_aload_n rfl rfl ?_
        refine am_iload_n rfl rfl ?_
        refine am_iload rfl rfl ?_
        first | refine ho_addn rfl ?_ | refine am_iadd rfl ?_
        refine ho_cv1 rfl (by first | rfl | assumption) rfl (Nat.le_of_ble_eq_true rfl) (Nat.le_of_ble_eq_true rfl) (c_m_at hR T p1 p2 p3 p4 (i + 1 + n) (by omega)) ?_
        rintro v h' ⟨rfl, rfl⟩
        refine am_bipush (v := nI 45) rfl (by decide) ?_
        simp only
        refine ho_icmp_eq rfl (by omega) (by omega) (fun y => ?_) (fun y => ?_)
        case refine_2 =>
          rw [if_pos y]
          refine am_iload_n rfl rfl ?_
          refine am_iload rfl rfl ?_
          first | refine ho_addn rfl ?_ | refine am_iadd rfl ?_
          exact am_ireturn rfl rfl ⟨rfl, rfl⟩
        rw [if_neg (fun q => q y)]
        have hjl := lt_of_getD y (by decide)
        refine am_aload_n rfl rfl ?_
        refine am_iload_n rfl rfl ?_
        refine am_iload rfl rfl ?_
        first | refine ho_addn rfl ?_ | refine am_iadd rfl ?_
        refine am_iconst (v := nI 1) rfl (by decide) ?_
        first | refine ho_addn rfl ?_ | refine am_iadd rfl ?_
        refine am_iload_n rfl rfl ?_
        rw [← hpc]
        refine ho_cv2 rfl (by first | rfl | assumption) rfl (Nat.le_of_ble_eq_true rfl) (Nat.le_of_ble_eq_true rfl) (c_m_resultEnd hR hP p.1 hp 81 (i + 1 + n + 1) (by omega) (by omega)) ?_
        rintro v h' ⟨rfl, rfl⟩
        cases hrs : rScan T p.1 81 (i + 1 + n + 1) 0 0 false [] with
        | inl s =>
          have hsl := rScan_le T _ _ _ _ _ _ _ _ (by omega) hrs
          show am_T _ _ _ _ _ (.int (ngI s) :: _) _ _ _ _
          refine am_istore_n rfl (Nat.le_of_ble_eq_true rfl) ?_
          show am_T _ _ _ _ [_, some _, _, _, _, _] _ _ _ _ _
          refine am_iload_n rfl rfl ?_
          refine am_if_ge rfl (fun w => absurd (ngI_neg s (by omega)) (by rw [Int32.not_lt]; exact w)) (fun _ => ?_)
          refine am_iconst (v := -1) rfl (by decide) ?_
          refine am_iload_n rfl rfl ?_
          refine am_isub rfl ?_
          rw [ngI_inv s (by omega)]
          exact am_ireturn rfl rfl ⟨rfl, rfl⟩
        | inr qK =>
          obtain ⟨q, K⟩ := qK
          obtain ⟨u1, -⟩ := rScan_ok T (T.take (i + 1 + n + 1)) p.1 81 (i + 1 + n + 1) 0 0 false [] q K (by omega) (by simp [ktx]) (fun k hk => by cases hk) rfl (Nat.le_refl _) (by omega) hrs
          show am_T _ _ _ _ _ (.int (nI q) :: _) _ _ _ _
          refine am_istore_n rfl (Nat.le_of_ble_eq_true rfl) ?_
          show am_T _ _ _ _ [_, some _, _, _, _, _] _ _ _ _ _
          refine am_iload_n rfl rfl ?_
          refine am_if_ge rfl (fun _ => ?_) (fun w => absurd (nI_pos' (by omega)) w)
          refine am_iinc rfl rfl (nI_inc1 _) ?_
          show am_T _ _ _ _ [_, _, some _, _, _, _] _ _ _ _ _
          refine am_goto rfl ?_
          refine am_drops [3, 4, 5] ?_
          exact ih (k + 1) q (C ++ [(p, K)]) (by omega) (by rw [List.length_append, hC]; rfl) u1
      have bad : ∀ (n : Nat) (x5 : Int32), am_T l (d + 3) M_m_functionStop 217 [some (.ref 116), some (.int (nI (i + 1))), some (.int (nI k)), some (.int (nI (T.getD (i + 1) 0))), some (.int (nI n)), some (.int (bI false))] [] (hm mi ml mr) 0 0 (fun r h' => r = some (.int (stI (.inl (i + 1 + n) : Nat ⊕ List Cl))) ∧ h' = hm mi ml mr) := by
        intro n _
        refine am_iload rfl rfl ?_
        refine am_if_eq rfl (fun _ => ?_) (fun y => absurd rfl y)
        refine am_iload_n rfl rfl ?_
        refine am_iload rfl rfl ?_
        first | refine ho_addn rfl ?_ | refine am_iadd rfl ?_
        exact am_ireturn rfl rfl ⟨rfl, rfl⟩
      refine am_istore_n rfl (Nat.le_of_ble_eq_true rfl) ?_
      show am_T _ _ _ _ [_, _, _, some _, _, _] _ _ _ _ _
      refine am_iload_n rfl rfl ?_
      refine am_bipush (v := nI 46) rfl (by decide) ?_
      unfold pScan
      refine ho_icmp_ne rfl (by omega) (by omega) (fun y => ?_) (fun y => ?_)
      case refine_2 =>
        rw [if_pos y]
        refine am_iconst (v := nI 1) rfl (by decide) ?_
        refine am_goto rfl ?_
        refine am_istore rfl (Nat.le_of_ble_eq_true rfl) ?_
        show am_T _ _ _ _ [_, _, _, _, some _, _] _ _ _ _ _
        refine am_iload rfl rfl ?_
        refine am_if_ge rfl (fun _ => ?_) (fun w => absurd (by decide) w)
        refine am_iload_n rfl rfl ?_
        refine ho_cs1 rfl rfl (Nat.le_of_ble_eq_true rfl) (Nat.le_of_ble_eq_true rfl) (c_m_label _ (by omega)) ?_
        rintro v h' ⟨rfl, rfl⟩
        refine am_if_eq rfl (fun _ => ?_) (fun w => ?_)
        · refine am_iload_n rfl rfl ?_
          refine am_bipush (v := nI 46) rfl (by decide) ?_
          refine ho_icmp_eq rfl (by omega) (by omega) (fun _ => ?_) (fun w => absurd y w)
          refine am_iconst (v := nI 1) rfl (by decide) ?_
          refine am_goto rfl ?_
          refine am_istore rfl (Nat.le_of_ble_eq_true rfl) ?_
          show am_T _ _ _ _ [_, _, _, _, _, some _] _ _ _ _ _
          exact good 1 (0, 0, 0) (by decide) (by decide) y.symm
        · have := isLab_r ((bI_ne _).mp w)
          omega
      rw [if_neg y]
      refine am_iload_n rfl rfl ?_
      refine am_bipush (v := nI 35) rfl (by decide) ?_
      refine ho_icmp_ne rfl (by omega) (by omega) (fun x => ?_) (fun x => ?_)
      case refine_2 =>
        rw [if_pos x]
        have c2 := okT_at p4 (i + 1 + 1)
        refine am_aload_n rfl rfl ?_
        refine am_iload_n rfl rfl ?_
        refine am_iconst (v := nI 1) rfl (by decide) ?_
        first | refine ho_addn rfl ?_ | refine am_iadd rfl ?_
        refine ho_cv1 rfl (by first | rfl | assumption) rfl (Nat.le_of_ble_eq_true rfl) (Nat.le_of_ble_eq_true rfl) (c_m_at hR T p1 p2 p3 p4 (i + 1 + 1) (by omega)) ?_
        rintro v h' ⟨rfl, rfl⟩
        refine ho_cs1 rfl rfl (Nat.le_of_ble_eq_true rfl) (Nat.le_of_ble_eq_true rfl) (c_m_name _ (by omega)) ?_
        rintro v h' ⟨rfl, rfl⟩
        refine am_if_eq rfl (fun w => ?_) (fun w => ?_)
        · have w := (bI_eq _).mp w
          rw [if_neg (by rw [w]; decide)]
          refine am_iconst (v := -1) rfl (by decide) ?_
          refine am_goto rfl ?_
          refine am_istore rfl (Nat.le_of_ble_eq_true rfl) ?_
          show am_T _ _ _ _ [_, _, _, _, some _, _] _ _ _ _ _
          refine am_iload rfl rfl ?_
          refine am_if_ge rfl (fun u => absurd u (by decide)) (fun _ => ?_)
          refine am_iload_n rfl rfl ?_
          refine am_iconst (v := nI 1) rfl (by decide) ?_
          first | refine ho_addn rfl ?_ | refine am_iadd rfl ?_
          exact am_ireturn rfl rfl ⟨rfl, rfl⟩
        · have w := (bI_ne _).mp w
          rw [if_pos w]
          refine am_iconst (v := nI 2) rfl (by decide) ?_
          refine am_goto rfl ?_
          refine am_istore rfl (Nat.le_of_ble_eq_true rfl) ?_
          show am_T _ _ _ _ [_, _, _, _, some _, _] _ _ _ _ _
          refine am_iload rfl rfl ?_
          refine am_if_ge rfl (fun _ => ?_) (fun w => absurd (by decide) w)
          refine am_iload_n rfl rfl ?_
          refine ho_cs1 rfl rfl (Nat.le_of_ble_eq_true rfl) (Nat.le_of_ble_eq_true rfl) (c_m_label _ (by omega)) ?_
          rintro v h' ⟨rfl, rfl⟩
          refine am_if_eq rfl (fun _ => ?_) (fun w => ?_)
          · refine am_iload_n rfl rfl ?_
            refine am_bipush (v := nI 46) rfl (by decide) ?_
            refine ho_icmp_eq rfl (by omega) (by omega) (fun w => absurd w y) (fun _ => ?_)
            refine am_iload_n rfl rfl ?_
            refine am_bipush (v := nI 35) rfl (by decide) ?_
            refine ho_icmp_eq rfl (by omega) (by omega) (fun _ => ?_) (fun w => absurd x w)
            refine am_iconst (v := nI 1) rfl (by decide) ?_
            refine am_goto rfl ?_
            refine am_istore rfl (Nat.le_of_ble_eq_true rfl) ?_
            show am_T _ _ _ _ [_, _, _, _, _, some _] _ _ _ _ _
            exact good 2 (1, 0, T.getD (i + 1 + 1) 0 - 65) (by decide) (by show 1 ≤ 5; omega) x.symm
          · have := isLab_r ((bI_ne _).mp w)
            omega
      rw [if_neg x]
      refine am_iload_n rfl rfl ?_
      refine ho_cs1 rfl rfl (Nat.le_of_ble_eq_true rfl) (Nat.le_of_ble_eq_true rfl) (c_m_label _ (by omega)) ?_
      rintro v h' ⟨rfl, rfl⟩
      refine am_if_eq rfl (fun w => ?_) (fun w => ?_)
      · have w := (bI_eq _).mp w
        rw [if_pos w]
        refine am_iconst (v := nI 0) rfl (by decide) ?_
        refine am_istore rfl (Nat.le_of_ble_eq_true rfl) ?_
        show am_T _ _ _ _ [_, _, _, _, some _, _] _ _ _ _ _
        refine am_iload rfl rfl ?_
        refine am_if_ge rfl (fun _ => ?_) (fun w => absurd (by decide) w)
        refine am_iload_n rfl rfl ?_
        refine ho_cs1 rfl rfl (Nat.le_of_ble_eq_true rfl) (Nat.le_of_ble_eq_true rfl) (c_m_label _ (by omega)) ?_
        rintro v h' ⟨rfl, rfl⟩
        refine am_if_eq rfl (fun _ => ?_) (fun u => ?_)
        · refine am_iload_n rfl rfl ?_
          refine am_bipush (v := nI 46) rfl (by decide) ?_
          refine ho_icmp_eq rfl (by omega) (by omega) (fun u => absurd u y) (fun _ => ?_)
          refine am_iload_n rfl rfl ?_
          refine am_bipush (v := nI 35) rfl (by decide) ?_
          refine ho_icmp_eq rfl (by omega) (by omega) (fun u => absurd u x) (fun _ => ?_)
          refine am_iload rfl rfl ?_
          refine am_iconst (v := nI 5) rfl (by decide) ?_
          refine ho_icmp_ne rfl (by omega) (by omega) (fun _ => ?_) (fun u => absurd u (by decide))
          refine am_iconst (v := nI 0) rfl (by decide) ?_
          refine am_istore rfl (Nat.le_of_ble_eq_true rfl) ?_
          show am_T _ _ _ _ [_, _, _, _, _, some _] _ _ _ _ _
          exact bad 0 0
        · have u := (bI_ne _).mp u
          rw [w] at u
          cases u
      have w := (bI_ne _).mp w
      have wr := isLab_r w
      rw [if_neg (by rw [w]; decide)]
      refine am_aload_n rfl rfl ?_
      refine am_iload_n rfl rfl ?_
      refine ho_cv1 rfl (by first | rfl | assumption) rfl (Nat.le_of_ble_eq_true rfl) (Nat.le_of_ble_eq_true rfl) (c_m_bracket hR hP (i + 1) (by omega)) ?_
      rintro v h' ⟨rfl, rfl⟩
      -- a bracket that fails
      have s152 : ∀ n : Nat, n ≤ 3 → am_T l (d + 3) M_m_functionStop 144 [some (.ref 116), some (.int (nI (i + 1))), some (.int (nI k)), some (.int (nI (T.getD (i + 1) 0))), none, none] [.int (nI n)] (hm mi ml mr) 0 0 (fun r h' => r = some (.int (stI (.inl (i + 1 + n) : Nat ⊕ List Cl))) ∧ h' = hm mi ml mr) := by
        intro n hn
        refine am_goto rfl ?_
        refine am_istore rfl (Nat.le_of_ble_eq_true rfl) ?_
        show am_T _ _ _ _ [_, _, _, _, some _, _] _ _ _ _ _
        refine am_iload rfl rfl ?_
        refine am_if_ge rfl (fun _ => ?_) (fun u => absurd (nI_pos' (by omega)) u)
        refine am_iload_n rfl rfl ?_
        refine ho_cs1 rfl rfl (Nat.le_of_ble_eq_true rfl) (Nat.le_of_ble_eq_true rfl) (c_m_label _ (by omega)) ?_
        rintro v h' ⟨rfl, rfl⟩
        refine am_if_eq rfl (fun u => ?_) (fun _ => ?_)
        · have u := (bI_eq _).mp u
          rw [w] at u
          cases u
        refine am_iload rfl rfl ?_
        refine am_iconst (v := nI 4) rfl (by decide) ?_
        refine ho_icmp_ne rfl (by omega) (by omega) (fun _ => ?_) (fun u => by omega)
        refine am_iload_n rfl rfl ?_
        refine am_bipush (v := nI 46) rfl (by decide) ?_
        refine ho_icmp_eq rfl (by omega) (by omega) (fun u => absurd u y) (fun _ => ?_)
        refine am_iload_n rfl rfl ?_
        refine am_bipush (v := nI 35) rfl (by decide) ?_
        refine ho_icmp_eq rfl (by omega) (by omega) (fun u => absurd u x) (fun _ => ?_)
        refine am_iload rfl rfl ?_
        refine am_iconst (v := nI 5) rfl (by decide) ?_
        refine ho_icmp_ne rfl (by omega) (by omega) (fun _ => ?_) (fun u => by omega)
        refine am_iconst (v := nI 0) rfl (by decide) ?_
        refine am_istore rfl (Nat.le_of_ble_eq_true rfl) ?_
        show am_T _ _ _ _ [_, _, _, _, _, some _] _ _ _ _ _
        exact bad n 0
      unfold brk
      by_cases b1 : T.getD (i + 1 + 1) 0 ≠ 91
      · rw [if_pos b1, if_pos b1]
        exact s152 1 (by decide)
      rw [if_neg b1, if_neg b1]
      by_cases b2 : isNam (T.getD (i + 1 + 2) 0) = false
      · rw [if_pos b2, if_pos b2]
        exact s152 2 (by decide)
      rw [if_neg b2, if_neg b2]
      by_cases b3 : T.getD (i + 1 + 3) 0 ≠ 93
      · rw [if_pos b3, if_pos b3]
        exact s152 3 (by decide)
      rw [if_neg b3, if_neg b3]
      have c5 := okT_at p4 (i + 1 + 4)
      refine am_goto rfl ?_
      refine am_istore rfl (Nat.le_of_ble_eq_true rfl) ?_
      show am_T _ _ _ _ [_, _, _, _, some _, _] _ _ _ _ _
      refine am_iload rfl rfl ?_
      refine am_if_ge rfl (fun _ => ?_) (fun u => absurd (by decide) u)
      refine am_iload_n rfl rfl ?_
      refine ho_cs1 rfl rfl (Nat.le_of_ble_eq_true rfl) (Nat.le_of_ble_eq_true rfl) (c_m_label _ (by omega)) ?_
      rintro v h' ⟨rfl, rfl⟩
      refine am_if_eq rfl (fun u => ?_) (fun _ => ?_)
      · have u := (bI_eq _).mp u
        rw [w] at u
        cases u
      refine am_iload rfl rfl ?_
      refine am_iconst (v := nI 4) rfl (by decide) ?_
      refine ho_icmp_ne rfl (by omega) (by omega) (fun u => absurd rfl u) (fun _ => ?_)
      refine am_aload_n rfl rfl ?_
      refine am_iload_n rfl rfl ?_
      refine am_iconst (v := nI 4) rfl (by decide) ?_
      first | refine ho_addn rfl ?_ | refine am_iadd rfl ?_
      refine ho_cv1 rfl (by first | rfl | assumption) rfl (Nat.le_of_ble_eq_true rfl) (Nat.le_of_ble_eq_true rfl) (c_m_at hR T p1 p2 p3 p4 (i + 1 + 4) (by omega)) ?_
      rintro v h' ⟨rfl, rfl⟩
      refine ho_cs1 rfl rfl (Nat.le_of_ble_eq_true rfl) (Nat.le_of_ble_eq_true rfl) (c_m_name _ (by omega)) ?_
      rintro v h' ⟨rfl, rfl⟩
      refine am_if_eq rfl (fun u => ?_) (fun u => ?_)
      · rw [if_pos ((bI_eq _).mp u)]
        refine am_iconst (v := nI 4) rfl (by decide) ?_
        refine am_istore rfl (Nat.le_of_ble_eq_true rfl) ?_
        show am_T _ _ _ _ [_, _, _, _, some _, _] _ _ _ _ _
        refine am_iload_n rfl rfl ?_
        refine am_bipush (v := nI 46) rfl (by decide) ?_
        refine ho_icmp_eq rfl (by omega) (by omega) (fun u => absurd u y) (fun _ => ?_)
        refine am_iload_n rfl rfl ?_
        refine am_bipush (v := nI 35) rfl (by decide) ?_
        refine ho_icmp_eq rfl (by omega) (by omega) (fun u => absurd u x) (fun _ => ?_)
        refine am_iload rfl rfl ?_
        refine am_iconst (v := nI 5) rfl (by decide) ?_
        refine ho_icmp_ne rfl (by omega) (by omega) (fun _ => ?_) (fun u => absurd u (by decide))
        refine am_iconst (v := nI 0) rfl (by decide) ?_
        refine am_istore rfl (Nat.le_of_ble_eq_true rfl) ?_
        show am_T _ _ _ _ [_, _, _, _, _, some _] _ _ _ _ _
        exact bad 4 0
      · rw [if_neg (by rw [(bI_ne _).mp u]; decide)]
        refine am_iconst (v := nI 5) rfl (by decide) ?_
        refine am_goto rfl ?_
        refine am_istore rfl (Nat.le_of_ble_eq_true rfl) ?_
        show am_T _ _ _ _ [_, _, _, _, some _, _] _ _ _ _ _
        refine am_iload_n rfl rfl ?_
        refine am_bipush (v := nI 46) rfl (by decide) ?_
        refine ho_icmp_eq rfl (by omega) (by omega) (fun u => absurd u y) (fun _ => ?_)
        refine am_iload_n rfl rfl ?_
        refine am_bipush (v := nI 35) rfl (by decide) ?_
        refine ho_icmp_eq rfl (by omega) (by omega) (fun u => absurd u x) (fun _ => ?_)
        refine am_iload rfl rfl ?_
        refine am_iconst (v := nI 5) rfl (by decide) ?_
        refine ho_icmp_ne rfl (by omega) (by omega) (fun u => absurd rfl u) (fun _ => ?_)
        refine am_iconst (v := nI 1) rfl (by decide) ?_
        refine am_goto rfl ?_
        refine am_istore rfl (Nat.le_of_ble_eq_true rfl) ?_
        show am_T _ _ _ _ [_, _, _, _, _, some _] _ _ _ _ _
        refine good 5 (T.getD (i + 1) 0 - 95, T.getD (i + 1 + 2) 0 - 65, T.getD (i + 1 + 4) 0 - 65) (by decide) (by show T.getD (i + 1) 0 - 95 ≤ 5; omega) ?_
        show pch (T.getD (i + 1) 0 - 95) = _
        unfold pch
        rw [if_neg (by omega), if_neg (by omega)]
        omega
    refine am_iload_n rfl rfl ?_
    refine am_aload_n rfl rfl ?_
    refine ho_getI rfl (by first | rfl | assumption) rfl ?_
    rw [p2]
    refine ho_icmp_lt rfl (by omega) (by omega) (fun z => ?_) (fun z => ?_)
    · have hno : ¬ (T.length ≤ i ∧ C ≠ []) := fun q => by omega
      rw [if_neg hno]
      exact s74 hno
    refine am_iload_n rfl rfl ?_
    refine am_if_le rfl (fun y => ?_) (fun y => ?_)
    · have y : nI k ≤ nI 0 := y
      rw [nI_leI (by omega) (by omega)] at y
      have hno : ¬ (T.length ≤ i ∧ C ≠ []) := fun q => q.2 (List.length_eq_zero_iff.mp (by omega))
      rw [if_neg hno]
      exact s74 hno
    · have y : ¬ nI k ≤ nI 0 := y
      rw [nI_leI (by omega) (by omega)] at y
      refine am_iconst (v := -1) rfl (by decide) ?_
      exact am_ireturn rfl rfl ⟨by rw [if_pos ⟨by omega, fun e => by rw [e] at hC; exact y (by rw [← hC]; exact Nat.le_refl _)⟩]; rfl, rfl⟩
theorem c_m_functionStop (hR : SR mr) (hP : PM T mi) (h0 : 0 < T.length) : am_T l (d + 3) M_m_functionStop 0 [some (.ref 116), none, none, none, none, none] [] (hm mi ml mr) 0 0 (fun r h' => r = some (.int (stI (fScan T))) ∧ h' = hm mi ml mr) := by
  have hP' := hP
  obtain ⟨p1, p2, p3, p4⟩ := hP'
  have c1 := okT_at p4 1
  have c2 := okT_at p4 2
  have c3 := okT_at p4 3
  have c4 := okT_at p4 4
  unfold fScan
  refine am_aload_n rfl rfl ?_
  refine am_iconst (v := nI 1) rfl (by decide) ?_
  refine ho_cv1 rfl (by first | rfl | assumption) rfl (Nat.le_of_ble_eq_true rfl) (Nat.le_of_ble_eq_true rfl) (c_m_at hR T p1 p2 p3 p4 1 (by omega)) ?_
  rintro v h' ⟨rfl, rfl⟩
  refine am_bipush (v := nI 58) rfl (by decide) ?_
  refine ho_icmp_eq rfl (by omega) (by omega) (fun z => ?_) (fun z => ?_)
  case refine_2 =>
    rw [if_pos z]
    refine am_iconst (v := nI 1) rfl (by decide) ?_
    exact am_ireturn rfl rfl ⟨rfl, rfl⟩
  rw [if_neg (fun q => q z)]
  refine am_aload_n rfl rfl ?_
  refine am_iconst (v := nI 2) rfl (by decide) ?_
  refine ho_cv1 rfl (by first | rfl | assumption) rfl (Nat.le_of_ble_eq_true rfl) (Nat.le_of_ble_eq_true rfl) (c_m_at hR T p1 p2 p3 p4 2 (by omega)) ?_
  rintro v h' ⟨rfl, rfl⟩
  refine ho_cs1 rfl rfl (Nat.le_of_ble_eq_true rfl) (Nat.le_of_ble_eq_true rfl) (c_m_name _ (by omega)) ?_
  rintro v h' ⟨rfl, rfl⟩
  refine am_if_ne rfl (fun y => ?_) (fun y => ?_)
  case refine_2 =>
    rw [if_pos ((bI_eq _).mp y)]
    refine am_iconst (v := nI 2) rfl (by decide) ?_
    exact am_ireturn rfl rfl ⟨rfl, rfl⟩
  rw [if_neg (by rw [(bI_ne _).mp y]; decide)]
  refine am_aload_n rfl rfl ?_
  refine am_iconst (v := nI 3) rfl (by decide) ?_
  refine ho_cv1 rfl (by first | rfl | assumption) rfl (Nat.le_of_ble_eq_true rfl) (Nat.le_of_ble_eq_true rfl) (c_m_at hR T p1 p2 p3 p4 3 (by omega)) ?_
  rintro v h' ⟨rfl, rfl⟩
  refine am_bipush (v := nI 62) rfl (by decide) ?_
  refine ho_icmp_eq rfl (by omega) (by omega) (fun x => ?_) (fun x => ?_)
  case refine_2 =>
    rw [if_pos x]
    refine am_iconst (v := nI 3) rfl (by decide) ?_
    exact am_ireturn rfl rfl ⟨rfl, rfl⟩
  rw [if_neg (fun q => q x)]
  refine am_aload_n rfl rfl ?_
  refine am_iconst (v := nI 4) rfl (by decide) ?_
  refine ho_cv1 rfl (by first | rfl | assumption) rfl (Nat.le_of_ble_eq_true rfl) (Nat.le_of_ble_eq_true rfl) (c_m_at hR T p1 p2 p3 p4 4 (by omega)) ?_
  rintro v h' ⟨rfl, rfl⟩
  refine ho_cs1 rfl rfl (Nat.le_of_ble_eq_true rfl) (Nat.le_of_ble_eq_true rfl) (c_m_name _ (by omega)) ?_
  rintro v h' ⟨rfl, rfl⟩
  refine am_if_ne rfl (fun w => ?_) (fun w => ?_)
  case refine_2 =>
    rw [if_pos ((bI_eq _).mp w)]
    refine am_iconst (v := nI 4) rfl (by decide) ?_
    exact am_ireturn rfl rfl ⟨rfl, rfl⟩
  rw [if_neg (by rw [(bI_ne _).mp w]; decide)]
  have hl := lt_of_nam ((bI_ne _).mp w)
  refine am_iconst (v := nI 5) rfl (by decide) ?_
  refine am_istore_n rfl (Nat.le_of_ble_eq_true rfl) ?_
  show am_T _ _ _ _ [_, some _, _, _, _, _] _ _ _ _ _
  refine am_iconst (v := nI 0) rfl (by decide) ?_
  refine am_istore_n rfl (Nat.le_of_ble_eq_true rfl) ?_
  show am_T _ _ _ _ [_, _, some _, _, _, _] _ _ _ _ _
  refine am_T.to (c_m_functionStop_loop hR hP 6 0 5 [] rfl rfl (by omega)) ?_
  rintro v h' ⟨rfl, rfl⟩
  refine ⟨?_, rfl⟩
  cases cScan T 6 5 [] <;> rfl
end M16
