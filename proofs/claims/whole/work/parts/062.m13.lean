/-! the reference: hedgeStop, read -/
/-- the reference's pad -/
def PM (T : List Nat) (mi : Nat → Nat → Int32) : Prop := txt mi 117 T ∧ mi 116 1 = nI T.length ∧ T.length ≤ 80 ∧ okT T
def stI {α : Type} (R : Nat ⊕ α) : Int32 := match R with
  | .inl s => nI s
  | .inr _ => -1
section M13
variable {l : Launch} {d : Nat} {mi : Nat → Nat → Int32} {ml : Nat → Nat → Int64} {mr : Nat → Nat → Option Nat} {T : List Nat}
theorem c_m_hedgeStop_loop (hR : SR mr) (hP : PM T mi) : ∀ (g i p : Nat) (N : Nd), T.length < i + g → i ≤ T.length → p ≤ i → N.length ≤ 12 → am_T l (d + 1) M_m_hedgeStop 6 [some (.ref 116), some (.int (nI p)), some (.int (nI N.length)), some (.int (nI i)), none] [] (hm mi ml mr) 0 0 (fun r h' => r = some (.int (stI (hScan T g i p N))) ∧ h' = hm mi ml mr) := by
  obtain ⟨p1, p2, p3, p4⟩ := hP
  intro g
  induction g with
  | zero =>
    intro i p N h1 h2
    omega
  | succ g ih =>
    intro i p N hg hi hp hN
    unfold hScan
    have hc := okT_at p4 i
    refine am_iload_n rfl rfl ?_
    refine am_aload_n rfl rfl ?_
    refine ho_getI rfl (by first | rfl | assumption) rfl ?_
    rw [p2]
    refine ho_icmp_ge rfl (by omega) (by omega) (fun z => ?_) (fun z => ?_)
    · rw [if_pos z]
      refine am_iload_n rfl rfl ?_
      refine am_if_le rfl (fun y => ?_) (fun y => ?_)
      · have y : nI p ≤ nI 0 := y
        rw [nI_leI (by omega) (by omega)] at y
        refine am_iconst (v := -1) rfl (by decide) ?_
        exact am_ireturn rfl rfl ⟨by rw [if_pos (by omega)]; rfl, rfl⟩
      · have y : ¬ nI p ≤ nI 0 := y
        rw [nI_leI (by omega) (by omega)] at y
        refine am_iload_n rfl rfl ?_
        refine am_goto rfl ?_
        exact am_ireturn rfl rfl ⟨by rw [if_neg (by omega)]; rfl, rfl⟩
    rw [if_neg z]
    refine am_aload_n rfl rfl ?_
    refine ho_getR rfl (by first | rfl | assumption) rfl (by first | assumption | exact hR _ _ _ rfl) ?_
    refine am_iload_n rfl rfl ?_
    refine ho_caload rfl rfl (by omega) ?_
    rw [p1 i (by omega)]
    refine am_istore rfl (Nat.le_of_ble_eq_true rfl) ?_
    show am_T _ _ _ _ [_, _, _, _, some _] _ _ _ _ _
    refine am_iload rfl rfl ?_
    refine am_bipush (v := nI 93) rfl (by decide) ?_
    have s95 : ∀ (j p' n : Nat) (N' : Nd), i ≤ j → j < T.length → p' ≤ j + 1 → N'.length ≤ 12 → n = N'.length → am_T l (d + 1) M_m_hedgeStop 95 [some (.ref 116), some (.int (nI p')), some (.int (nI n)), some (.int (nI j)), some (.int (nI (T.getD i 0)))] [] (hm mi ml mr) 0 0 (fun r h' => r = some (.int (stI (hScan T g (j + 1) p' N'))) ∧ h' = hm mi ml mr) := by
      intro j p' n N' g1 g2 g3 g4 g5
      refine am_iinc rfl rfl (nI_inc1 _) ?_
      show am_T _ _ _ _ [_, _, _, some _, _] _ _ _ _ _
      refine am_goto rfl ?_
      refine am_drops [4] ?_
      rw [g5]
      exact ih (j + 1) p' N' (by omega) (by omega) g3 g4
    have s39 : ¬ (T.getD i 0 = 93 ∧ 0 < p) → am_T l (d + 1) M_m_hedgeStop 39 [some (.ref 116), some (.int (nI p)), some (.int (nI N.length)), some (.int (nI i)), some (.int (nI (T.getD i 0)))] [] (hm mi ml mr) 0 0 (fun r h' => r = some (.int (stI (if T.getD i 0 = 93 ∧ 0 < p then hScan T g (i + 1) (p - 1) N else if N.length < 12 ∧ isDig (T.getD i 0) = true then hScan T g (i + 1) p (N ++ [(T.getD i 0, p)]) else if N.length < 12 ∧ isLab (T.getD i 0) = true then (if T.getD (i + 1) 0 = 91 then hScan T g (i + 2) (p + 1) (N ++ [(T.getD i 0, p)]) else .inl (i + 1)) else .inl i))) ∧ h' = hm mi ml mr) := by
      intro hno
      rw [if_neg hno]
      refine am_iload_n rfl rfl ?_
      refine am_bipush (v := nI 12) rfl (by decide) ?_
      refine ho_icmp_ge rfl (by omega) (by omega) (fun y => ?_) (fun y => ?_)
      · refine am_iload_n rfl rfl ?_
        exact am_ireturn rfl rfl ⟨by rw [if_neg (fun q => by omega), if_neg (fun q => by omega)]; rfl, rfl⟩
      have h12 : N.length < 12 := by omega
      have s61 : isDig (T.getD i 0) = true ∨ isLab (T.getD i 0) = true → am_T l (d + 1) M_m_hedgeStop 61 [some (.ref 116), some (.int (nI p)), some (.int (nI N.length)), some (.int (nI i)), some (.int (nI (T.getD i 0)))] [] (hm mi ml mr) 0 0 (fun r h' => r = some (.int (stI (if N.length < 12 ∧ isDig (T.getD i 0) = true then hScan T g (i + 1) p (N ++ [(T.getD i 0, p)]) else if N.length < 12 ∧ isLab (T.getD i 0) = true then (if T.getD (i + 1) 0 = 91 then hScan T g (i + 2) (p + 1) (N ++ [(T.getD i 0, p)]) else .inl (i + 1)) else .inl i))) ∧ h' = hm mi ml mr) := by
        intro hor
        refine am_iinc rfl rfl (nI_inc1 _) ?_
        show am_T _ _ _ _ [_, _, some _, _, _] _ _ _ _ _
        refine am_iload rfl rfl ?_
        refine ho_cs1 rfl rfl (Nat.le_of_ble_eq_true rfl) (Nat.le_of_ble_eq_true rfl) (c_m_label _ (by omega)) ?_
        rintro v h' ⟨rfl, rfl⟩
        refine am_if_eq rfl (fun x => ?_) (fun x => ?_)
        · have x := (bI_eq _).mp x
          have hd : isDig (T.getD i 0) = true := hor.resolve_right (by rw [x]; decide)
          rw [if_pos ⟨h12, hd⟩]
          exact s95 i p (N.length + 1) _ (by omega) (by omega) (by omega) (by rw [List.length_append]; show N.length + 1 ≤ 12; omega) (by rw [List.length_append]; rfl)
        · have x := (bI_ne _).mp x
          have hx := isLab_r x
          have hd : ¬ (N.length < 12 ∧ isDig (T.getD i 0) = true) := fun q => by
            have := isDig_r q.2
            omega
          rw [if_neg hd, if_pos ⟨h12, x⟩]
          refine am_iinc rfl rfl (nI_inc1 _) ?_
          show am_T _ _ _ _ [_, _, _, some _, _] _ _ _ _ _
          refine am_aload_n rfl rfl ?_
          refine am_iload_n rfl rfl ?_
          refine ho_cv1 rfl (by first | rfl | assumption) rfl (Nat.le_of_ble_eq_true rfl) (Nat.le_of_ble_eq_true rfl) (c_m_at hR T p1 p2 p3 p4 (i + 1) (by omega)) ?_
          rintro v h' ⟨rfl, rfl⟩
          have hc1 := okT_at p4 (i + 1)
          refine am_bipush (v := nI 91) rfl (by decide) ?_
          refine ho_icmp_eq rfl (by omega) (by omega) (fun u => ?_) (fun u => ?_)
          · rw [if_pos u]
            have hl := lt_of_getD u (by decide)
            refine am_iinc rfl rfl (nI_inc1 _) ?_
            show am_T _ _ _ _ [_, some _, _, _, _] _ _ _ _ _
            refine am_goto rfl ?_
            exact s95 (i + 1) (p + 1) (N.length + 1) _ (by omega) (by omega) (by omega) (by rw [List.length_append]; show N.length + 1 ≤ 12; omega) (by rw [List.length_append]; rfl)
          · rw [if_neg u]
            refine am_iload_n rfl rfl ?_
            exact am_ireturn rfl rfl ⟨rfl, rfl⟩
      refine am_iload rfl rfl ?_
      refine ho_cs1 rfl rfl (Nat.le_of_ble_eq_true rfl) (Nat.le_of_ble_eq_true rfl) (c_m_digit _ (by omega)) ?_
      rintro v h' ⟨rfl, rfl⟩
      refine am_if_ne rfl (fun x => s61 (Or.inl ((bI_ne _).mp x))) (fun x => ?_)
      have x := (bI_eq _).mp x
      refine am_iload rfl rfl ?_
      refine ho_cs1 rfl rfl (Nat.le_of_ble_eq_true rfl) (Nat.le_of_ble_eq_true rfl) (c_m_label _ (by omega)) ?_
      rintro v h' ⟨rfl, rfl⟩
      refine am_if_eq rfl (fun u => ?_) (fun u => s61 (Or.inr ((bI_ne _).mp u)))
      have u := (bI_eq _).mp u
      refine am_iload_n rfl rfl ?_
      exact am_ireturn rfl rfl ⟨by rw [if_neg (fun q => by rw [x] at q; cases q.2), if_neg (fun q => by rw [u] at q; cases q.2)]; rfl, rfl⟩
    refine ho_icmp_ne rfl (by omega) (by omega) (fun y => s39 (fun q => y q.1)) (fun y => ?_)
    refine am_iload_n rfl rfl ?_
    refine am_if_le rfl (fun x => ?_) (fun x => ?_)
    · have x : nI p ≤ nI 0 := x
      rw [nI_leI (by omega) (by omega)] at x
      exact s39 (fun q => by omega)
    · have x : ¬ nI p ≤ nI 0 := x
      rw [nI_leI (by omega) (by omega)] at x
      obtain ⟨p', rfl⟩ : ∃ p', p = p' + 1 := ⟨p - 1, by omega⟩
      rw [if_pos ⟨y, by omega⟩, Nat.add_sub_cancel]
      refine am_iinc rfl rfl (nI_dec1 _) ?_
      show am_T _ _ _ _ [_, some _, _, _, _] _ _ _ _ _
      refine am_goto rfl ?_
      exact s95 i p' N.length N (by omega) (by omega) (by omega) hN rfl
theorem c_m_hedgeStop (hR : SR mr) (hP : PM T mi) : am_T l (d + 1) M_m_hedgeStop 0 [some (.ref 116), none, none, none, none] [] (hm mi ml mr) 0 0 (fun r h' => r = some (.int (stI (hScan T (T.length + 1) 0 0 []))) ∧ h' = hm mi ml mr) := by
  refine am_iconst (v := nI 0) rfl (by decide) ?_
  refine am_istore_n rfl (Nat.le_of_ble_eq_true rfl) ?_
  show am_T _ _ _ _ [_, some _, _, _, _] _ _ _ _ _
  refine am_iconst (v := nI 0) rfl (by decide) ?_
  refine am_istore_n rfl (Nat.le_of_ble_eq_true rfl) ?_
  show am_T _ _ _ _ [_, _, some _, _, _] _ _ _ _ _
  refine am_iconst (v := nI 0) rfl (by decide) ?_
  refine am_istore_n rfl (Nat.le_of_ble_eq_true rfl) ?_
  show am_T _ _ _ _ [_, _, _, some _, _] _ _ _ _ _
  exact c_m_hedgeStop_loop hR hP (T.length + 1) 0 0 [] (by omega) (Nat.zero_le _) (Nat.le_refl _) (by decide)
theorem hScan_le (T : List Nat) : ∀ (g i p : Nat) (N : Nd) (s : Nat), i ≤ T.length → hScan T g i p N = .inl s → s ≤ T.length := by
  intro g
  induction g with
  | zero =>
    intro i p N s hi h
    cases h
    exact hi
  | succ g ih =>
    intro i p N s hi h
    unfold hScan at h
    split at h
    · split at h
      · cases h
      · cases h
        exact hi
    · split at h
      · exact ih _ _ _ _ (by omega) h
      · split at h
        · exact ih _ _ _ _ (by omega) h
        · split at h
          · split at h
            · next q =>
              have := lt_of_getD q (by decide)
              exact ih _ _ _ _ (by omega) h
            · cases h
              omega
          · cases h
            exact hi
theorem c_m_read (hR : SR mr) (hP : PM T mi) : am_T l (d + 2) M_m_read 0 [some (.ref 116), none, none] [] (hm mi ml mr) 0 0 (fun r h' => match hScan T (T.length + 1) 0 0 [] with
    | .inl s => r = some (.int (nI (1 + s))) ∧ h' = hm mi ml mr
    | .inr _ => r = some (.int 0) ∧ h' = hm (up2 (cpN mi 120 0 117 0 T.length) 116 5 (nI T.length)) ml mr) := by
  have hP' := hP
  obtain ⟨p1, p2, p3, p4⟩ := hP'
  refine am_aload_n rfl rfl ?_
  refine ho_cv0 rfl (by first | rfl | assumption) rfl (Nat.le_of_ble_eq_true rfl) (Nat.le_of_ble_eq_true rfl) (c_m_hedgeStop hR hP) ?_
  rintro v h' ⟨rfl, rfl⟩
  cases hs : hScan T (T.length + 1) 0 0 [] with
  | inl s =>
    have hsl := hScan_le T _ _ _ _ _ (Nat.zero_le _) hs
    show am_T _ _ _ _ _ (.int (nI s) :: _) _ _ _ _
    refine am_istore_n rfl (Nat.le_of_ble_eq_true rfl) ?_
    show am_T _ _ _ _ [_, some _, _] _ _ _ _ _
    refine am_iload_n rfl rfl ?_
    refine am_if_lt rfl (fun z => absurd z (nI_pos (by omega))) (fun _ => ?_)
    refine am_iconst (v := nI 1) rfl (by decide) ?_
    refine am_iload_n rfl rfl ?_
    first | refine ho_addn rfl ?_ | refine am_iadd rfl ?_
    exact am_ireturn rfl rfl ⟨rfl, rfl⟩
  | inr N =>
    show am_T _ _ _ _ _ (.int (-1) :: _) _ _ _ _
    obtain ⟨hT, hN, h12⟩ := hScan_ok T _ 0 0 [] N (Nat.zero_le _) rfl trivial (Nat.le_refl _) (by decide) hs
    have h36 : T.length ≤ 36 := by
      have := len_tx0 hN
      rw [← hT] at this
      omega
    refine am_istore_n rfl (Nat.le_of_ble_eq_true rfl) ?_
    show am_T _ _ _ _ [_, some _, _] _ _ _ _ _
    refine am_iload_n rfl rfl ?_
    refine am_if_lt rfl (fun _ => ?_) (fun z => absurd (by decide) z)
    have loop : ∀ (n i : Nat), i + n = T.length → am_T l (d + 2) M_m_read 15 [some (.ref 116), some (.int (-1)), some (.int (nI i))] [] (hm (cpN mi 120 0 117 0 i) ml mr) 0 0 (fun r h' => r = some (.int 0) ∧ h' = hm (up2 (cpN mi 120 0 117 0 T.length) 116 5 (nI T.length)) ml mr) := by
      intro n
      induction n with
      | zero =>
        intro i hi
        have e : i = T.length := by omega
        subst e
        refine am_iload_n rfl rfl ?_
        refine am_aload_n rfl rfl ?_
        refine ho_getI rfl (by first | rfl | assumption) rfl ?_
        rw [cpN_off _ (by decide), p2]
        refine ho_icmp_ge rfl (by omega) (by omega) (fun _ => ?_) (fun z => absurd (by omega) z)
        refine am_aload_n rfl rfl ?_
        refine am_aload_n rfl rfl ?_
        refine ho_getI rfl (by first | rfl | assumption) rfl ?_
        rw [cpN_off _ (by decide), p2]
        refine ho_putI rfl (by first | rfl | assumption) rfl rfl ?_
        refine am_iconst (v := nI 0) rfl (by decide) ?_
        exact am_ireturn rfl rfl ⟨rfl, rfl⟩
      | succ n ih =>
        intro i hi
        have hc := okT_at p4 i
        refine am_iload_n rfl rfl ?_
        refine am_aload_n rfl rfl ?_
        refine ho_getI rfl (by first | rfl | assumption) rfl ?_
        rw [cpN_off _ (by decide), p2]
        refine ho_icmp_ge rfl (by omega) (by omega) (fun z => absurd z (by omega)) (fun _ => ?_)
        refine am_aload_n rfl rfl ?_
        refine ho_getR rfl (by first | rfl | assumption) rfl (by first | assumption | exact hR _ _ _ rfl) ?_
        refine am_iload_n rfl rfl ?_
        refine am_aload_n rfl rfl ?_
        refine ho_getR rfl (by first | rfl | assumption) rfl (by first | assumption | exact hR _ _ _ rfl) ?_
        refine am_iload_n rfl rfl ?_
        refine ho_caload rfl rfl (by omega) ?_
        rw [cpN_off _ (show (117 : Nat) ≠ 120 by decide)]
        have hch : vp_nar .char (mi 117 i) = mi 117 i := by
          rw [p1 i (by omega)]
          exact am_char_nar (nI_pos' (by omega)) (by have := nI_le (a := T.getD i 0) (b := 65535) (by omega) (by omega); exact this)
        refine ho_castore rfl rfl (by omega) hch ?_
        refine am_iinc rfl rfl (nI_inc1 _) ?_
        show am_T _ _ _ _ [_, _, some _] _ _ _ _ _
        refine am_goto rfl ?_
        have e : up2 (cpN mi 120 0 117 0 i) 120 i (mi 117 i) = cpN mi 120 0 117 0 (i + 1) := by
          have := cpN_s mi (a := 120) (oa := 0) (b := 117) (ob := 0) (n := i)
          rw [Nat.zero_add] at this
          exact this
        rw [e]
        exact ih (i + 1) (by omega)
    refine am_iconst (v := nI 0) rfl (by decide) ?_
    refine am_istore_n rfl (Nat.le_of_ble_eq_true rfl) ?_
    show am_T _ _ _ _ [_, _, some _] _ _ _ _ _
    have := loop T.length 0 (by omega)
    rw [cpN_0] at this
    exact this
end M13
