/-! the reference: items, enter -/
theorem nIt_take (T : List Nat) {i : Nat} (h : i < T.length) : nIt (T.take (i + 1)) = nIt (T.take i) + (if isIt (T.getD i 0) then 1 else 0) := by
  rw [take_s h, nIt_app]
  congr 1
  unfold nIt
  by_cases q : isIt (T.getD i 0) = true
  · rw [List.filter_cons_of_pos q, if_pos q]
    rfl
  · rw [List.filter_cons_of_neg q, if_neg q]
    rfl
theorem nIt_le (T : List Nat) : nIt T ≤ T.length := List.length_filter_le _ _
/-- the heap behind an entering -/
def entU (mi : Nat → Nat → Int32) (n L : Nat) (kb : Bool) : Nat → Nat → Int32 := up2 (up2 (cpN mi 118 (80 * n) 117 0 L) 119 n (nI L)) 116 11 (bI kb)
theorem dScan_le (T : List Nat) : ∀ (g i : Nat) (D : List Rt) (mq tl : Bool) (s : Nat), i ≤ T.length → dScan T g i D mq tl = .inl s → s ≤ T.length + 3 := by
  intro g
  induction g with
  | zero =>
    intro i D mq tl s hi h
    cases h
    omega
  | succ g ih =>
    intro i D mq tl s hi h
    rw [dScan] at h
    by_cases h1 : T.length ≤ i
    · rw [if_pos h1] at h
      cases h
    rw [if_neg h1] at h
    by_cases h2 : T.getD i 0 = 124 ∧ nen (clo D tl) < 8
    · rw [if_pos h2] at h
      exact ih _ _ _ _ _ (by omega) h
    rw [if_neg h2] at h
    by_cases h3 : tl = true
    · rw [if_pos h3] at h
      cases h
      omega
    rw [if_neg h3] at h
    by_cases h4 : mq = true ∧ (T.getD i 0 = 42 ∨ T.getD i 0 = 63)
    · rw [if_pos h4] at h
      exact ih _ _ _ _ _ (by omega) h
    rw [if_neg h4] at h
    by_cases h5 : isNam (T.getD i 0) = true
    · rw [if_pos h5] at h
      exact ih _ _ _ _ _ (by omega) h
    rw [if_neg h5] at h
    by_cases h6 : nit D < 16 ∧ T.getD i 0 = 35
    · rw [if_pos h6] at h
      exact ih _ _ _ _ _ (by omega) h
    rw [if_neg h6] at h
    by_cases h7 : nit D < 16 ∧ isLab (T.getD i 0) = true
    · rw [if_pos h7] at h
      by_cases h8 : T.getD (i + 1) 0 ≠ 91
      · rw [if_pos h8] at h
        cases h
        omega
      rw [if_neg h8] at h
      by_cases h9 : isNam (T.getD (i + 2) 0) = false
      · rw [if_pos h9] at h
        cases h
        omega
      rw [if_neg h9] at h
      by_cases h10 : T.getD (i + 3) 0 ≠ 93
      · rw [if_pos h10] at h
        cases h
        omega
      rw [if_neg h10] at h
      have := lt_of_getD (Classical.not_not.mp h10) (by decide)
      exact ih _ _ _ _ _ (by omega) h
    · rw [if_neg h7] at h
      cases h
      omega
theorem dRead_le {T : List Nat} {s : Nat} (h : dRead T = .inl s) : s ≤ T.length + 3 := by
  unfold dRead at h
  by_cases h1 : T.getD 1 0 ≠ 61
  · rw [if_pos h1] at h
    cases h
    omega
  · rw [if_neg h1] at h
    have := lt_of_getD (Classical.not_not.mp h1) (by decide)
    exact dScan_le T _ _ _ _ _ _ (by omega) h
theorem clScan_le {T : List Nat} {i s : Nat} (hi : i ≤ T.length) (h : clScan T i = .inl s) : s ≤ T.length + 6 := by
  unfold clScan at h
  by_cases h1 : T.getD i 0 ≠ 47
  · rw [if_pos h1] at h
    cases h
    omega
  rw [if_neg h1] at h
  have hl := lt_of_getD (Classical.not_not.mp h1) (by decide)
  cases hp : pScan T (i + 1) with
  | inl t =>
    rw [hp] at h
    cases h
    unfold pScan at hp
    split at hp
    · cases hp
    · split at hp
      · split at hp
        · cases hp
        · cases hp
          omega
      · split at hp
        · cases hp
          omega
        · split at hp
          · cases hp
            omega
          · split at hp
            · cases hp
              omega
            · split at hp
              · cases hp
                omega
              · split at hp
                · cases hp
                  omega
                · cases hp
  | inr jp =>
    obtain ⟨j, p⟩ := jp
    rw [hp] at h
    obtain ⟨-, w2, -⟩ := pScan_ok hp
    simp only at h
    by_cases h2 : T.getD j 0 ≠ 45
    · rw [if_pos h2] at h
      cases h
      omega
    rw [if_neg h2] at h
    have hjl := lt_of_getD (Classical.not_not.mp h2) (by decide)
    cases hr : rScan T p.1 81 (j + 1) 0 0 false [] with
    | inl t =>
      rw [hr] at h
      cases h
      have := rScan_le T _ _ _ _ _ _ _ _ (show j + 1 ≤ T.length by omega) hr
      omega
    | inr qK =>
      rw [hr] at h
      cases h
theorem cScan_le {T : List Nat} : ∀ (g i : Nat) (C : List Cl) (s : Nat), i ≤ T.length → cScan T g i C = .inl s → s ≤ T.length + 6 := by
  intro g
  induction g with
  | zero =>
    intro i C s hi h
    unfold cScan at h
    split at h
    · cases h
    · cases h
      omega
  | succ g ih =>
    intro i C s hi h
    unfold cScan at h
    split at h
    · cases h
    · cases hc : clScan T i with
      | inl t =>
        rw [hc] at h
        cases h
        exact clScan_le hi hc
      | inr qc =>
        obtain ⟨q, c⟩ := qc
        rw [hc] at h
        exact ih _ _ _ (clScan_ok hc).2.1 h
theorem fScan_le {T : List Nat} {s : Nat} (h : fScan T = .inl s) : s ≤ T.length + 6 := by
  unfold fScan at h
  split at h
  · cases h
    omega
  · split at h
    · cases h
      omega
    · split at h
      · cases h
        omega
      · split at h
        · cases h
          omega
        · next h4 =>
          have h4 : isNam (T.getD 4 0) = true := by simpa using h4
          have := lt_of_nam h4
          cases hc : cScan T 6 5 [] with
          | inl t =>
            rw [hc] at h
            cases h
            exact cScan_le _ _ _ _ (by omega) hc
          | inr C =>
            rw [hc] at h
            cases h
section M17
variable {l : Launch} {d : Nat} {mi : Nat → Nat → Int32} {ml : Nat → Nat → Int64} {mr : Nat → Nat → Option Nat}
theorem c_m_items (hR : SR mr) (x : Option Nat) (U : List Nat) (h0 : x = none → PM U mi) (h1 : ∀ n, x = some n → n < 9 ∧ EN mi n U) : am_T l (d + 1) M_m_items 0 [some (.ref 116), some (.int (noI x)), none, none, none, none] [] (hm mi ml mr) 0 0 (fun r h' => r = some (.int (nI (nIt U))) ∧ h' = hm mi ml mr) := by
  have h80 : U.length ≤ 80 ∧ okT U := by
    cases x with
    | none => exact ⟨(h0 rfl).2.2.1, (h0 rfl).2.2.2⟩
    | some n => exact ⟨(h1 n rfl).2.2.1, (h1 n rfl).2.2.2.1⟩
  have loop : ∀ (k i : Nat), i + k = U.length → am_T l (d + 1) M_m_items 23 [some (.ref 116), some (.int (noI x)), some (.int (nI (nIt (U.take i)))), some (.int (nI U.length)), some (.int (nI i)), none] [] (hm mi ml mr) 0 0 (fun r h' => r = some (.int (nI (nIt U))) ∧ h' = hm mi ml mr) := by
    intro k
    induction k with
    | zero =>
      intro i hi
      refine am_iload rfl rfl ?_
      refine am_iload_n rfl rfl ?_
      refine ho_icmp_ge rfl (by omega) (by omega) (fun _ => ?_) (fun z => absurd (by omega) z)
      refine am_iload_n rfl rfl ?_
      exact am_ireturn rfl rfl ⟨by rw [List.take_of_length_le (by omega)], rfl⟩
    | succ k ih =>
      intro i hi
      have hc := okT_at h80.2 i
      refine am_iload rfl rfl ?_
      refine am_iload_n rfl rfl ?_
      refine ho_icmp_ge rfl (by omega) (by omega) (fun z => absurd z (by omega)) (fun _ => ?_)
      have s80 : ∀ n : Nat, n = nIt (U.take i) + (if isIt (U.getD i 0) then 1 else 0) → am_T l (d + 1) M_m_items 79 [some (.ref 116), some (.int (noI x)), some (.int (nI (nIt (U.take i)))), some (.int (nI U.length)), some (.int (nI i)), some (.int (nI (U.getD i 0)))] [.int (nI n)] (hm mi ml mr) 0 0 (fun r h' => r = some (.int (nI (nIt U))) ∧ h' = hm mi ml mr) := by
        intro n hn
        refine am_istore_n rfl (Nat.le_of_ble_eq_true rfl) ?_
        show am_T _ _ _ _ [_, _, some _, _, _, _] _ _ _ _ _
        refine am_iinc rfl rfl (nI_inc1 _) ?_
        show am_T _ _ _ _ [_, _, _, _, some _, _] _ _ _ _ _
        refine am_goto rfl ?_
        refine am_drops [5] ?_
        rw [hn, ← nIt_take U (by omega)]
        exact ih (i + 1) (by omega)
      have s72 : isIt (U.getD i 0) = true → am_T l (d + 1) M_m_items 72 [some (.ref 116), some (.int (noI x)), some (.int (nI (nIt (U.take i)))), some (.int (nI U.length)), some (.int (nI i)), some (.int (nI (U.getD i 0)))] [] (hm mi ml mr) 0 0 (fun r h' => r = some (.int (nI (nIt U))) ∧ h' = hm mi ml mr) := by
        intro q
        refine am_iload_n rfl rfl ?_
        refine am_iconst (v := nI 1) rfl (by decide) ?_
        first | refine ho_addn rfl ?_ | refine am_iadd rfl ?_
        refine am_goto rfl ?_
        exact s80 _ (by rw [if_pos q])
      have s55 : am_T l (d + 1) M_m_items 55 [some (.ref 116), some (.int (noI x)), some (.int (nI (nIt (U.take i)))), some (.int (nI U.length)), some (.int (nI i)), none] [.int (nI (U.getD i 0))] (hm mi ml mr) 0 0 (fun r h' => r = some (.int (nI (nIt U))) ∧ h' = hm mi ml mr) := by
        refine am_istore rfl (Nat.le_of_ble_eq_true rfl) ?_
        show am_T _ _ _ _ [_, _, _, _, _, some _] _ _ _ _ _
        refine am_iload rfl rfl ?_
        refine am_bipush (v := nI 35) rfl (by decide) ?_
        refine ho_icmp_eq rfl (by omega) (by omega) (fun z => s72 (by unfold isIt; rw [decide_eq_true z]; rfl)) (fun z => ?_)
        refine am_iload rfl rfl ?_
        refine ho_cs1 rfl rfl (Nat.le_of_ble_eq_true rfl) (Nat.le_of_ble_eq_true rfl) (c_m_label _ (by omega)) ?_
        rintro v h' ⟨rfl, rfl⟩
        refine am_if_eq rfl (fun y => ?_) (fun y => s72 (by unfold isIt; rw [(bI_ne _).mp y, Bool.or_true]))
        refine am_iload_n rfl rfl ?_
        refine s80 _ ?_
        rw [if_neg (by unfold isIt; rw [decide_eq_false z, (bI_eq _).mp y]; decide)]
        rfl
      refine am_iload_n rfl rfl ?_
      cases x with
      | none =>
        refine am_if_ge rfl (fun z => absurd z (by decide)) (fun _ => ?_)
        refine am_aload_n rfl rfl ?_
        refine ho_getR rfl (by first | rfl | assumption) rfl (by first | assumption | exact hR _ _ _ rfl) ?_
        refine am_iload rfl rfl ?_
        refine ho_caload rfl rfl (by omega) ?_
        rw [(h0 rfl).1 i (by omega)]
        refine am_goto rfl ?_
        exact s55
      | some n =>
        obtain ⟨hn, hE⟩ := h1 n rfl
        refine am_if_ge rfl (fun _ => ?_) (fun z => absurd (nI_pos' (by omega)) z)
        show am_T l (d + 1) M_m_items 43 [_, some (.int (nI n)), _, _, _, _] _ _ _ _ _
        refine am_aload_n rfl rfl ?_
        refine ho_getR rfl (by first | rfl | assumption) rfl (by first | assumption | exact hR _ _ _ rfl) ?_
        refine am_bipush (v := nI 80) rfl (by decide) ?_
        refine am_iload_n rfl rfl ?_
        first | refine ho_muln rfl ?_ | refine am_imul rfl ?_
        refine am_iload rfl rfl ?_
        first | refine ho_addn rfl ?_ | refine am_iadd rfl ?_
        refine ho_caload rfl rfl (by omega) ?_
        rw [hE.2.2.2 i (by omega)]
        exact s55
  refine am_iconst (v := nI 0) rfl (by decide) ?_
  refine am_istore_n rfl (Nat.le_of_ble_eq_true rfl) ?_
  show am_T _ _ _ _ [_, _, some _, _, _, _] _ _ _ _ _
  refine am_iload_n rfl rfl ?_
  cases x with
  | none =>
    refine am_if_ge rfl (fun z => absurd z (by decide)) (fun _ => ?_)
    refine am_aload_n rfl rfl ?_
    refine ho_getI rfl (by first | rfl | assumption) rfl ?_
    rw [(h0 rfl).2.1]
    refine am_goto rfl ?_
    refine am_istore_n rfl (Nat.le_of_ble_eq_true rfl) ?_
    show am_T _ _ _ _ [_, _, _, some _, _, _] _ _ _ _ _
    refine am_iconst (v := nI 0) rfl (by decide) ?_
    refine am_istore rfl (Nat.le_of_ble_eq_true rfl) ?_
    show am_T _ _ _ _ [_, _, _, _, some _, _] _ _ _ _ _
    exact loop U.length 0 (by omega)
  | some n =>
    obtain ⟨hn, hE⟩ := h1 n rfl
    refine am_if_ge rfl (fun _ => ?_) (fun z => absurd (nI_pos' (by omega)) z)
    show am_T l (d + 1) M_m_items 13 [_, some (.int (nI n)), _, _, _, _] _ _ _ _ _
    refine am_aload_n rfl rfl ?_
    refine ho_getR rfl (by first | rfl | assumption) rfl (by first | assumption | exact hR _ _ _ rfl) ?_
    refine am_iload_n rfl rfl ?_
    refine ho_iaload rfl (by first | rfl | assumption) (by omega) ?_
    rw [hE.1]
    refine am_istore_n rfl (Nat.le_of_ble_eq_true rfl) ?_
    show am_T _ _ _ _ [_, _, _, some _, _, _] _ _ _ _ _
    refine am_iconst (v := nI 0) rfl (by decide) ?_
    refine am_istore rfl (Nat.le_of_ble_eq_true rfl) ?_
    show am_T _ _ _ _ [_, _, _, _, some _, _] _ _ _ _ _
    exact loop U.length 0 (by omega)
/-- the copying, from n on -/
theorem c_m_enter_136 (hR : SR mr) {T : List Nat} (hP : PM T mi) (n : Nat) (hn : n < 9) (kb : Bool) (hkb : mi 116 11 = bI kb) (x1 x2 : Option Value) (x4 : Int32) : am_T l d M_m_enter 136 [some (.ref 116), x1, x2, some (.int (nI n)), some (.int x4), none] [] (hm mi ml mr) 0 0 (fun r h' => r = some (.int 0) ∧ h' = hm (entU mi n T.length (decide (5 < n) && kb)) ml mr) := by
  obtain ⟨p1, p2, p3, p4⟩ := hP
  have loop : ∀ (k i : Nat), i + k = T.length → am_T l d M_m_enter 139 [some (.ref 116), x1, x2, some (.int (nI n)), some (.int x4), some (.int (nI i))] [] (hm (cpN mi 118 (80 * n) 117 0 i) ml mr) 0 0 (fun r h' => r = some (.int 0) ∧ h' = hm (entU mi n T.length (decide (5 < n) && kb)) ml mr) := by
    intro k
    induction k with
    | zero =>
      intro i hi
      have e : i = T.length := by omega
      subst e
      refine am_iload rfl rfl ?_
      refine am_aload_n rfl rfl ?_
      refine ho_getI rfl (by first | rfl | assumption) rfl ?_
      rw [cpN_off _ (by decide), p2]
      refine ho_icmp_ge rfl (by omega) (by omega) (fun _ => ?_) (fun z => absurd (by omega) z)
      refine am_aload_n rfl rfl ?_
      refine ho_getR rfl (by first | rfl | assumption) rfl (by first | assumption | exact hR _ _ _ rfl) ?_
      refine am_iload_n rfl rfl ?_
      refine am_aload_n rfl rfl ?_
      refine ho_getI rfl (by first | rfl | assumption) rfl ?_
      rw [cpN_off _ (by decide), p2]
      refine ho_iastore rfl (by first | rfl | assumption) (by omega) ?_
      refine am_aload_n rfl rfl ?_
      refine am_iload_n rfl rfl ?_
      refine am_iconst (v := nI 5) rfl (by decide) ?_
      have s201 : ∀ b : Bool, b = (decide (5 < n) && kb) → am_T l d M_m_enter 201 [some (.ref 116), x1, x2, some (.int (nI n)), some (.int x4), some (.int (nI T.length))] [.int (bI b), .ref 116] (hm (up2 (cpN mi 118 (80 * n) 117 0 T.length) 119 n (nI T.length)) ml mr) 0 0 (fun r h' => r = some (.int 0) ∧ h' = hm (entU mi n T.length (decide (5 < n) && kb)) ml mr) := by
        intro b hb
        refine ho_putI rfl rfl rfl (am_fit_Z rfl (bI_01 _)) ?_
        refine am_iconst (v := nI 0) rfl (by decide) ?_
        exact am_ireturn rfl rfl ⟨rfl, by rw [hb]; rfl⟩
      refine ho_icmp_le rfl (by omega) (by omega) (fun z => ?_) (fun z => ?_)
      · refine am_iconst (v := nI 0) rfl (by decide) ?_
        exact s201 false (by rw [decide_eq_false (by omega)]; rfl)
      · refine am_aload_n rfl rfl ?_
        refine ho_getI rfl (by first | rfl | assumption) rfl ?_
        rw [up2_off _ _ _ (show (116 : Nat) ≠ 119 by decide), cpN_off _ (by decide), hkb]
        refine am_if_eq rfl (fun y => ?_) (fun y => ?_)
        · refine am_iconst (v := nI 0) rfl (by decide) ?_
          exact s201 false (by rw [(bI_eq _).mp y, Bool.and_false])
        · refine am_iconst (v := nI 1) rfl (by decide) ?_
          refine am_goto rfl ?_
          exact s201 true (by rw [(bI_ne _).mp y, decide_eq_true (by omega)]; rfl)
    | succ k ih =>
      intro i hi
      have hc := okT_at p4 i
      refine am_iload rfl rfl ?_
      refine am_aload_n rfl rfl ?_
      refine ho_getI rfl (by first | rfl | assumption) rfl ?_
      rw [cpN_off _ (by decide), p2]
      refine ho_icmp_ge rfl (by omega) (by omega) (fun z => absurd z (by omega)) (fun _ => ?_)
      refine am_aload_n rfl rfl ?_
      refine ho_getR rfl (by first | rfl | assumption) rfl (by first | assumption | exact hR _ _ _ rfl) ?_
      refine am_bipush (v := nI 80) rfl (by decide) ?_
      refine am_iload_n rfl rfl ?_
      first | refine ho_muln rfl ?_ | refine am_imul rfl ?_
      refine am_iload rfl rfl ?_
      first | refine ho_addn rfl ?_ | refine am_iadd rfl ?_
      refine am_aload_n rfl rfl ?_
      refine ho_getR rfl (by first | rfl | assumption) rfl (by first | assumption | exact hR _ _ _ rfl) ?_
      refine am_iload rfl rfl ?_
      refine ho_caload rfl rfl (by omega) ?_
      rw [cpN_off _ (show (117 : Nat) ≠ 118 by decide)]
      have hch : vp_nar .char (mi 117 i) = mi 117 i := by
        rw [p1 i (by omega)]
        exact am_char_nar (nI_pos' (by omega)) (by have := nI_le (a := T.getD i 0) (b := 65535) (by omega) (by omega); exact this)
      refine ho_castore rfl rfl (by omega) hch ?_
      refine am_iinc rfl rfl (nI_inc1 _) ?_
      show am_T _ _ _ _ [_, _, _, _, _, some _] _ _ _ _ _
      refine am_goto rfl ?_
      have e : up2 (cpN mi 118 (80 * n) 117 0 i) 118 (80 * n + i) (mi 117 i) = cpN mi 118 (80 * n) 117 0 (i + 1) := by
        have := cpN_s mi (a := 118) (oa := 80 * n) (b := 117) (ob := 0) (n := i)
        rw [Nat.zero_add] at this
        exact this
      rw [e]
      exact ih (i + 1) (by omega)
  refine am_iconst (v := nI 0) rfl (by decide) ?_
  refine am_istore rfl (Nat.le_of_ble_eq_true rfl) ?_
  show am_T _ _ _ _ [_, _, _, _, _, some _] _ _ _ _ _
  have := loop T.length 0 (by omega)
  rw [cpN_0] at this
  exact this
/-- the items of all definitions, with T in place of the n-th -/
def totI (T : List Nat) (U : Nat → List Nat) (n k : Nat) : Nat := nIt T + sumN (fun j => if j = n then 0 else nIt (U j)) k
theorem c_m_enter (hR : SR mr) {T : List Nat} (hP : PM T mi) (U : Nat → List Nat) (hU : ∀ n, n < 6 → EN mi n (U n)) (kb : Bool) (hkb : mi 116 11 = bI kb) : am_T l (d + 4) M_m_enter 0 [some (.ref 116), none, none, none, none, none] [] (hm mi ml mr) 0 0 (fun r h' =>
    (isNam (T.getD 0 0) = true → match dRead T with
      | .inl s => r = some (.int (nI (1 + s))) ∧ h' = hm mi ml mr
      | .inr _ => (16 < totI T U (T.getD 0 0 - 65) 6 → r = some (.int (-5)) ∧ h' = hm mi ml mr) ∧ (totI T U (T.getD 0 0 - 65) 6 ≤ 16 → r = some (.int 0) ∧ h' = hm (entU mi (T.getD 0 0 - 65) T.length false) ml mr)) ∧
    (isFun (T.getD 0 0) = true → match fScan T with
      | .inl s => r = some (.int (nI (1 + s))) ∧ h' = hm mi ml mr
      | .inr _ => r = some (.int 0) ∧ h' = hm (entU mi (6 + (T.getD 0 0 - 102)) T.length kb) ml mr) ∧
    (isNam (T.getD 0 0) = false → isFun (T.getD 0 0) = false → r = some (.int (nI 1)) ∧ h' = hm mi ml mr)) := by
  have hP' := hP
  obtain ⟨p1, p2, p3, p4⟩ := hP'
  have hc := okT_at p4 0
  refine am_aload_n rfl rfl ?_
  refine am_iconst (v := nI 0) rfl (by decide) ?_
  refine ho_cv1 rfl (by first | rfl | assumption) rfl (Nat.le_of_ble_eq_true rfl) (Nat.le_of_ble_eq_true rfl) (c_m_at hR T p1 p2 p3 p4 0 (by omega)) ?_
  rintro v h' ⟨rfl, rfl⟩
  refine am_istore_n rfl (Nat.le_of_ble_eq_true rfl) ?_
  show am_T _ _ _ _ [_, some _, _, _, _, _] _ _ _ _ _
  refine am_iload_n rfl rfl ?_
  refine ho_cs1 rfl rfl (Nat.le_of_ble_eq_true rfl) (Nat.le_of_ble_eq_true rfl) (c_m_name _ (by omega)) ?_
  rintro v h' ⟨rfl, rfl⟩
  refine am_if_eq rfl (fun z => ?_) (fun z => ?_)
  · have z := (bI_eq _).mp z
    refine am_iload_n rfl rfl ?_
    refine ho_cs1 rfl rfl (Nat.le_of_ble_eq_true rfl) (Nat.le_of_ble_eq_true rfl) (c_m_letter _ (by omega)) ?_
    rintro v h' ⟨rfl, rfl⟩
    refine am_if_eq rfl (fun y => ?_) (fun y => ?_)
    · have y := (bI_eq _).mp y
      refine am_iconst (v := nI 0) rfl (by decide) ?_
      refine am_istore_n rfl (Nat.le_of_ble_eq_true rfl) ?_
      show am_T _ _ _ _ [_, _, some _, _, _, _] _ _ _ _ _
      refine am_iload_n rfl rfl ?_
      refine am_if_lt rfl (fun w => absurd w (by decide)) (fun _ => ?_)
      refine am_iconst (v := nI 1) rfl (by decide) ?_
      refine am_iload_n rfl rfl ?_
      first | refine ho_addn rfl ?_ | refine am_iadd rfl ?_
      exact am_ireturn rfl rfl ⟨fun q => (by rw [z] at q; cases q), fun q => (by rw [y] at q; cases q), fun _ _ => ⟨rfl, rfl⟩⟩
    · have y := (bI_ne _).mp y
      have yr := isFun_r y
      have hl : 0 < T.length := lt_of_getD rfl (by omega)
      refine am_aload_n rfl rfl ?_
      refine ho_cv0 rfl (by first | rfl | assumption) rfl (Nat.le_of_ble_eq_true rfl) (Nat.le_of_ble_eq_true rfl) (c_m_functionStop hR hP hl) ?_
      rintro v h' ⟨rfl, rfl⟩
      cases hs : fScan T with
      | inl s =>
        have hsl := fScan_le hs
        show am_T _ _ _ _ _ (.int (nI s) :: _) _ _ _ _
        refine am_goto rfl ?_
        refine am_istore_n rfl (Nat.le_of_ble_eq_true rfl) ?_
        show am_T _ _ _ _ [_, _, some _, _, _, _] _ _ _ _ _
        refine am_iload_n rfl rfl ?_
        refine am_if_lt rfl (fun w => absurd w (nI_pos (by omega))) (fun _ => ?_)
        refine am_iconst (v := nI 1) rfl (by decide) ?_
        refine am_iload_n rfl rfl ?_
        first | refine ho_addn rfl ?_ | refine am_iadd rfl ?_
        exact am_ireturn rfl rfl ⟨fun q => (by rw [z] at q; cases q), fun _ => ⟨rfl, rfl⟩, fun _ q => (by rw [y] at q; cases q)⟩
      | inr F =>
        show am_T _ _ _ _ _ (.int (-1) :: _) _ _ _ _
        refine am_goto rfl ?_
        refine am_istore_n rfl (Nat.le_of_ble_eq_true rfl) ?_
        show am_T _ _ _ _ [_, _, some _, _, _, _] _ _ _ _ _
        refine am_iload_n rfl rfl ?_
        refine am_if_lt rfl (fun _ => ?_) (fun w => absurd (by decide) w)
        refine am_iload_n rfl rfl ?_
        refine ho_cs1 rfl rfl (Nat.le_of_ble_eq_true rfl) (Nat.le_of_ble_eq_true rfl) (c_m_name _ (by omega)) ?_
        rintro v h' ⟨rfl, rfl⟩
        refine am_if_eq rfl (fun _ => ?_) (fun w => by have w := (bI_ne _).mp w; rw [z] at w; cases w)
        refine am_bipush (v := nI 6) rfl (by decide) ?_
        refine am_iload_n rfl rfl ?_
        first | refine ho_addn rfl ?_ | refine am_iadd rfl ?_
        refine am_bipush (v := nI 102) rfl (by decide) ?_
        first | refine ho_subn rfl (by omega) ?_ | refine am_isub rfl ?_
        refine am_istore_n rfl (Nat.le_of_ble_eq_true rfl) ?_
        show am_T _ _ _ _ [_, _, _, some _, _, _] _ _ _ _ _
        refine am_iload_n rfl rfl ?_
        refine am_bipush (v := nI 6) rfl (by decide) ?_
        refine ho_icmp_ge rfl (by omega) (by omega) (fun _ => ?_) (fun w => absurd (by omega) w)
        refine am_iconst (v := nI 0) rfl (by decide) ?_
        refine am_istore rfl (Nat.le_of_ble_eq_true rfl) ?_
        show am_T _ _ _ _ [_, _, _, _, some _, _] _ _ _ _ _
        refine am_iconst (v := nI 0) rfl (by decide) ?_
        refine am_istore rfl (Nat.le_of_ble_eq_true rfl) ?_
        show am_T _ _ _ _ [_, _, _, _, _, some _] _ _ _ _ _
        have loop : ∀ (j k : Nat), k + j = 6 → am_T l (d + 4) M_m_enter 86 [some (.ref 116), some (.int (nI (T.getD 0 0))), some (.int (-1)), some (.int (nI (6 + T.getD 0 0 - 102))), some (.int (nI 0)), some (.int (nI k))] [] (hm mi ml mr) 0 0 (fun r h' => r = some (.int 0) ∧ h' = hm (entU mi (6 + (T.getD 0 0 - 102)) T.length kb) ml mr) := by
          intro j
          induction j with
          | zero =>
            intro k hk
            refine am_iload rfl rfl ?_
            refine am_bipush (v := nI 6) rfl (by decide) ?_
            refine ho_icmp_ge rfl (by omega) (by omega) (fun _ => ?_) (fun w => absurd (by omega) w)
            refine am_iload rfl rfl ?_
            refine am_bipush (v := nI 16) rfl (by decide) ?_
            refine ho_icmp_le rfl (by omega) (by omega) (fun _ => ?_) (fun w => absurd (by omega) w)
            refine am_drops [5] ?_
            refine am_T.to (c_m_enter_136 hR hP (6 + T.getD 0 0 - 102) (by omega) kb hkb _ _ _) ?_
            rintro r h' ⟨rfl, rfl⟩
            rw [decide_eq_true (show 5 < 6 + T.getD 0 0 - 102 by omega), show 6 + T.getD 0 0 - 102 = 6 + (T.getD 0 0 - 102) by omega, Bool.true_and]
            exact ⟨rfl, rfl⟩
          | succ j ih =>
            intro k hk
            refine am_iload rfl rfl ?_
            refine am_bipush (v := nI 6) rfl (by decide) ?_
            refine ho_icmp_ge rfl (by omega) (by omega) (fun w => absurd w (by omega)) (fun _ => ?_)
            refine am_iload rfl rfl ?_
            refine am_iload_n rfl rfl ?_
            refine ho_icmp_eq rfl (by omega) (by omega) (fun w => by omega) (fun _ => ?_)
            refine am_iload_n rfl rfl ?_
            refine am_iconst (v := nI 5) rfl (by decide) ?_
            refine ho_icmp_le rfl (by omega) (by omega) (fun w => by omega) (fun _ => ?_)
            refine am_iload rfl rfl ?_
            refine am_goto rfl ?_
            refine am_istore rfl (Nat.le_of_ble_eq_true rfl) ?_
            show am_T _ _ _ _ [_, _, _, _, some _, _] _ _ _ _ _
            refine am_iinc rfl rfl (nI_inc1 _) ?_
            show am_T _ _ _ _ [_, _, _, _, _, some _] _ _ _ _ _
            refine am_goto rfl ?_
            exact ih (k + 1) (by omega)
        refine am_T.to (loop 6 0 rfl) ?_
        rintro r h' ⟨rfl, rfl⟩
        exact ⟨fun q => (by rw [z] at q; cases q), fun _ => ⟨rfl, rfl⟩, fun _ q => (by rw [y] at q; cases q)⟩
  · have z := (bI_ne _).mp z
    have zr := isNam_r z
    have hnf : isFun (T.getD 0 0) = false := by
      simp only [isFun, decide_eq_false_iff_not]
      omega
    have hl : 0 < T.length := lt_of_getD rfl (by omega)
    refine am_aload_n rfl rfl ?_
    refine ho_cv0 rfl (by first | rfl | assumption) rfl (Nat.le_of_ble_eq_true rfl) (Nat.le_of_ble_eq_true rfl) (c_m_definitionStop hR hP hl) ?_
    rintro v h' ⟨rfl, rfl⟩
    cases hs : dRead T with
    | inl s =>
      have hsl := dRead_le hs
      show am_T _ _ _ _ _ (.int (nI s) :: _) _ _ _ _
      refine am_goto rfl ?_
      refine am_istore_n rfl (Nat.le_of_ble_eq_true rfl) ?_
      show am_T _ _ _ _ [_, _, some _, _, _, _] _ _ _ _ _
      refine am_iload_n rfl rfl ?_
      refine am_if_lt rfl (fun w => absurd w (nI_pos (by omega))) (fun _ => ?_)
      refine am_iconst (v := nI 1) rfl (by decide) ?_
      refine am_iload_n rfl rfl ?_
      first | refine ho_addn rfl ?_ | refine am_iadd rfl ?_
      exact am_ireturn rfl rfl ⟨fun _ => ⟨rfl, rfl⟩, fun q => (by rw [hnf] at q; cases q), fun q => (by rw [z] at q; cases q)⟩
    | inr D =>
      show am_T _ _ _ _ _ (.int (-1) :: _) _ _ _ _
      refine am_goto rfl ?_
      refine am_istore_n rfl (Nat.le_of_ble_eq_true rfl) ?_
      show am_T _ _ _ _ [_, _, some _, _, _, _] _ _ _ _ _
      refine am_iload_n rfl rfl ?_
      refine am_if_lt rfl (fun _ => ?_) (fun w => absurd (by decide) w)
      refine am_iload_n rfl rfl ?_
      refine ho_cs1 rfl rfl (Nat.le_of_ble_eq_true rfl) (Nat.le_of_ble_eq_true rfl) (c_m_name _ (by omega)) ?_
      rintro v h' ⟨rfl, rfl⟩
      refine am_if_eq rfl (fun w => by have w := (bI_eq _).mp w; rw [z] at w; cases w) (fun _ => ?_)
      refine am_iload_n rfl rfl ?_
      refine am_bipush (v := nI 65) rfl (by decide) ?_
      first | refine ho_subn rfl (by omega) ?_ | refine am_isub rfl ?_
      refine am_goto rfl ?_
      refine am_istore_n rfl (Nat.le_of_ble_eq_true rfl) ?_
      show am_T _ _ _ _ [_, _, _, some _, _, _] _ _ _ _ _
      refine am_iload_n rfl rfl ?_
      refine am_bipush (v := nI 6) rfl (by decide) ?_
      refine ho_icmp_ge rfl (by omega) (by omega) (fun w => absurd w (by omega)) (fun _ => ?_)
      refine am_aload_n rfl rfl ?_
      refine am_iconst (v := -1) rfl (by decide) ?_
      refine ho_cv1 rfl (by first | rfl | assumption) rfl (Nat.le_of_ble_eq_true rfl) (Nat.le_of_ble_eq_true rfl) (c_m_items hR none T (fun _ => hP) (fun n q => by cases q)) ?_
      rintro v h' ⟨rfl, rfl⟩
      refine am_goto rfl ?_
      refine am_istore rfl (Nat.le_of_ble_eq_true rfl) ?_
      show am_T _ _ _ _ [_, _, _, _, some _, _] _ _ _ _ _
      refine am_iconst (v := nI 0) rfl (by decide) ?_
      refine am_istore rfl (Nat.le_of_ble_eq_true rfl) ?_
      show am_T _ _ _ _ [_, _, _, _, _, some _] _ _ _ _ _
      have hb : ∀ k, k ≤ 6 → totI T U (T.getD 0 0 - 65) k ≤ 80 + 80 * k := by
        intro k
        induction k with
        | zero =>
          intro _
          have := nIt_le T
          show nIt T + 0 ≤ _
          omega
        | succ k ih =>
          intro hk
          have := ih (by omega)
          unfold totI at this ⊢
          rw [sumN_s]
          have h3 : (if k = T.getD 0 0 - 65 then 0 else nIt (U k)) ≤ 80 := by
            split
            · omega
            · exact Nat.le_trans (nIt_le _) (hU k (by omega)).2.1
          omega
      have loop : ∀ (j k : Nat), k + j = 6 → am_T l (d + 4) M_m_enter 86 [some (.ref 116), some (.int (nI (T.getD 0 0))), some (.int (-1)), some (.int (nI (T.getD 0 0 - 65))), some (.int (nI (totI T U (T.getD 0 0 - 65) k))), some (.int (nI k))] [] (hm mi ml mr) 0 0 (fun r h' => (16 < totI T U (T.getD 0 0 - 65) 6 → r = some (.int (-5)) ∧ h' = hm mi ml mr) ∧ (totI T U (T.getD 0 0 - 65) 6 ≤ 16 → r = some (.int 0) ∧ h' = hm (entU mi (T.getD 0 0 - 65) T.length false) ml mr)) := by
        intro j
        induction j with
        | zero =>
          intro k hk
          have e : k = 6 := by omega
          subst e
          have hb6 := hb 6 (by omega)
          refine am_iload rfl rfl ?_
          refine am_bipush (v := nI 6) rfl (by decide) ?_
          refine ho_icmp_ge rfl (by omega) (by omega) (fun _ => ?_) (fun w => absurd (by omega) w)
          refine am_iload rfl rfl ?_
          refine am_bipush (v := nI 16) rfl (by decide) ?_
          refine ho_icmp_le rfl (by omega) (by omega) (fun w => ?_) (fun w => ?_)
          · refine am_drops [5] ?_
            refine am_T.to (c_m_enter_136 hR hP (T.getD 0 0 - 65) (by omega) kb hkb _ _ _) ?_
            rintro r h' ⟨rfl, rfl⟩
            rw [decide_eq_false (show ¬ 5 < T.getD 0 0 - 65 by omega), Bool.false_and]
            exact ⟨fun q => absurd w (by omega), fun _ => ⟨rfl, rfl⟩⟩
          · refine am_bipush (v := -5) rfl (by decide) ?_
            exact am_ireturn rfl rfl ⟨fun _ => ⟨rfl, rfl⟩, fun q => absurd q w⟩
        | succ j ih =>
          intro k hk
          refine am_iload rfl rfl ?_
          refine am_bipush (v := nI 6) rfl (by decide) ?_
          refine ho_icmp_ge rfl (by omega) (by omega) (fun w => absurd w (by omega)) (fun _ => ?_)
          have s118 : ∀ n : Nat, n = totI T U (T.getD 0 0 - 65) (k + 1) → am_T l (d + 4) M_m_enter 118 [some (.ref 116), some (.int (nI (T.getD 0 0))), some (.int (-1)), some (.int (nI (T.getD 0 0 - 65))), some (.int (nI (totI T U (T.getD 0 0 - 65) k))), some (.int (nI k))] [.int (nI n)] (hm mi ml mr) 0 0 (fun r h' => (16 < totI T U (T.getD 0 0 - 65) 6 → r = some (.int (-5)) ∧ h' = hm mi ml mr) ∧ (totI T U (T.getD 0 0 - 65) 6 ≤ 16 → r = some (.int 0) ∧ h' = hm (entU mi (T.getD 0 0 - 65) T.length false) ml mr)) := by
            intro n hn
            refine am_istore rfl (Nat.le_of_ble_eq_true rfl) ?_
            show am_T _ _ _ _ [_, _, _, _, some _, _] _ _ _ _ _
            refine am_iinc rfl rfl (nI_inc1 _) ?_
            show am_T _ _ _ _ [_, _, _, _, _, some _] _ _ _ _ _
            refine am_goto rfl ?_
            rw [hn]
            exact ih (k + 1) (by omega)
          refine am_iload rfl rfl ?_
          refine am_iload_n rfl rfl ?_
          refine ho_icmp_eq rfl (by omega) (by omega) (fun w => ?_) (fun w => ?_)
          · refine am_iload rfl rfl ?_
            refine am_goto rfl ?_
            refine s118 _ ?_
            unfold totI
            rw [sumN_s, if_pos w]
            rfl
          · refine am_iload_n rfl rfl ?_
            refine am_iconst (v := nI 5) rfl (by decide) ?_
            refine ho_icmp_le rfl (by omega) (by omega) (fun _ => ?_) (fun u => absurd (by omega) u)
            refine am_iload rfl rfl ?_
            refine am_aload_n rfl rfl ?_
            refine am_iload rfl rfl ?_
            refine ho_cv1 rfl (by first | rfl | assumption) rfl (Nat.le_of_ble_eq_true rfl) (Nat.le_of_ble_eq_true rfl) (c_m_items hR (some k) (U k) (fun q => by cases q) (fun n q => by cases q; exact ⟨by omega, hU k (by omega)⟩)) ?_
            rintro v h' ⟨rfl, rfl⟩
            first | refine ho_addn rfl ?_ | refine am_iadd rfl ?_
            refine s118 _ ?_
            unfold totI
            rw [sumN_s, if_neg w, Nat.add_assoc]
      refine am_T.to (loop 6 0 rfl) ?_
      intro r h' hq
      exact ⟨fun _ => hq, fun q => (by rw [hnf] at q; cases q), fun q => (by rw [z] at q; cases q)⟩
end M17
