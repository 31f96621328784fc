/-! the reference: type, clear, text, value, size, valueSize, take -/
/-- n elements of b, from place ob on, copied to a, from place oa on -/
def cpN (mi : Nat → Nat → Int32) (a oa b ob n : Nat) : Nat → Nat → Int32 := fun k i => if k = a ∧ oa ≤ i ∧ i < oa + n then mi b (ob + (i - oa)) else mi k i
theorem cpN_0 (mi : Nat → Nat → Int32) (a oa b ob : Nat) : cpN mi a oa b ob 0 = mi := by
  funext k i
  unfold cpN
  rw [if_neg (by omega)]
theorem cpN_s (mi : Nat → Nat → Int32) {a oa b ob n : Nat} : up2 (cpN mi a oa b ob n) a (oa + n) (mi b (ob + n)) = cpN mi a oa b ob (n + 1) := by
  funext k i
  unfold up2 cpN
  by_cases h1 : k = a ∧ i = oa + n
  · rw [if_pos h1, if_pos (by omega), h1.2, show oa + n - oa = n by omega]
  · rw [if_neg h1]
    by_cases h2 : k = a ∧ oa ≤ i ∧ i < oa + n
    · rw [if_pos h2, if_pos (by omega)]
    · rw [if_neg h2, if_neg (by omega)]
theorem cpN_off (mi : Nat → Nat → Int32) {a oa b ob n k : Nat} (h : k ≠ a) : cpN mi a oa b ob n k = mi k := by
  funext i
  unfold cpN
  rw [if_neg (fun q => h q.1)]
theorem cpN_in (mi : Nat → Nat → Int32) {a oa b ob n i : Nat} (h1 : oa ≤ i) (h2 : i < oa + n) : cpN mi a oa b ob n a i = mi b (ob + (i - oa)) := by
  unfold cpN
  rw [if_pos ⟨rfl, h1, h2⟩]
def nNod (T : List Nat) : Nat := (T.filter isNod).length
theorem nNod_take (T : List Nat) (i : Nat) (h : i < T.length) : nNod (T.take (i + 1)) = nNod (T.take i) + (if isNod (T.getD i 0) then 1 else 0) := by
  unfold nNod
  rw [List.take_succ, List.filter_append, List.length_append, List.getElem?_eq_getElem h, List.getD_eq_getElem?_getD, List.getElem?_eq_getElem h]
  simp only [Option.toList_some, Option.getD_some, List.filter_cons, List.filter_nil]
  split <;> rfl
theorem nNod_le (T : List Nat) : nNod T ≤ T.length := List.length_filter_le _ _
section M2
variable {l : Launch} {d : Nat} {mi : Nat → Nat → Int32} {ml : Nat → Nat → Int64} {mr : Nat → Nat → Option Nat} {h : am_H}
theorem c_m_clear : am_T l d M_m_clear 0 [some (.ref 116)] [] (hm mi ml mr) 0 0 (fun r h' => r = none ∧ h' = hm (up2 mi 116 1 (nI 0)) ml mr) := by
  refine am_aload_n rfl rfl ?_
  refine am_iconst (v := nI 0) rfl (by decide) ?_
  refine ho_putI rfl (by first | rfl | assumption) rfl rfl ?_
  exact am_return rfl rfl ⟨rfl, rfl⟩
/-- type(c), c of 16 bits -/
theorem c_m_type (hR : SR mr) (n : Nat) (hn : mi 116 1 = nI n) (hl : n ≤ 80) (c : Nat) (hc : c < 65536) : am_T l d M_m_type 0 [some (.ref 116), some (.int (nI c))] [] (hm mi ml mr) 0 0 (fun r h' => (¬ (32 ≤ c ∧ c ≤ 126 ∧ n < 80) → r = some (.int 0) ∧ h' = hm mi ml mr) ∧ (32 ≤ c ∧ c ≤ 126 ∧ n < 80 → r = some (.int 1) ∧ h' = hm (up2 (up2 mi 117 n (nI c)) 116 1 (nI (n + 1))) ml mr)) := by
  refine am_iload_n rfl rfl ?_
  refine am_bipush (v := nI 32) rfl (by decide) ?_
  refine ho_icmp_lt rfl (by omega) (by omega) (fun h1 => ?_) (fun h1 => ?_)
  · refine am_iconst (v := nI 0) rfl (by decide) ?_
    exact am_zreturn rfl rfl (Or.inl rfl) ⟨fun _ => ⟨rfl, rfl⟩, fun q => absurd q (by omega)⟩
  refine am_iload_n rfl rfl ?_
  refine am_bipush (v := nI 126) rfl (by decide) ?_
  refine ho_icmp_gt rfl (by omega) (by omega) (fun h2 => ?_) (fun h2 => ?_)
  · refine am_iconst (v := nI 0) rfl (by decide) ?_
    exact am_zreturn rfl rfl (Or.inl rfl) ⟨fun _ => ⟨rfl, rfl⟩, fun q => absurd q (by omega)⟩
  refine am_aload_n rfl rfl ?_
  refine ho_getI rfl (by first | rfl | assumption) rfl ?_
  refine am_bipush (v := nI 80) rfl (by decide) ?_
  rw [hn]
  refine ho_icmp_lt rfl (by omega) (by omega) (fun h3 => ?_) (fun h3 => ?_)
  · have hch : vp_nar .char (nI c) = nI c := am_char_nar (nI_pos' (by omega)) (by have := nI_le (a := c) (b := 65535) (by omega) (by omega); exact this)
    refine am_aload_n rfl rfl ?_
    refine ho_getR rfl (by first | rfl | assumption) rfl (by first | assumption | exact hR _ _ _ rfl) ?_
    refine am_aload_n rfl rfl ?_
    refine ho_getI rfl (by first | rfl | assumption) rfl ?_
    rw [hn]
    refine am_iload_n rfl rfl ?_
    refine ho_castore rfl (by first | rfl | assumption) (by omega) (by assumption) ?_
    refine am_aload_n rfl rfl ?_
    refine am_dup rfl rfl ?_
    refine ho_getI rfl (by first | rfl | assumption) rfl ?_
    rw [up2_off mi n (nI c) (show (116 : Nat) ≠ 117 by decide), hn]
    refine am_iconst (v := nI 1) rfl (by decide) ?_
    first | refine ho_addn rfl ?_ | refine am_iadd rfl ?_
    refine ho_putI rfl (by first | rfl | assumption) rfl rfl ?_
    refine am_iconst (v := nI 1) rfl (by decide) ?_
    exact am_zreturn rfl rfl (Or.inr rfl) ⟨fun q => absurd (by omega) q, fun _ => ⟨rfl, rfl⟩⟩
  · refine am_iconst (v := nI 0) rfl (by decide) ?_
    exact am_zreturn rfl rfl (Or.inl rfl) ⟨fun _ => ⟨rfl, rfl⟩, fun q => absurd q (by omega)⟩
/-- text(k), any k -/
def at1 (T : List Nat) (k : Int32) : Int32 := if 0 ≤ k.toInt ∧ k.toInt < T.length then nI (T.getD k.toInt.toNat 0) else -1
theorem at1_neg {T : List Nat} {k : Int32} (h : k < 0) : at1 T k = -1 := by
  have := Int32.lt_iff_toInt_lt.mp h
  simp at this
  unfold at1
  rw [if_neg (by omega)]
theorem nI_of_nn {k : Int32} (h : ¬ k < 0) : ∃ j : Nat, j < 2 ^ 31 ∧ k = nI j := nI_of h
theorem c_m_text (hR : SR mr) (T : List Nat) (hT : txt mi 120 T) (hn : mi 116 5 = nI T.length) (hl : T.length ≤ 36) (k : Int32) : am_T l d M_m_text 0 [some (.ref 116), some (.int k)] [] (hm mi ml mr) 0 0 (fun r h' => r = some (.int (at1 T k)) ∧ h' = hm mi ml mr) := by
  refine am_iload_n rfl rfl ?_
  refine am_if_lt rfl (fun h1 => ?_) (fun h1 => ?_)
  · refine am_iconst (v := -1) rfl (by decide) ?_
    refine am_goto rfl ?_
    exact am_ireturn rfl rfl ⟨by rw [at1_neg h1], rfl⟩
  obtain ⟨j, hj, rfl⟩ := nI_of h1
  refine am_iload_n rfl rfl ?_
  refine am_aload_n rfl rfl ?_
  refine ho_getI rfl (by first | rfl | assumption) rfl ?_
  rw [hn]
  refine ho_icmp_lt rfl (by omega) (by omega) (fun h2 => ?_) (fun h2 => ?_)
  · refine am_aload_n rfl rfl ?_
    refine ho_getR rfl (by first | rfl | assumption) rfl (by first | assumption | exact hR _ _ _ rfl) ?_
    refine am_iload_n rfl rfl ?_
    refine ho_caload rfl (by first | rfl | assumption) (by omega) ?_
    rw [hT j h2]
    exact am_ireturn rfl rfl ⟨by unfold at1; rw [nI_toInt hj, if_pos (by omega)]; rfl, rfl⟩
  · refine am_iconst (v := -1) rfl (by decide) ?_
    refine am_goto rfl ?_
    exact am_ireturn rfl rfl ⟨by unfold at1; rw [nI_toInt hj, if_neg (by omega)], rfl⟩
theorem c_m_value (hR : SR mr) (T : List Nat) (hT : txt mi 121 T) (hn : mi 116 7 = nI T.length) (hl : T.length ≤ 60) (k : Int32) : am_T l d M_m_value 0 [some (.ref 116), some (.int k)] [] (hm mi ml mr) 0 0 (fun r h' => r = some (.int (at1 T k)) ∧ h' = hm mi ml mr) := by
  refine am_iload_n rfl rfl ?_
  refine am_if_lt rfl (fun h1 => ?_) (fun h1 => ?_)
  · refine am_iconst (v := -1) rfl (by decide) ?_
    refine am_goto rfl ?_
    exact am_ireturn rfl rfl ⟨by rw [at1_neg h1], rfl⟩
  obtain ⟨j, hj, rfl⟩ := nI_of h1
  refine am_iload_n rfl rfl ?_
  refine am_aload_n rfl rfl ?_
  refine ho_getI rfl (by first | rfl | assumption) rfl ?_
  rw [hn]
  refine ho_icmp_lt rfl (by omega) (by omega) (fun h2 => ?_) (fun h2 => ?_)
  · refine am_aload_n rfl rfl ?_
    refine ho_getR rfl (by first | rfl | assumption) rfl (by first | assumption | exact hR _ _ _ rfl) ?_
    refine am_iload_n rfl rfl ?_
    refine ho_caload rfl (by first | rfl | assumption) (by omega) ?_
    rw [hT j h2]
    exact am_ireturn rfl rfl ⟨by unfold at1; rw [nI_toInt hj, if_pos (by omega)]; rfl, rfl⟩
  · refine am_iconst (v := -1) rfl (by decide) ?_
    refine am_goto rfl ?_
    exact am_ireturn rfl rfl ⟨by unfold at1; rw [nI_toInt hj, if_neg (by omega)], rfl⟩
theorem c_m_size_loop (hR : SR mr) (T : List Nat) (hT : txt mi 120 T) (hn : mi 116 5 = nI T.length) (hl : T.length ≤ 36) (hok : okT T) : ∀ (n i : Nat), i + n = T.length → am_T l (d + 2) M_m_size 4 [some (.ref 116), some (.int (nI (nNod (T.take i)))), some (.int (nI i))] [] (hm mi ml mr) 0 0 (fun r h' => r = some (.int (nI (nNod T))) ∧ h' = hm mi ml mr) := by
  intro n
  induction n with
  | zero =>
    intro i hi
    refine am_iload_n rfl rfl ?_
    refine am_aload_n rfl rfl ?_
    refine ho_getI rfl (by first | rfl | assumption) rfl ?_
    rw [hn]
    refine ho_icmp_ge rfl (by omega) (by omega) (fun h1 => ?_) (fun h1 => absurd (by omega) h1)
    refine am_iload_n rfl rfl ?_
    exact am_ireturn rfl rfl ⟨by rw [List.take_of_length_le (by omega)], rfl⟩
  | succ n ih =>
    intro i hi
    refine am_iload_n rfl rfl ?_
    refine am_aload_n rfl rfl ?_
    refine ho_getI rfl (by first | rfl | assumption) rfl ?_
    rw [hn]
    refine ho_icmp_ge rfl (by omega) (by omega) (fun h1 => absurd h1 (by omega)) (fun h1 => ?_)
    refine am_iload_n rfl rfl ?_
    refine am_aload_n rfl rfl ?_
    refine ho_getR rfl (by first | rfl | assumption) rfl (by first | assumption | exact hR _ _ _ rfl) ?_
    refine am_iload_n rfl rfl ?_
    refine ho_caload rfl (by first | rfl | assumption) (by omega) ?_
    rw [hT i (by omega)]
    refine ho_cs1 rfl rfl (Nat.le_of_ble_eq_true rfl) (Nat.le_of_ble_eq_true rfl) (c_m_count _ (by have := okT_at hok i; omega)) ?_
    rintro r h' ⟨rfl, rfl⟩
    refine am_iadd rfl ?_
    rw [show nI (nNod (T.take i)) + bI (isNod (T.getD i 0)) = nI (nNod (T.take (i + 1))) from by
      rw [nNod_take T i (by omega), ← nI_add]
      congr 1
      cases isNod (T.getD i 0) <;> rfl]
    refine am_istore_n rfl (Nat.le_of_ble_eq_true rfl) ?_
    show am_T _ _ _ _ [_, some _, _] _ _ _ _ _
    refine am_iinc rfl rfl (nI_inc1 _) ?_
    show am_T _ _ _ _ [_, _, some _] _ _ _ _ _
    refine am_goto rfl ?_
    exact ih (i + 1) (by omega)
theorem c_m_size (hR : SR mr) (T : List Nat) (hT : txt mi 120 T) (hn : mi 116 5 = nI T.length) (hl : T.length ≤ 36) (hok : okT T) : am_T l (d + 2) M_m_size 0 [some (.ref 116), none, none] [] (hm mi ml mr) 0 0 (fun r h' => r = some (.int (nI (nNod T))) ∧ h' = hm mi ml mr) := by
  refine am_iconst (v := nI 0) rfl (by decide) ?_
  refine am_istore_n rfl (Nat.le_of_ble_eq_true rfl) ?_
  show am_T _ _ _ _ [_, some _, _] _ _ _ _ _
  refine am_iconst (v := nI 0) rfl (by decide) ?_
  refine am_istore_n rfl (Nat.le_of_ble_eq_true rfl) ?_
  show am_T _ _ _ _ [_, _, some _] _ _ _ _ _
  exact c_m_size_loop hR T hT hn hl hok T.length 0 (by omega)
theorem c_m_valueSize_loop (hR : SR mr) (T : List Nat) (hT : txt mi 121 T) (hn : mi 116 7 = nI T.length) (hl : T.length ≤ 60) (hok : okT T) : ∀ (n i : Nat), i + n = T.length → am_T l (d + 2) M_m_valueSize 4 [some (.ref 116), some (.int (nI (nNod (T.take i)))), some (.int (nI i))] [] (hm mi ml mr) 0 0 (fun r h' => r = some (.int (nI (nNod T))) ∧ h' = hm mi ml mr) := by
  intro n
  induction n with
  | zero =>
    intro i hi
    refine am_iload_n rfl rfl ?_
    refine am_aload_n rfl rfl ?_
    refine ho_getI rfl (by first | rfl | assumption) rfl ?_
    rw [hn]
    refine ho_icmp_ge rfl (by omega) (by omega) (fun h1 => ?_) (fun h1 => absurd (by omega) h1)
    refine am_iload_n rfl rfl ?_
    exact am_ireturn rfl rfl ⟨by rw [List.take_of_length_le (by omega)], rfl⟩
  | succ n ih =>
    intro i hi
    refine am_iload_n rfl rfl ?_
    refine am_aload_n rfl rfl ?_
    refine ho_getI rfl (by first | rfl | assumption) rfl ?_
    rw [hn]
    refine ho_icmp_ge rfl (by omega) (by omega) (fun h1 => absurd h1 (by omega)) (fun h1 => ?_)
    refine am_iload_n rfl rfl ?_
    refine am_aload_n rfl rfl ?_
    refine ho_getR rfl (by first | rfl | assumption) rfl (by first | assumption | exact hR _ _ _ rfl) ?_
    refine am_iload_n rfl rfl ?_
    refine ho_caload rfl (by first | rfl | assumption) (by omega) ?_
    rw [hT i (by omega)]
    refine ho_cs1 rfl rfl (Nat.le_of_ble_eq_true rfl) (Nat.le_of_ble_eq_true rfl) (c_m_count _ (by have := okT_at hok i; omega)) ?_
    rintro r h' ⟨rfl, rfl⟩
    refine am_iadd rfl ?_
    rw [show nI (nNod (T.take i)) + bI (isNod (T.getD i 0)) = nI (nNod (T.take (i + 1))) from by
      rw [nNod_take T i (by omega), ← nI_add]
      congr 1
      cases isNod (T.getD i 0) <;> rfl]
    refine am_istore_n rfl (Nat.le_of_ble_eq_true rfl) ?_
    show am_T _ _ _ _ [_, some _, _] _ _ _ _ _
    refine am_iinc rfl rfl (nI_inc1 _) ?_
    show am_T _ _ _ _ [_, _, some _] _ _ _ _ _
    refine am_goto rfl ?_
    exact ih (i + 1) (by omega)
theorem c_m_valueSize (hR : SR mr) (T : List Nat) (hT : txt mi 121 T) (hn : mi 116 7 = nI T.length) (hl : T.length ≤ 60) (hok : okT T) : am_T l (d + 2) M_m_valueSize 0 [some (.ref 116), none, none] [] (hm mi ml mr) 0 0 (fun r h' => r = some (.int (nI (nNod T))) ∧ h' = hm mi ml mr) := by
  refine am_iconst (v := nI 0) rfl (by decide) ?_
  refine am_istore_n rfl (Nat.le_of_ble_eq_true rfl) ?_
  show am_T _ _ _ _ [_, some _, _] _ _ _ _ _
  refine am_iconst (v := nI 0) rfl (by decide) ?_
  refine am_istore_n rfl (Nat.le_of_ble_eq_true rfl) ?_
  show am_T _ _ _ _ [_, _, some _] _ _ _ _ _
  exact c_m_valueSize_loop hR T hT hn hl hok T.length 0 (by omega)
/-- take(): the value becomes the document, if it has at most 12 nodes -/
theorem c_m_take_loop (hR : SR mr) (T : List Nat) (hT : txt mi 121 T) (hn : mi 116 7 = nI T.length) (hl : T.length ≤ 36) (hok : okT T) : ∀ (n i : Nat), i + n = T.length → am_T l d M_m_take 13 [some (.ref 116), some (.int (nI i))] [] (hm (cpN mi 120 0 121 0 i) ml mr) 0 0 (fun r h' => r = some (.int 1) ∧ h' = hm (up2 (cpN mi 120 0 121 0 T.length) 116 5 (nI T.length)) ml mr) := by
  intro n
  induction n with
  | zero =>
    intro i hi
    have e : i = T.length := by omega
    subst e
    refine am_iload_n rfl rfl ?_
    refine am_aload_n rfl rfl ?_
    refine ho_getI rfl (by first | rfl | assumption) rfl ?_
    rw [cpN_off mi (show (116 : Nat) ≠ 120 by decide), hn]
    refine ho_icmp_ge rfl (by omega) (by omega) (fun h1 => ?_) (fun h1 => absurd (by omega) h1)
    refine am_aload_n rfl rfl ?_
    refine am_aload_n rfl rfl ?_
    refine ho_getI rfl (by first | rfl | assumption) rfl ?_
    rw [cpN_off mi (show (116 : Nat) ≠ 120 by decide), hn]
    refine ho_putI rfl (by first | rfl | assumption) rfl rfl ?_
    refine am_iconst (v := nI 1) rfl (by decide) ?_
    exact am_zreturn rfl rfl (Or.inr rfl) ⟨rfl, rfl⟩
  | succ n ih =>
    intro i hi
    refine am_iload_n rfl rfl ?_
    refine am_aload_n rfl rfl ?_
    refine ho_getI rfl (by first | rfl | assumption) rfl ?_
    rw [cpN_off mi (show (116 : Nat) ≠ 120 by decide), hn]
    refine ho_icmp_ge rfl (by omega) (by omega) (fun h1 => absurd h1 (by omega)) (fun h1 => ?_)
    refine am_aload_n rfl rfl ?_
    refine ho_getR rfl (by first | rfl | assumption) rfl (by first | assumption | exact hR _ _ _ rfl) ?_
    refine am_iload_n rfl rfl ?_
    refine am_aload_n rfl rfl ?_
    refine ho_getR rfl (by first | rfl | assumption) rfl (by first | assumption | exact hR _ _ _ rfl) ?_
    refine am_iload_n rfl rfl ?_
    refine ho_caload rfl (by first | rfl | assumption) (by omega) ?_
    rw [cpN_off mi (show (121 : Nat) ≠ 120 by decide)]
    have hv : vp_nar .char (mi 121 i) = mi 121 i := by
      rw [hT i (by omega)]
      have := okT_at hok i
      exact am_char_nar (nI_pos' (by omega)) (by have := nI_le (a := T.getD i 0) (b := 65535) (by omega) (by omega); exact this)
    refine ho_castore rfl (by first | rfl | assumption) (by omega) (by assumption) ?_
    have e := cpN_s mi (a := 120) (oa := 0) (b := 121) (ob := 0) (n := i)
    rw [Nat.zero_add] at e
    rw [e]
    refine am_iinc rfl rfl (nI_inc1 _) ?_
    show am_T _ _ _ _ [_, some _] _ _ _ _ _
    refine am_goto rfl ?_
    exact ih (i + 1) (by omega)
theorem c_m_take (hR : SR mr) (T : List Nat) (hT : txt mi 121 T) (hn : mi 116 7 = nI T.length) (hl : T.length ≤ 60) (h36 : nNod T ≤ 12 → T.length ≤ 36) (hok : okT T) : am_T l (d + 3) M_m_take 0 [some (.ref 116), none] [] (hm mi ml mr) 0 0 (fun r h' => (¬ nNod T ≤ 12 → r = some (.int 0) ∧ h' = hm mi ml mr) ∧ (nNod T ≤ 12 → r = some (.int 1) ∧ h' = hm (up2 (cpN mi 120 0 121 0 T.length) 116 5 (nI T.length)) ml mr)) := by
  refine am_aload_n rfl rfl ?_
  refine ho_cv0 rfl (by first | rfl | assumption) rfl (Nat.le_of_ble_eq_true rfl) (Nat.le_of_ble_eq_true rfl) (c_m_valueSize hR T hT hn hl hok) ?_
  rintro r h' ⟨rfl, rfl⟩
  refine am_bipush (v := nI 12) rfl (by decide) ?_
  have hle := nNod_le T
  refine ho_icmp_le rfl (by omega) (by omega) (fun h1 => ?_) (fun h1 => ?_)
  · refine am_iconst (v := nI 0) rfl (by decide) ?_
    refine am_istore_n rfl (Nat.le_of_ble_eq_true rfl) ?_
    show am_T _ _ _ _ [_, some _] _ _ _ _ _
    have k := c_m_take_loop (l := l) (d := d + 3) (ml := ml) (mr := mr) hR T hT hn (h36 h1) hok T.length 0 (by omega)
    rw [cpN_0] at k
    exact k.to (fun r h' q => ⟨fun z => absurd h1 z, fun _ => q⟩)
  · refine am_iconst (v := nI 0) rfl (by decide) ?_
    exact am_zreturn rfl rfl (Or.inl rfl) ⟨fun _ => ⟨rfl, rfl⟩, fun z => absurd z h1⟩
end M2
