/-! the class: its predicates of characters; Hedge: firstOf, contentOf, behind, add -/
section H1
variable {l : Launch} {d : Nat} {mi : Nat → Nat → Int32} {ml : Nat → Nat → Int64} {mr : Nat → Nat → Option Nat} {h : am_H}
theorem c_X_isDigit (k : Nat) (hk : k < 65536) : am_T l d M_X_isDigit 0 [some (.int (nI k))] [] h 0 0 (fun r h' => r = some (.int (bI (isDig k))) ∧ h' = h) := by
  refine am_iload_n rfl rfl ?_
  refine am_bipush (v := nI 48) rfl (by decide) ?_
  refine ho_icmp_lt rfl (by omega) (by omega) (fun h1 => ?_) (fun h1 => ?_)
  · refine am_iconst (v := nI 0) rfl (by decide) ?_
    exact am_zreturn rfl rfl (Or.inl rfl) ⟨by rw [show isDig k = false from decide_eq_false (by omega)]; rfl, rfl⟩
  refine am_iload_n rfl rfl ?_
  refine am_bipush (v := nI 57) rfl (by decide) ?_
  refine ho_icmp_gt rfl (by omega) (by omega) (fun h2 => ?_) (fun h2 => ?_)
  · refine am_iconst (v := nI 0) rfl (by decide) ?_
    exact am_zreturn rfl rfl (Or.inl rfl) ⟨by rw [show isDig k = false from decide_eq_false (by omega)]; rfl, rfl⟩
  · refine am_iconst (v := nI 1) rfl (by decide) ?_
    refine am_goto rfl ?_
    exact am_zreturn rfl rfl (Or.inr rfl) ⟨by rw [show isDig k = true from decide_eq_true (by omega)]; rfl, rfl⟩
theorem c_X_isLabel (k : Nat) (hk : k < 65536) : am_T l d M_X_isLabel 0 [some (.int (nI k))] [] h 0 0 (fun r h' => r = some (.int (bI (isLab k))) ∧ h' = h) := by
  refine am_iload_n rfl rfl ?_
  refine am_bipush (v := nI 97) rfl (by decide) ?_
  refine ho_icmp_lt rfl (by omega) (by omega) (fun h1 => ?_) (fun h1 => ?_)
  · refine am_iconst (v := nI 0) rfl (by decide) ?_
    exact am_zreturn rfl rfl (Or.inl rfl) ⟨by rw [show isLab k = false from decide_eq_false (by omega)]; rfl, rfl⟩
  refine am_iload_n rfl rfl ?_
  refine am_bipush (v := nI 100) rfl (by decide) ?_
  refine ho_icmp_gt rfl (by omega) (by omega) (fun h2 => ?_) (fun h2 => ?_)
  · refine am_iconst (v := nI 0) rfl (by decide) ?_
    exact am_zreturn rfl rfl (Or.inl rfl) ⟨by rw [show isLab k = false from decide_eq_false (by omega)]; rfl, rfl⟩
  · refine am_iconst (v := nI 1) rfl (by decide) ?_
    refine am_goto rfl ?_
    exact am_zreturn rfl rfl (Or.inr rfl) ⟨by rw [show isLab k = true from decide_eq_true (by omega)]; rfl, rfl⟩
theorem c_X_isName (k : Nat) (hk : k < 65536) : am_T l d M_X_isName 0 [some (.int (nI k))] [] h 0 0 (fun r h' => r = some (.int (bI (isNam k))) ∧ h' = h) := by
  refine am_iload_n rfl rfl ?_
  refine am_bipush (v := nI 65) rfl (by decide) ?_
  refine ho_icmp_lt rfl (by omega) (by omega) (fun h1 => ?_) (fun h1 => ?_)
  · refine am_iconst (v := nI 0) rfl (by decide) ?_
    exact am_zreturn rfl rfl (Or.inl rfl) ⟨by rw [show isNam k = false from decide_eq_false (by omega)]; rfl, rfl⟩
  refine am_iload_n rfl rfl ?_
  refine am_bipush (v := nI 70) rfl (by decide) ?_
  refine ho_icmp_gt rfl (by omega) (by omega) (fun h2 => ?_) (fun h2 => ?_)
  · refine am_iconst (v := nI 0) rfl (by decide) ?_
    exact am_zreturn rfl rfl (Or.inl rfl) ⟨by rw [show isNam k = false from decide_eq_false (by omega)]; rfl, rfl⟩
  · refine am_iconst (v := nI 1) rfl (by decide) ?_
    refine am_goto rfl ?_
    exact am_zreturn rfl rfl (Or.inr rfl) ⟨by rw [show isNam k = true from decide_eq_true (by omega)]; rfl, rfl⟩
theorem c_X_isFunction (k : Nat) (hk : k < 65536) : am_T l d M_X_isFunction 0 [some (.int (nI k))] [] h 0 0 (fun r h' => r = some (.int (bI (isFun k))) ∧ h' = h) := by
  refine am_iload_n rfl rfl ?_
  refine am_bipush (v := nI 102) rfl (by decide) ?_
  refine ho_icmp_lt rfl (by omega) (by omega) (fun h1 => ?_) (fun h1 => ?_)
  · refine am_iconst (v := nI 0) rfl (by decide) ?_
    exact am_zreturn rfl rfl (Or.inl rfl) ⟨by rw [show isFun k = false from decide_eq_false (by omega)]; rfl, rfl⟩
  refine am_iload_n rfl rfl ?_
  refine am_bipush (v := nI 104) rfl (by decide) ?_
  refine ho_icmp_gt rfl (by omega) (by omega) (fun h2 => ?_) (fun h2 => ?_)
  · refine am_iconst (v := nI 0) rfl (by decide) ?_
    exact am_zreturn rfl rfl (Or.inl rfl) ⟨by rw [show isFun k = false from decide_eq_false (by omega)]; rfl, rfl⟩
  · refine am_iconst (v := nI 1) rfl (by decide) ?_
    refine am_goto rfl ?_
    exact am_zreturn rfl rfl (Or.inr rfl) ⟨by rw [show isFun k = true from decide_eq_true (by omega)]; rfl, rfl⟩
end H1
/-- a Hedge object at t, of room cap -/
def isH (mr : Nat → Nat → Option Nat) (t cap : Nat) : Prop := hs_kind t = (false, 3, 0) ∧ hs_kind (t + 1) = (true, 2, cap) ∧ hs_kind (t + 2) = (true, 0, cap) ∧ mr t 0 = some (t + 1) ∧ mr t 1 = some (t + 2) ∧ cap ≤ 20
abbrev Nd : Type := List (Nat × Nat)
def cd (N : Nd) (k : Nat) : Nat := (N.getD k (0, 0)).1
def dp (N : Nd) (k : Nat) : Nat := (N.getD k (0, 0)).2
/-- it holds the nodes N -/
def HA (mi : Nat → Nat → Int32) (t : Nat) (N : Nd) : Prop := mi t 2 = nI N.length ∧ ∀ i, i < N.length → (mi (t + 1) i = nI (cd N i) ∧ mi (t + 2) i = nI (dp N i)) ∧ cd N i < 127 ∧ dp N i < 1000
def noI (o : Option Nat) : Int32 := match o with
  | none => -1
  | some k => nI k
def contN (N : Nd) (k : Nat) : Option Nat := if k + 1 < N.length ∧ dp N k < dp N (k + 1) then some (k + 1) else none
def behG (N : Nd) (k : Nat) : Nat → Nat → Option Nat
  | 0, _ => none
  | g + 1, i => if i < N.length then (if dp N i ≤ dp N k then (if dp N i = dp N k then some i else none) else behG N k g (i + 1)) else none
def behN (N : Nd) (k : Nat) : Option Nat := behG N k (N.length + 1) (k + 1)
/-- what a node is: 1 number, 2 .. 5 label -/
def kn (c : Nat) : Nat := if isLab c then c - 95 else 1
section H2
variable {l : Launch} {d : Nat} {mi : Nat → Nat → Int32} {ml : Nat → Nat → Int64} {mr : Nat → Nat → Option Nat} {t cap : Nat} {N : Nd}
theorem c_H_firstOf (hH : isH mr t cap) (hN : HA mi t N) (hl : N.length ≤ cap) (k : Nat) (hk : k < N.length) : am_T l (d + 1) M_H_firstOf 0 [some (.ref t), some (.int (nI k))] [] (hm mi ml mr) 0 0 (fun r h' => r = some (.int (nI (fx (kn (cd N k))))) ∧ h' = hm mi ml mr) := by
  obtain ⟨k1, k2, k3, r1, r2, hcap⟩ := hH
  obtain ⟨⟨a1, a2⟩, a3, a4⟩ := hN.2 k hk
  refine am_iload_n rfl rfl ?_
  refine am_if_lt rfl (fun z => absurd z (nI_pos (by omega))) (fun _ => ?_)
  refine am_iload_n rfl rfl ?_
  refine am_aload_n rfl rfl ?_
  refine ho_getI rfl (by first | rfl | assumption) rfl ?_
  rw [hN.1]
  refine ho_icmp_lt rfl (by omega) (by omega) (fun _ => ?_) (fun z => absurd hk z)
  refine am_aload_n rfl rfl ?_
  refine ho_getR rfl (by first | rfl | assumption) rfl (by first | assumption | exact hR _ _ _ rfl) ?_
  refine am_iload_n rfl rfl ?_
  refine ho_caload rfl (by first | rfl | assumption) (by omega) ?_
  rw [a1]
  refine ho_cn1 rfl rfl (Nat.le_of_ble_eq_true rfl) (Nat.le_of_ble_eq_true rfl) (c_X_isLabel _ (by omega)) ?_
  rintro r h' ⟨rfl, rfl⟩
  refine am_if_eq rfl (fun z => ?_) (fun z => ?_)
  · have z := (bI_eq _).mp z
    refine am_iconst (v := nI 4) rfl (by decide) ?_
    exact am_ireturn rfl rfl ⟨by unfold kn; rw [z]; rfl, rfl⟩
  · have z := (bI_ne _).mp z
    have hz : 97 ≤ cd N k ∧ cd N k ≤ 100 := of_decide_eq_true z
    refine am_aload_n rfl rfl ?_
    refine ho_getR rfl (by first | rfl | assumption) rfl (by first | assumption | exact hR _ _ _ rfl) ?_
    refine am_iload_n rfl rfl ?_
    refine ho_caload rfl (by first | rfl | assumption) (by omega) ?_
    rw [a1]
    refine am_bipush (v := nI 97) rfl (by decide) ?_
    first | refine ho_subn rfl (by omega) ?_ | refine am_isub rfl ?_
    refine am_goto rfl ?_
    refine am_ireturn rfl rfl ⟨?_, rfl⟩
    unfold kn fx
    rw [z, if_pos rfl, if_neg (by omega)]
    congr 3
theorem c_H_firstOfN (hH : isH mr t cap) (hN : HA mi t N) : am_T l (d + 1) M_H_firstOf 0 [some (.ref t), some (.int (-1))] [] (hm mi ml mr) 0 0 (fun r h' => r = some (.int (nI 5)) ∧ h' = hm mi ml mr) := by
  refine am_iload_n rfl rfl ?_
  refine am_if_lt rfl (fun _ => ?_) (fun z => absurd (by decide) z)
  refine am_iconst (v := nI 5) rfl (by decide) ?_
  exact am_ireturn rfl rfl ⟨rfl, rfl⟩
theorem c_H_contentOf (hH : isH mr t cap) (hN : HA mi t N) (hl : N.length ≤ cap) (k : Nat) (hk : k < N.length) : am_T l d M_H_contentOf 0 [some (.ref t), some (.int (nI k)), none] [] (hm mi ml mr) 0 0 (fun r h' => r = some (.int (noI (contN N k))) ∧ h' = hm mi ml mr) := by
  obtain ⟨k1, k2, k3, r1, r2, hcap⟩ := hH
  refine am_iload_n rfl rfl ?_
  refine am_iconst (v := nI 1) rfl (by decide) ?_
  first | refine ho_addn rfl ?_ | refine am_iadd rfl ?_
  refine am_istore_n rfl (Nat.le_of_ble_eq_true rfl) ?_
  show am_T _ _ _ _ [_, _, some _] _ _ _ _ _
  refine am_iload_n rfl rfl ?_
  refine am_if_lt rfl (fun z => absurd z (nI_pos (by omega))) (fun _ => ?_)
  refine am_iload_n rfl rfl ?_
  refine am_aload_n rfl rfl ?_
  refine ho_getI rfl (by first | rfl | assumption) rfl ?_
  rw [hN.1]
  refine ho_icmp_ge rfl (by omega) (by omega) (fun z => ?_) (fun z => ?_)
  · refine am_iconst (v := -1) rfl (by decide) ?_
    exact am_ireturn rfl rfl ⟨by unfold contN; rw [if_neg (by omega)]; rfl, rfl⟩
  obtain ⟨⟨-, b2⟩, -, b4⟩ := hN.2 (k + 1) (by omega)
  obtain ⟨⟨-, a2⟩, -, a4⟩ := hN.2 k hk
  refine am_aload_n rfl rfl ?_
  refine ho_getR rfl (by first | rfl | assumption) rfl (by first | assumption | exact hR _ _ _ rfl) ?_
  refine am_iload_n rfl rfl ?_
  refine ho_iaload rfl (by first | rfl | assumption) (by omega) ?_
  rw [b2]
  refine am_aload_n rfl rfl ?_
  refine ho_getR rfl (by first | rfl | assumption) rfl (by first | assumption | exact hR _ _ _ rfl) ?_
  refine am_iload_n rfl rfl ?_
  refine ho_iaload rfl (by first | rfl | assumption) (by omega) ?_
  rw [a2]
  refine ho_icmp_le rfl (by omega) (by omega) (fun z2 => ?_) (fun z2 => ?_)
  · refine am_iconst (v := -1) rfl (by decide) ?_
    exact am_ireturn rfl rfl ⟨by unfold contN; rw [if_neg (by omega)]; rfl, rfl⟩
  · refine am_iload_n rfl rfl ?_
    refine am_goto rfl ?_
    exact am_ireturn rfl rfl ⟨by unfold contN; rw [if_pos (by omega)]; rfl, rfl⟩
theorem c_H_contentOfN (hH : isH mr t cap) : am_T l d M_H_contentOf 0 [some (.ref t), some (.int (-1)), none] [] (hm mi ml mr) 0 0 (fun r h' => r = some (.int (-1)) ∧ h' = hm mi ml mr) := by
  refine am_iload_n rfl rfl ?_
  refine am_iconst (v := nI 1) rfl (by decide) ?_
  refine am_iadd rfl ?_
  refine am_istore_n rfl (Nat.le_of_ble_eq_true rfl) ?_
  show am_T _ _ _ _ [_, _, some _] _ _ _ _ _
  refine am_iload_n rfl rfl ?_
  refine am_if_lt rfl (fun _ => ?_) (fun z => absurd (by decide) z)
  refine am_iconst (v := -1) rfl (by decide) ?_
  exact am_ireturn rfl rfl ⟨rfl, rfl⟩
theorem c_H_behind_loop (hH : isH mr t cap) (hN : HA mi t N) (hl : N.length ≤ cap) (k : Nat) (hk : k < N.length) : ∀ (g i : Nat), i + g = N.length + 1 + k + 1 → k < i → i ≤ N.length → am_T l d M_H_behind 10 [some (.ref t), some (.int (nI k)), some (.int (nI i))] [] (hm mi ml mr) 0 0 (fun r h' => r = some (.int (noI (behG N k g i))) ∧ h' = hm mi ml mr) := by
  obtain ⟨k1, k2, k3, r1, r2, hcap⟩ := hH
  obtain ⟨⟨-, a2⟩, -, a4⟩ := hN.2 k hk
  intro g
  induction g with
  | zero =>
    intro i hg hki hi
    omega
  | succ g ih =>
    intro i hg hki hi
    refine am_iload_n rfl rfl ?_
    refine am_aload_n rfl rfl ?_
    refine ho_getI rfl (by first | rfl | assumption) rfl ?_
    rw [hN.1]
    refine ho_icmp_ge rfl (by omega) (by omega) (fun z => ?_) (fun z => ?_)
    · refine am_iconst (v := -1) rfl (by decide) ?_
      exact am_ireturn rfl rfl ⟨by unfold behG; rw [if_neg (by omega)]; rfl, rfl⟩
    obtain ⟨⟨-, b2⟩, -, b4⟩ := hN.2 i (by omega)
    refine am_aload_n rfl rfl ?_
    refine ho_getR rfl (by first | rfl | assumption) rfl (by first | assumption | exact hR _ _ _ rfl) ?_
    refine am_iload_n rfl rfl ?_
    refine ho_iaload rfl (by first | rfl | assumption) (by omega) ?_
    rw [b2]
    refine am_aload_n rfl rfl ?_
    refine ho_getR rfl (by first | rfl | assumption) rfl (by first | assumption | exact hR _ _ _ rfl) ?_
    refine am_iload_n rfl rfl ?_
    refine ho_iaload rfl (by first | rfl | assumption) (by omega) ?_
    rw [a2]
    refine ho_icmp_gt rfl (by omega) (by omega) (fun z2 => ?_) (fun z2 => ?_)
    · refine am_iinc rfl rfl (nI_inc1 _) ?_
      show am_T _ _ _ _ [_, _, some _] _ _ _ _ _
      refine am_goto rfl ?_
      have := ih (i + 1) (by omega) (by omega) (by omega)
      unfold behG
      rw [if_pos (by omega), if_neg (by omega)]
      exact this
    refine am_aload_n rfl rfl ?_
    refine ho_getR rfl (by first | rfl | assumption) rfl (by first | assumption | exact hR _ _ _ rfl) ?_
    refine am_iload_n rfl rfl ?_
    refine ho_iaload rfl (by first | rfl | assumption) (by omega) ?_
    rw [b2]
    refine am_aload_n rfl rfl ?_
    refine ho_getR rfl (by first | rfl | assumption) rfl (by first | assumption | exact hR _ _ _ rfl) ?_
    refine am_iload_n rfl rfl ?_
    refine ho_iaload rfl (by first | rfl | assumption) (by omega) ?_
    rw [a2]
    refine ho_icmp_ne rfl (by omega) (by omega) (fun z3 => ?_) (fun z3 => ?_)
    · refine am_iconst (v := -1) rfl (by decide) ?_
      exact am_ireturn rfl rfl ⟨by unfold behG; rw [if_pos (by omega), if_pos (by omega), if_neg z3]; rfl, rfl⟩
    · refine am_iload_n rfl rfl ?_
      refine am_goto rfl ?_
      exact am_ireturn rfl rfl ⟨by unfold behG; rw [if_pos (by omega), if_pos (by omega), if_pos z3]; rfl, rfl⟩
theorem c_H_behind (hH : isH mr t cap) (hN : HA mi t N) (hl : N.length ≤ cap) (k : Nat) (hk : k < N.length) : am_T l d M_H_behind 0 [some (.ref t), some (.int (nI k)), none] [] (hm mi ml mr) 0 0 (fun r h' => r = some (.int (noI (behN N k))) ∧ h' = hm mi ml mr) := by
  have hcap := hH.2.2.2.2.2
  refine am_iload_n rfl rfl ?_
  refine am_if_ge rfl (fun _ => ?_) (fun z => absurd (nI_pos' (by omega)) z)
  refine am_iload_n rfl rfl ?_
  refine am_iconst (v := nI 1) rfl (by decide) ?_
  first | refine ho_addn rfl ?_ | refine am_iadd rfl ?_
  refine am_istore_n rfl (Nat.le_of_ble_eq_true rfl) ?_
  show am_T _ _ _ _ [_, _, some _] _ _ _ _ _
  exact c_H_behind_loop hH hN hl k hk (N.length + 1) (k + 1) (by omega) (by omega) (by omega)
theorem c_H_behindN (hH : isH mr t cap) : am_T l d M_H_behind 0 [some (.ref t), some (.int (-1)), none] [] (hm mi ml mr) 0 0 (fun r h' => r = some (.int (-1)) ∧ h' = hm mi ml mr) := by
  refine am_iload_n rfl rfl ?_
  refine am_if_ge rfl (fun z => absurd z (by decide)) (fun _ => ?_)
  refine am_iconst (v := -1) rfl (by decide) ?_
  exact am_ireturn rfl rfl ⟨rfl, rfl⟩
/-- add(code, depth), with room -/
theorem c_H_add (hH : isH mr t cap) (n : Nat) (hn : mi t 2 = nI n) (hl : n < cap) (c p : Nat) (hc : c < 65536) : am_T l d M_H_add 0 [some (.ref t), some (.int (nI c)), some (.int (nI p))] [] (hm mi ml mr) 0 0 (fun r h' => r = some (.int 1) ∧ h' = hm (up2 (up2 (up2 mi (t + 1) n (nI c)) (t + 2) n (nI p)) t 2 (nI (n + 1))) ml mr) := by
  obtain ⟨k1, k2, k3, r1, r2, hcap⟩ := hH
  have hch : vp_nar .char (nI c) = nI c := am_char_nar (nI_pos' (by omega)) (by have := nI_le (a := c) (b := 65535) (by omega) (by omega); exact this)
  have hic : ((nI c).toUInt32 % 65536).toInt32 = nI c := hch
  refine am_aload_n rfl rfl ?_
  refine ho_getI rfl (by first | rfl | assumption) rfl ?_
  rw [hn]
  refine am_aload_n rfl rfl ?_
  refine ho_getR rfl (by first | rfl | assumption) rfl (by first | assumption | exact hR _ _ _ rfl) ?_
  refine ho_alen rfl (by first | rfl | assumption) (by decide) ?_
  refine ho_icmp_lt rfl (by omega) (by omega) (fun _ => ?_) (fun z => absurd hl z)
  refine am_aload_n rfl rfl ?_
  refine ho_getR rfl (by first | rfl | assumption) rfl (by first | assumption | exact hR _ _ _ rfl) ?_
  refine am_aload_n rfl rfl ?_
  refine ho_getI rfl (by first | rfl | assumption) rfl ?_
  rw [hn]
  refine am_iload_n rfl rfl ?_
  refine am_i2c rfl hic ?_
  refine ho_castore rfl (by first | rfl | assumption) (by omega) (by assumption) ?_
  refine am_aload_n rfl rfl ?_
  refine ho_getR rfl (by first | rfl | assumption) rfl (by first | assumption | exact hR _ _ _ rfl) ?_
  refine am_aload_n rfl rfl ?_
  refine ho_getI rfl (by first | rfl | assumption) rfl ?_
  rw [up2_off _ _ _ (show t ≠ t + 1 by omega), hn]
  refine am_iload_n rfl rfl ?_
  refine ho_iastore rfl (by first | rfl | assumption) (by omega) ?_
  refine am_aload_n rfl rfl ?_
  refine am_dup rfl rfl ?_
  refine ho_getI rfl (by first | rfl | assumption) rfl ?_
  rw [up2_off _ _ _ (show t ≠ t + 2 by omega), up2_off _ _ _ (show t ≠ t + 1 by omega), hn]
  refine am_iconst (v := nI 1) rfl (by decide) ?_
  first | refine ho_addn rfl ?_ | refine am_iadd rfl ?_
  refine ho_putI rfl (by first | rfl | assumption) rfl rfl ?_
  refine am_iconst (v := nI 1) rfl (by decide) ?_
  exact am_zreturn rfl rfl (Or.inr rfl) ⟨rfl, rfl⟩
theorem c_H_addF (hH : isH mr t cap) (hn : mi t 2 = nI cap) (c p : Int32) : am_T l d M_H_add 0 [some (.ref t), some (.int c), some (.int p)] [] (hm mi ml mr) 0 0 (fun r h' => r = some (.int 0) ∧ h' = hm mi ml mr) := by
  obtain ⟨k1, k2, k3, r1, r2, hcap⟩ := hH
  refine am_aload_n rfl rfl ?_
  refine ho_getI rfl (by first | rfl | assumption) rfl ?_
  rw [hn]
  refine am_aload_n rfl rfl ?_
  refine ho_getR rfl (by first | rfl | assumption) rfl (by first | assumption | exact hR _ _ _ rfl) ?_
  refine ho_alen rfl (by first | rfl | assumption) (by decide) ?_
  refine ho_icmp_lt rfl (by omega) (by omega) (fun z => absurd z (by omega)) (fun _ => ?_)
  refine am_iconst (v := nI 0) rfl (by decide) ?_
  exact am_zreturn rfl rfl (Or.inl rfl) ⟨rfl, rfl⟩
end H2
