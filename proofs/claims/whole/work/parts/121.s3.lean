/-! the class: texts -/
def TL (mi : Nat → Nat → Int32) (u : List Nat) : Prop := mi 102 5 = nI u.length ∧ txt mi 105 u ∧ okT u
def Ftt (mi mi' : Nat → Nat → Int32) : Prop := (∀ a, a ≠ 102 → a ≠ 105 → mi' a = mi a) ∧ ∀ j, j ≠ 5 → mi' 102 j = mi 102 j
theorem Ftt.rf {mi : Nat → Nat → Int32} : Ftt mi mi := ⟨fun _ _ _ => rfl, fun _ _ => rfl⟩
theorem Ftt.tr {mi mi' mi'' : Nat → Nat → Int32} (h : Ftt mi mi') (h' : Ftt mi' mi'') : Ftt mi mi'' := ⟨fun a h1 h2 => (h'.1 a h1 h2).trans (h.1 a h1 h2), fun j hj => (h'.2 j hj).trans (h.2 j hj)⟩
theorem nar_c {c : Nat} (hc : c < 127) : vp_nar .char (nI c) = nI c := am_char_nar (nI_pos' (by omega)) (by have := nI_le (a := c) (b := 65535) (by omega) (by omega); exact this)
theorem fit_c {c : Nat} (hc : c < 127) : fits .char (.int (nI c)) = true := by
  have h1 : (0 : Int32) ≤ nI c := nI_pos' (by omega)
  have h2 : nI c ≤ 65535 := by have := nI_le (a := c) (b := 65535) (by omega) (by omega); exact this
  show (decide ((0 : Int32) ≤ nI c) && decide (nI c ≤ 65535)) = true
  rw [decide_eq_true h1, decide_eq_true h2]
  rfl
theorem TL_0 {mi : Nat → Nat → Int32} : TL (up2 mi 102 5 (nI 0)) [] := ⟨by simp [up2], fun i hi => (by cases hi), fun c hc => (by cases hc)⟩
theorem Ftt_0 {mi : Nat → Nat → Int32} {x : Int32} : Ftt mi (up2 mi 102 5 x) := ⟨fun a h1 _ => up2_off _ _ _ h1, fun j hj => by unfold up2; rw [if_neg (by omega)]⟩
section S3
variable {l : Launch} {d : Nat} {ml : Nat → Nat → Int64} {mr : Nat → Nat → Option Nat}
theorem c_T_put (hR : SR mr) (mi : Nat → Nat → Int32) (u : List Nat) (hu : TL mi u) (hl : u.length < 36) (c : Nat) (hc : c < 127) : am_T l d M_T_put 0 [some (.ref 102), some (.int (nI c))] [] (hm mi ml mr) 0 0 (fun r h' => r = none ∧ ∃ mi', h' = hm mi' ml mr ∧ TL mi' (u ++ [c]) ∧ Ftt mi mi') := by
  refine am_aload_n rfl rfl ?_
  refine ho_getI rfl (by first | rfl | assumption) rfl ?_
  rw [hu.1]
  refine am_bipush (v := nI 36) rfl (by decide) ?_
  refine ho_icmp_ge rfl (by omega) (by omega) (fun q => absurd q (by omega)) (fun _ => ?_)
  refine am_aload_n rfl rfl ?_
  refine ho_getR rfl (by first | rfl | assumption) rfl (by first | assumption | exact hR _ _ _ rfl) ?_
  refine am_aload_n rfl rfl ?_
  refine ho_getI rfl (by first | rfl | assumption) rfl ?_
  rw [hu.1]
  refine am_iload_n rfl rfl ?_
  refine ho_castore rfl rfl (by omega) (nar_c hc) ?_
  refine am_aload_n rfl rfl ?_
  refine am_dup rfl rfl ?_
  refine ho_getI rfl (by first | rfl | assumption) rfl ?_
  rw [up2_off _ _ _ (show (102 : Nat) ≠ 105 by decide), hu.1]
  refine am_iconst (v := nI 1) rfl (by decide) ?_
  first | refine ho_addn rfl ?_ | refine am_iadd rfl ?_
  refine ho_putI rfl (by first | rfl | assumption) rfl rfl ?_
  refine am_return rfl rfl ⟨rfl, _, rfl, ⟨by simp [up2], txt_snoc hu.2.1 (fun i hi => ?_) ?_, okT_snoc hu.2.2 hc⟩, ⟨fun a h1 h2 => ?_, fun j hj => ?_⟩⟩
  · rw [up2_off _ _ _ (show (105 : Nat) ≠ 102 by decide)]
    unfold up2
    rw [if_neg (by omega)]
  · rw [up2_off _ _ _ (show (105 : Nat) ≠ 102 by decide)]
    simp [up2]
  · rw [up2_off _ _ _ h1, up2_off _ _ _ h2]
  · rw [show up2 (up2 mi 105 u.length (nI c)) 102 5 (nI (u.length + 1)) 102 j = up2 mi 105 u.length (nI c) 102 j by unfold up2; rw [if_neg (by omega)], up2_off _ _ _ (by decide)]
theorem c_T_append_loop (hR : SR mr) (k : Nat) (hk : k < 40) (t u : List Nat) (hlen : u.length + t.length ≤ 36) (mi0 : Nat → Nat → Int32) (hT : TR (mi0 103) (mi0 104) k (some t)) : ∀ (j i : Nat) (mi : Nat → Nat → Int32), i + j = t.length → TL mi (u ++ t.take i) → Ftt mi0 mi →
    am_T l (d + 1) M_T_append 2 [some (.ref 102), some (.int (nI k)), some (.int (nI i))] [] (hm mi ml mr) 0 0 (fun r h' => r = none ∧ ∃ mi', h' = hm mi' ml mr ∧ TL mi' (u ++ t) ∧ Ftt mi0 mi') := by
  obtain ⟨t1, t2, t3, t4⟩ := hT
  intro j
  induction j with
  | zero =>
    intro i mi hi hu hF
    refine am_iload_n rfl rfl ?_
    refine am_aload_n rfl rfl ?_
    refine ho_getR rfl (by first | rfl | assumption) rfl (by first | assumption | exact hR _ _ _ rfl) ?_
    refine am_iload_n rfl rfl ?_
    refine ho_iaload rfl (by first | rfl | assumption) (by omega) ?_
    rw [hF.1 104 (by decide) (by decide), t3]
    refine ho_icmp_ge rfl (by omega) (by omega) (fun _ => ?_) (fun q => absurd (by omega) q)
    rw [List.take_of_length_le (by omega)] at hu
    exact am_return rfl rfl ⟨rfl, mi, rfl, hu, hF⟩
  | succ j ih =>
    intro i mi hi hu hF
    refine am_iload_n rfl rfl ?_
    refine am_aload_n rfl rfl ?_
    refine ho_getR rfl (by first | rfl | assumption) rfl (by first | assumption | exact hR _ _ _ rfl) ?_
    refine am_iload_n rfl rfl ?_
    refine ho_iaload rfl (by first | rfl | assumption) (by omega) ?_
    rw [hF.1 104 (by decide) (by decide), t3]
    refine ho_icmp_ge rfl (by omega) (by omega) (fun q => absurd q (by omega)) (fun _ => ?_)
    refine am_aload_n rfl rfl ?_
    refine am_aload_n rfl rfl ?_
    refine ho_getR rfl (by first | rfl | assumption) rfl (by first | assumption | exact hR _ _ _ rfl) ?_
    refine am_iload_n rfl rfl ?_
    refine am_bipush (v := nI 36) rfl (by decide) ?_
    first | refine ho_muln rfl ?_ | refine am_imul rfl ?_
    refine am_iload_n rfl rfl ?_
    first | refine ho_addn rfl ?_ | refine am_iadd rfl ?_
    refine ho_caload rfl rfl (by omega) ?_
    rw [hF.1 103 (by decide) (by decide), show k * 36 + i = 36 * k + i by omega, t4 i (by omega)]
    refine ho_cv1 rfl (by first | rfl | assumption) rfl (Nat.le_of_ble_eq_true rfl) (Nat.le_of_ble_eq_true rfl) (c_T_put hR mi _ hu (by simp; omega) _ (okT_at t2 i)) ?_
    rintro v h' ⟨rfl, mi', rfl, g1, g2⟩
    refine am_iinc rfl rfl (nI_inc1 _) ?_
    show am_T _ _ _ _ [_, _, some _] _ _ _ _ _
    refine am_goto rfl ?_
    exact ih (i + 1) mi' (by omega) (by rw [take_s (by omega), ← List.append_assoc]; exact g1) (hF.tr g2)
theorem c_T_append (hR : SR mr) (k : Nat) (hk : k < 40) (t u : List Nat) (hlen : u.length + t.length ≤ 36) (mi : Nat → Nat → Int32) (hT : TR (mi 103) (mi 104) k (some t)) (hu : TL mi u) : am_T l (d + 1) M_T_append 0 [some (.ref 102), some (.int (nI k)), none] [] (hm mi ml mr) 0 0 (fun r h' => r = none ∧ ∃ mi', h' = hm mi' ml mr ∧ TL mi' (u ++ t) ∧ Ftt mi mi') := by
  refine am_iconst (v := nI 0) rfl (by decide) ?_
  refine am_istore_n rfl (Nat.le_of_ble_eq_true rfl) ?_
  show am_T _ _ _ _ [_, _, some _] _ _ _ _ _
  exact c_T_append_loop hR k hk t u hlen mi hT t.length 0 mi (by omega) (by simpa using hu) Ftt.rf
theorem c_T_putText (hR : SR mr) (k : Nat) (hk : k < 40) (t : List Nat) (mi : Nat → Nat → Int32) (hT : TR (mi 103) (mi 104) k (some t)) : am_T l (d + 2) M_T_putText 0 [some (.ref 102), some (.int (nI k))] [] (hm mi ml mr) 0 0 (fun r h' => r = none ∧ ∃ mi', h' = hm mi' ml mr ∧ TL mi' t ∧ Ftt mi mi') := by
  refine am_aload_n rfl rfl ?_
  refine am_iconst (v := nI 0) rfl (by decide) ?_
  refine ho_putI rfl (by first | rfl | assumption) rfl rfl ?_
  refine am_aload_n rfl rfl ?_
  refine am_iload_n rfl rfl ?_
  have hT' : TR (up2 mi 102 5 (nI 0) 103) (up2 mi 102 5 (nI 0) 104) k (some t) := by
    rw [up2_off _ _ _ (by decide), up2_off _ _ _ (by decide)]
    exact hT
  refine ho_cv1 rfl (by first | rfl | assumption) rfl (Nat.le_of_ble_eq_true rfl) (Nat.le_of_ble_eq_true rfl) (c_T_append hR k hk t [] (by have := hT.1; simp; omega) _ hT' TL_0) ?_
  rintro v h' ⟨rfl, mi', rfl, g1, g2⟩
  exact am_return rfl rfl ⟨rfl, mi', rfl, g1, Ftt_0.tr g2⟩
theorem c_T_comesBefore_loop (hR : SR mr) (k : Nat) (hk : k < 40) (t u : List Nat) (h36 : u.length ≤ 36) (mi : Nat → Nat → Int32) (hT : TR (mi 103) (mi 104) k (some t)) (hu : TL mi u) : ∀ (g i : Nat), u.length < i + g → i ≤ u.length →
    am_T l d M_T_comesBefore 2 [some (.ref 102), some (.int (nI k)), some (.int (nI i)), none] [] (hm mi ml mr) 0 0 (fun r h' => r = some (.int (bI (sn (u.drop i) (t.drop i)))) ∧ h' = hm mi ml mr) := by
  obtain ⟨t1, t2, t3, t4⟩ := hT
  intro g
  induction g with
  | zero =>
    intro i h1 h2
    omega
  | succ g ih =>
    intro i h1 h2
    have no : ¬ (i < u.length ∧ i < t.length) → am_T l d M_T_comesBefore 64 [some (.ref 102), some (.int (nI k)), some (.int (nI i)), none] [] (hm mi ml mr) 0 0 (fun r h' => r = some (.int (bI (sn (u.drop i) (t.drop i)))) ∧ h' = hm mi ml mr) := by
      intro h
      rw [sn_at, if_neg h]
      refine am_iconst (v := nI 0) rfl (by decide) ?_
      exact am_zreturn rfl rfl (Or.inl rfl) ⟨rfl, rfl⟩
    refine am_iload_n rfl rfl ?_
    refine am_aload_n rfl rfl ?_
    refine ho_getI rfl (by first | rfl | assumption) rfl ?_
    rw [hu.1]
    refine ho_icmp_ge rfl (by omega) (by omega) (fun q => no (by omega)) (fun q1 => ?_)
    refine am_iload_n rfl rfl ?_
    refine am_aload_n rfl rfl ?_
    refine ho_getR rfl (by first | rfl | assumption) rfl (by first | assumption | exact hR _ _ _ rfl) ?_
    refine am_iload_n rfl rfl ?_
    refine ho_iaload rfl (by first | rfl | assumption) (by omega) ?_
    rw [t3]
    refine ho_icmp_ge rfl (by omega) (by omega) (fun q => no (by omega)) (fun q2 => ?_)
    have a1 := okT_at hu.2.2 i
    have a2 := okT_at t2 i
    rw [sn_at, if_pos ⟨by omega, by omega⟩]
    refine am_aload_n rfl rfl ?_
    refine ho_getR rfl (by first | rfl | assumption) rfl (by first | assumption | exact hR _ _ _ rfl) ?_
    refine am_iload_n rfl rfl ?_
    refine am_bipush (v := nI 36) rfl (by decide) ?_
    first | refine ho_muln rfl ?_ | refine am_imul rfl ?_
    refine am_iload_n rfl rfl ?_
    first | refine ho_addn rfl ?_ | refine am_iadd rfl ?_
    refine ho_caload rfl rfl (by omega) ?_
    rw [show k * 36 + i = 36 * k + i by omega, t4 i (by omega)]
    refine am_istore_n rfl (Nat.le_of_ble_eq_true rfl) ?_
    show am_T _ _ _ _ [_, _, _, some _] _ _ _ _ _
    refine am_aload_n rfl rfl ?_
    refine ho_getR rfl (by first | rfl | assumption) rfl (by first | assumption | exact hR _ _ _ rfl) ?_
    refine am_iload_n rfl rfl ?_
    refine ho_caload rfl rfl (by omega) ?_
    rw [hu.2.1 i (by omega)]
    refine am_iload_n rfl rfl ?_
    refine ho_icmp_eq rfl (by omega) (by omega) (fun e => ?_) (fun e => ?_)
    · rw [if_pos e]
      refine am_iinc rfl rfl (nI_inc1 _) ?_
      show am_T _ _ _ _ [_, _, some _, _] _ _ _ _ _
      refine am_goto rfl ?_
      refine am_drops [3] ?_
      exact ih (i + 1) (by omega) (by omega)
    · rw [if_neg e]
      refine am_aload_n rfl rfl ?_
      refine ho_getR rfl (by first | rfl | assumption) rfl (by first | assumption | exact hR _ _ _ rfl) ?_
      refine am_iload_n rfl rfl ?_
      refine ho_caload rfl rfl (by omega) ?_
      rw [hu.2.1 i (by omega)]
      refine am_iload_n rfl rfl ?_
      refine ho_icmp_ge rfl (by omega) (by omega) (fun z => ?_) (fun z => ?_)
      · refine am_iconst (v := nI 0) rfl (by decide) ?_
        exact am_zreturn rfl rfl (Or.inl rfl) ⟨by rw [decide_eq_false (by omega)]; rfl, rfl⟩
      · refine am_iconst (v := nI 1) rfl (by decide) ?_
        refine am_goto rfl ?_
        exact am_zreturn rfl rfl (Or.inr rfl) ⟨by rw [decide_eq_true (by omega)]; rfl, rfl⟩
theorem c_T_comesBefore (hR : SR mr) (k : Nat) (hk : k < 40) (t u : List Nat) (h36 : u.length ≤ 36) (mi : Nat → Nat → Int32) (hT : TR (mi 103) (mi 104) k (some t)) (hu : TL mi u) : am_T l d M_T_comesBefore 0 [some (.ref 102), some (.int (nI k)), none, none] [] (hm mi ml mr) 0 0 (fun r h' => r = some (.int (bI (sn u t))) ∧ h' = hm mi ml mr) := by
  refine am_iconst (v := nI 0) rfl (by decide) ?_
  refine am_istore_n rfl (Nat.le_of_ble_eq_true rfl) ?_
  show am_T _ _ _ _ [_, _, some _, _] _ _ _ _ _
  have := c_T_comesBefore_loop (l := l) (d := d) (ml := ml) hR k hk t u h36 mi hT hu (u.length + 1) 0 (by omega) (by omega)
  exact this
end S3
