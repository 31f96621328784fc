/-! the class: kindOf, letterFor, findLetters -/
/-- joined, by what fits -/
noncomputable def joF (S : Rs) (ip : Nat → Nat) (n : Nat) (fits : Int32) (t : Int64) : Int64 := ofB (fun r => ∃ i, i < n ∧ ti fits i = true ∧ goP S (tb t) (ip i) = true ∧ Sp (skS S) (woS S) (tlS S) (one (ip i)) r)
theorem joF_bel {S : Rs} (hS : okS S) {ip : Nat → Nat} {n f : Nat} (hn : n ≤ 16) {c : Nat → Bool} (t : Int64) (hf : 1 ≤ f) (hip : ∀ j, j < n → ip j < S.1 ∧ 1 ≤ S.2.1 (ip j) ∧ S.2.1 (ip j) ≤ 5) (hall : ∀ r, r < S.1 → 1 ≤ S.2.1 r → S.2.1 r ≤ 5 → ∃ j, j < n ∧ ip j = r) : joF S ip n (ofI (fitP S ip n f c)) t = belF S f c (tb t) := by
  refine ofB_eq (fun r hr => ?_)
  rw [Lfp_pos hS hf hip hall]
  unfold joF
  rw [tb_ofB _ hr]
  constructor
  · rintro ⟨i, a1, a2, a3, a4⟩
    rw [ti_ofI _ (by omega)] at a2
    exact ⟨i, a2, a3, a4⟩
  · rintro ⟨j, a1, a2, a3⟩
    have hj : j < n := by
      unfold fitP at a1
      rw [Bool.and_eq_true] at a1
      exact of_decide_eq_true a1.1
    exact ⟨j, hj, by rw [ti_ofI _ (by omega)]; exact a1, a2, a3⟩
section X4
variable {l : Launch} {d : Nat} {mi : Nat → Nat → Int32} {ml : Nat → Nat → Int64} {mr : Nat → Nat → Option Nat} {S : Rs} {ip : Nat → Nat} {n : Nat}
theorem c_S_joF (hR : SR mr) (hS : okS S) (hX : repX S ip n mi ml) (fits : Int32) (t : Int64) : am_T l d M_S_joined 0 [some (.ref 84), some (.int fits), some (.long t), none, none, none, none] [] (hm mi ml mr) 0 0 (fun v h' => v = some (.long (joF S ip n fits t)) ∧ h' = hm mi ml mr) := by
  have hok : ∀ j, j < n → ip j + 1 < S.1 := fun j hj => by
    obtain ⟨p1, p2, p3, -⟩ := hX.2.1 j hj
    have := (hS.2 _ p1).1
    omega
  refine am_lconst (v := 0) rfl (by decide) ?_
  refine am_lstore rfl (Nat.le_of_ble_eq_true rfl) ?_
  show am_T _ _ _ _ [_, _, _, _, some _, none, _] _ _ _ _ _
  refine am_iconst (v := nI 0) rfl (by decide) ?_
  refine am_istore rfl (Nat.le_of_ble_eq_true rfl) ?_
  show am_T _ _ _ _ [_, _, _, _, _, _, some _] _ _ _ _ _
  refine c_S_joined_loop hR hX hS.1 hok _ t (fun m hm' => ⟨?_, rfl⟩) n 0 0 (by omega) (fun r hr => by rw [tb_0]; simp)
  congr 2
  refine ofB_eq (fun r hr => ?_)
  rw [hm' r hr]
  constructor
  · rintro ⟨i, a1, a2, a3, a4⟩
    rw [(hX.2.1 i a1).2.2.2.2.2.2.2] at a4
    exact ⟨i, a1, a2, a3, (tb_ofB _ hr).mp a4⟩
  · rintro ⟨i, a1, a2, a3, a4⟩
    refine ⟨i, a1, a2, a3, ?_⟩
    rw [(hX.2.1 i a1).2.2.2.2.2.2.2]
    exact (tb_ofB _ hr).mpr a4
theorem c_K_kindOf_loop (hR : SR mr) (cnt : Nat) (hc : mi 93 3 = nI cnt) (hc1 : 1 ≤ cnt) (hc40 : cnt ≤ 40) (mask : Int64) {Q : Option Value → am_H → Prop}
    (hold : ∀ k, 1 ≤ k → k < cnt → ml 94 k = mask → Q (some (.int (nI k))) (hm mi ml mr))
    (hnew : cnt < 40 → (∀ k, 1 ≤ k → k < cnt → ml 94 k ≠ mask) → Q (some (.int (nI cnt))) (hm (up2 mi 93 3 (nI (cnt + 1))) (up2 ml 94 cnt mask) mr))
    (hfull : cnt = 40 → (∀ k, 1 ≤ k → k < cnt → ml 94 k ≠ mask) → Q (some (.int (nI 0))) (hm (up2 mi 93 2 (nI 1)) ml mr)) :
    ∀ (j k : Nat), k + j = cnt → 1 ≤ k → (∀ i, 1 ≤ i → i < k → ml 94 i ≠ mask) → am_T l d M_K_kindOf 2 [some (.ref 93), some (.long mask), none, some (.int (nI k))] [] (hm mi ml mr) 0 0 Q := by
  intro j
  induction j with
  | zero =>
    intro k hk hk1 hno
    have hno' : ∀ i, 1 ≤ i → i < cnt → ml 94 i ≠ mask := fun i h1 h2 => hno i h1 (by omega)
    refine am_iload_n rfl rfl ?_
    refine am_aload_n rfl rfl ?_
    refine ho_getI rfl (by first | rfl | assumption) rfl ?_
    rw [hc]
    refine ho_icmp_ge rfl (by omega) (by omega) (fun _ => ?_) (fun q => absurd (by omega) q)
    refine am_aload_n rfl rfl ?_
    refine ho_getI rfl (by first | rfl | assumption) rfl ?_
    rw [hc]
    refine am_bipush (v := nI 40) rfl (by decide) ?_
    refine ho_icmp_lt rfl (by omega) (by omega) (fun h40 => ?_) (fun h40 => ?_)
    · refine am_aload_n rfl rfl ?_
      refine ho_getR rfl (by first | rfl | assumption) rfl (by first | assumption | exact hR _ _ _ rfl) ?_
      refine am_aload_n rfl rfl ?_
      refine ho_getI rfl (by first | rfl | assumption) rfl ?_
      rw [hc]
      refine am_lload_n rfl rfl ?_
      refine ho_lastore rfl (by first | rfl | assumption) (by omega) ?_
      refine am_aload_n rfl rfl ?_
      refine am_dup rfl rfl ?_
      refine ho_getI rfl (by first | rfl | assumption) rfl ?_
      rw [hc]
      refine am_iconst (v := nI 1) rfl (by decide) ?_
      first | refine ho_addn rfl ?_ | refine am_iadd rfl ?_
      refine ho_putI rfl (by first | rfl | assumption) rfl rfl ?_
      refine am_aload_n rfl rfl ?_
      refine ho_getI rfl (by first | rfl | assumption) rfl ?_
      have e : up2 mi 93 3 (nI (cnt + 1)) 93 3 = nI (cnt + 1) := by simp [up2]
      rw [e]
      refine am_iconst (v := nI 1) rfl (by decide) ?_
      first | refine ho_subn rfl (by omega) ?_ | refine am_isub rfl ?_
      refine am_ireturn rfl rfl ?_
      rw [Nat.add_sub_cancel]
      exact hnew h40 hno'
    · refine am_aload_n rfl rfl ?_
      refine am_iconst (v := nI 1) rfl (by decide) ?_
      refine ho_putI rfl (by first | rfl | assumption) rfl (by first | rfl | assumption) ?_
      refine am_iconst (v := nI 0) rfl (by decide) ?_
      exact am_ireturn rfl rfl (hfull (by omega) hno')
  | succ j ih =>
    intro k hk hk1 hno
    refine am_iload_n rfl rfl ?_
    refine am_aload_n rfl rfl ?_
    refine ho_getI rfl (by first | rfl | assumption) rfl ?_
    rw [hc]
    refine ho_icmp_ge rfl (by omega) (by omega) (fun q => absurd q (by omega)) (fun _ => ?_)
    refine am_aload_n rfl rfl ?_
    refine ho_getR rfl (by first | rfl | assumption) rfl (by first | assumption | exact hR _ _ _ rfl) ?_
    refine am_iload_n rfl rfl ?_
    refine ho_laload rfl (by first | rfl | assumption) (by omega) ?_
    refine am_lload_n rfl rfl ?_
    refine am_lcmp rfl ?_
    refine am_if_ne rfl (fun q => ?_) (fun q => ?_)
    · refine am_iinc rfl rfl (nI_inc1 _) ?_
      show am_T _ _ _ _ [_, _, _, some _] _ _ _ _ _
      refine am_goto rfl ?_
      refine ih (k + 1) (by omega) (by omega) (fun i h1 h2 => ?_)
      rcases Nat.lt_succ_iff_lt_or_eq.mp h2 with e | e
      · exact hno i h1 e
      · subst e
        exact fun z => q (lg_cmp_0.mpr z)
    · refine am_iload_n rfl rfl ?_
      exact am_ireturn rfl rfl (hold k hk1 (by omega) (lg_cmp_0.mp q))
theorem c_K_kindOf (hR : SR mr) (cnt : Nat) (hc : mi 93 3 = nI cnt) (hc1 : 1 ≤ cnt) (hc40 : cnt ≤ 40) (mask : Int64) : am_T l d M_K_kindOf 0 [some (.ref 93), some (.long mask), none, none] [] (hm mi ml mr) 0 0 (fun v h' => (∃ k, 1 ≤ k ∧ k < cnt ∧ ml 94 k = mask ∧ v = some (.int (nI k)) ∧ h' = hm mi ml mr) ∨ ((∀ k, 1 ≤ k → k < cnt → ml 94 k ≠ mask) ∧ ((cnt < 40 ∧ v = some (.int (nI cnt)) ∧ h' = hm (up2 mi 93 3 (nI (cnt + 1))) (up2 ml 94 cnt mask) mr) ∨ (cnt = 40 ∧ v = some (.int (nI 0)) ∧ h' = hm (up2 mi 93 2 (nI 1)) ml mr)))) := by
  refine am_iconst (v := nI 1) rfl (by decide) ?_
  refine am_istore_n rfl (Nat.le_of_ble_eq_true rfl) ?_
  show am_T _ _ _ _ [_, _, _, some _] _ _ _ _ _
  exact c_K_kindOf_loop hR cnt hc hc1 hc40 mask (fun k h1 h2 h3 => Or.inl ⟨k, h1, h2, h3, rfl, rfl⟩) (fun h h' => Or.inr ⟨h', Or.inl ⟨h, rfl, rfl⟩⟩) (fun h h' => Or.inr ⟨h', Or.inr ⟨h, rfl, rfl⟩⟩) (cnt - 1) 1 (by omega) (by omega) (fun j h1 h2 => by omega)
theorem c_K_letterFor_loop (hR : SR mr) (L : Nat) (hL : mi 93 4 = nI L) (hL1 : L < 161) (fit : Int32) {Q : Option Value → am_H → Prop}
    (hold : ∀ k, k < L → mi 96 k = fit → Q (some (.int (nI k))) (hm mi ml mr))
    (hnew : Q (some (.int (nI L))) (hm (up2 (up2 mi 96 L fit) 93 4 (nI (L + 1))) ml mr)) :
    ∀ (j k : Nat), k + j = L → am_T l d M_K_letterFor 2 [some (.ref 93), some (.int fit), some (.int (nI k))] [] (hm mi ml mr) 0 0 Q := by
  intro j
  induction j with
  | zero =>
    intro k hk
    refine am_iload_n rfl rfl ?_
    refine am_aload_n rfl rfl ?_
    refine ho_getI rfl (by first | rfl | assumption) rfl ?_
    rw [hL]
    refine ho_icmp_ge rfl (by omega) (by omega) (fun _ => ?_) (fun q => absurd (by omega) q)
    refine am_aload_n rfl rfl ?_
    refine ho_getI rfl (by first | rfl | assumption) rfl ?_
    rw [hL]
    refine am_sipush (v := nI 161) rfl (by decide) ?_
    refine ho_icmp_lt rfl (by omega) (by omega) (fun _ => ?_) (fun q => absurd (by omega) q)
    refine am_aload_n rfl rfl ?_
    refine ho_getR rfl (by first | rfl | assumption) rfl (by first | assumption | exact hR _ _ _ rfl) ?_
    refine am_aload_n rfl rfl ?_
    refine ho_getI rfl (by first | rfl | assumption) rfl ?_
    rw [hL]
    refine am_iload_n rfl rfl ?_
    refine ho_iastore rfl (by first | rfl | assumption) (by omega) ?_
    refine am_aload_n rfl rfl ?_
    refine am_dup rfl rfl ?_
    refine ho_getI rfl (by first | rfl | assumption) rfl ?_
    rw [up2_off mi L fit (show (93 : Nat) ≠ 96 by decide), hL]
    refine am_iconst (v := nI 1) rfl (by decide) ?_
    first | refine ho_addn rfl ?_ | refine am_iadd rfl ?_
    refine ho_putI rfl (by first | rfl | assumption) rfl rfl ?_
    refine am_aload_n rfl rfl ?_
    refine ho_getI rfl (by first | rfl | assumption) rfl ?_
    have e : up2 (up2 mi 96 L fit) 93 4 (nI (L + 1)) 93 4 = nI (L + 1) := by simp [up2]
    rw [e]
    refine am_iconst (v := nI 1) rfl (by decide) ?_
    first | refine ho_subn rfl (by omega) ?_ | refine am_isub rfl ?_
    refine am_ireturn rfl rfl ?_
    rw [Nat.add_sub_cancel]
    exact hnew
  | succ j ih =>
    intro k hk
    refine am_iload_n rfl rfl ?_
    refine am_aload_n rfl rfl ?_
    refine ho_getI rfl (by first | rfl | assumption) rfl ?_
    rw [hL]
    refine ho_icmp_ge rfl (by omega) (by omega) (fun q => absurd q (by omega)) (fun _ => ?_)
    refine am_aload_n rfl rfl ?_
    refine ho_getR rfl (by first | rfl | assumption) rfl (by first | assumption | exact hR _ _ _ rfl) ?_
    refine am_iload_n rfl rfl ?_
    refine ho_iaload rfl (by first | rfl | assumption) (by omega) ?_
    refine am_iload_n rfl rfl ?_
    refine am_icmp_ne rfl (fun q => ?_) (fun q => ?_)
    · refine am_iinc rfl rfl (nI_inc1 _) ?_
      show am_T _ _ _ _ [_, _, some _] _ _ _ _ _
      refine am_goto rfl ?_
      exact ih (k + 1) (by omega)
    · refine am_iload_n rfl rfl ?_
      exact am_ireturn rfl rfl (hold k (by omega) q)
theorem c_K_letterFor (hR : SR mr) (L : Nat) (hL : mi 93 4 = nI L) (hL1 : L < 161) (fit : Int32) : am_T l d M_K_letterFor 0 [some (.ref 93), some (.int fit), none] [] (hm mi ml mr) 0 0 (fun v h' => (∃ k, k < L ∧ mi 96 k = fit ∧ v = some (.int (nI k)) ∧ h' = hm mi ml mr) ∨ (v = some (.int (nI L)) ∧ h' = hm (up2 (up2 mi 96 L fit) 93 4 (nI (L + 1))) ml mr)) := by
  refine am_iconst (v := nI 0) rfl (by decide) ?_
  refine am_istore_n rfl (Nat.le_of_ble_eq_true rfl) ?_
  show am_T _ _ _ _ [_, _, some _] _ _ _ _ _
  exact c_K_letterFor_loop hR L hL hL1 fit (fun k h1 h2 => Or.inl ⟨k, h1, h2, rfl, rfl⟩) (Or.inr ⟨rfl, rfl⟩) L 0 (by omega)
end X4
