/-! both: choose, defined -/
section F1
variable {l : Launch} {d : Nat} {mi : Nat → Nat → Int32} {ml : Nat → Nat → Int64} {mr : Nat → Nat → Option Nat} {S : Rs} {ip : Nat → Nat} {n o : Nat}
theorem fp_inj {p q : Nat} (hp : p ≤ 5) (hq : q ≤ 5) : fp p = fp q ↔ p = q := by
  have : ∀ p, p ≤ 5 → ∀ q, q ≤ 5 → (fp p = fp q ↔ p = q) := by decide
  exact this p hp q hq
theorem c_S_choose (hR : SR mr) (hS : okS S) (hX : repX S ip n mi ml) (hFn : isFn mr o) (C : List Cl) (hA : CA mi o C) (hC : ∀ c ∈ C, okCl c) (h6 : C.length ≤ 6) (q : Nat) (hq : q ≤ 5) (i b : Int64) : am_T l (d + 1) M_S_choose 0 [some (.ref 84), some (.ref o), some (.int (nI (fp q))), some (.long i), none, some (.long b), none, none] [] (hm mi ml mr) 0 0 (fun r h' => r = some (.int (noI (chs S C q (tb i) (tb b)))) ∧ h' = hm mi ml mr) := by
  obtain ⟨o64, k0, k1, k2, k3, k4, k5, r4, r5, r6, r7, r8⟩ := hFn
  obtain ⟨f1, f2, f3, f4⟩ := fp_r hq
  have loop : ∀ (m k : Nat), k + m = C.length → am_T l (d + 1) M_S_choose 3 [some (.ref 84), some (.ref o), some (.int (nI (fp q))), some (.long i), none, some (.long b), none, some (.int (nI k))] [] (hm mi ml mr) 0 0 (fun r h' => r = some (.int (noI (chsG S q (tb i) (tb b) k (C.drop k)))) ∧ h' = hm mi ml mr) := by
    intro m
    induction m with
    | zero =>
      intro k hk
      refine am_iload rfl rfl ?_
      refine am_aload_n rfl rfl ?_
      refine ho_getI rfl (by first | rfl | assumption) rfl ?_
      rw [hA.1]
      refine ho_icmp_ge rfl (by omega) (by omega) (fun _ => ?_) (fun z => absurd (by omega) z)
      refine am_iconst (v := -1) rfl (by decide) ?_
      exact am_ireturn rfl rfl ⟨by rw [List.drop_eq_nil_of_le (by omega)]; rfl, rfl⟩
    | succ m ih =>
      intro k hk
      have hlt : k < C.length := by omega
      have hsp : C = C.take k ++ clA C k :: C.drop (k + 1) := by rw [← drop_sC C hlt, List.take_append_drop]
      have htl : (C.take k).length = k := by rw [List.length_take]; omega
      obtain ⟨g1, g2, g3, -⟩ := hA.2.2 _ _ _ hsp
      rw [htl] at g1 g2 g3
      have hokc : okCl (clA C k) := hC _ (by unfold clA; rw [List.getD_eq_getElem?_getD, List.getElem?_eq_getElem hlt]; exact List.getElem_mem hlt)
      obtain ⟨o1, o2, o3, -⟩ := hokc
      obtain ⟨e1, -⟩ := fp_r o1
      rw [drop_sC C hlt]
      unfold chsG
      have no : mtch S (clA C k).1 q (tb i) (tb b) = false → am_T l (d + 1) M_S_choose 67 [some (.ref 84), some (.ref o), some (.int (nI (fp q))), some (.long i), none, some (.long b), none, some (.int (nI k))] [] (hm mi ml mr) 0 0 (fun r h' => r = some (.int (noI (if mtch S (clA C k).1 q (tb i) (tb b) = true then some k else chsG S q (tb i) (tb b) (k + 1) (C.drop (k + 1))))) ∧ h' = hm mi ml mr) := by
        intro e
        rw [e, if_neg (by decide)]
        refine am_iinc rfl rfl (nI_inc1 _) ?_
        show am_T _ _ _ _ [_, _, _, _, _, _, _, some _] _ _ _ _ _
        refine am_goto rfl ?_
        exact ih (k + 1) (by omega)
      have yes : mtch S (clA C k).1 q (tb i) (tb b) = true → am_T l (d + 1) M_S_choose 64 [some (.ref 84), some (.ref o), some (.int (nI (fp q))), some (.long i), none, some (.long b), none, some (.int (nI k))] [] (hm mi ml mr) 0 0 (fun r h' => r = some (.int (noI (if mtch S (clA C k).1 q (tb i) (tb b) = true then some k else chsG S q (tb i) (tb b) (k + 1) (C.drop (k + 1))))) ∧ h' = hm mi ml mr) := by
        intro e
        rw [e, if_pos rfl]
        refine am_iload rfl rfl ?_
        exact am_ireturn rfl rfl ⟨rfl, rfl⟩
      refine am_iload rfl rfl ?_
      refine am_aload_n rfl rfl ?_
      refine ho_getI rfl (by first | rfl | assumption) rfl ?_
      rw [hA.1]
      refine ho_icmp_ge rfl (by omega) (by omega) (fun z => absurd z (by omega)) (fun _ => ?_)
      refine am_aload_n rfl rfl ?_
      refine ho_getR rfl (by first | rfl | assumption) rfl (by first | assumption | exact hR _ _ _ rfl) ?_
      refine am_iload rfl rfl ?_
      refine ho_iaload rfl (by first | rfl | assumption) (by omega) ?_
      rw [g1]
      refine am_iload_n rfl rfl ?_
      refine ho_icmp_ne rfl (by omega) (by omega) (fun z => no ?_) (fun z => ?_)
      · unfold mtch
        rw [decide_eq_false (fun e => z ((fp_inj o1 hq).mpr e))]
        rfl
      have hpq := (fp_inj o1 hq).mp z
      have hm1 : mtch S (clA C k).1 q (tb i) (tb b) = ((decide (q < 2) || inN S (tb i) (clA C k).1.2.1) && (decide (q = 0) || inN S (tb b) (clA C k).1.2.2)) := by
        unfold mtch
        rw [decide_eq_true hpq]
        rfl
      have s43 : (decide (q < 2) || inN S (tb i) (clA C k).1.2.1) = true → am_T l (d + 1) M_S_choose 43 [some (.ref 84), some (.ref o), some (.int (nI (fp q))), some (.long i), none, some (.long b), none, some (.int (nI k))] [] (hm mi ml mr) 0 0 (fun r h' => r = some (.int (noI (if mtch S (clA C k).1 q (tb i) (tb b) = true then some k else chsG S q (tb i) (tb b) (k + 1) (C.drop (k + 1))))) ∧ h' = hm mi ml mr) := by
        intro e
        refine am_iload_n rfl rfl ?_
        refine am_iconst (v := nI 5) rfl (by decide) ?_
        refine ho_icmp_eq rfl (by omega) (by omega) (fun y => yes (by rw [hm1, e, decide_eq_true (f4.mp y)]; rfl)) (fun y => ?_)
        have y : ¬ q = 0 := fun e => y (f4.mpr e)
        refine am_aload_n rfl rfl ?_
        refine am_lload rfl rfl ?_
        refine am_aload_n rfl rfl ?_
        refine ho_getR rfl (by first | rfl | assumption) rfl (by first | assumption | exact hR _ _ _ rfl) ?_
        refine am_iload rfl rfl ?_
        refine ho_iaload rfl k3 (by omega) ?_
        rw [g3 (by omega)]
        refine ho_cv2 rfl (by first | rfl | assumption) rfl (Nat.le_of_ble_eq_true rfl) (Nat.le_of_ble_eq_true rfl) (c_S_belongs hR hS hX b _ o3) ?_
        rintro v h' ⟨rfl, rfl⟩
        refine am_if_eq rfl (fun w => no (by rw [hm1, (bI_eq _).mp w, decide_eq_false y]; simp)) (fun w => yes (by rw [hm1, (bI_ne _).mp w, e]; simp))
      refine am_iload_n rfl rfl ?_
      refine am_iconst (v := nI 4) rfl (by decide) ?_
      refine ho_icmp_ge rfl (by omega) (by omega) (fun y => s43 (by
        have : ¬ 2 ≤ q := fun e => absurd (f2.mpr e) (by omega)
        rw [decide_eq_true (show q < 2 by omega)]
        rfl)) (fun y => ?_)
      have hq2 : 2 ≤ q := f2.mp (by omega)
      refine am_aload_n rfl rfl ?_
      refine am_lload_n rfl rfl ?_
      refine am_aload_n rfl rfl ?_
      refine ho_getR rfl (by first | rfl | assumption) rfl (by first | assumption | exact hR _ _ _ rfl) ?_
      refine am_iload rfl rfl ?_
      refine ho_iaload rfl k2 (by omega) ?_
      rw [g2 (by omega)]
      refine ho_cv2 rfl (by first | rfl | assumption) rfl (Nat.le_of_ble_eq_true rfl) (Nat.le_of_ble_eq_true rfl) (c_S_belongs hR hS hX i _ o2) ?_
      rintro v h' ⟨rfl, rfl⟩
      refine am_if_eq rfl (fun w => no (by rw [hm1, (bI_eq _).mp w, decide_eq_false (show ¬ q < 2 by omega)]; rfl)) (fun w => s43 (by rw [(bI_ne _).mp w, Bool.or_true]))
  refine am_iconst (v := nI 0) rfl (by decide) ?_
  refine am_istore rfl (Nat.le_of_ble_eq_true rfl) ?_
  show am_T _ _ _ _ [_, _, _, _, _, _, _, some _] _ _ _ _ _
  exact loop C.length 0 (by omega)
end F1
