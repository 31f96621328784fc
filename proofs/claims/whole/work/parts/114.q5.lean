/-! the reference's wrong, for a function that is defined -/
section Q5
variable {l : Launch} {d : Nat} {mr : Nat → Nat → Option Nat} {s : Sta}
theorem m_wrg (hR : SR mr) (hs : okSta s) (mi : Nat → Nat → Int32) (ml : Nat → Nat → Int64) (hM : MI s mi ml) (φ : Nat) (hφ : φ < 3) (hz : (s.F φ).2.2.length ≠ 0) : am_T l (d + 6) M_m_wrong 0 [some (.ref 116), some (.int (nI φ)), none, none, none] [] (hm mi ml mr) 0 0 (fun r h' => ∃ cm mi' ml', h' = hm mi' ml' mr ∧ MI s mi' ml' ∧ repS (SD s.D) mi' ∧ MKn (SD s.D) cm mi' ml' ∧ (∀ a, a < 116 → mi' a = mi a) ∧ (∀ a, a < 116 → ml' a = ml a) ∧ ((40 < cm ∧ r = some (.int (-3))) ∨ (cm ≤ 40 ∧ ∃ v fd, VI (SD s.D) cm v ml' ∧ (∀ k, 1 ≤ k → k < cm → v k = lsz (SD s.D) (ml' 127 k)) ∧ r = some (.int (nI (if fd < (s.F φ).2.2.length then fd + 1 else 0))) ∧ FWr (BdM (SD s.D) s.F φ cm (ml' 127)) (1 + 5 * cm * cm) (s.F φ).2.2.length fd))) := by
  have hS := okS_SD hs.2.1
  refine am_aload_n rfl rfl ?_
  refine am_iload_n rfl rfl ?_
  refine ho_cv1 rfl (by first | rfl | assumption) rfl (Nat.le_of_ble_eq_true rfl) (Nat.le_of_ble_eq_true rfl) (c_m_definedN hR φ hφ (hM.2.2.1 φ hφ)) ?_
  rintro v h' ⟨rfl, rfl⟩
  rw [decide_eq_true hz]
  refine am_if_ne rfl (fun _ => ?_) (fun z => by cases z)
  refine am_aload_n rfl rfl ?_
  refine ho_cv0 rfl (by first | rfl | assumption) rfl (Nat.le_of_ble_eq_true rfl) (Nat.le_of_ble_eq_true rfl) (m_room hR hs mi ml hM) ?_
  rintro v h' ⟨cm, mi', ml', rfl, rfl, q0, q1, q2, q3, q4⟩
  have hfr : (∀ a, a < 116 → mi' a = mi a) ∧ ∀ a, a < 116 → ml' a = ml a := ⟨fun a ha => q4.1 a (by omega) (by omega) (by omega) (by omega) (by omega) (by omega), fun a ha => q4.2.2.1 a (by omega) (by omega) (by omega)⟩
  by_cases h40 : 40 < cm
  · rw [decide_eq_true h40]
    refine am_if_eq rfl (fun z => by cases z) (fun _ => ?_)
    refine am_bipush (v := -3) rfl (by decide) ?_
    exact am_ireturn rfl rfl ⟨cm, mi', ml', rfl, q0, q1, q2, hfr.1, hfr.2, Or.inl ⟨h40, rfl⟩⟩
  · rw [decide_eq_false h40]
    refine am_if_eq rfl (fun _ => ?_) (fun z => absurd rfl z)
    have h40 : cm ≤ 40 := by omega
    obtain ⟨-, v, hV, hv⟩ := q2.2.1 h40
    refine am_bipush (v := nI 7) rfl (by decide) ?_
    refine am_istore_n rfl (Nat.le_of_ble_eq_true rfl) ?_
    show am_T _ _ _ _ [_, _, some _, _, _] _ _ _ _ _
    refine am_iconst (v := nI 0) rfl (by decide) ?_
    refine am_istore_n rfl (Nat.le_of_ble_eq_true rfl) ?_
    show am_T _ _ _ _ [_, _, _, some _, _] _ _ _ _ _
    have k := c_m_wrong_loop (l := l) (d := d) hR hS ml' q1 q2 h40 q0.2.2.1 (fun ψ => (hs.2.2.1 ψ).1) φ hφ hz (1 + 5 * cm * cm) 0 (s.F φ).2.2.length ml' (Nat.zero_add _) (fun _ _ => rfl) ⟨Nat.le_refl _, fun i j hi => absurd hi (Nat.not_lt_zero _), fun g => absurd g (Nat.lt_irrefl _)⟩
    rw [show fm7 (s.F φ).2.2.length (s.F φ).2.2.length = 7 from if_neg (Nat.lt_irrefl _)] at k
    refine am_T.to k ?_
    rintro r h' ⟨fd', ml2, rfl, rfl, hml2, hU⟩
    have e127 : ml2 127 = ml' 127 := hml2 127 (by decide)
    refine ⟨cm, mi', ml2, rfl, MI_142 q0 hml2, q1, q2.to rfl rfl e127 (hml2 128 (by decide)) (by rw [hml2 116 (by decide)]), hfr.1, fun a ha => by rw [hml2 a (by omega)]; exact hfr.2 a ha, Or.inr ⟨h40, v, fd', ?_, ?_, rfl, by rw [e127]; exact hU⟩⟩
    · unfold VI at hV ⊢
      rw [e127, hml2 128 (by decide)]
      exact hV
    · rw [e127]
      exact hv
end Q5
