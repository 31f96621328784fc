/-! the reference: know, takeNodes, validText -/
/-- the reference's store of definitions -/
def MD (D : Nat → List Rt) (mi : Nat → Nat → Int32) : Prop := ∃ T : Nat → List Nat, ∀ n, n < 6 → EN mi n (T n) ∧ DT n (D n) (T n)
/-- what it knows of them -/
def MC (D : Nat → List Rt) (mi : Nat → Nat → Int32) (ml : Nat → Nat → Int64) : Prop := ∃ kb : Bool, mi 116 11 = bI kb ∧ (kb = true → repS (SD D) mi ∧ ∃ cnt, MKn (SD D) cnt mi ml)
def Fn2 (mi mi' : Nat → Nat → Int32) (ml ml' : Nat → Nat → Int64) : Prop := (∀ a, a ≠ 116 → a ≠ 123 → a ≠ 124 → a ≠ 125 → a ≠ 126 → a ≠ 129 → mi' a = mi a) ∧ (∀ j, j ≠ 11 → j ≠ 12 → j ≠ 18 → mi' 116 j = mi 116 j) ∧ (∀ a, a ≠ 116 → a ≠ 127 → a ≠ 128 → ml' a = ml a) ∧ ∀ j, j ≠ 17 → ml' 116 j = ml 116 j
theorem Fn2.rf {mi : Nat → Nat → Int32} {ml : Nat → Nat → Int64} : Fn2 mi mi ml ml := ⟨fun _ _ _ _ _ _ _ => rfl, fun _ _ _ _ => rfl, fun _ _ _ _ => rfl, fun _ _ => rfl⟩
section M10
variable {l : Launch} {d : Nat} {mr : Nat → Nat → Option Nat} {D : Nat → List Rt}
theorem c_m_know (hR : SR mr) (hD : okDs D) (mi : Nat → Nat → Int32) (ml : Nat → Nat → Int64) (hM : MD D mi) (hC : MC D mi ml) : am_T l (d + 4) M_m_know 0 [some (.ref 116), none, none, none] [] (hm mi ml mr) 0 0 (fun r h' => r = none ∧ ∃ cnt mi' ml', h' = hm mi' ml' mr ∧ repS (SD D) mi' ∧ MKn (SD D) cnt mi' ml' ∧ mi' 116 11 = bI true ∧ Fn2 mi mi' ml ml') := by
  obtain ⟨kb, c1, c2⟩ := hC
  obtain ⟨T, hT⟩ := hM
  refine am_aload_n rfl rfl ?_
  refine ho_getI rfl (by first | rfl | assumption) rfl ?_
  rw [c1]
  refine am_if_eq rfl (fun z => ?_) (fun z => ?_)
  · refine am_aload_n rfl rfl ?_
    refine am_iconst (v := nI 1) rfl (by decide) ?_
    refine ho_putI rfl (by first | rfl | assumption) rfl (by first | rfl | assumption) ?_
    refine am_aload_n rfl rfl ?_
    have hE : ∀ n, n < 6 → EN (up2 mi 116 11 (nI 1)) n (T n) := by
      intro n hn
      obtain ⟨a, b, c, e⟩ := (hT n hn).1
      exact ⟨by rw [up2_off _ _ _ (by decide)]; exact a, b, c, fun i hi => by rw [up2_off _ _ _ (by decide)]; exact e i hi⟩
    refine ho_cv0 rfl (by first | rfl | assumption) rfl (Nat.le_of_ble_eq_true rfl) (Nat.le_of_ble_eq_true rfl) (c_m_lay hR D T _ hD hE (fun n hn => (hT n hn).2)) ?_
    rintro v h' ⟨rfl, mi1, rfl, hr, hF⟩
    have := c_m_know_17 (l := l) (d := d) (mr := mr) hR (okS_SD hD) mi1 ml hr
    refine am_T.to this ?_
    rintro v h' ⟨rfl, cnt, mi2, ml2, rfl, q1, q2, q3⟩
    refine ⟨rfl, cnt, mi2, ml2, rfl, q1, q2, ?_, ?_, ?_, q3.2.2.1, q3.2.2.2⟩
    · rw [q3.2.1 11 (by decide), hF.2 11 (by decide)]
      simp [up2, bI]
      rfl
    · intro a h1 h2 h3 h4 h5 h6
      rw [q3.1 a h1 h6, hF.1 a h1 h2 h3 h4 h5, up2_off _ _ _ h1]
    · intro j h1 h2 h3
      rw [q3.2.1 j h3, hF.2 j h2]
      unfold up2
      rw [if_neg (by omega)]
  · have z := (bI_ne _).mp z
    subst z
    obtain ⟨g1, cnt, g2⟩ := c2 rfl
    exact am_return rfl rfl ⟨rfl, cnt, mi, ml, rfl, g1, g2, c1, Fn2.rf⟩
end M10
