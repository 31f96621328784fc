/-! the reference: the loops of know -/
theorem tix_inj {q c w q' c' w' : Nat} (hc : c ≤ 40) (hw : w ≤ 40) (hc' : c' ≤ 40) (hw' : w' ≤ 40) (h : tix q c w = tix q' c' w') : q = q' ∧ c = c' ∧ w = w' := by
  unfold tix at h
  omega
/-- found places of the table stay right -/
def Keep (S : Rs) (cnt : Nat) (mi : Nat → Nat → Int32) (ml : Nat → Nat → Int64) (cnt' : Nat) (mi' : Nat → Nat → Int32) (ml' : Nat → Nat → Int64) : Prop := cnt ≤ cnt' ∧ ∀ q c w, c < cnt → w < cnt → Jn S cnt mi ml q c w → Jn S cnt' mi' ml' q c w
theorem Keep.rf {S : Rs} {cnt : Nat} {mi : Nat → Nat → Int32} {ml : Nat → Nat → Int64} : Keep S cnt mi ml cnt mi ml := ⟨Nat.le_refl _, fun _ _ _ _ _ h => h⟩
theorem Keep.tr {S : Rs} {c1 c2 c3 : Nat} {m1 m2 m3 : Nat → Nat → Int32} {l1 l2 l3 : Nat → Nat → Int64} (h : Keep S c1 m1 l1 c2 m2 l2) (h' : Keep S c2 m2 l2 c3 m3 l3) : Keep S c1 m1 l1 c3 m3 l3 :=
  ⟨Nat.le_trans h.1 h'.1, fun q c w hc hw hj => h'.2 q c w (Nat.lt_of_lt_of_le hc h.1) (Nat.lt_of_lt_of_le hw h.1) (h.2 q c w hc hw hj)⟩
theorem Keep.join {S : Rs} {cnt cnt' q c w : Nat} {mi mi' : Nat → Nat → Int32} {ml ml' : Nat → Nat → Int64} (h40 : cnt ≤ 40) (hc : c < cnt) (hw : w < cnt) (hle : cnt ≤ cnt') (hl : ∀ k, k < cnt → ml' 127 k = ml 127 k) (hj : Jn S cnt' mi' ml' q c w) (ho : ∀ i, i ≠ tix q c w → mi' 129 i = mi 129 i) : Keep S cnt mi ml cnt' mi' ml' := by
  refine ⟨hle, fun q' c' w' hc' hw' hj' => ?_⟩
  by_cases e : tix q' c' w' = tix q c w
  · obtain ⟨rfl, rfl, rfl⟩ := tix_inj (by omega) (by omega) (by omega) (by omega) e
    exact hj
  · obtain ⟨k, k1, k2, k3, k4⟩ := hj'
    exact ⟨k, k1, by omega, by rw [ho _ e]; exact k3, by rw [hl k k2, hl c' hc', hl w' hw']; exact k4⟩
section M6
variable {l : Launch} {d : Nat} {mr : Nat → Nat → Option Nat} {S : Rs}
theorem c_m_know_j (hR : SR mr) (hS : okS S) (k q : Nat) (hq : q ≤ 4) {Q : Option Value → am_H → Prop} : ∀ (n j cnt : Nat) (mi : Nat → Nat → Int32) (ml : Nat → Nat → Int64), j + n = k + 1 → k < cnt → repS S mi → KI S cnt mi ml →
    (∀ cnt' mi' ml', repS S mi' → KI S cnt' mi' ml' → Keep S cnt mi ml cnt' mi' ml' → (cnt' ≤ 40 → ∀ j', j ≤ j' → j' ≤ k → Jn S cnt' mi' ml' q k j' ∧ Jn S cnt' mi' ml' q j' k) → Fj mi mi' ml ml' → am_T l (d + 4) M_m_know 114 [some (.ref 116), some (.int (nI k)), some (.int (nI q)), none] [] (hm mi' ml' mr) 0 0 Q) →
    am_T l (d + 4) M_m_know 71 [some (.ref 116), some (.int (nI k)), some (.int (nI q)), some (.int (nI j))] [] (hm mi ml mr) 0 0 Q := by
  intro n
  induction n with
  | zero =>
    intro j cnt mi ml hn hk hr hK hout
    have := hK.1
    refine am_iload_n rfl rfl ?_
    refine am_iload_n rfl rfl ?_
    refine ho_icmp_gt rfl (by omega) (by omega) (fun _ => ?_) (fun z => absurd (by omega) z)
    refine am_drops [3] ?_
    exact hout cnt mi ml hr hK Keep.rf (fun _ j' h1 h2 => by omega) Fj.rf
  | succ n ih =>
    intro j cnt mi ml hn hk hr hK hout
    have hK1 := hK.1
    refine am_iload_n rfl rfl ?_
    refine am_iload_n rfl rfl ?_
    refine ho_icmp_gt rfl (by omega) (by omega) (fun z => absurd z (by omega)) (fun _ => ?_)
    refine am_aload_n rfl rfl ?_
    refine ho_getI rfl (by first | rfl | assumption) rfl ?_
    rw [hK.2.1]
    refine am_bipush (v := nI 40) rfl (by decide) ?_
    refine ho_icmp_gt rfl (by omega) (by omega) (fun h41 => ?_) (fun h40 => ?_)
    · refine am_drops [3] ?_
      exact hout cnt mi ml hr hK Keep.rf (fun z => by omega) Fj.rf
    refine am_aload_n rfl rfl ?_
    refine am_iload_n rfl rfl ?_
    refine am_iload_n rfl rfl ?_
    refine am_iload_n rfl rfl ?_
    refine ho_cv3 rfl (by first | rfl | assumption) rfl (Nat.le_of_ble_eq_true rfl) (Nat.le_of_ble_eq_true rfl) (c_m_join hR hS hr cnt hK (by omega) q k j hq hk (by omega)) ?_
    rintro v h' ⟨rfl, mi1, ml1, cnt1, rfl, hK1', hle1, hl1, hj1, ho1, hF1⟩
    have hr1 := hF1.rep hr
    have hk1 := Keep.join (S := S) (by omega) hk (by omega) hle1 hl1 hj1 ho1
    have hK11 := hK1'.1
    show am_T _ _ _ _ _ [] _ _ _ _
    refine am_aload_n rfl rfl ?_
    refine ho_getI rfl (by first | rfl | assumption) rfl ?_
    rw [hK1'.2.1]
    refine am_bipush (v := nI 40) rfl (by decide) ?_
    refine ho_icmp_gt rfl (by omega) (by omega) (fun h41 => ?_) (fun h40' => ?_)
    · refine am_iinc rfl rfl (nI_inc1 _) ?_
      show am_T _ _ _ _ [_, _, _, some _] _ _ _ _ _
      refine am_goto rfl ?_
      refine ih (j + 1) cnt1 mi1 ml1 (by omega) (by omega) hr1 hK1' (fun cnt' mi' ml' g1 g2 g3 g4 g5 => ?_)
      exact hout cnt' mi' ml' g1 g2 (hk1.tr g3) (fun z => by have := g3.1; omega) (hF1.tr g5)
    refine am_aload_n rfl rfl ?_
    refine am_iload_n rfl rfl ?_
    refine am_iload_n rfl rfl ?_
    refine am_iload_n rfl rfl ?_
    refine ho_cv3 rfl (by first | rfl | assumption) rfl (Nat.le_of_ble_eq_true rfl) (Nat.le_of_ble_eq_true rfl) (c_m_join hR hS hr1 cnt1 hK1' (by omega) q j k hq (by omega) (by omega)) ?_
    rintro v h' ⟨rfl, mi2, ml2, cnt2, rfl, hK2, hle2, hl2, hj2, ho2, hF2⟩
    have hr2 := hF2.rep hr1
    have hk2 := Keep.join (S := S) (by omega) (by omega : j < cnt1) (by omega : k < cnt1) hle2 hl2 hj2 ho2
    show am_T _ _ _ _ _ [] _ _ _ _
    refine am_iinc rfl rfl (nI_inc1 _) ?_
    show am_T _ _ _ _ [_, _, _, some _] _ _ _ _ _
    refine am_goto rfl ?_
    refine ih (j + 1) cnt2 mi2 ml2 (by omega) (by omega) hr2 hK2 (fun cnt' mi' ml' g1 g2 g3 g4 g5 => ?_)
    refine hout cnt' mi' ml' g1 g2 ((hk1.tr hk2).tr g3) (fun z j' h1 h2 => ?_) ((hF1.tr hF2).tr g5)
    rcases Nat.eq_or_lt_of_le h1 with e | e
    · subst e
      exact ⟨g3.2 _ _ _ (by omega) (by omega) (hk2.2 _ _ _ (by omega) (by omega) hj1), g3.2 _ _ _ (by omega) (by omega) hj2⟩
    · exact g4 z j' e h2
theorem c_m_know_q (hR : SR mr) (hS : okS S) (k : Nat) {Q : Option Value → am_H → Prop} : ∀ (n q cnt : Nat) (mi : Nat → Nat → Int32) (ml : Nat → Nat → Int64), q + n = 5 → k < cnt → repS S mi → KI S cnt mi ml →
    (∀ cnt' mi' ml', repS S mi' → KI S cnt' mi' ml' → Keep S cnt mi ml cnt' mi' ml' → (cnt' ≤ 40 → ∀ q', q ≤ q' → q' ≤ 4 → ∀ j', j' ≤ k → Jn S cnt' mi' ml' q' k j' ∧ Jn S cnt' mi' ml' q' j' k) → Fj mi mi' ml ml' → am_T l (d + 4) M_m_know 120 [some (.ref 116), some (.int (nI k)), none, none] [] (hm mi' ml' mr) 0 0 Q) →
    am_T l (d + 4) M_m_know 64 [some (.ref 116), some (.int (nI k)), some (.int (nI q)), none] [] (hm mi ml mr) 0 0 Q := by
  intro n
  induction n with
  | zero =>
    intro q cnt mi ml hn hk hr hK hout
    refine am_iload_n rfl rfl ?_
    refine am_iconst (v := nI 5) rfl (by decide) ?_
    refine ho_icmp_ge rfl (by omega) (by omega) (fun _ => ?_) (fun z => absurd (by omega) z)
    refine am_drops [2] ?_
    exact hout cnt mi ml hr hK Keep.rf (fun _ q' h1 h2 => by omega) Fj.rf
  | succ n ih =>
    intro q cnt mi ml hn hk hr hK hout
    refine am_iload_n rfl rfl ?_
    refine am_iconst (v := nI 5) rfl (by decide) ?_
    refine ho_icmp_ge rfl (by omega) (by omega) (fun z => absurd z (by omega)) (fun _ => ?_)
    refine am_iconst (v := nI 0) rfl (by decide) ?_
    refine am_istore_n rfl (Nat.le_of_ble_eq_true rfl) ?_
    show am_T _ _ _ _ [_, _, _, some _] _ _ _ _ _
    refine c_m_know_j hR hS k q (by omega) (k + 1) 0 cnt mi ml (by omega) hk hr hK (fun cnt1 mi1 ml1 f1 f2 f3 f4 f5 => ?_)
    refine am_iinc rfl rfl (nI_inc1 _) ?_
    show am_T _ _ _ _ [_, _, some _, _] _ _ _ _ _
    refine am_goto rfl ?_
    have := f3.1
    refine ih (q + 1) cnt1 mi1 ml1 (by omega) (by omega) f1 f2 (fun cnt' mi' ml' g1 g2 g3 g4 g5 => ?_)
    refine hout cnt' mi' ml' g1 g2 (f3.tr g3) (fun z q' h1 h2 j' hj' => ?_) (f5.tr g5)
    rcases Nat.eq_or_lt_of_le h1 with e | e
    · subst e
      have hle := g3.1
      obtain ⟨a1, a2⟩ := f4 (by omega) j' (Nat.zero_le _) hj'
      exact ⟨g3.2 _ _ _ (by omega) (by omega) a1, g3.2 _ _ _ (by omega) (by omega) a2⟩
    · exact g4 z q' e h2 j' hj'
/-- all places of the table below a number are right -/
def All (S : Rs) (k cnt : Nat) (mi : Nat → Nat → Int32) (ml : Nat → Nat → Int64) : Prop := ∀ q, q ≤ 4 → ∀ c w, c < k → w < k → Jn S cnt mi ml q c w
theorem c_m_know_k (hR : SR mr) (hS : okS S) {Q : Option Value → am_H → Prop} : ∀ (n k cnt : Nat) (mi : Nat → Nat → Int32) (ml : Nat → Nat → Int64), k + n = 42 → k ≤ cnt → repS S mi → KI S cnt mi ml → (cnt ≤ 40 → All S k cnt mi ml) →
    (∀ cnt' mi' ml', repS S mi' → KI S cnt' mi' ml' → (cnt' ≤ 40 → All S cnt' cnt' mi' ml') → Fj mi mi' ml ml' → am_T l (d + 4) M_m_know 126 [some (.ref 116), none, none, none] [] (hm mi' ml' mr) 0 0 Q) →
    am_T l (d + 4) M_m_know 45 [some (.ref 116), some (.int (nI k)), none, none] [] (hm mi ml mr) 0 0 Q := by
  intro n
  induction n with
  | zero =>
    intro k cnt mi ml hn hk hr hK hA hout
    have := hK.1
    omega
  | succ n ih =>
    intro k cnt mi ml hn hk hr hK hA hout
    have hK1 := hK.1
    refine am_iload_n rfl rfl ?_
    refine am_aload_n rfl rfl ?_
    refine ho_getI rfl (by first | rfl | assumption) rfl ?_
    rw [hK.2.1]
    refine ho_icmp_ge rfl (by omega) (by omega) (fun z => ?_) (fun z => ?_)
    · refine am_drops [1] ?_
      refine hout cnt mi ml hr hK (fun h40 => ?_) Fj.rf
      rw [show All S cnt cnt mi ml = All S k cnt mi ml by rw [show cnt = k by omega]]
      exact hA h40
    refine am_aload_n rfl rfl ?_
    refine ho_getI rfl (by first | rfl | assumption) rfl ?_
    rw [hK.2.1]
    refine am_bipush (v := nI 40) rfl (by decide) ?_
    refine ho_icmp_gt rfl (by omega) (by omega) (fun h41 => ?_) (fun h40 => ?_)
    · refine am_drops [1] ?_
      exact hout cnt mi ml hr hK (fun z => by omega) Fj.rf
    refine am_iconst (v := nI 0) rfl (by decide) ?_
    refine am_istore_n rfl (Nat.le_of_ble_eq_true rfl) ?_
    show am_T _ _ _ _ [_, _, some _, _] _ _ _ _ _
    refine c_m_know_q hR hS k 5 0 cnt mi ml rfl (by omega) hr hK (fun cnt1 mi1 ml1 f1 f2 f3 f4 f5 => ?_)
    have hle := f3.1
    refine am_iinc rfl rfl (nI_inc1 _) ?_
    show am_T _ _ _ _ [_, some _, _, _] _ _ _ _ _
    refine am_goto rfl ?_
    refine ih (k + 1) cnt1 mi1 ml1 (by omega) (by omega) f1 f2 (fun zz q hq c w hc hw => ?_) (fun cnt' mi' ml' g1 g2 g3 g4 => hout cnt' mi' ml' g1 g2 g3 (f5.tr g4))
    rcases Nat.lt_succ_iff_lt_or_eq.mp hc with e1 | e1
    · rcases Nat.lt_succ_iff_lt_or_eq.mp hw with e2 | e2
      · exact f3.2 _ _ _ (by omega) (by omega) (hA (by omega) q hq c w e1 e2)
      · subst e2
        exact (f4 zz q (Nat.zero_le _) hq c (by omega)).2
    · subst e1
      exact (f4 zz q (Nat.zero_le _) hq w (by omega)).1
end M6
