/-! the reference: kindOf, join, joined -/
noncomputable def K0 (S : Rs) : Int64 := belF S 0 (tb 0) (tb 0)
/-- what hedges that are not empty may belong to -/
def Reach (S : Rs) (m : Int64) : Prop := ∀ X : Int64 → Prop, (∀ f, 1 ≤ f → f ≤ 5 → ∀ c t, (c = K0 S ∨ X c) → (t = K0 S ∨ X t) → X (belF S f (tb c) (tb t))) → X m
theorem Reach.step {S : Rs} {f : Nat} (h1 : 1 ≤ f) (h5 : f ≤ 5) {c t : Int64} (hc : c = K0 S ∨ Reach S c) (ht : t = K0 S ∨ Reach S t) : Reach S (belF S f (tb c) (tb t)) :=
  fun X hX => hX f h1 h5 c t (hc.imp id (fun h => h X hX)) (ht.imp id (fun h => h X hX))
/-- the kinds found so far -/
def KI (S : Rs) (cnt : Nat) (mi : Nat → Nat → Int32) (ml : Nat → Nat → Int64) : Prop := (1 ≤ cnt ∧ cnt ≤ 41) ∧ mi 116 18 = nI cnt ∧ ml 127 0 = K0 S ∧ (∀ a b, 1 ≤ a → a < b → b < cnt → ml 127 a ≠ ml 127 b) ∧ ∀ a, 1 ≤ a → a < cnt → Reach S (ml 127 a)
theorem KI.re {S : Rs} {cnt : Nat} {mi : Nat → Nat → Int32} {ml : Nat → Nat → Int64} (h : KI S cnt mi ml) {a : Nat} (ha : a < cnt) : ml 127 a = K0 S ∨ Reach S (ml 127 a) := by
  rcases Nat.eq_zero_or_pos a with e | e
  · subst e
    exact Or.inl h.2.2.1
  · exact Or.inr (h.2.2.2.2 a e ha)
def tix (l c w : Nat) : Nat := l * 41 * 41 + c * 41 + w
/-- a place of the table is right -/
def Jn (S : Rs) (cnt : Nat) (mi : Nat → Nat → Int32) (ml : Nat → Nat → Int64) (l c w : Nat) : Prop := ∃ k, 1 ≤ k ∧ k < cnt ∧ mi 129 (tix l c w) = nI k ∧ ml 127 k = belF S (l + 1) (tb (ml 127 c)) (tb (ml 127 w))
/-- what join leaves as it is -/
def Fj (mi mi' : Nat → Nat → Int32) (ml ml' : Nat → Nat → Int64) : Prop := (∀ a, a ≠ 116 → a ≠ 129 → mi' a = mi a) ∧ (∀ j, j ≠ 18 → mi' 116 j = mi 116 j) ∧ ∀ a, a ≠ 127 → ml' a = ml a
theorem Fj.rf {mi : Nat → Nat → Int32} {ml : Nat → Nat → Int64} : Fj mi mi ml ml := ⟨fun _ _ _ => rfl, fun _ _ => rfl, fun _ _ => rfl⟩
theorem Fj.tr {mi mi' mi'' : Nat → Nat → Int32} {ml ml' ml'' : Nat → Nat → Int64} (h : Fj mi mi' ml ml') (h' : Fj mi' mi'' ml' ml'') : Fj mi mi'' ml ml'' :=
  ⟨fun a h1 h2 => (h'.1 a h1 h2).trans (h.1 a h1 h2), fun j hj => (h'.2.1 j hj).trans (h.2.1 j hj), fun a ha => (h'.2.2 a ha).trans (h.2.2 a ha)⟩
theorem Fj.rep {S : Rs} {mi mi' : Nat → Nat → Int32} {ml ml' : Nat → Nat → Int64} (h : Fj mi mi' ml ml') (hr : repS S mi) : repS S mi' := by
  refine ⟨(h.2.1 12 (by decide)).trans hr.1, fun r hr' => ?_⟩
  rw [h.1 123 (by decide) (by decide), h.1 124 (by decide) (by decide), h.1 125 (by decide) (by decide), h.1 126 (by decide) (by decide)]
  exact hr.2 r hr'
theorem fI_succ (l : Nat) : fI (l + 1) = nI l := by
  unfold fI
  rw [if_neg (by omega)]
  rfl
section M5
variable {l : Launch} {d : Nat} {mi : Nat → Nat → Int32} {ml : Nat → Nat → Int64} {mr : Nat → Nat → Option Nat} {S : Rs}
theorem c_m_kindOf_loop (hR : SR mr) (cnt : Nat) (hc : mi 116 18 = nI cnt) (hc1 : 1 ≤ cnt) (hc40 : cnt ≤ 40) (mask : Int64) {Q : Option Value → am_H → Prop}
    (hold : ∀ k, 1 ≤ k → k < cnt → ml 127 k = mask → Q (some (.int (nI k))) (hm mi ml mr))
    (hnew : (∀ k, 1 ≤ k → k < cnt → ml 127 k ≠ mask) → Q (some (.int (nI cnt))) (hm (up2 mi 116 18 (nI (cnt + 1))) (up2 ml 127 cnt mask) mr)) :
    ∀ (n k : Nat), k + n = cnt → 1 ≤ k → (∀ j, 1 ≤ j → j < k → ml 127 j ≠ mask) → am_T l d M_m_kindOf 2 [some (.ref 116), some (.long mask), none, some (.int (nI k))] [] (hm mi ml mr) 0 0 Q := by
  intro n
  induction n with
  | zero =>
    intro k hk hk1 hno
    refine am_iload_n rfl rfl ?_
    refine am_aload_n rfl rfl ?_
    refine ho_getI rfl (by first | rfl | assumption) rfl ?_
    rw [hc]
    refine ho_icmp_ge rfl (by omega) (by omega) (fun _ => ?_) (fun q => absurd (by omega) q)
    refine am_aload_n rfl rfl ?_
    refine ho_getR rfl (by first | rfl | assumption) rfl (by first | assumption | exact hR _ _ _ rfl) ?_
    refine am_aload_n rfl rfl ?_
    refine ho_getI rfl (by first | rfl | assumption) rfl ?_
    rw [hc]
    refine am_lload_n rfl rfl ?_
    refine ho_lastore rfl (by first | rfl | assumption) (by omega) ?_
    refine am_aload_n rfl rfl ?_
    refine am_dup rfl rfl ?_
    refine ho_getI rfl (by first | rfl | assumption) rfl ?_
    rw [hc]
    refine am_iconst (v := nI 1) rfl (by decide) ?_
    first | refine ho_addn rfl ?_ | refine am_iadd rfl ?_
    refine ho_putI rfl (by first | rfl | assumption) rfl rfl ?_
    refine am_aload_n rfl rfl ?_
    refine ho_getI rfl (by first | rfl | assumption) rfl ?_
    have e : up2 mi 116 18 (nI (cnt + 1)) 116 18 = nI (cnt + 1) := by simp [up2]
    rw [e]
    refine am_iconst (v := nI 1) rfl (by decide) ?_
    first | refine ho_subn rfl (by omega) ?_ | refine am_isub rfl ?_
    refine am_ireturn rfl rfl ?_
    rw [Nat.add_sub_cancel]
    exact hnew (fun j h1 h2 => hno j h1 (by omega))
  | succ n ih =>
    intro k hk hk1 hno
    refine am_iload_n rfl rfl ?_
    refine am_aload_n rfl rfl ?_
    refine ho_getI rfl (by first | rfl | assumption) rfl ?_
    rw [hc]
    refine ho_icmp_ge rfl (by omega) (by omega) (fun q => absurd q (by omega)) (fun _ => ?_)
    refine am_aload_n rfl rfl ?_
    refine ho_getR rfl (by first | rfl | assumption) rfl (by first | assumption | exact hR _ _ _ rfl) ?_
    refine am_iload_n rfl rfl ?_
    refine ho_laload rfl (by first | rfl | assumption) (by omega) ?_
    refine am_lload_n rfl rfl ?_
    refine am_lcmp rfl ?_
    refine am_if_ne rfl (fun q => ?_) (fun q => ?_)
    · refine am_iinc rfl rfl (nI_inc1 _) ?_
      show am_T _ _ _ _ [_, _, _, some _] _ _ _ _ _
      refine am_goto rfl ?_
      refine ih (k + 1) (by omega) (by omega) (fun j h1 h2 => ?_)
      rcases Nat.lt_succ_iff_lt_or_eq.mp h2 with e | e
      · exact hno j h1 e
      · subst e
        exact fun z => q (lg_cmp_0.mpr z)
    · refine am_iload_n rfl rfl ?_
      exact am_ireturn rfl rfl (hold k hk1 (by omega) (lg_cmp_0.mp q))
theorem c_m_kindOf (hR : SR mr) (cnt : Nat) (hc : mi 116 18 = nI cnt) (hc1 : 1 ≤ cnt) (hc40 : cnt ≤ 40) (mask : Int64) : am_T l d M_m_kindOf 0 [some (.ref 116), some (.long mask), none, none] [] (hm mi ml mr) 0 0 (fun v h' => (∃ k, 1 ≤ k ∧ k < cnt ∧ ml 127 k = mask ∧ v = some (.int (nI k)) ∧ h' = hm mi ml mr) ∨ ((∀ k, 1 ≤ k → k < cnt → ml 127 k ≠ mask) ∧ v = some (.int (nI cnt)) ∧ h' = hm (up2 mi 116 18 (nI (cnt + 1))) (up2 ml 127 cnt mask) mr)) := by
  refine am_iconst (v := nI 1) rfl (by decide) ?_
  refine am_istore_n rfl (Nat.le_of_ble_eq_true rfl) ?_
  show am_T _ _ _ _ [_, _, _, some _] _ _ _ _ _
  exact c_m_kindOf_loop hR cnt hc hc1 hc40 mask (fun k h1 h2 h3 => Or.inl ⟨k, h1, h2, h3, rfl, rfl⟩) (fun h => Or.inr ⟨h, rfl, rfl⟩) (cnt - 1) 1 (by omega) (by omega) (fun j h1 h2 => by omega)
theorem c_m_join (hR : SR mr) (hS : okS S) (hr : repS S mi) (cnt : Nat) (hK : KI S cnt mi ml) (h40 : cnt ≤ 40) (q c w : Nat) (hq : q ≤ 4) (hc : c < cnt) (hw : w < cnt) : am_T l (d + 3) M_m_join 0 [some (.ref 116), some (.int (nI q)), some (.int (nI c)), some (.int (nI w)), none, none] [] (hm mi ml mr) 0 0
    (fun v h' => v = none ∧ ∃ mi' ml' cnt', h' = hm mi' ml' mr ∧ KI S cnt' mi' ml' ∧ cnt ≤ cnt' ∧ (∀ k, k < cnt → ml' 127 k = ml 127 k) ∧ Jn S cnt' mi' ml' q c w ∧ (∀ i, i ≠ tix q c w → mi' 129 i = mi 129 i) ∧ Fj mi mi' ml ml') := by
  refine am_aload_n rfl rfl ?_
  refine am_iload_n rfl rfl ?_
  refine am_aload_n rfl rfl ?_
  refine ho_getR rfl (by first | rfl | assumption) rfl (by first | assumption | exact hR _ _ _ rfl) ?_
  refine am_iload_n rfl rfl ?_
  refine ho_laload rfl (by first | rfl | assumption) (by omega) ?_
  refine am_aload_n rfl rfl ?_
  refine ho_getR rfl (by first | rfl | assumption) rfl (by first | assumption | exact hR _ _ _ rfl) ?_
  refine am_iload_n rfl rfl ?_
  refine ho_laload rfl (by first | rfl | assumption) (by omega) ?_
  rw [← fI_succ q]
  refine ho_cv3 rfl (by first | rfl | assumption) rfl (Nat.le_of_ble_eq_true rfl) (Nat.le_of_ble_eq_true rfl) (c_m_belongs hR hS hr (q + 1) (by omega) (ml 127 c) (ml 127 w)) ?_
  rintro v h' ⟨rfl, rfl⟩
  have hre : Reach S (belF S (q + 1) (tb (ml 127 c)) (tb (ml 127 w))) := Reach.step (by omega) (by omega) (hK.re hc) (hK.re hw)
  rw [fI_succ q]
  refine am_lstore rfl (Nat.le_of_ble_eq_true rfl) ?_
  show am_T _ _ _ _ [_, _, _, _, some _, none] _ _ _ _ _
  refine am_aload_n rfl rfl ?_
  refine ho_getR rfl (by first | rfl | assumption) rfl (by first | assumption | exact hR _ _ _ rfl) ?_
  refine am_iload_n rfl rfl ?_
  refine am_bipush (v := nI 41) rfl (by decide) ?_
  first | refine ho_muln rfl ?_ | refine am_imul rfl ?_
  refine am_bipush (v := nI 41) rfl (by decide) ?_
  first | refine ho_muln rfl ?_ | refine am_imul rfl ?_
  refine am_iload_n rfl rfl ?_
  refine am_bipush (v := nI 41) rfl (by decide) ?_
  first | refine ho_muln rfl ?_ | refine am_imul rfl ?_
  first | refine ho_addn rfl ?_ | refine am_iadd rfl ?_
  refine am_iload_n rfl rfl ?_
  first | refine ho_addn rfl ?_ | refine am_iadd rfl ?_
  refine am_aload_n rfl rfl ?_
  refine am_lload rfl rfl ?_
  refine ho_cv1 rfl (by first | rfl | assumption) rfl (Nat.le_of_ble_eq_true rfl) (Nat.le_of_ble_eq_true rfl) (c_m_kindOf hR cnt hK.2.1 hK.1.1 h40 _) ?_
  rintro v h' (⟨k, k1, k2, k3, rfl, rfl⟩ | ⟨k1, rfl, rfl⟩)
  · refine ho_iastore rfl rfl (by omega) ?_
    refine am_return rfl rfl ⟨rfl, _, _, cnt, rfl, ⟨hK.1, ?_, hK.2.2⟩, Nat.le_refl _, fun _ _ => rfl, ⟨k, k1, k2, ?_, k3⟩, fun i hi => ?_, ?_⟩
    · rw [up2_off _ _ _ (by decide)]
      exact hK.2.1
    · simp [up2, tix]
    · simp [up2]
      intro e
      exact absurd e hi
    · exact ⟨fun a _ h2 => up2_off _ _ _ h2, fun j _ => by rw [up2_off _ _ _ (by decide)], fun _ _ => rfl⟩
  · refine ho_iastore rfl rfl (by omega) ?_
    have hlow : ∀ k, k < cnt → up2 ml 127 cnt (belF S (q + 1) (tb (ml 127 c)) (tb (ml 127 w))) 127 k = ml 127 k := by
      intro k hk
      unfold up2
      rw [if_neg (by omega)]
    have htop : up2 ml 127 cnt (belF S (q + 1) (tb (ml 127 c)) (tb (ml 127 w))) 127 cnt = belF S (q + 1) (tb (ml 127 c)) (tb (ml 127 w)) := by simp [up2]
    refine am_return rfl rfl ⟨rfl, _, _, cnt + 1, rfl, ⟨⟨by omega, by omega⟩, ?_, ?_, ?_, ?_⟩, by omega, hlow, ⟨cnt, hK.1.1, by omega, ?_, ?_⟩, fun i hi => ?_, ?_⟩
    · rw [up2_off _ _ _ (by decide)]
      simp [up2]
    · rw [hlow 0 (by have := hK.1.1; omega)]
      exact hK.2.2.1
    · intro a b h1 h2 h3
      rcases Nat.lt_succ_iff_lt_or_eq.mp h3 with e | e
      · rw [hlow a (by omega), hlow b e]
        exact hK.2.2.2.1 a b h1 h2 e
      · subst e
        rw [hlow a h2, htop]
        exact k1 a h1 h2
    · intro a h1 h2
      rcases Nat.lt_succ_iff_lt_or_eq.mp h2 with e | e
      · rw [hlow a e]
        exact hK.2.2.2.2 a h1 e
      · subst e
        rw [htop]
        exact hre
    · simp [up2, tix]
    · rw [htop, hlow c hc, hlow w hw]
    · simp [up2]
      intro e
      exact absurd e hi
    · refine ⟨fun a h1 h2 => ?_, fun j hj => ?_, fun a ha => up2_off _ _ _ ha⟩
      · rw [up2_off _ _ _ h2, up2_off _ _ _ h1]
      · rw [up2_off _ _ _ (by decide)]
        unfold up2
        rw [if_neg (by omega)]
theorem c_m_joined (hR : SR mr) (q c w : Nat) (hq : q ≤ 4) (hc : c ≤ 40) (hw : w ≤ 40) : am_T l d M_m_joined 0 [some (.ref 116), some (.int (nI q)), some (.int (nI c)), some (.int (nI w))] [] (hm mi ml mr) 0 0 (fun v h' => v = some (.int (mi 129 (tix q c w))) ∧ h' = hm mi ml mr) := by
  refine am_aload_n rfl rfl ?_
  refine ho_getR rfl (by first | rfl | assumption) rfl (by first | assumption | exact hR _ _ _ rfl) ?_
  refine am_iload_n rfl rfl ?_
  refine am_bipush (v := nI 41) rfl (by decide) ?_
  first | refine ho_muln rfl ?_ | refine am_imul rfl ?_
  refine am_bipush (v := nI 41) rfl (by decide) ?_
  first | refine ho_muln rfl ?_ | refine am_imul rfl ?_
  refine am_iload_n rfl rfl ?_
  refine am_bipush (v := nI 41) rfl (by decide) ?_
  first | refine ho_muln rfl ?_ | refine am_imul rfl ?_
  first | refine ho_addn rfl ?_ | refine am_iadd rfl ?_
  refine am_iload_n rfl rfl ?_
  first | refine ho_addn rfl ?_ | refine am_iadd rfl ?_
  refine ho_iaload rfl (by first | rfl | assumption) (by omega) ?_
  exact am_ireturn rfl rfl ⟨rfl, rfl⟩
end M5
