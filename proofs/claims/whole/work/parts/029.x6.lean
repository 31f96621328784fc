/-! the class: findKinds -/
theorem XK.reJ {S : Rs} (hS : okS S) {ip : Nat → Nat} {n cnt L : Nat} {tm : Bool} {mi : Nat → Nat → Int32} {ml : Nat → Nat → Int64} (hX : repX S ip n mi ml) (h : XK S ip n cnt L tm mi ml) {y t : Nat} (hy : y < L) (ht : t < cnt) : Reach S (joF S ip n (mi 96 y) (ml 94 t)) := by
  obtain ⟨f, c, f1, f5, hc, e⟩ := h.2.2.2.2.2.1 y hy
  rw [e, joF_bel hS hX.1.2 _ f1 (fun j hj => ⟨(hX.2.1 j hj).1, (hX.2.1 j hj).2.1, (hX.2.1 j hj).2.2.1⟩) hX.2.2.1]
  exact Reach.step f1 f5 hc (h.re ht)
section X6
variable {l : Launch} {d : Nat} {mr : Nat → Nat → Option Nat} {S : Rs} {ip : Nat → Nat} {n : Nat}
/-- one place of follows -/
theorem c_K_foll (hR : SR mr) (hS : okS S) (k old y t cnt L : Nat) (hy : y < L) (ht : t < cnt) (mi : Nat → Nat → Int32) (ml : Nat → Nat → Int64) (hX : repX S ip n mi ml) (hK : XK S ip n cnt L false mi ml) {Q : Option Value → am_H → Prop}
    (hout : ∀ cnt' tm' mi' ml', repX S ip n mi' ml' → XK S ip n cnt' L tm' mi' ml' → cnt ≤ cnt' → (tm' = false → XKeep S ip n cnt L mi ml cnt' L mi' ml' ∧ XJ S ip n cnt' mi' ml' y t) → Fx mi mi' ml ml' → am_T l (d + 3) M_K_findKinds 147 [some (.ref 93), some (.int (nI k)), some (.int (nI old)), some (.int (nI y)), some (.int (nI t))] [] (hm mi' ml' mr) 0 0 Q) :
    am_T l (d + 3) M_K_findKinds 111 [some (.ref 93), some (.int (nI k)), some (.int (nI old)), some (.int (nI y)), some (.int (nI t))] [] (hm mi ml mr) 0 0 Q := by
  have hre := hK.reJ hS hX hy ht
  obtain ⟨⟨⟨c1, c40⟩, L1, L161⟩, ⟨e1, e2, e3⟩, h0, hd, hrc, hlet, hl0, htm⟩ := id hK
  refine am_aload_n rfl rfl ?_
  refine ho_getR rfl (by first | rfl | assumption) rfl (by first | assumption | exact hR _ _ _ rfl) ?_
  refine am_iload_n rfl rfl ?_
  refine am_bipush (v := nI 40) rfl (by decide) ?_
  first | refine ho_muln rfl ?_ | refine am_imul rfl ?_
  refine am_iload rfl rfl ?_
  first | refine ho_addn rfl ?_ | refine am_iadd rfl ?_
  refine am_aload_n rfl rfl ?_
  refine am_aload_n rfl rfl ?_
  refine ho_getR rfl (by first | rfl | assumption) rfl (by first | assumption | exact hR _ _ _ rfl) ?_
  refine am_aload_n rfl rfl ?_
  refine ho_getR rfl (by first | rfl | assumption) rfl (by first | assumption | exact hR _ _ _ rfl) ?_
  refine am_iload_n rfl rfl ?_
  refine ho_iaload rfl (by first | rfl | assumption) (by omega) ?_
  refine am_aload_n rfl rfl ?_
  refine ho_getR rfl (by first | rfl | assumption) rfl (by first | assumption | exact hR _ _ _ rfl) ?_
  refine am_iload rfl rfl ?_
  refine ho_laload rfl (by first | rfl | assumption) (by omega) ?_
  refine ho_cv2 rfl (by first | rfl | assumption) rfl (Nat.le_of_ble_eq_true rfl) (Nat.le_of_ble_eq_true rfl) (c_S_joF hR hS hX (mi 96 y) (ml 94 t)) ?_
  rintro v h' ⟨rfl, rfl⟩
  refine ho_cv1 rfl (by first | rfl | assumption) rfl (Nat.le_of_ble_eq_true rfl) (Nat.le_of_ble_eq_true rfl) (c_K_kindOf hR cnt e1 c1 c40 _) ?_
  rintro v h' (⟨x, x1, x2, x3, rfl, rfl⟩ | ⟨hno, ⟨h40, rfl, rfl⟩ | ⟨h40, rfl, rfl⟩⟩)
  · show am_T _ _ _ _ _ (_ :: _ :: _ :: []) _ _ _ _
    refine ho_iastore rfl rfl (by omega) ?_
    have r99 : ∀ i, i ≠ y * 40 + t → up2 mi 99 (y * 40 + t) (nI x) 99 i = mi 99 i := fun i hi => by unfold up2; rw [if_neg (fun z => hi z.2)]
    have roff : ∀ a, a ≠ 99 → up2 mi 99 (y * 40 + t) (nI x) a = mi a := fun a ha => up2_off _ _ _ ha
    have f1 : Fx mi (up2 mi 99 (y * 40 + t) (nI x)) ml ml := ⟨fun a _ _ _ h4 => roff a h4, fun j _ _ _ => by rw [roff 93 (by decide)], fun _ _ => rfl⟩
    have hJ : XJ S ip n cnt (up2 mi 99 (y * 40 + t) (nI x)) ml y t := ⟨x, x1, x2, by simp [up2], by rw [roff 96 (by decide)]; exact x3⟩
    refine hout cnt false _ ml (f1.rep hX) ?_ (Nat.le_refl _) (fun _ => ⟨⟨Nat.le_refl _, Nat.le_refl _, fun q c hc hl => ?_, fun y' t' hy' ht' hx => ?_⟩, hJ⟩) f1
    · unfold XK
      rw [roff 93 (by decide), roff 96 (by decide)]
      exact hK
    · unfold LL at hl ⊢
      rw [roff 98 (by decide), roff 96 (by decide)]
      exact hl
    · by_cases e : y' * 40 + t' = y * 40 + t
      · have a1 : y' = y := by omega
        have a2 : t' = t := by omega
        subst a1; subst a2
        exact hJ
      · obtain ⟨z, z1, z2, z3, z4⟩ := hx
        exact ⟨z, z1, z2, by rw [r99 _ e]; exact z3, by rw [roff 96 (by decide)]; exact z4⟩
  · show am_T _ _ _ _ _ (_ :: _ :: _ :: []) _ _ _ _
    refine ho_iastore rfl rfl (by omega) ?_
    generalize hmi : up2 (up2 mi 93 3 (nI (cnt + 1))) 99 (y * 40 + t) (nI cnt) = mi1
    generalize hml : up2 ml 94 cnt (joF S ip n (mi 96 y) (ml 94 t)) = ml1
    have r99 : ∀ i, i ≠ y * 40 + t → mi1 99 i = mi 99 i := fun i hi => by rw [← hmi]; unfold up2; rw [if_neg (fun z => hi z.2), if_neg (by omega)]
    have r99k : mi1 99 (y * 40 + t) = nI cnt := by rw [← hmi]; simp [up2]
    have r93 : ∀ i, i ≠ 3 → mi1 93 i = mi 93 i := fun i hi => by rw [← hmi, up2_off _ _ _ (show (93 : Nat) ≠ 99 by decide)]; unfold up2; rw [if_neg (fun z => hi z.2)]
    have r933 : mi1 93 3 = nI (cnt + 1) := by rw [← hmi, up2_off _ _ _ (show (93 : Nat) ≠ 99 by decide)]; simp [up2]
    have roff : ∀ a, a ≠ 99 → a ≠ 93 → mi1 a = mi a := fun a h1 h2 => by rw [← hmi, up2_off _ _ _ h1, up2_off _ _ _ h2]
    have m94 : ∀ i, i < cnt → ml1 94 i = ml 94 i := fun i hi => by rw [← hml]; unfold up2; rw [if_neg (by omega)]
    have m94c : ml1 94 cnt = joF S ip n (mi 96 y) (ml 94 t) := by rw [← hml]; simp [up2]
    have moff : ∀ a, a ≠ 94 → ml1 a = ml a := fun a ha => by rw [← hml, up2_off _ _ _ ha]
    have f1 : Fx mi mi1 ml ml1 := ⟨fun a h1 _ _ h4 => roff a h4 h1, fun j _ h3 _ => r93 j h3, moff⟩
    have hJ : XJ S ip n (cnt + 1) mi1 ml1 y t := ⟨cnt, c1, by omega, r99k, by rw [roff 96 (by decide) (by decide), m94 t ht]; exact m94c⟩
    refine hout (cnt + 1) false mi1 ml1 (f1.rep hX) ⟨⟨⟨by omega, by omega⟩, L1, L161⟩, ⟨r933, by rw [r93 4 (by decide)]; exact e2, by rw [r93 2 (by decide)]; exact e3⟩, by rw [m94 0 (by omega)]; exact h0, ?_, ?_, ?_, by rw [roff 96 (by decide) (by decide)]; exact hl0, fun z => by cases z⟩ (by omega) (fun _ => ⟨⟨by omega, Nat.le_refl _, fun q c hc hl => ?_, fun y' t' hy' ht' hx => ?_⟩, hJ⟩) f1
    · intro a b h1 h2 h3
      rcases Nat.lt_succ_iff_lt_or_eq.mp h3 with e | e
      · rw [m94 a (by omega), m94 b e]
        exact hd a b h1 h2 e
      · subst e
        rw [m94 a h2, m94c]
        exact hno a h1 h2
    · intro a h1 h2
      rcases Nat.lt_succ_iff_lt_or_eq.mp h2 with e | e
      · rw [m94 a e]
        exact hrc a h1 e
      · subst e
        rw [m94c]
        exact hre
    · rw [roff 96 (by decide) (by decide)]
      exact hlet
    · unfold LL at hl ⊢
      rw [roff 98 (by decide) (by decide), roff 96 (by decide) (by decide), m94 c hc]
      exact hl
    · by_cases e : y' * 40 + t' = y * 40 + t
      · have a1 : y' = y := by omega
        have a2 : t' = t := by omega
        subst a1; subst a2
        exact hJ
      · obtain ⟨z, z1, z2, z3, z4⟩ := hx
        exact ⟨z, z1, by omega, by rw [r99 _ e]; exact z3, by rw [roff 96 (by decide) (by decide), m94 z z2, m94 t' ht']; exact z4⟩
  · show am_T _ _ _ _ _ (_ :: _ :: _ :: []) _ _ _ _
    refine ho_iastore rfl rfl (by omega) ?_
    generalize hmi : up2 (up2 mi 93 2 (nI 1)) 99 (y * 40 + t) (nI 0) = mi1
    have r93 : ∀ i, i ≠ 2 → mi1 93 i = mi 93 i := fun i hi => by rw [← hmi, up2_off _ _ _ (show (93 : Nat) ≠ 99 by decide)]; unfold up2; rw [if_neg (fun z => hi z.2)]
    have r932 : mi1 93 2 = bI true := by rw [← hmi, up2_off _ _ _ (show (93 : Nat) ≠ 99 by decide)]; simp [up2]; rfl
    have roff : ∀ a, a ≠ 99 → a ≠ 93 → mi1 a = mi a := fun a h1 h2 => by rw [← hmi, up2_off _ _ _ h1, up2_off _ _ _ h2]
    have f1 : Fx mi mi1 ml ml := ⟨fun a h1 _ _ h4 => roff a h4 h1, fun j h2 _ _ => r93 j h2, fun _ _ => rfl⟩
    have r99 : ∀ i, i ≠ y * 40 + t → mi1 99 i = mi 99 i := fun i hi => by rw [← hmi]; unfold up2; rw [if_neg (fun z => hi z.2), if_neg (by omega)]
    refine hout cnt true mi1 ml (f1.rep hX) ⟨⟨⟨c1, c40⟩, L1, L161⟩, ⟨by rw [r93 3 (by decide)]; exact e1, by rw [r93 4 (by decide)]; exact e2, r932⟩, h0, hd, hrc, by rw [roff 96 (by decide) (by decide)]; exact hlet, by rw [roff 96 (by decide) (by decide)]; exact hl0, fun _ => ⟨h40, _, hre, fun a h1 h2 => hno a h1 (by omega)⟩⟩ (Nat.le_refl _) (fun z => by cases z) f1
/-- the tails of one letter -/
theorem c_K_tails (hR : SR mr) (hS : okS S) (k old y L : Nat) (hy : y < L) {Q : Option Value → am_H → Prop} : ∀ (j t cnt : Nat) (tm : Bool) (mi : Nat → Nat → Int32) (ml : Nat → Nat → Int64), t + j = k + 1 → k < cnt → repX S ip n mi ml → XK S ip n cnt L tm mi ml →
    (∀ cnt' tm' mi' ml', repX S ip n mi' ml' → XK S ip n cnt' L tm' mi' ml' → cnt ≤ cnt' → (tm' = false → tm = false ∧ XKeep S ip n cnt L mi ml cnt' L mi' ml' ∧ ∀ t', t ≤ t' → t' ≤ k → XJ S ip n cnt' mi' ml' y t') → Fx mi mi' ml ml' → am_T l (d + 3) M_K_findKinds 153 [some (.ref 93), some (.int (nI k)), some (.int (nI old)), some (.int (nI y)), none] [] (hm mi' ml' mr) 0 0 Q) →
    am_T l (d + 3) M_K_findKinds 98 [some (.ref 93), some (.int (nI k)), some (.int (nI old)), some (.int (nI y)), some (.int (nI t))] [] (hm mi ml mr) 0 0 Q := by
  intro j
  induction j with
  | zero =>
    intro t cnt tm mi ml hj hk hX hK hout
    have := hK.1.1.2
    refine am_iload rfl rfl ?_
    refine am_iload_n rfl rfl ?_
    refine ho_icmp_gt rfl (by omega) (by omega) (fun _ => ?_) (fun z => absurd (by omega) z)
    refine am_drops [4] ?_
    exact hout cnt tm mi ml hX hK (Nat.le_refl _) (fun e => ⟨e, XKeep.rf, fun t' h1 h2 => by omega⟩) Fx.rf
  | succ j ih =>
    intro t cnt tm mi ml hj hk hX hK hout
    have h40 := hK.1.1.2
    refine am_iload rfl rfl ?_
    refine am_iload_n rfl rfl ?_
    refine ho_icmp_gt rfl (by omega) (by omega) (fun z => absurd z (by omega)) (fun _ => ?_)
    refine am_aload_n rfl rfl ?_
    refine ho_getI rfl (by first | rfl | assumption) rfl ?_
    rw [hK.2.1.2.2]
    refine am_if_ne rfl (fun z => ?_) (fun z => ?_)
    · refine am_drops [4] ?_
      exact hout cnt tm mi ml hX hK (Nat.le_refl _) (fun e => by rw [(bI_ne _).mp z] at e; cases e) Fx.rf
    have htm := (bI_eq _).mp z
    subst htm
    refine c_K_foll hR hS k old y t cnt L hy (by omega) mi ml hX hK (fun cnt1 tm1 mi1 ml1 f1 f2 f3 f4 f5 => ?_)
    refine am_iinc rfl rfl (nI_inc1 _) ?_
    show am_T _ _ _ _ [_, _, _, _, some _] _ _ _ _ _
    refine am_goto rfl ?_
    refine ih (t + 1) cnt1 tm1 mi1 ml1 (by omega) (by omega) f1 f2 (fun cnt' tm' mi' ml' g1 g2 g3 g4 g5 => ?_)
    refine hout cnt' tm' mi' ml' g1 g2 (by omega) (fun e => ?_) (f5.tr g5)
    obtain ⟨a1, a2, a3⟩ := g4 e
    obtain ⟨b1, b2⟩ := f4 a1
    refine ⟨rfl, b1.tr a2, fun t' h1 h2 => ?_⟩
    rcases Nat.eq_or_lt_of_le h1 with e2 | e2
    · subst e2
      exact a2.2.2.2 _ _ hy (by omega) b2
    · exact a3 t' e2 h2
/-- the letters, with one kind more -/
theorem c_K_lets (hR : SR mr) (hS : okS S) (k old L : Nat) (ho : old ≤ L) {Q : Option Value → am_H → Prop} : ∀ (j y cnt : Nat) (tm : Bool) (mi : Nat → Nat → Int32) (ml : Nat → Nat → Int64), y + j = L → k < cnt → repX S ip n mi ml → XK S ip n cnt L tm mi ml →
    (∀ cnt' tm' mi' ml', repX S ip n mi' ml' → XK S ip n cnt' L tm' mi' ml' → cnt ≤ cnt' → (tm' = false → tm = false ∧ XKeep S ip n cnt L mi ml cnt' L mi' ml' ∧ ∀ y', y ≤ y' → y' < L → ∀ t', (y' < old → t' = k) → t' ≤ k → XJ S ip n cnt' mi' ml' y' t') → Fx mi mi' ml ml' → am_T l (d + 3) M_K_findKinds 159 [some (.ref 93), some (.int (nI k)), none, none, none] [] (hm mi' ml' mr) 0 0 Q) →
    am_T l (d + 3) M_K_findKinds 78 [some (.ref 93), some (.int (nI k)), some (.int (nI old)), some (.int (nI y)), none] [] (hm mi ml mr) 0 0 Q := by
  intro j
  induction j with
  | zero =>
    intro y cnt tm mi ml hj hk hX hK hout
    have := hK.1
    refine am_iload_n rfl rfl ?_
    refine am_aload_n rfl rfl ?_
    refine ho_getI rfl (by first | rfl | assumption) rfl ?_
    rw [hK.2.1.2.1]
    refine ho_icmp_ge rfl (by omega) (by omega) (fun _ => ?_) (fun z => absurd (by omega) z)
    refine am_drops [2, 3] ?_
    exact hout cnt tm mi ml hX hK (Nat.le_refl _) (fun e => ⟨e, XKeep.rf, fun y' h1 h2 => by omega⟩) Fx.rf
  | succ j ih =>
    intro y cnt tm mi ml hj hk hX hK hout
    have h1 := hK.1
    have go : ∀ t0, t0 ≤ k → (y < old → t0 = k) → (¬ y < old → t0 = 0) → am_T l (d + 3) M_K_findKinds 96 [some (.ref 93), some (.int (nI k)), some (.int (nI old)), some (.int (nI y)), none] [.int (nI t0)] (hm mi ml mr) 0 0 Q := by
      intro t0 ht0 ha hb
      refine am_istore rfl (Nat.le_of_ble_eq_true rfl) ?_
      show am_T _ _ _ _ [_, _, _, _, some _] _ _ _ _ _
      refine c_K_tails hR hS k old y L (by omega) (k + 1 - t0) t0 cnt tm mi ml (by omega) hk hX hK (fun cnt1 tm1 mi1 ml1 f1 f2 f3 f4 f5 => ?_)
      refine am_iinc rfl rfl (nI_inc1 _) ?_
      show am_T _ _ _ _ [_, _, _, some _, _] _ _ _ _ _
      refine am_goto rfl ?_
      refine ih (y + 1) cnt1 tm1 mi1 ml1 (by omega) (by omega) f1 f2 (fun cnt' tm' mi' ml' g1 g2 g3 g4 g5 => ?_)
      refine hout cnt' tm' mi' ml' g1 g2 (by omega) (fun e => ?_) (f5.tr g5)
      obtain ⟨a1, a2, a3⟩ := g4 e
      obtain ⟨b1, b2, b3⟩ := f4 a1
      refine ⟨b1, b2.tr a2, fun y' h1 h2 t' h3 h4 => ?_⟩
      rcases Nat.eq_or_lt_of_le h1 with e2 | e2
      · subst e2
        refine a2.2.2.2 _ _ (by omega) (by omega) (b3 t' ?_ h4)
        by_cases hc : y < old
        · rw [ha hc, h3 hc]
          exact Nat.le_refl _
        · rw [hb hc]
          exact Nat.zero_le _
      · exact a3 y' e2 h2 t' h3 h4
    refine am_iload_n rfl rfl ?_
    refine am_aload_n rfl rfl ?_
    refine ho_getI rfl (by first | rfl | assumption) rfl ?_
    rw [hK.2.1.2.1]
    refine ho_icmp_ge rfl (by omega) (by omega) (fun z => absurd z (by omega)) (fun _ => ?_)
    refine am_iload_n rfl rfl ?_
    refine am_iload_n rfl rfl ?_
    refine ho_icmp_ge rfl (by omega) (by omega) (fun z => ?_) (fun z => ?_)
    · refine am_iconst (v := nI 0) rfl (by decide) ?_
      exact go 0 (Nat.zero_le _) (fun q => by omega) (fun _ => rfl)
    · refine am_iload_n rfl rfl ?_
      refine am_goto rfl ?_
      exact go k (Nat.le_refl _) (fun _ => rfl) (fun q => by omega)
end X6
