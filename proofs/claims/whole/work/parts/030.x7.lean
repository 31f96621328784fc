/-! the class: findKinds, whole; how many kinds there are -/
/-- the table is whole -/
def XAll (S : Rs) (ip : Nat → Nat) (n k cnt L : Nat) (mi : Nat → Nat → Int32) (ml : Nat → Nat → Int64) : Prop := (∀ q, q < 4 → ∀ c, c < k → LL S ip n L mi ml q c) ∧ ∀ y, y < L → ∀ t, t < k → XJ S ip n cnt mi ml y t
section X7
variable {l : Launch} {d : Nat} {mr : Nat → Nat → Option Nat} {S : Rs} {ip : Nat → Nat} {n : Nat}
theorem c_K_findKinds_loop (hR : SR mr) (hS : okS S) {Q : Option Value → am_H → Prop} : ∀ (j k cnt L : Nat) (tm : Bool) (mi : Nat → Nat → Int32) (ml : Nat → Nat → Int64), k + j = 41 → k ≤ cnt → L ≤ 1 + 4 * k → repX S ip n mi ml → XK S ip n cnt L tm mi ml → (tm = false → XAll S ip n k cnt L mi ml) →
    (∀ cnt' L' tm' mi' ml', repX S ip n mi' ml' → XK S ip n cnt' L' tm' mi' ml' → (tm' = false → XAll S ip n cnt' cnt' L' mi' ml') → Fx mi mi' ml ml' → Q none (hm mi' ml' mr)) →
    am_T l (d + 3) M_K_findKinds 45 [some (.ref 93), some (.int (nI k)), none, none, none] [] (hm mi ml mr) 0 0 Q := by
  intro j
  induction j with
  | zero =>
    intro k cnt L tm mi ml hj hk hL hX hK hA hout
    have := hK.1.1
    omega
  | succ j ih =>
    intro k cnt L tm mi ml hj hk hL hX hK hA hout
    have h1 := hK.1
    refine am_iload_n rfl rfl ?_
    refine am_aload_n rfl rfl ?_
    refine ho_getI rfl (by first | rfl | assumption) rfl ?_
    rw [hK.2.1.1]
    refine ho_icmp_ge rfl (by omega) (by omega) (fun z => ?_) (fun z => ?_)
    · refine am_return rfl rfl (hout cnt L tm mi ml hX hK (fun e => ?_) Fx.rf)
      rw [show XAll S ip n cnt cnt L mi ml = XAll S ip n k cnt L mi ml by rw [show cnt = k by omega]]
      exact hA e
    refine am_iload_n rfl rfl ?_
    refine am_bipush (v := nI 40) rfl (by decide) ?_
    refine ho_icmp_ge rfl (by omega) (by omega) (fun z2 => absurd z2 (by omega)) (fun _ => ?_)
    refine am_aload_n rfl rfl ?_
    refine ho_getI rfl (by first | rfl | assumption) rfl ?_
    rw [hK.2.1.2.2]
    refine am_if_ne rfl (fun z2 => ?_) (fun z2 => ?_)
    · exact am_return rfl rfl (hout cnt L tm mi ml hX hK (fun e => by rw [(bI_ne _).mp z2] at e; cases e) Fx.rf)
    have htm := (bI_eq _).mp z2
    subst htm
    refine am_aload_n rfl rfl ?_
    refine ho_getI rfl (by first | rfl | assumption) rfl ?_
    rw [hK.2.1.2.1]
    refine am_istore_n rfl (Nat.le_of_ble_eq_true rfl) ?_
    show am_T _ _ _ _ [_, _, some _, _, _] _ _ _ _ _
    refine am_aload_n rfl rfl ?_
    refine am_iload_n rfl rfl ?_
    have kl := fun (Q2 : Option Value → am_H → Prop) hq => c_K_findLetters_loop (l := l) (d := d) (n := n) (ip := ip) (mr := mr) hR hS k cnt false (by omega : k < cnt) (Q := Q2) 4 0 L mi ml rfl (by omega) hX hK hq
    refine ho_cv1 (Q2 := fun v h' => v = none ∧ ∃ L' mi', h' = hm mi' ml mr ∧ repX S ip n mi' ml ∧ XK S ip n cnt L' false mi' ml ∧ L' ≤ L + 4 ∧ XKeep S ip n cnt L mi ml cnt L' mi' ml ∧ (∀ q', q' < 4 → LL S ip n L' mi' ml q' k) ∧ Fx mi mi' ml ml) rfl rfl rfl (Nat.le_of_ble_eq_true rfl) (Nat.le_of_ble_eq_true rfl) ?_ ?_
    · show am_T l (d + 2) M_K_findLetters 0 [some (.ref 93), some (.int (nI k)), none] [] (hm mi ml mr) 0 0 _
      refine am_iconst (v := nI 0) rfl (by decide) ?_
      refine am_istore_n rfl (Nat.le_of_ble_eq_true rfl) ?_
      show am_T _ _ _ _ [_, _, some _] _ _ _ _ _
      exact kl _ (fun L' mi' g1 g2 g3 g4 g5 g6 => ⟨rfl, L', mi', rfl, g1, g2, g3, g4, fun q' hq' => g5 q' (Nat.zero_le _) hq', g6⟩)
    rintro v h' ⟨rfl, L1, mi1, rfl, f1, f2, f3, f4, f5, f6⟩
    show am_T _ _ _ _ _ [] _ _ _ _
    have hL1 := f4.2.1
    refine am_iconst (v := nI 0) rfl (by decide) ?_
    refine am_istore_n rfl (Nat.le_of_ble_eq_true rfl) ?_
    show am_T _ _ _ _ [_, _, _, some _, _] _ _ _ _ _
    refine c_K_lets hR hS k L L1 hL1 L1 0 cnt false mi1 ml (by omega) (by omega) f1 f2 (fun cnt2 tm2 mi2 ml2 g1 g2 g3 g4 g5 => ?_)
    refine am_iinc rfl rfl (nI_inc1 _) ?_
    show am_T _ _ _ _ [_, some _, _, _, _] _ _ _ _ _
    refine am_goto rfl ?_
    refine ih (k + 1) cnt2 L1 tm2 mi2 ml2 (by omega) (by omega) (by omega) g1 g2 (fun e => ?_) (fun cnt' L' tm' mi' ml' a1 a2 a3 a4 => hout cnt' L' tm' mi' ml' a1 a2 a3 ((f6.tr g5).tr a4))
    obtain ⟨b1, b2, b3⟩ := g4 e
    obtain ⟨hA1, hA2⟩ := hA rfl
    refine ⟨fun q hq c hc => b2.2.2.1 q c (by omega) ?_, fun y hy t ht => ?_⟩
    · rcases Nat.lt_succ_iff_lt_or_eq.mp hc with e2 | e2
      · exact f4.2.2.1 q c (by omega) (hA1 q hq c e2)
      · subst e2
        exact f5 q hq
    · by_cases hyo : y < L
      · rcases Nat.lt_succ_iff_lt_or_eq.mp ht with e2 | e2
        · exact b2.2.2.2 y t (by omega) (by omega) (f4.2.2.2 y t hyo (by omega) (hA2 y hyo t e2))
        · subst e2
          exact b3 y (Nat.zero_le _) hy t (fun _ => rfl) (Nat.le_refl _)
      · exact b3 y (Nat.zero_le _) hy t (fun q => absurd q hyo) (by omega)
/-- findKinds() -/
theorem c_K_findKinds (hR : SR mr) (hS : okS S) (mi : Nat → Nat → Int32) (ml : Nat → Nat → Int64) (hX : repX S ip n mi ml) : am_T l (d + 3) M_K_findKinds 0 [some (.ref 93), none, none, none, none] [] (hm mi ml mr) 0 0 (fun v h' => v = none ∧ ∃ cnt L tm mi' ml', h' = hm mi' ml' mr ∧ repX S ip n mi' ml' ∧ XK S ip n cnt L tm mi' ml' ∧ (tm = false → XAll S ip n cnt cnt L mi' ml') ∧ Fx mi mi' ml ml') := by
  have hK0 : ml 84 10 = K0 S := by
    rw [hX.2.2.2.2.2.2]
    exact belF_zero hS _ _
  refine am_aload_n rfl rfl ?_
  refine am_iconst (v := nI 0) rfl (by decide) ?_
  refine ho_putI rfl (by first | rfl | assumption) rfl (by first | rfl | assumption) ?_
  refine am_aload_n rfl rfl ?_
  refine am_iconst (v := nI 1) rfl (by decide) ?_
  refine ho_putI rfl (by first | rfl | assumption) rfl rfl ?_
  refine am_aload_n rfl rfl ?_
  refine ho_getR rfl (by first | rfl | assumption) rfl (by first | assumption | exact hR _ _ _ rfl) ?_
  refine am_iconst (v := nI 0) rfl (by decide) ?_
  refine am_aload_n rfl rfl ?_
  refine ho_getR rfl (by first | rfl | assumption) rfl (by first | assumption | exact hR _ _ _ rfl) ?_
  refine ho_getL rfl (by first | rfl | assumption) rfl ?_
  refine ho_lastore rfl (by first | rfl | assumption) (by omega) ?_
  refine am_aload_n rfl rfl ?_
  refine am_iconst (v := nI 1) rfl (by decide) ?_
  refine ho_putI rfl (by first | rfl | assumption) rfl rfl ?_
  refine am_aload_n rfl rfl ?_
  refine ho_getR rfl (by first | rfl | assumption) rfl (by first | assumption | exact hR _ _ _ rfl) ?_
  refine am_iconst (v := nI 0) rfl (by decide) ?_
  refine am_aload_n rfl rfl ?_
  refine ho_getR rfl (by first | rfl | assumption) rfl (by first | assumption | exact hR _ _ _ rfl) ?_
  refine am_iconst (v := nI 4) rfl (by decide) ?_
  refine am_lconst (v := 0) rfl (by decide) ?_
  generalize hmi : up2 (up2 (up2 mi 93 2 (nI 0)) 93 3 (nI 1)) 93 4 (nI 1) = mi1
  generalize hml : up2 ml 94 0 (ml 84 10) = ml1
  have roff : ∀ a, a ≠ 93 → mi1 a = mi a := fun a ha => by rw [← hmi, up2_off _ _ _ ha, up2_off _ _ _ ha, up2_off _ _ _ ha]
  have r93 : ∀ i, i ≠ 2 → i ≠ 3 → i ≠ 4 → mi1 93 i = mi 93 i := fun i h2 h3 h4 => by rw [← hmi]; unfold up2; rw [if_neg (by omega), if_neg (by omega), if_neg (by omega)]
  have moff : ∀ a, a ≠ 94 → ml1 a = ml a := fun a ha => by rw [← hml, up2_off _ _ _ ha]
  have f1 : Fx mi mi1 ml ml1 := ⟨fun a h1 _ _ _ => roff a h1, fun j h2 h3 h4 => r93 j h2 h3 h4, moff⟩
  have k1 := c_S_fitting (l := l) (d := d + 1) (mr := mr) hR hS (f1.rep hX) 1 (by omega) (by omega) 0
  refine ho_cv2 rfl (by first | rfl | assumption) rfl (Nat.le_of_ble_eq_true rfl) (Nat.le_of_ble_eq_true rfl) (k1) ?_
  rintro v h' ⟨rfl, rfl⟩
  show am_T _ _ _ _ _ (_ :: _ :: _ :: []) _ _ _ _
  refine ho_iastore rfl rfl (by omega) ?_
  refine am_iconst (v := nI 0) rfl (by decide) ?_
  refine am_istore_n rfl (Nat.le_of_ble_eq_true rfl) ?_
  show am_T _ _ _ _ [_, some _, _, _, _] _ _ _ _ _
  generalize hmi2 : up2 mi1 96 0 (ofI (fitP S ip n 1 (tb 0))) = mi2
  have r2 : ∀ a, a ≠ 96 → mi2 a = mi1 a := fun a ha => by rw [← hmi2, up2_off _ _ _ ha]
  have f2 : Fx mi mi2 ml ml1 := f1.tr ⟨fun a _ h2 _ _ => r2 a h2, fun j _ _ _ => by rw [r2 93 (by decide)], fun _ _ => rfl⟩
  have h96 : mi2 96 0 = ofI (fitP S ip n 1 (tb 0)) := by rw [← hmi2]; simp [up2]
  refine c_K_findKinds_loop hR hS 41 0 1 1 false mi2 ml1 rfl (by omega) (by omega) (f2.rep hX) ⟨⟨⟨by omega, by omega⟩, by omega, by omega⟩, ⟨?_, ?_, ?_⟩, ?_, fun a b h1 h2 h3 => by omega, fun a h1 h2 => by omega, fun y hy => ?_, h96, fun e => by cases e⟩ (fun _ => ⟨fun q _ c hc => by omega, fun y _ t ht => by omega⟩) (fun cnt' L' tm' mi' ml' a1 a2 a3 a4 => ⟨rfl, cnt', L', tm', mi', ml', rfl, a1, a2, a3, f2.tr a4⟩)
  · rw [r2 93 (by decide), ← hmi]; simp [up2]
  · rw [r2 93 (by decide), ← hmi]; simp [up2]
  · rw [r2 93 (by decide), ← hmi]; simp [up2]; rfl
  · rw [← hml]; simp [up2]; exact hK0
  · refine ⟨1, K0 S, by omega, by omega, Or.inl rfl, ?_⟩
    rw [show y = 0 by omega, h96]
    congr 1
end X7
/-! how many kinds: the same on both sides -/
theorem pigeon {α : Type} : ∀ (p q : Nat) (f g : Nat → α), (∀ a b, a < b → b < p → f a ≠ f b) → (∀ a, a < p → ∃ b, b < q ∧ g b = f a) → p ≤ q
  | 0, q, f, g, _, _ => Nat.zero_le _
  | p + 1, 0, f, g, _, h => by
    obtain ⟨b, hb, -⟩ := h 0 (by omega)
    omega
  | p + 1, q + 1, f, g, hd, h => by
    obtain ⟨b0, hb0, e0⟩ := h p (by omega)
    have := pigeon p q f (fun i => if i = b0 then g q else g i) (fun a b h1 h2 => hd a b h1 (by omega)) (fun a ha => by
      obtain ⟨b, hb, e⟩ := h a (by omega)
      have hne : b ≠ b0 := by
        intro z
        rw [z, e0] at e
        exact hd a p ha (by omega) e.symm
      by_cases hbq : b = q
      · refine ⟨b0, by omega, ?_⟩
        rw [if_pos rfl, ← hbq]
        exact e
      · refine ⟨b, by omega, ?_⟩
        rw [if_neg hne]
        exact e)
    omega
