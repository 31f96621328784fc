/-! the class: findBetterSizes -/
/-- the kinds of the first letters and tails have been made as small as they say -/
def BD (L cnt : Nat) (mi : Nat → Nat → Int32) (v0 u v : Nat → Nat) (y t : Nat) : Prop := ∀ y' t', y' < L → t' < cnt → (y' < y ∨ (y' = y ∧ t' < t)) → ∀ k, k < cnt → mi 99 (y' * 40 + t') = nI k → v k ≤ u y' + v0 t'
/-- smaller, and the same where nothing was bettered -/
def BE (v0 v : Nat → Nat) (better : Bool) : Prop := (∀ k, v k ≤ v0 k) ∧ (better = false → ∀ k, v k = v0 k)
section Z5
variable {l : Launch} {d : Nat} {mi : Nat → Nat → Int32} {mr : Nat → Nat → Option Nat} {S : Rs} {ip : Nat → Nat} {n cnt L : Nat}
theorem c_K_fbs_in (hR : SR mr) (hS : okS S) (ml0 : Nat → Nat → Int64) (hX : repX S ip n mi ml0) (hK : XK S ip n cnt L false mi ml0) (hA : XAll S ip n cnt cnt L mi ml0) (v0 u : Nat → Nat) (hU : UI S ip n L mi u ml0) (y : Nat) (hy : y < L) {Q : Option Value → am_H → Prop}
    (hout : ∀ v ml better, (∀ a, a ≠ 95 → ml a = ml0 a) → XV S cnt v ml → BE v0 v better → BD L cnt mi v0 u v (y + 1) 0 → am_T l d M_K_findBetterSizes 4 [some (.ref 93), some (.int (bI better)), some (.int (nI (y + 1))), none, none, none, none] [] (hm mi ml mr) 0 0 Q) :
    ∀ (j t : Nat) (v : Nat → Nat) (ml : Nat → Nat → Int64) (better : Bool), t + j = cnt → (∀ a, a ≠ 95 → ml a = ml0 a) → XV S cnt v ml → BE v0 v better → BD L cnt mi v0 u v y t → am_T l d M_K_findBetterSizes 14 [some (.ref 93), some (.int (bI better)), some (.int (nI y)), some (.int (nI t)), none, none, none] [] (hm mi ml mr) 0 0 Q := by
  obtain ⟨⟨⟨c1, c40⟩, L1, L161⟩, ⟨e1, e2, e3⟩, h0, hd, hre, hlet, hl0, htm⟩ := id hK
  have hF : FARx = 1152921504606846976 := rfl
  intro j
  induction j with
  | zero =>
    intro t v ml better hj ho hV hE hD
    refine am_iload_n rfl rfl ?_
    refine am_aload_n rfl rfl ?_
    refine ho_getI rfl (by first | rfl | assumption) rfl ?_
    rw [e1]
    refine ho_icmp_ge rfl (by omega) (by omega) (fun _ => ?_) (fun z => absurd (by omega) z)
    refine am_iinc rfl rfl (nI_inc1 _) ?_
    show am_T _ _ _ _ [_, _, some _, _, _, _, _] _ _ _ _ _
    refine am_goto rfl ?_
    refine am_drops [3] ?_
    refine hout v ml better ho hV hE (fun y' t' hy' ht' h => hD y' t' hy' ht' ?_)
    omega
  | succ j ih =>
    intro t v ml better hj ho hV hE hD
    obtain ⟨k, k1, k2, h99, h94⟩ := hA.2 y hy t (by omega)
    have hu := hU.2.2.1 y
    have hv1 := hV.2.2.1 t
    have hv2 := hV.2.2.1 k
    refine am_iload_n rfl rfl ?_
    refine am_aload_n rfl rfl ?_
    refine ho_getI rfl (by first | rfl | assumption) rfl ?_
    rw [e1]
    refine ho_icmp_ge rfl (by omega) (by omega) (fun z => absurd z (by omega)) (fun _ => ?_)
    refine am_aload_n rfl rfl ?_
    refine ho_getR rfl (by first | rfl | assumption) rfl (by first | assumption | exact hR _ _ _ rfl) ?_
    refine am_iload_n rfl rfl ?_
    refine am_bipush (v := nI 40) rfl (by decide) ?_
    first | refine ho_muln rfl ?_ | refine am_imul rfl ?_
    refine am_iload_n rfl rfl ?_
    first | refine ho_addn rfl ?_ | refine am_iadd rfl ?_
    refine ho_iaload rfl (by first | rfl | assumption) (by omega) ?_
    rw [h99]
    refine am_istore rfl (Nat.le_of_ble_eq_true rfl) ?_
    show am_T _ _ _ _ [_, _, _, _, some _, _, _] _ _ _ _ _
    refine am_aload_n rfl rfl ?_
    refine ho_getR rfl (by first | rfl | assumption) rfl (by first | assumption | exact hR _ _ _ rfl) ?_
    refine am_iload_n rfl rfl ?_
    refine ho_laload rfl (by first | rfl | assumption) (by omega) ?_
    rw [ho 97 (by decide), hU.1 y hy]
    refine am_aload_n rfl rfl ?_
    refine ho_getR rfl (by first | rfl | assumption) rfl (by first | assumption | exact hR _ _ _ rfl) ?_
    refine am_iload_n rfl rfl ?_
    refine ho_laload rfl (by first | rfl | assumption) (by omega) ?_
    rw [hV.1 t (by omega)]
    refine am_ladd rfl ?_
    rw [lJ_add]
    refine am_lstore rfl (Nat.le_of_ble_eq_true rfl) ?_
    show am_T _ _ _ _ [_, _, _, _, _, some _, none] _ _ _ _ _
    refine am_lload rfl rfl ?_
    refine am_aload_n rfl rfl ?_
    refine ho_getR rfl (by first | rfl | assumption) rfl (by first | assumption | exact hR _ _ _ rfl) ?_
    refine am_iload rfl rfl ?_
    refine ho_laload rfl (by first | rfl | assumption) (by omega) ?_
    rw [hV.1 k k2]
    refine am_lcmp rfl ?_
    have tail : ∀ (v' : Nat → Nat) (ml' : Nat → Nat → Int64) (better' : Bool), (∀ a, a ≠ 95 → ml' a = ml0 a) → XV S cnt v' ml' → BE v0 v' better' → BD L cnt mi v0 u v' y (t + 1) → am_T l d M_K_findBetterSizes 74 [some (.ref 93), some (.int (bI better')), some (.int (nI y)), some (.int (nI t)), some (.int (nI k)), some (.long (lJ (u y + v t))), none] [] (hm mi ml' mr) 0 0 Q := by
      intro v' ml' better' g1 g2 g3 g4
      refine am_iinc rfl rfl (nI_inc1 _) ?_
      show am_T _ _ _ _ [_, _, _, some _, _, _, _] _ _ _ _ _
      refine am_goto rfl ?_
      refine am_drops [4, 5] ?_
      exact ih (t + 1) v' ml' better' (by omega) g1 g2 g3 g4
    have hvt := hE.1 t
    refine am_if_ge rfl (fun z => ?_) (fun z => ?_)
    · have hle : v k ≤ u y + v t := by
        have := lg_ge.mp z
        have h2 := Int64.le_iff_toInt_le.mp this
        rw [lJ_toInt (by omega), lJ_toInt (by omega)] at h2
        omega
      refine tail v ml better ho hV hE (fun y' t' hy' ht' h k' hk' hkm => ?_)
      by_cases e : y' = y ∧ t' = t
      · obtain ⟨rfl, rfl⟩ := e
        have : k' = k := (nI_eq (by omega) (by omega)).mp (hkm.symm.trans h99)
        subst this
        omega
      · exact hD y' t' hy' ht' (by omega) k' hk' hkm
    · have hlt : u y + v t < v k := by
        rcases Nat.lt_or_ge (u y + v t) (v k) with q | q
        · exact q
        · refine absurd (lg_ge.mpr (Int64.le_iff_toInt_le.mpr ?_)) z
          rw [lJ_toInt (by omega), lJ_toInt (by omega)]
          omega
      refine am_aload_n rfl rfl ?_
      refine ho_getR rfl (by first | rfl | assumption) rfl (by first | assumption | exact hR _ _ _ rfl) ?_
      refine am_iload rfl rfl ?_
      refine am_lload rfl rfl ?_
      refine ho_lastore rfl (by first | rfl | assumption) (by omega) ?_
      refine am_iconst (v := nI 1) rfl (by decide) ?_
      refine am_istore_n rfl (Nat.le_of_ble_eq_true rfl) ?_
      show am_T _ _ _ _ [_, some _, _, _, _, _, _] _ _ _ _ _
      have hle : ∀ x, (if x = k then u y + v t else v x) ≤ v x := by
        intro x
        by_cases e : x = k
        · rw [if_pos e, e]; omega
        · rw [if_neg e]; exact Nat.le_refl _
      refine tail (fun x => if x = k then u y + v t else v x) (up2 ml 95 k (lJ (u y + v t))) true (fun a ha => by rw [up2_off _ _ _ ha]; exact ho a ha) ⟨fun x hx => ?_, ?_, fun x => Nat.le_trans (hle x) (hV.2.2.1 x), fun x h1 h2 => ?_⟩ ⟨fun x => Nat.le_trans (hle x) (hE.1 x), fun e => by cases e⟩ (fun y' t' hy' ht' h k' hk' hkm => ?_)
      · unfold up2
        by_cases e : x = k
        · simp [e]
        · simp [e, hV.1 x hx]
      · simp [show ¬ 0 = k by omega, hV.2.1]
      · rw [up2_off _ _ _ (show (94 : Nat) ≠ 95 by decide)]
        show (if x = k then u y + v t else v x) = FARx ∨ HSz S (ml 94 x) (if x = k then u y + v t else v x)
        by_cases e : x = k
        · rw [if_pos e, e]
          right
          have ht2 : (ml0 94 t = K0 S ∧ v t = 0) ∨ HSz S (ml0 94 t) (v t) := by
            rcases Nat.eq_zero_or_pos t with e0 | e0
            · subst e0
              exact Or.inl ⟨h0, hV.2.1⟩
            · rcases hV.2.2.2 t e0 (by omega) with g | g
              · omega
              · rw [ho 94 (by decide)] at g
                exact Or.inr g
          rcases hU.2.2.2 y hy with g | ⟨f, c, sc, f1, f5, g3, g4, g5⟩
          · omega
          have hst := HSz.step f1 f5 g4 ht2
          rw [ho 94 (by decide), h94, g3, joF_bel hS hX.1.2 _ f1 (fun j hj => ⟨(hX.2.1 j hj).1, (hX.2.1 j hj).2.1, (hX.2.1 j hj).2.2.1⟩) hX.2.2.1, g5, show 1 + (if f = 1 then 0 else sc) + v t = 1 + v t + (if f = 1 then 0 else sc) by omega]
          exact hst
        · rw [if_neg e]
          exact hV.2.2.2 x h1 h2
      · by_cases e : y' = y ∧ t' = t
        · obtain ⟨rfl, rfl⟩ := e
          have : k' = k := (nI_eq (by omega) (by omega)).mp (hkm.symm.trans h99)
          show (if k' = k then u y' + v t' else v k') ≤ _
          rw [if_pos this]
          omega
        · exact Nat.le_trans (hle k') (hD y' t' hy' ht' (by omega) k' hk' hkm)
theorem c_K_fbs_out (hR : SR mr) (hS : okS S) (ml0 : Nat → Nat → Int64) (hX : repX S ip n mi ml0) (hK : XK S ip n cnt L false mi ml0) (hA : XAll S ip n cnt cnt L mi ml0) (v0 u : Nat → Nat) (hU : UI S ip n L mi u ml0) {Q : Option Value → am_H → Prop}
    (hout : ∀ v ml better, (∀ a, a ≠ 95 → ml a = ml0 a) → XV S cnt v ml → BE v0 v better → BD L cnt mi v0 u v L 0 → Q (some (.int (bI better))) (hm mi ml mr)) :
    ∀ (j y : Nat) (v : Nat → Nat) (ml : Nat → Nat → Int64) (better : Bool), y + j = L → (∀ a, a ≠ 95 → ml a = ml0 a) → XV S cnt v ml → BE v0 v better → BD L cnt mi v0 u v y 0 → am_T l d M_K_findBetterSizes 4 [some (.ref 93), some (.int (bI better)), some (.int (nI y)), none, none, none, none] [] (hm mi ml mr) 0 0 Q := by
  obtain ⟨⟨⟨c1, c40⟩, L1, L161⟩, ⟨e1, e2, e3⟩, h0, hd, hre, hlet, hl0, htm⟩ := id hK
  intro j
  induction j with
  | zero =>
    intro y v ml better hj ho hV hE hD
    refine am_iload_n rfl rfl ?_
    refine am_aload_n rfl rfl ?_
    refine ho_getI rfl (by first | rfl | assumption) rfl ?_
    rw [e2]
    refine ho_icmp_ge rfl (by omega) (by omega) (fun _ => ?_) (fun z => absurd (by omega) z)
    have : y = L := by omega
    subst this
    refine am_iload_n rfl rfl ?_
    exact am_zreturn rfl rfl (by cases better; exact Or.inl rfl; exact Or.inr rfl) (hout v ml better ho hV hE hD)
  | succ j ih =>
    intro y v ml better hj ho hV hE hD
    refine am_iload_n rfl rfl ?_
    refine am_aload_n rfl rfl ?_
    refine ho_getI rfl (by first | rfl | assumption) rfl ?_
    rw [e2]
    refine ho_icmp_ge rfl (by omega) (by omega) (fun z => absurd z (by omega)) (fun _ => ?_)
    refine am_iconst (v := nI 0) rfl (by decide) ?_
    refine am_istore_n rfl (Nat.le_of_ble_eq_true rfl) ?_
    show am_T _ _ _ _ [_, _, _, some _, _, _, _] _ _ _ _ _
    exact c_K_fbs_in hR hS ml0 hX hK hA v0 u hU y (by omega) (fun v' ml' better' g1 g2 g3 g4 => ih (y + 1) v' ml' better' (by omega) g1 g2 g3 g4) cnt 0 v ml better (by omega) ho hV hE hD
/-- findBetterSizes() -/
theorem c_K_findBetterSizes (hR : SR mr) (hS : okS S) (ml0 : Nat → Nat → Int64) (hX : repX S ip n mi ml0) (hK : XK S ip n cnt L false mi ml0) (hA : XAll S ip n cnt cnt L mi ml0) (v0 u : Nat → Nat) (hU : UI S ip n L mi u ml0) (hV : XV S cnt v0 ml0) : am_T l d M_K_findBetterSizes 0 [some (.ref 93), none, none, none, none, none, none] [] (hm mi ml0 mr) 0 0 (fun r h' => ∃ better v ml, r = some (.int (bI better)) ∧ h' = hm mi ml mr ∧ (∀ a, a ≠ 95 → ml a = ml0 a) ∧ XV S cnt v ml ∧ BE v0 v better ∧ BD L cnt mi v0 u v L 0) := by
  refine am_iconst (v := nI 0) rfl (by decide) ?_
  refine am_istore_n rfl (Nat.le_of_ble_eq_true rfl) ?_
  show am_T _ _ _ _ [_, some _, _, _, _, _, _] _ _ _ _ _
  refine am_iconst (v := nI 0) rfl (by decide) ?_
  refine am_istore_n rfl (Nat.le_of_ble_eq_true rfl) ?_
  show am_T _ _ _ _ [_, _, some _, _, _, _, _] _ _ _ _ _
  exact c_K_fbs_out hR hS ml0 hX hK hA v0 u hU (fun v ml better a1 a2 a3 a4 => ⟨better, v, ml, rfl, rfl, a1, a2, a3, a4⟩) L 0 v0 ml0 false (by omega) (fun _ _ => rfl) hV ⟨fun _ => Nat.le_refl _, fun _ _ => rfl⟩ (fun y' t' _ _ h => by omega)
/-- one round makes every kind as small as the sizes before it say -/
theorem x_round (hS : okS S) {ml0 : Nat → Nat → Int64} (hX : repX S ip n mi ml0) (hK : XK S ip n cnt L false mi ml0) (hA : XAll S ip n cnt cnt L mi ml0) {v u v' : Nat → Nat} (hu0 : u 0 ≤ 1) (hD : LD L cnt mi v u 4 0) (hB : BD L cnt mi v u v' L 0) : ∀ f, 1 ≤ f → f ≤ 5 → ∀ a b, a < cnt → b < cnt → ∃ k, 1 ≤ k ∧ k < cnt ∧ ml0 94 k = belF S f (tb (ml0 94 a)) (tb (ml0 94 b)) ∧ v' k ≤ 1 + v b + (if f = 1 then 0 else v a) := by
  intro f f1 f5 a b ha hb
  have hj := fun f c (h : 1 ≤ f) => joF_bel hS (f := f) (c := c) hX.1.2 (ml0 94 b) h (fun j hj => ⟨(hX.2.1 j hj).1, (hX.2.1 j hj).2.1, (hX.2.1 j hj).2.2.1⟩) hX.2.2.1
  by_cases e : f = 1
  · subst e
    have hL := hK.1.2.1
    obtain ⟨k, k1, k2, k3, k4⟩ := hA.2 0 (by omega) b hb
    rw [hK.2.2.2.2.2.2.1, hj 1 _ (by omega)] at k4
    refine ⟨k, k1, k2, k4.trans (belF_num hS hX _ _ _), ?_⟩
    have := hB 0 b (by omega) hb (Or.inl (by omega)) k k2 k3
    rw [if_pos rfl]
    omega
  · obtain ⟨y, y1, y2, y3⟩ := hA.1 (f - 2) (by omega) a ha
    obtain ⟨k, k1, k2, k3, k4⟩ := hA.2 y y1 b hb
    rw [y3, show f - 2 + 2 = f by omega, hj f _ f1] at k4
    refine ⟨k, k1, k2, k4, ?_⟩
    have h1 := hB y b y1 hb (Or.inl y1) k k2 k3
    have h2 := hD (f - 2) a ha (Or.inl (by omega)) y y1 y2
    rw [if_neg e]
    omega
end Z5
