/-! the class: findMembers -/
theorem repX_ml2 {S : Rs} {ip : Nat → Nat} {n : Nat} {mi : Nat → Nat → Int32} {ml ml' : Nat → Nat → Int64} (h : ∀ a, a ≤ 91 → ml' a = ml a) (hX : repX S ip n mi ml) : repX S ip n mi ml' := by
  unfold repX at hX ⊢
  rw [h 84 (by decide), h 87 (by decide), h 88 (by decide), h 89 (by decide), h 90 (by decide), h 91 (by decide)]
  exact hX
theorem XK_ml2 {S : Rs} {ip : Nat → Nat} {n cnt L : Nat} {tm : Bool} {mi : Nat → Nat → Int32} {ml ml' : Nat → Nat → Int64} (h : ml' 94 = ml 94) (hX : XK S ip n cnt L tm mi ml) : XK S ip n cnt L tm mi ml' := by
  unfold XK at hX ⊢
  rw [h]
  exact hX
theorem XAll_ml2 {S : Rs} {ip : Nat → Nat} {n k cnt L : Nat} {mi : Nat → Nat → Int32} {ml ml' : Nat → Nat → Int64} (h : ml' 94 = ml 94) (hX : XAll S ip n k cnt L mi ml) : XAll S ip n k cnt L mi ml' := by
  unfold XAll LL XJ at hX ⊢
  rw [h]
  exact hX
/-- which kinds belong to a name, by bits -/
def MemB (S : Rs) (cnt : Nat) (km : Nat → Int64) (m : Int64) (a : Nat) : Prop := ∀ j, tb m j = (decide (j < cnt) && inN S (tb (km j)) a)
section Y1
variable {l : Launch} {d : Nat} {mi : Nat → Nat → Int32} {mr : Nat → Nat → Option Nat} {S : Rs} {ip : Nat → Nat} {n cnt : Nat}
theorem c_K_mem_in (hR : SR mr) (hS : okS S) (h40 : cnt ≤ 40) (hc : mi 93 3 = nI cnt) (ml0 : Nat → Nat → Int64) (hX : repX S ip n mi ml0) (a : Nat) (ha : a < 6) {Q : Option Value → am_H → Prop}
    (hout : ∀ ml, (∀ c, c ≠ 101 → ml c = ml0 c) → (∀ b, b < a + 1 → MemB S cnt (ml0 94) (ml 101 b) b) → am_T l (d + 1) M_K_findMembers 2 [some (.ref 93), some (.int (nI (a + 1))), none] [] (hm mi ml mr) 0 0 Q) :
    ∀ (j k : Nat) (ml : Nat → Nat → Int64), k + j = cnt → (∀ c, c ≠ 101 → ml c = ml0 c) → (∀ b, b < a → MemB S cnt (ml0 94) (ml 101 b) b) → MemB S k (ml0 94) (ml 101 a) a → am_T l (d + 1) M_K_findMembers 17 [some (.ref 93), some (.int (nI a)), some (.int (nI k))] [] (hm mi ml mr) 0 0 Q := by
  intro j
  induction j with
  | zero =>
    intro k ml hj ho hb hk
    have : k = cnt := by omega
    subst this
    refine am_iload_n rfl rfl ?_
    refine am_aload_n rfl rfl ?_
    refine ho_getI rfl (by first | rfl | assumption) rfl ?_
    rw [hc]
    refine ho_icmp_ge rfl (by omega) (by omega) (fun _ => ?_) (fun z => absurd (Nat.le_refl _) z)
    refine am_iinc rfl rfl (nI_inc1 _) ?_
    show am_T _ _ _ _ [_, some _, _] _ _ _ _ _
    refine am_goto rfl ?_
    refine am_drops [2] ?_
    refine hout ml ho (fun b hb2 => ?_)
    by_cases e : b = a
    · rw [e]; exact hk
    · exact hb b (by omega)
  | succ j ih =>
    intro k ml hj ho hb hk
    have hX1 : repX S ip n mi ml := repX_ml2 (fun c hc => ho c (by omega)) hX
    have next : ∀ x : Int64, (∀ r, tb x r = (decide (r = k) && inN S (tb (ml0 94 k)) a)) → am_T l (d + 1) M_K_findMembers 56 [some (.ref 93), some (.int (nI a)), some (.int (nI k))] [.long x, .long (ml 101 a), .int (nI a), .ref 101] (hm mi ml mr) 0 0 Q := by
      intro x hx
      refine am_lor rfl ?_
      refine ho_lastore rfl rfl (by omega) ?_
      refine am_iinc rfl rfl (nI_inc1 _) ?_
      show am_T _ _ _ _ [_, _, some _] _ _ _ _ _
      refine am_goto rfl ?_
      refine ih (k + 1) _ (by omega) (fun c hc => by rw [up2_off _ _ _ hc]; exact ho c hc) (fun b hb2 => ?_) (fun r => ?_)
      · unfold up2
        rw [if_neg (by omega)]
        exact hb b hb2
      · unfold up2
        rw [if_pos ⟨rfl, rfl⟩, tb_or, hk r, hx r]
        by_cases e : r = k
        · subst e
          simp
        · have e1 : decide (r = k) = false := decide_eq_false e
          have e2 : decide (r < k) = decide (r < k + 1) := by
            by_cases q : r < k
            · rw [decide_eq_true q, decide_eq_true (by omega)]
            · rw [decide_eq_false q, decide_eq_false (by omega)]
          rw [e1, e2, Bool.false_and, Bool.or_false]
    refine am_iload_n rfl rfl ?_
    refine am_aload_n rfl rfl ?_
    refine ho_getI rfl (by first | rfl | assumption) rfl ?_
    rw [hc]
    refine ho_icmp_ge rfl (by omega) (by omega) (fun z => absurd z (by omega)) (fun _ => ?_)
    refine am_aload_n rfl rfl ?_
    refine ho_getR rfl (by first | rfl | assumption) rfl (by first | assumption | exact hR _ _ _ rfl) ?_
    refine am_iload_n rfl rfl ?_
    first | refine am_dup2 rfl rfl rfl ?_ | refine am_dup2l rfl rfl ?_
    refine ho_laload rfl (by first | rfl | assumption) (by omega) ?_
    refine am_aload_n rfl rfl ?_
    refine ho_getR rfl (by first | rfl | assumption) rfl (by first | assumption | exact hR _ _ _ rfl) ?_
    refine am_aload_n rfl rfl ?_
    refine ho_getR rfl (by first | rfl | assumption) rfl (by first | assumption | exact hR _ _ _ rfl) ?_
    refine am_iload_n rfl rfl ?_
    refine ho_laload rfl (by first | rfl | assumption) (by omega) ?_
    refine am_iload_n rfl rfl ?_
    rw [ho 94 (by decide)]
    refine ho_cv2 rfl (by first | rfl | assumption) rfl (Nat.le_of_ble_eq_true rfl) (Nat.le_of_ble_eq_true rfl) (c_S_belongs hR hS hX1 (ml0 94 k) a ha) ?_
    rintro v h' ⟨rfl, rfl⟩
    show am_T _ _ _ _ _ (_ :: _ :: _ :: _ :: []) _ _ _ _
    refine am_if_eq rfl (fun q => ?_) (fun q => ?_)
    · refine am_lconst (v := 0) rfl (by decide) ?_
      refine next _ (fun r => ?_)
      rw [(bI_eq _).mp q, Bool.and_false]
      simp [tb]
    · refine am_lconst (v := 1) rfl (by decide) ?_
      refine am_iload_n rfl rfl ?_
      refine am_lshl rfl rfl ?_
      refine am_goto rfl ?_
      refine next _ (fun r => ?_)
      rw [(bI_ne _).mp q, Bool.and_true]
      exact tb_bit (by omega) r
theorem c_K_mem_out (hR : SR mr) (hS : okS S) (h40 : cnt ≤ 40) (hc : mi 93 3 = nI cnt) (ml0 : Nat → Nat → Int64) (hX : repX S ip n mi ml0) {Q : Option Value → am_H → Prop}
    (hout : ∀ ml, (∀ c, c ≠ 101 → ml c = ml0 c) → (∀ b, b < 6 → MemB S cnt (ml0 94) (ml 101 b) b) → Q none (hm mi ml mr)) :
    ∀ (j a : Nat) (ml : Nat → Nat → Int64), a + j = 6 → (∀ c, c ≠ 101 → ml c = ml0 c) → (∀ b, b < a → MemB S cnt (ml0 94) (ml 101 b) b) → am_T l (d + 1) M_K_findMembers 2 [some (.ref 93), some (.int (nI a)), none] [] (hm mi ml mr) 0 0 Q := by
  intro j
  induction j with
  | zero =>
    intro a ml hj ho hb
    refine am_iload_n rfl rfl ?_
    refine am_bipush (v := nI 6) rfl (by decide) ?_
    refine ho_icmp_ge rfl (by omega) (by omega) (fun _ => ?_) (fun z => absurd (by omega) z)
    exact am_return rfl rfl (hout ml ho (fun b h => hb b (by omega)))
  | succ j ih =>
    intro a ml hj ho hb
    refine am_iload_n rfl rfl ?_
    refine am_bipush (v := nI 6) rfl (by decide) ?_
    refine ho_icmp_ge rfl (by omega) (by omega) (fun z => absurd z (by omega)) (fun _ => ?_)
    refine am_aload_n rfl rfl ?_
    refine ho_getR rfl (by first | rfl | assumption) rfl (by first | assumption | exact hR _ _ _ rfl) ?_
    refine am_iload_n rfl rfl ?_
    refine am_lconst (v := 0) rfl (by decide) ?_
    refine ho_lastore rfl (by first | rfl | assumption) (by omega) ?_
    refine am_iconst (v := nI 0) rfl (by decide) ?_
    refine am_istore_n rfl (Nat.le_of_ble_eq_true rfl) ?_
    show am_T _ _ _ _ [_, _, some _] _ _ _ _ _
    refine c_K_mem_in hR hS h40 hc ml0 hX a (by omega) (fun ml' g1 g2 => ih (a + 1) ml' (by omega) g1 g2) cnt 0 _ (by omega) (fun c hc => by rw [up2_off _ _ _ hc]; exact ho c hc) (fun b hb2 => ?_) (fun r => ?_)
    · unfold up2
      rw [if_neg (by omega)]
      exact hb b hb2
    · unfold up2
      rw [if_pos ⟨rfl, rfl⟩]
      simp [tb]
/-- findMembers() -/
theorem c_K_findMembers (hR : SR mr) (hS : okS S) (h40 : cnt ≤ 40) (hc : mi 93 3 = nI cnt) (ml0 : Nat → Nat → Int64) (hX : repX S ip n mi ml0) : am_T l (d + 1) M_K_findMembers 0 [some (.ref 93), none, none] [] (hm mi ml0 mr) 0 0 (fun r h' => r = none ∧ ∃ ml, h' = hm mi ml mr ∧ (∀ c, c ≠ 101 → ml c = ml0 c) ∧ ∀ b, b < 6 → MemB S cnt (ml0 94) (ml 101 b) b) := by
  refine am_iconst (v := nI 0) rfl (by decide) ?_
  refine am_istore_n rfl (Nat.le_of_ble_eq_true rfl) ?_
  show am_T _ _ _ _ [_, some _, _] _ _ _ _ _
  exact c_K_mem_out hR hS h40 hc ml0 hX (fun ml g1 g2 => ⟨rfl, ml, rfl, g1, g2⟩) 6 0 ml0 rfl (fun _ _ => rfl) (fun b h => by omega)
end Y1
