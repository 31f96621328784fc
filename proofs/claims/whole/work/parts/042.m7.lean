/-! the reference: know, behind lay -/
/-- all that is known of the kinds -/
def MKn (S : Rs) (cnt : Nat) (mi : Nat → Nat → Int32) (ml : Nat → Nat → Int64) : Prop := KI S cnt mi ml ∧ (cnt ≤ 40 → All S cnt cnt mi ml ∧ ∃ v, VI S cnt v ml ∧ ∀ k, 1 ≤ k → k < cnt → v k = lsz S (ml 127 k)) ∧ ml 116 17 = K0 S
def Fk (mi mi' : Nat → Nat → Int32) (ml ml' : Nat → Nat → Int64) : Prop := (∀ a, a ≠ 116 → a ≠ 129 → mi' a = mi a) ∧ (∀ j, j ≠ 18 → mi' 116 j = mi 116 j) ∧ (∀ a, a ≠ 116 → a ≠ 127 → a ≠ 128 → ml' a = ml a) ∧ ∀ j, j ≠ 17 → ml' 116 j = ml 116 j
section M7
variable {l : Launch} {d : Nat} {mr : Nat → Nat → Option Nat} {S : Rs}
theorem c_m_know_17 (hR : SR mr) (hS : okS S) (mi : Nat → Nat → Int32) (ml : Nat → Nat → Int64) (hr : repS S mi) : am_T l (d + 4) M_m_know 17 [some (.ref 116), none, none, none] [] (hm mi ml mr) 0 0 (fun r h' => r = none ∧ ∃ cnt mi' ml', h' = hm mi' ml' mr ∧ repS S mi' ∧ MKn S cnt mi' ml' ∧ Fk mi mi' ml ml') := by
  have k1 := c_m_belongs (l := l) (d := d + 1) (mr := mr) (ml := ml) hR hS hr 0 (by omega) 0 0
  refine am_aload_n rfl rfl ?_
  refine am_aload_n rfl rfl ?_
  refine am_iconst (v := -1) rfl (by decide) ?_
  refine am_lconst (v := 0) rfl (by decide) ?_
  refine am_lconst (v := 0) rfl (by decide) ?_
  refine ho_cv3 rfl (by first | rfl | assumption) rfl (Nat.le_of_ble_eq_true rfl) (Nat.le_of_ble_eq_true rfl) (k1) ?_
  rintro v h' ⟨rfl, rfl⟩
  show am_T _ _ _ _ _ (_ :: _ :: []) _ _ _ _
  refine ho_putL rfl (by first | rfl | assumption) rfl ?_
  refine am_aload_n rfl rfl ?_
  refine ho_getR rfl (by first | rfl | assumption) rfl (by first | assumption | exact hR _ _ _ rfl) ?_
  refine am_iconst (v := nI 0) rfl (by decide) ?_
  refine am_aload_n rfl rfl ?_
  refine ho_getL rfl (by first | rfl | assumption) rfl ?_
  refine ho_lastore rfl (by first | rfl | assumption) (by omega) ?_
  refine am_aload_n rfl rfl ?_
  refine am_iconst (v := nI 1) rfl (by decide) ?_
  refine ho_putI rfl (by first | rfl | assumption) rfl rfl ?_
  refine am_iconst (v := nI 0) rfl (by decide) ?_
  refine am_istore_n rfl (Nat.le_of_ble_eq_true rfl) ?_
  show am_T _ _ _ _ [_, some _, _, _] _ _ _ _ _
  generalize hml : up2 (up2 ml 116 17 (belF S 0 (tb 0) (tb 0))) 127 0 (up2 ml 116 17 (belF S 0 (tb 0) (tb 0)) 116 17) = ml1
  generalize hmi : up2 mi 116 18 (nI 1) = mi1
  have moff : ∀ a, a ≠ 116 → mi1 a = mi a := fun a ha => by rw [← hmi, up2_off _ _ _ ha]
  have m116 : ∀ j, j ≠ 18 → mi1 116 j = mi 116 j := fun j hj => by rw [← hmi]; unfold up2; rw [if_neg (fun z => hj z.2)]
  have loff : ∀ a, a ≠ 116 → a ≠ 127 → ml1 a = ml a := fun a h1 h2 => by rw [← hml, up2_off _ _ _ h2, up2_off _ _ _ h1]
  have l116 : ∀ j, j ≠ 17 → ml1 116 j = ml 116 j := fun j hj => by rw [← hml, up2_off _ _ _ (show (116 : Nat) ≠ 127 by decide)]; unfold up2; rw [if_neg (fun z => hj z.2)]
  have l17 : ml1 116 17 = K0 S := by
    rw [← hml, up2_off _ _ _ (show (116 : Nat) ≠ 127 by decide)]
    unfold up2
    rw [if_pos ⟨rfl, rfl⟩]
    rfl
  have l127 : ml1 127 0 = K0 S := by
    rw [← hml]
    unfold up2
    rw [if_pos ⟨rfl, rfl⟩, if_pos ⟨rfl, rfl⟩]
    rfl
  have hr1 : repS S mi1 := by
    unfold repS at hr ⊢
    rw [m116 12 (by decide), moff 123 (by decide), moff 124 (by decide), moff 125 (by decide), moff 126 (by decide)]
    exact hr
  have hK1 : KI S 1 mi1 ml1 := ⟨⟨Nat.le_refl _, by omega⟩, by rw [← hmi]; unfold up2; rw [if_pos ⟨rfl, rfl⟩], l127, fun a b h1 h2 h3 => by omega, fun a h1 h2 => by omega⟩
  refine c_m_know_k hR hS 42 0 1 mi1 ml1 rfl (by omega) hr1 hK1 (fun _ => by intro q hq a b ha hb; omega) (fun cnt mi2 ml2 g1 g2 g3 g4 => ?_)
  have f2 : Fk mi mi2 ml ml2 := ⟨fun a h1 h2 => (g4.1 a h1 h2).trans (moff a h1), fun j hj => (g4.2.1 j hj).trans (m116 j hj), fun a h1 h2 h3 => (g4.2.2 a h2).trans (loff a h1 h2), fun j hj => by rw [g4.2.2 116 (by decide)]; exact l116 j hj⟩
  have h17 : ml2 116 17 = K0 S := by rw [g4.2.2 116 (by decide)]; exact l17
  have hc := g2.1
  refine am_aload_n rfl rfl ?_
  refine ho_getI rfl (by first | rfl | assumption) rfl ?_
  rw [g2.2.1]
  refine am_bipush (v := nI 40) rfl (by decide) ?_
  refine ho_icmp_gt rfl (by omega) (by omega) (fun z => ?_) (fun z => ?_)
  · exact am_return rfl rfl ⟨rfl, cnt, mi2, ml2, rfl, g1, ⟨g2, fun q => by omega, h17⟩, f2⟩
  refine am_aload_n rfl rfl ?_
  refine ho_cv0 rfl (by first | rfl | assumption) rfl (Nat.le_of_ble_eq_true rfl) (Nat.le_of_ble_eq_true rfl) (c_m_sizes hR cnt (by omega) ml2 g2 (g3 (by omega))) ?_
  rintro v h' ⟨rfl, w, ml3, rfl, o3, hV, hrl⟩
  show am_T _ _ _ _ _ [] _ _ _ _
  have hls := m_sizes_least (by omega) g2 (g3 (by omega)) o3 hV hrl
  have e127 : ml3 127 = ml2 127 := o3 127 (by decide)
  refine am_return rfl rfl ⟨rfl, cnt, mi2, ml3, rfl, g1, ⟨?_, fun q => ⟨?_, w, hV, by rw [e127]; exact hls⟩, by rw [o3 116 (by decide)]; exact h17⟩, ⟨f2.1, f2.2.1, fun a h1 h2 h3 => (o3 a h3).trans (f2.2.2.1 a h1 h2 h3), fun j hj => by rw [o3 116 (by decide)]; exact f2.2.2.2 j hj⟩⟩
  · unfold KI at g2 ⊢
    rw [e127]
    exact g2
  · have := g3 q
    unfold All Jn at this ⊢
    rw [e127]
    exact this
end M7
