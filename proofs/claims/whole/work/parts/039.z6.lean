/-! the class: findSizes -/
noncomputable def finK (S : Rs) (km : Nat → Int64) (cnt : Nat) (v : Nat → Nat) : Nat := ((List.range cnt).filter (fun k => decide (1 ≤ k ∧ v k = lsz S (km k)))).length
theorem finK_lt {S : Rs} {km : Nat → Int64} {cnt : Nat} (hc : 1 ≤ cnt) (v : Nat → Nat) : finK S km cnt v < cnt := by
  have h1 : finK S km cnt v < ((List.range cnt).filter (fun _ => true)).length := by
    refine filter_lt _ _ _ (fun _ _ _ => rfl) ⟨0, List.mem_range.mpr hc, rfl, ?_⟩
    exact decide_eq_false (fun z => by omega)
  have h2 : ((List.range cnt).filter (fun _ => true)).length ≤ cnt := by
    have := List.length_filter_le (fun _ => true) (List.range cnt)
    rw [List.length_range] at this
    exact this
  omega
/-- every kind has its least size -/
def FinV (S : Rs) (km : Nat → Int64) (cnt : Nat) (v : Nat → Nat) : Prop := ∀ k, 1 ≤ k → k < cnt → v k = lsz S (km k)
theorem fin_step {S : Rs} {km : Nat → Int64} {cnt : Nat} (hc : 1 ≤ cnt) (h0 : km 0 = K0 S) (hd : ∀ a b, 1 ≤ a → a < b → b < cnt → km a ≠ km b) (hre : ∀ a, 1 ≤ a → a < cnt → Reach S (km a)) (hall : ∀ m, Reach S m → ∃ k, 1 ≤ k ∧ k < cnt ∧ km k = m) {v v' : Nat → Nat} (hv0 : v 0 = 0) (hge : ∀ k, 1 ≤ k → k < cnt → lsz S (km k) ≤ v' k) (hle : ∀ k, v' k ≤ v k)
    (hr : ∀ f, 1 ≤ f → f ≤ 5 → ∀ a b, a < cnt → b < cnt → ∃ k, 1 ≤ k ∧ k < cnt ∧ km k = belF S f (tb (km a)) (tb (km b)) ∧ v' k ≤ 1 + v b + (if f = 1 then 0 else v a)) : FinV S km cnt v ∨ finK S km cnt v < finK S km cnt v' := by
  rcases Classical.em (∃ k, 1 ≤ k ∧ k < cnt ∧ v k ≠ lsz S (km k)) with h | h
  · right
    obtain ⟨k0, a1, a2, a3⟩ := h
    obtain ⟨s, ⟨k, k1, k2, k3, k4⟩, hmin⟩ := least_nat (p := fun s => ∃ k, 1 ≤ k ∧ k < cnt ∧ v k ≠ lsz S (km k) ∧ lsz S (km k) = s) _ ⟨k0, a1, a2, a3, rfl⟩
    obtain ⟨f, c, t, f1, f5, hm, sc, st, hc1, ht1, he⟩ := lsz_cut (hre k k1 k2)
    have pick : ∀ (c : Int64) (sc : Nat), ((c = K0 S ∧ sc = 0) ∨ (Reach S c ∧ sc = lsz S c)) → ∃ a, a < cnt ∧ km a = c ∧ (sc < lsz S (km k) → v a = sc) := by
      rintro c sc (⟨e1, e2⟩ | ⟨e1, e2⟩)
      · exact ⟨0, hc, h0.trans e1.symm, fun _ => hv0.trans e2.symm⟩
      · obtain ⟨a, b1, b2, b3⟩ := hall c e1
        refine ⟨a, b2, b3, fun hlt => ?_⟩
        rcases Classical.em (v a = lsz S (km a)) with g | g
        · rw [g, b3, e2]
        · have := hmin _ ⟨a, b1, b2, g, rfl⟩
          rw [b3] at this
          omega
    obtain ⟨a, b1, rfl, b3⟩ := pick c sc hc1
    obtain ⟨b, d1, rfl, d3⟩ := pick t st ht1
    obtain ⟨k', g1, g2, g3, g4⟩ := hr f f1 f5 a b b1 d1
    have hkk : k' = k := by
      have e := g3.trans hm.symm
      rcases Nat.lt_trichotomy k' k with q | q | q
      · exact absurd e (hd k' k g1 q k2)
      · exact q
      · exact absurd e.symm (hd k k' k1 q g2)
    subst hkk
    have hst := d3 (by omega)
    have hfin : v' k' = lsz S (km k') := by
      have := hge k' k1 k2
      by_cases ef : f = 1
      · rw [if_pos ef] at he g4
        omega
      · rw [if_neg ef] at he g4
        have := b3 (by omega)
        omega
    refine filter_lt _ _ _ (fun x hx hx2 => ?_) ⟨k', List.mem_range.mpr k2, decide_eq_true ⟨k1, hfin⟩, decide_eq_false (fun z => k3 z.2)⟩
    have hxc := List.mem_range.mp hx
    obtain ⟨x1, x2⟩ := of_decide_eq_true hx2
    have := hge x x1 hxc
    have := hle x
    exact decide_eq_true ⟨x1, by omega⟩
  · exact Or.inl (fun k k1 k2 => Classical.byContradiction (fun z => h ⟨k, k1, k2, z⟩))
theorem repX_ml {S : Rs} {ip : Nat → Nat} {n : Nat} {mi : Nat → Nat → Int32} {ml ml' : Nat → Nat → Int64} (h : ∀ a, a ≠ 95 → a ≠ 97 → ml' a = ml a) (hX : repX S ip n mi ml) : repX S ip n mi ml' := by
  unfold repX at hX ⊢
  rw [h 84 (by decide) (by decide), h 87 (by decide) (by decide), h 88 (by decide) (by decide), h 89 (by decide) (by decide), h 90 (by decide) (by decide), h 91 (by decide) (by decide)]
  exact hX
theorem XK_ml {S : Rs} {ip : Nat → Nat} {n cnt L : Nat} {tm : Bool} {mi : Nat → Nat → Int32} {ml ml' : Nat → Nat → Int64} (h : ∀ a, a ≠ 95 → a ≠ 97 → ml' a = ml a) (hX : XK S ip n cnt L tm mi ml) : XK S ip n cnt L tm mi ml' := by
  unfold XK at hX ⊢
  rw [h 94 (by decide) (by decide)]
  exact hX
theorem XAll_ml {S : Rs} {ip : Nat → Nat} {n k cnt L : Nat} {mi : Nat → Nat → Int32} {ml ml' : Nat → Nat → Int64} (h : ∀ a, a ≠ 95 → a ≠ 97 → ml' a = ml a) (hX : XAll S ip n k cnt L mi ml) : XAll S ip n k cnt L mi ml' := by
  unfold XAll LL XJ at hX ⊢
  rw [h 94 (by decide) (by decide)]
  exact hX
section Z6
variable {l : Launch} {d : Nat} {mi : Nat → Nat → Int32} {mr : Nat → Nat → Option Nat} {S : Rs} {ip : Nat → Nat} {n cnt L : Nat}
theorem XV.ge {ml : Nat → Nat → Int64} {v : Nat → Nat} (hS : okS S) (hX : repX S ip n mi ml) (hK : XK S ip n cnt L false mi ml) (hA : XAll S ip n cnt cnt L mi ml) (hV : XV S cnt v ml) : ∀ k, 1 ≤ k → k < cnt → lsz S (ml 94 k) ≤ v k := by
  intro k k1 k2
  have hre := hK.2.2.2.2.1 k k1 k2
  have hc := hK.1.1
  rcases hV.2.2.2 k k1 k2 with g | g
  · have hb := lsz_bound (km := ml 94) hc.1 (fun m hm => x_reach hS hX hK hA hm) hre
    have h2 : 2 ^ cnt ≤ 2 ^ 40 := Nat.pow_le_pow_right (by decide) hc.2
    have hF : FARx = 1152921504606846976 := rfl
    omega
  · exact (lsz_ok hre).2 _ g
theorem c_K_findSizes_loop (hR : SR mr) (hS : okS S) (ml0 : Nat → Nat → Int64) (hX : repX S ip n mi ml0) (hK : XK S ip n cnt L false mi ml0) (hA : XAll S ip n cnt cnt L mi ml0) {Q : Option Value → am_H → Prop}
    (hout : ∀ v ml, (∀ a, a ≠ 95 → a ≠ 97 → ml a = ml0 a) → XV S cnt v ml → FinV S (ml0 94) cnt v → Q none (hm mi ml mr)) :
    ∀ (j r : Nat) (v : Nat → Nat) (ml : Nat → Nat → Int64) (better : Bool), r + j = 41 → (∀ a, a ≠ 95 → a ≠ 97 → ml a = ml0 a) → XV S cnt v ml → (FinV S (ml0 94) cnt v ∨ (r ≤ finK S (ml0 94) cnt v ∧ better = true)) → am_T l (d + 2) M_K_findSizes 36 [some (.ref 93), some (.int (bI better)), some (.int (nI r))] [] (hm mi ml mr) 0 0 Q := by
  have hcc := hK.1.1
  intro j
  induction j with
  | zero =>
    intro r v ml better hj ho hV hI
    refine am_iload_n rfl rfl ?_
    refine am_bipush (v := nI 40) rfl (by decide) ?_
    refine ho_icmp_gt rfl (by omega) (by omega) (fun _ => ?_) (fun z => absurd (by omega) z)
    refine am_return rfl rfl (hout v ml ho hV ?_)
    rcases hI with h | h
    · exact h
    · have := finK_lt (S := S) (km := ml0 94) hcc.1 v
      omega
  | succ j ih =>
    intro r v ml better hj ho hV hI
    refine am_iload_n rfl rfl ?_
    refine am_bipush (v := nI 40) rfl (by decide) ?_
    refine ho_icmp_gt rfl (by omega) (by omega) (fun z => absurd z (by omega)) (fun _ => ?_)
    refine am_iload_n rfl rfl ?_
    refine am_if_eq rfl (fun q => ?_) (fun q => ?_)
    · refine am_return rfl rfl (hout v ml ho hV ?_)
      rcases hI with h | h
      · exact h
      · rw [h.2] at q
        exact absurd ((bI_eq _).mp q) (by decide)
    have hX1 := repX_ml ho hX
    have hK1 := XK_ml ho hK
    have hA1 := XAll_ml ho hA
    refine am_aload_n rfl rfl ?_
    refine ho_cv0 rfl (by first | rfl | assumption) rfl (Nat.le_of_ble_eq_true rfl) (Nat.le_of_ble_eq_true rfl) (c_K_findLetterSizes hR ml hK1 hA1 v hV) ?_
    rintro x h' ⟨rfl, u, ml2, rfl, o2, hU, hD⟩
    show am_T _ _ _ _ _ [] _ _ _ _
    have o3 : ∀ a, a ≠ 95 → a ≠ 97 → ml2 a = ml a := fun a _ h2 => o2 a h2
    have hV2 : XV S cnt v ml2 := by
      unfold XV at hV ⊢
      rw [o2 95 (by decide), o2 94 (by decide)]
      exact hV
    refine am_aload_n rfl rfl ?_
    refine ho_cv0 rfl (by first | rfl | assumption) rfl (Nat.le_of_ble_eq_true rfl) (Nat.le_of_ble_eq_true rfl) (c_K_findBetterSizes hR hS ml2 (repX_ml o3 hX1) (XK_ml o3 hK1) (XAll_ml o3 hA1) v u hU hV2) ?_
    rintro x h' ⟨better', v', ml3, rfl, rfl, o4, hV3, hE, hB⟩
    show am_T _ _ _ _ _ (_ :: []) _ _ _ _
    have o5 : ∀ a, a ≠ 95 → a ≠ 97 → ml3 a = ml0 a := fun a h1 h2 => (o4 a h1).trans ((o2 a h2).trans (ho a h1 h2))
    refine am_istore_n rfl (Nat.le_of_ble_eq_true rfl) ?_
    show am_T _ _ _ _ [_, some _, _] _ _ _ _ _
    refine am_iinc rfl rfl (nI_inc1 _) ?_
    show am_T _ _ _ _ [_, _, some _] _ _ _ _ _
    refine am_goto rfl ?_
    refine ih (r + 1) v' ml3 better' (by omega) o5 hV3 ?_
    have hge := XV.ge hS (repX_ml o5 hX) (XK_ml o5 hK) (XAll_ml o5 hA) hV3
    rw [o5 94 (by decide) (by decide)] at hge
    have hro := x_round hS hX hK hA hU.2.1 hD hB
    have hst := fin_step hcc.1 hK.2.2.1 hK.2.2.2.1 hK.2.2.2.2.1 (fun m hm => x_reach hS hX hK hA hm) hV.2.1 hge hE.1 hro
    have keep : FinV S (ml0 94) cnt v → FinV S (ml0 94) cnt v' := fun h k k1 k2 => by
      have a1 := h k k1 k2
      have a2 := hge k k1 k2
      have a3 := hE.1 k
      omega
    rcases hI with h | h
    · exact Or.inl (keep h)
    · rcases hst with g | g
      · exact Or.inl (keep g)
      · right
        refine ⟨by omega, ?_⟩
        cases better' with
        | true => rfl
        | false =>
          have : v' = v := funext (hE.2 rfl)
          rw [this] at g
          omega
theorem c_K_findSizes_init (hR : SR mr) (h40 : cnt ≤ 40) (hc : mi 93 3 = nI cnt) (ml0 : Nat → Nat → Int64) {Q : Option Value → am_H → Prop}
    (hout : ∀ ml, (∀ a, a ≠ 95 → ml a = ml0 a) → (∀ k, k < cnt → ml 95 k = lJ (if k = 0 then 0 else FARx)) → am_T l d M_K_findSizes 32 [some (.ref 93), none, none] [] (hm mi ml mr) 0 0 Q) :
    ∀ (j k : Nat) (ml : Nat → Nat → Int64), 1 ≤ k → k + j = cnt → (∀ a, a ≠ 95 → ml a = ml0 a) → (∀ i, i < k → ml 95 i = lJ (if i = 0 then 0 else FARx)) → am_T l d M_K_findSizes 9 [some (.ref 93), some (.int (nI k)), none] [] (hm mi ml mr) 0 0 Q := by
  intro j
  induction j with
  | zero =>
    intro k ml h1 hj ho hv
    refine am_iload_n rfl rfl ?_
    refine am_aload_n rfl rfl ?_
    refine ho_getI rfl (by first | rfl | assumption) rfl ?_
    rw [hc]
    refine ho_icmp_ge rfl (by omega) (by omega) (fun _ => ?_) (fun z => absurd (by omega) z)
    refine am_drops [1] ?_
    exact hout ml ho (fun i hi => hv i (by omega))
  | succ j ih =>
    intro k ml h1 hj ho hv
    refine am_iload_n rfl rfl ?_
    refine am_aload_n rfl rfl ?_
    refine ho_getI rfl (by first | rfl | assumption) rfl ?_
    rw [hc]
    refine ho_icmp_ge rfl (by omega) (by omega) (fun z => absurd z (by omega)) (fun _ => ?_)
    refine am_aload_n rfl rfl ?_
    refine ho_getR rfl (by first | rfl | assumption) rfl (by first | assumption | exact hR _ _ _ rfl) ?_
    refine am_iload_n rfl rfl ?_
    refine am_ldc2 rfl rfl ?_
    refine ho_lastore rfl (by first | rfl | assumption) (by omega) ?_
    refine am_iinc rfl rfl (nI_inc1 _) ?_
    show am_T _ _ _ _ [_, some _, _] _ _ _ _ _
    refine am_goto rfl ?_
    refine ih (k + 1) _ (by omega) (by omega) (fun a ha => by rw [up2_off _ _ _ ha]; exact ho a ha) (fun i hi => ?_)
    unfold up2
    by_cases e : i = k
    · rw [if_pos ⟨rfl, e⟩, if_neg (by omega)]
      rfl
    · rw [if_neg (fun z => e z.2)]
      exact hv i (by omega)
/-- findSizes(): the least sizes -/
theorem c_K_findSizes (hR : SR mr) (hS : okS S) (ml0 : Nat → Nat → Int64) (hX : repX S ip n mi ml0) (hK : XK S ip n cnt L false mi ml0) (hA : XAll S ip n cnt cnt L mi ml0) : am_T l (d + 2) M_K_findSizes 0 [some (.ref 93), none, none] [] (hm mi ml0 mr) 0 0 (fun r h' => r = none ∧ ∃ v ml, h' = hm mi ml mr ∧ (∀ a, a ≠ 95 → a ≠ 97 → ml a = ml0 a) ∧ XV S cnt v ml ∧ FinV S (ml0 94) cnt v) := by
  obtain ⟨⟨⟨c1, c40⟩, L1, L161⟩, ⟨e1, e2, e3⟩, -⟩ := id hK
  refine am_aload_n rfl rfl ?_
  refine ho_getR rfl (by first | rfl | assumption) rfl (by first | assumption | exact hR _ _ _ rfl) ?_
  refine am_iconst (v := nI 0) rfl (by decide) ?_
  refine am_lconst (v := 0) rfl (by decide) ?_
  refine ho_lastore rfl (by first | rfl | assumption) (by omega) ?_
  refine am_iconst (v := nI 1) rfl (by decide) ?_
  refine am_istore_n rfl (Nat.le_of_ble_eq_true rfl) ?_
  show am_T _ _ _ _ [_, some _, _] _ _ _ _ _
  refine c_K_findSizes_init hR c40 e1 ml0 (fun ml1 g1 g2 => ?_) (cnt - 1) 1 _ (Nat.le_refl _) (by omega) (fun a ha => up2_off _ _ _ ha) (fun i hi => ?_)
  · refine am_iconst (v := nI 1) rfl (by decide) ?_
    refine am_istore_n rfl (Nat.le_of_ble_eq_true rfl) ?_
    show am_T _ _ _ _ [_, some _, _] _ _ _ _ _
    refine am_iconst (v := nI 0) rfl (by decide) ?_
    refine am_istore_n rfl (Nat.le_of_ble_eq_true rfl) ?_
    show am_T _ _ _ _ [_, _, some _] _ _ _ _ _
    refine c_K_findSizes_loop hR hS ml0 hX hK hA (fun v ml a1 a2 a3 => ⟨rfl, v, ml, rfl, a1, a2, a3⟩) 41 0 (fun k => if k = 0 then 0 else FARx) ml1 true rfl (fun a h1 _ => g1 a h1) ⟨g2, rfl, fun y => ?_, fun y h1 _ => Or.inl (if_neg (by omega))⟩ (Or.inr ⟨Nat.zero_le _, rfl⟩)
    show (if y = 0 then 0 else FARx) ≤ FARx
    split <;> omega
  · have : i = 0 := by omega
    subst this
    unfold up2
    rw [if_pos ⟨rfl, rfl⟩]
    rfl
end Z6
