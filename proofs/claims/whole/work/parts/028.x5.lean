/-! the class: findLetters, findKinds -/
/-- the kinds and letters found so far -/
def XK (S : Rs) (ip : Nat → Nat) (n cnt L : Nat) (tm : Bool) (mi : Nat → Nat → Int32) (ml : Nat → Nat → Int64) : Prop :=
  ((1 ≤ cnt ∧ cnt ≤ 40) ∧ (1 ≤ L ∧ L ≤ 161)) ∧ (mi 93 3 = nI cnt ∧ mi 93 4 = nI L ∧ mi 93 2 = bI tm) ∧ ml 94 0 = K0 S ∧ (∀ a b, 1 ≤ a → a < b → b < cnt → ml 94 a ≠ ml 94 b) ∧ (∀ a, 1 ≤ a → a < cnt → Reach S (ml 94 a)) ∧
  (∀ y, y < L → ∃ f c, 1 ≤ f ∧ f ≤ 5 ∧ (c = K0 S ∨ Reach S c) ∧ mi 96 y = ofI (fitP S ip n f (tb c))) ∧ mi 96 0 = ofI (fitP S ip n 1 (tb 0)) ∧ (tm = true → cnt = 40 ∧ ∃ m, Reach S m ∧ ∀ a, 1 ≤ a → a < 40 → ml 94 a ≠ m)
def LL (S : Rs) (ip : Nat → Nat) (n L : Nat) (mi : Nat → Nat → Int32) (ml : Nat → Nat → Int64) (q c : Nat) : Prop := ∃ y, y < L ∧ mi 98 (q * 40 + c) = nI y ∧ mi 96 y = ofI (fitP S ip n (q + 2) (tb (ml 94 c)))
def XJ (S : Rs) (ip : Nat → Nat) (n cnt : Nat) (mi : Nat → Nat → Int32) (ml : Nat → Nat → Int64) (y t : Nat) : Prop := ∃ k, 1 ≤ k ∧ k < cnt ∧ mi 99 (y * 40 + t) = nI k ∧ ml 94 k = joF S ip n (mi 96 y) (ml 94 t)
/-- what stays -/
def XKeep (S : Rs) (ip : Nat → Nat) (n cnt L : Nat) (mi : Nat → Nat → Int32) (ml : Nat → Nat → Int64) (cnt' L' : Nat) (mi' : Nat → Nat → Int32) (ml' : Nat → Nat → Int64) : Prop :=
  cnt ≤ cnt' ∧ L ≤ L' ∧ (∀ q c, c < cnt → LL S ip n L mi ml q c → LL S ip n L' mi' ml' q c) ∧ ∀ y t, y < L → t < cnt → XJ S ip n cnt mi ml y t → XJ S ip n cnt' mi' ml' y t
theorem XKeep.rf {S : Rs} {ip : Nat → Nat} {n cnt L : Nat} {mi : Nat → Nat → Int32} {ml : Nat → Nat → Int64} : XKeep S ip n cnt L mi ml cnt L mi ml := ⟨Nat.le_refl _, Nat.le_refl _, fun _ _ _ h => h, fun _ _ _ _ h => h⟩
theorem XKeep.tr {S : Rs} {ip : Nat → Nat} {n c1 c2 c3 L1 L2 L3 : Nat} {m1 m2 m3 : Nat → Nat → Int32} {l1 l2 l3 : Nat → Nat → Int64} (h : XKeep S ip n c1 L1 m1 l1 c2 L2 m2 l2) (h' : XKeep S ip n c2 L2 m2 l2 c3 L3 m3 l3) : XKeep S ip n c1 L1 m1 l1 c3 L3 m3 l3 :=
  ⟨Nat.le_trans h.1 h'.1, Nat.le_trans h.2.1 h'.2.1, fun q c hc hl => h'.2.2.1 q c (Nat.lt_of_lt_of_le hc h.1) (h.2.2.1 q c hc hl), fun y t hy ht hx => h'.2.2.2 y t (Nat.lt_of_lt_of_le hy h.2.1) (Nat.lt_of_lt_of_le ht h.1) (h.2.2.2 y t hy ht hx)⟩
def Fx (mi mi' : Nat → Nat → Int32) (ml ml' : Nat → Nat → Int64) : Prop := (∀ a, a ≠ 93 → a ≠ 96 → a ≠ 98 → a ≠ 99 → mi' a = mi a) ∧ (∀ j, j ≠ 2 → j ≠ 3 → j ≠ 4 → mi' 93 j = mi 93 j) ∧ ∀ a, a ≠ 94 → ml' a = ml a
theorem Fx.rf {mi : Nat → Nat → Int32} {ml : Nat → Nat → Int64} : Fx mi mi ml ml := ⟨fun _ _ _ _ _ => rfl, fun _ _ _ _ => rfl, fun _ _ => rfl⟩
theorem Fx.tr {mi mi' mi'' : Nat → Nat → Int32} {ml ml' ml'' : Nat → Nat → Int64} (h : Fx mi mi' ml ml') (h' : Fx mi' mi'' ml' ml'') : Fx mi mi'' ml ml'' :=
  ⟨fun a h1 h2 h3 h4 => (h'.1 a h1 h2 h3 h4).trans (h.1 a h1 h2 h3 h4), fun j h1 h2 h3 => (h'.2.1 j h1 h2 h3).trans (h.2.1 j h1 h2 h3), fun a ha => (h'.2.2 a ha).trans (h.2.2 a ha)⟩
theorem Fx.rep {S : Rs} {ip : Nat → Nat} {n : Nat} {mi mi' : Nat → Nat → Int32} {ml ml' : Nat → Nat → Int64} (h : Fx mi mi' ml ml') (hX : repX S ip n mi ml) : repX S ip n mi' ml' := by
  unfold repX at hX ⊢
  rw [h.1 84 (by decide) (by decide) (by decide) (by decide), h.1 85 (by decide) (by decide) (by decide) (by decide), h.1 86 (by decide) (by decide) (by decide) (by decide), h.2.2 84 (by decide), h.2.2 87 (by decide), h.2.2 88 (by decide), h.2.2 89 (by decide), h.2.2 90 (by decide), h.2.2 91 (by decide)]
  exact hX
theorem fx_lab (q : Nat) : fx (q + 2) = q := by
  unfold fx
  rw [if_neg (by omega)]
  omega
theorem XK.re {S : Rs} {ip : Nat → Nat} {n cnt L : Nat} {tm : Bool} {mi : Nat → Nat → Int32} {ml : Nat → Nat → Int64} (h : XK S ip n cnt L tm mi ml) {a : Nat} (ha : a < cnt) : ml 94 a = K0 S ∨ Reach S (ml 94 a) := by
  rcases Nat.eq_zero_or_pos a with e | e
  · subst e
    exact Or.inl h.2.2.1
  · exact Or.inr (h.2.2.2.2.1 a e ha)
section X5
variable {l : Launch} {d : Nat} {mr : Nat → Nat → Option Nat} {S : Rs} {ip : Nat → Nat} {n : Nat}
theorem c_K_findLetters_loop (hR : SR mr) (hS : okS S) (k cnt : Nat) (tm : Bool) (hk : k < cnt) {Q : Option Value → am_H → Prop} : ∀ (j q L : Nat) (mi : Nat → Nat → Int32) (ml : Nat → Nat → Int64), q + j = 4 → L + j ≤ 161 → repX S ip n mi ml → XK S ip n cnt L tm mi ml →
    (∀ L' mi', repX S ip n mi' ml → XK S ip n cnt L' tm mi' ml → L' ≤ L + j → XKeep S ip n cnt L mi ml cnt L' mi' ml → (∀ q', q ≤ q' → q' < 4 → LL S ip n L' mi' ml q' k) → Fx mi mi' ml ml → Q none (hm mi' ml mr)) →
    am_T l (d + 2) M_K_findLetters 2 [some (.ref 93), some (.int (nI k)), some (.int (nI q))] [] (hm mi ml mr) 0 0 Q := by
  intro j
  induction j with
  | zero =>
    intro q L mi ml hj hL hX hK hout
    refine am_iload_n rfl rfl ?_
    refine am_iconst (v := nI 4) rfl (by decide) ?_
    refine ho_icmp_ge rfl (by omega) (by omega) (fun _ => ?_) (fun z => absurd (by omega) z)
    exact am_return rfl rfl (hout L mi hX hK (by omega) XKeep.rf (fun q' h1 h2 => by omega) Fx.rf)
  | succ j ih =>
    intro q L mi ml hj hL hX hK hout
    obtain ⟨⟨⟨c1, c40⟩, L1, L161⟩, ⟨e1, e2, e3⟩, h0, hd, hre, hlet, hl0, htm⟩ := id hK
    refine am_iload_n rfl rfl ?_
    refine am_iconst (v := nI 4) rfl (by decide) ?_
    refine ho_icmp_ge rfl (by omega) (by omega) (fun z => absurd z (by omega)) (fun _ => ?_)
    refine am_aload_n rfl rfl ?_
    refine ho_getR rfl (by first | rfl | assumption) rfl (by first | assumption | exact hR _ _ _ rfl) ?_
    refine am_iload_n rfl rfl ?_
    refine am_bipush (v := nI 40) rfl (by decide) ?_
    first | refine ho_muln rfl ?_ | refine am_imul rfl ?_
    refine am_iload_n rfl rfl ?_
    first | refine ho_addn rfl ?_ | refine am_iadd rfl ?_
    refine am_aload_n rfl rfl ?_
    refine am_aload_n rfl rfl ?_
    refine ho_getR rfl (by first | rfl | assumption) rfl (by first | assumption | exact hR _ _ _ rfl) ?_
    refine am_iload_n rfl rfl ?_
    refine am_aload_n rfl rfl ?_
    refine ho_getR rfl (by first | rfl | assumption) rfl (by first | assumption | exact hR _ _ _ rfl) ?_
    refine am_iload_n rfl rfl ?_
    refine ho_laload rfl (by first | rfl | assumption) (by omega) ?_
    have k1 := c_S_fitting (l := l) (d := d) (mr := mr) hR hS hX (q + 2) (by omega) (by omega) (ml 94 k)
    rw [fx_lab q] at k1
    refine ho_cv2 rfl (by first | rfl | assumption) rfl (Nat.le_of_ble_eq_true rfl) (Nat.le_of_ble_eq_true rfl) (k1) ?_
    rintro v h' ⟨rfl, rfl⟩
    refine ho_cv1 rfl (by first | rfl | assumption) rfl (Nat.le_of_ble_eq_true rfl) (Nat.le_of_ble_eq_true rfl) (c_K_letterFor hR L e2 (by omega) _) ?_
    have keepJ : ∀ (L' : Nat) (mi' : Nat → Nat → Int32), L ≤ L' → (∀ y, y < L → mi' 96 y = mi 96 y) → mi' 99 = mi 99 → (∀ i, i ≠ q * 40 + k → mi' 98 i = mi 98 i) → LL S ip n L' mi' ml q k → XKeep S ip n cnt L mi ml cnt L' mi' ml := by
      intro L' mi' a1 a2 a3 a4 a5
      refine ⟨Nat.le_refl _, a1, fun q' c' hc' hl => ?_, fun y t hy ht hx => ?_⟩
      · by_cases e : q' * 40 + c' = q * 40 + k
        · have e1 : q' = q := by omega
          have e2 : c' = k := by omega
          subst e1; subst e2
          exact a5
        · obtain ⟨y, b1, b2, b3⟩ := hl
          exact ⟨y, by omega, by rw [a4 _ e]; exact b2, by rw [a2 y b1]; exact b3⟩
      · obtain ⟨x, b1, b2, b3, b4⟩ := hx
        exact ⟨x, b1, b2, by rw [a3]; exact b3, by rw [a2 y hy]; exact b4⟩
    rintro v h' (⟨x, x1, x2, rfl, rfl⟩ | ⟨rfl, rfl⟩)
    · show am_T _ _ _ _ _ (_ :: _ :: _ :: []) _ _ _ _
      refine ho_iastore rfl rfl (by omega) ?_
      refine am_iinc rfl rfl (nI_inc1 _) ?_
      show am_T _ _ _ _ [_, _, some _] _ _ _ _ _
      refine am_goto rfl ?_
      have f1 : Fx mi (up2 mi 98 (q * 40 + k) (nI x)) ml ml := ⟨fun a _ _ h3 _ => up2_off _ _ _ h3, fun j _ _ _ => by rw [up2_off _ _ _ (by decide)], fun _ _ => rfl⟩
      have hK' : XK S ip n cnt L tm (up2 mi 98 (q * 40 + k) (nI x)) ml := by
        unfold XK
        rw [up2_off _ _ _ (show (93 : Nat) ≠ 98 by decide), up2_off _ _ _ (show (96 : Nat) ≠ 98 by decide)]
        exact hK
      have hLL : LL S ip n L (up2 mi 98 (q * 40 + k) (nI x)) ml q k := ⟨x, x1, by simp [up2], by rw [up2_off _ _ _ (show (96 : Nat) ≠ 98 by decide)]; exact x2⟩
      refine ih (q + 1) L _ ml (by omega) (by omega) (f1.rep hX) hK' (fun L' mi' g1 g2 g3 g4 g5 g6 => ?_)
      refine hout L' mi' g1 g2 (by omega) ((keepJ L _ (Nat.le_refl _) (fun y _ => by rw [up2_off _ _ _ (show (96 : Nat) ≠ 98 by decide)]) (up2_off _ _ _ (by decide)) (fun i hi => by unfold up2; rw [if_neg (fun z => hi z.2)]) hLL).tr g4) (fun q' h1 h2 => ?_) (f1.tr g6)
      rcases Nat.eq_or_lt_of_le h1 with e | e
      · subst e
        exact g4.2.2.1 _ _ hk hLL
      · exact g5 q' e h2
    · show am_T _ _ _ _ _ (_ :: _ :: _ :: []) _ _ _ _
      refine ho_iastore rfl rfl (by omega) ?_
      refine am_iinc rfl rfl (nI_inc1 _) ?_
      show am_T _ _ _ _ [_, _, some _] _ _ _ _ _
      refine am_goto rfl ?_
      generalize hmi : up2 (up2 (up2 mi 96 L (ofI (fitP S ip n (q + 2) (tb (ml 94 k))))) 93 4 (nI (L + 1))) 98 (q * 40 + k) (nI L) = mi1
      have r96 : ∀ y, y < L → mi1 96 y = mi 96 y := by
        intro y hy
        rw [← hmi, up2_off _ _ _ (show (96 : Nat) ≠ 98 by decide), up2_off _ _ _ (show (96 : Nat) ≠ 93 by decide)]
        unfold up2
        rw [if_neg (by omega)]
      have r96L : mi1 96 L = ofI (fitP S ip n (q + 2) (tb (ml 94 k))) := by
        rw [← hmi, up2_off _ _ _ (show (96 : Nat) ≠ 98 by decide), up2_off _ _ _ (show (96 : Nat) ≠ 93 by decide)]
        simp [up2]
      have r93 : ∀ i, i ≠ 4 → mi1 93 i = mi 93 i := by
        intro i hi
        rw [← hmi, up2_off _ _ _ (show (93 : Nat) ≠ 98 by decide)]
        unfold up2
        rw [if_neg (fun z => hi z.2), if_neg (by omega)]
      have r93L : mi1 93 4 = nI (L + 1) := by
        rw [← hmi, up2_off _ _ _ (show (93 : Nat) ≠ 98 by decide)]
        simp [up2]
      have roff : ∀ a, a ≠ 93 → a ≠ 96 → a ≠ 98 → mi1 a = mi a := by
        intro a h1 h2 h3
        rw [← hmi, up2_off _ _ _ h3, up2_off _ _ _ h1, up2_off _ _ _ h2]
      have r98 : ∀ i, i ≠ q * 40 + k → mi1 98 i = mi 98 i := by
        intro i hi
        rw [← hmi]
        unfold up2
        rw [if_neg (fun z => hi z.2), if_neg (by omega), if_neg (by omega)]
      have r98k : mi1 98 (q * 40 + k) = nI L := by
        rw [← hmi]
        simp [up2]
      have f1 : Fx mi mi1 ml ml := ⟨fun a h1 h2 h3 _ => roff a h1 h2 h3, fun i _ _ h4 => r93 i h4, fun _ _ => rfl⟩
      have hK' : XK S ip n cnt (L + 1) tm mi1 ml := by
        refine ⟨⟨⟨c1, c40⟩, by omega, by omega⟩, ⟨by rw [r93 3 (by decide)]; exact e1, r93L, by rw [r93 2 (by decide)]; exact e3⟩, h0, hd, hre, fun y hy => ?_, by rw [r96 0 (by omega)]; exact hl0, htm⟩
        rcases Nat.lt_succ_iff_lt_or_eq.mp hy with e | e
        · rw [r96 y e]
          exact hlet y e
        · subst e
          exact ⟨q + 2, ml 94 k, by omega, by omega, hK.re hk, r96L⟩
      have hLL : LL S ip n (L + 1) mi1 ml q k := ⟨L, by omega, r98k, r96L⟩
      refine ih (q + 1) (L + 1) mi1 ml (by omega) (by omega) (f1.rep hX) hK' (fun L' mi' g1 g2 g3 g4 g5 g6 => ?_)
      refine hout L' mi' g1 g2 (by omega) ((keepJ (L + 1) mi1 (by omega) r96 (roff 99 (by decide) (by decide) (by decide)) r98 hLL).tr g4) (fun q' h1 h2 => ?_) (f1.tr g6)
      rcases Nat.eq_or_lt_of_le h1 with e | e
      · subst e
        exact g4.2.2.1 _ _ hk hLL
      · exact g5 q' e h2
end X5
