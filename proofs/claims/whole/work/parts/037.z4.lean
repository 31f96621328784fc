/-! the class: findLetterSizes -/
def FARx : Nat := 1152921504606846976
/-- sizes that some hedges have, or FAR -/
def XV (S : Rs) (cnt : Nat) (v : Nat → Nat) (ml : Nat → Nat → Int64) : Prop := (∀ k, k < cnt → ml 95 k = lJ (v k)) ∧ v 0 = 0 ∧ (∀ k, v k ≤ FARx) ∧ ∀ k, 1 ≤ k → k < cnt → v k = FARx ∨ HSz S (ml 94 k) (v k)
/-- a first node of the letter y, with its content, has s nodes -/
def LZ (S : Rs) (ip : Nat → Nat) (n : Nat) (mi : Nat → Nat → Int32) (y s : Nat) : Prop := ∃ f c sc, 1 ≤ f ∧ f ≤ 5 ∧ mi 96 y = ofI (fitP S ip n f (tb c)) ∧ ((c = K0 S ∧ sc = 0) ∨ HSz S c sc) ∧ s = 1 + (if f = 1 then 0 else sc)
def UI (S : Rs) (ip : Nat → Nat) (n L : Nat) (mi : Nat → Nat → Int32) (u : Nat → Nat) (ml : Nat → Nat → Int64) : Prop := (∀ y, y < L → ml 97 y = lJ (u y)) ∧ u 0 ≤ 1 ∧ (∀ y, u y ≤ FARx) ∧ ∀ y, y < L → u y = FARx ∨ LZ S ip n mi y (u y)
/-- the letters of the first labels and contents have been made as small as they say -/
def LD (L cnt : Nat) (mi : Nat → Nat → Int32) (v u : Nat → Nat) (q c : Nat) : Prop := ∀ q' c', c' < cnt → (q' < q ∨ (q' = q ∧ c' < c)) → ∀ y, y < L → mi 98 (q' * 40 + c') = nI y → u y ≤ 1 + v c'
section Z4
variable {l : Launch} {d : Nat} {mi : Nat → Nat → Int32} {mr : Nat → Nat → Option Nat} {S : Rs} {ip : Nat → Nat} {n cnt L : Nat}
theorem c_K_fls_in (hR : SR mr) (ml0 : Nat → Nat → Int64) (hK : XK S ip n cnt L false mi ml0) (hA : XAll S ip n cnt cnt L mi ml0) (v : Nat → Nat) (hV : XV S cnt v ml0) (q : Nat) (hq : q < 4) {Q : Option Value → am_H → Prop}
    (hout : ∀ u ml, (∀ a, a ≠ 97 → ml a = ml0 a) → UI S ip n L mi u ml → LD L cnt mi v u (q + 1) 0 → am_T l (d + 1) M_K_findLetterSizes 34 [some (.ref 93), some (.int (nI (q + 1))), none, none] [] (hm mi ml mr) 0 0 Q) :
    ∀ (j c : Nat) (u : Nat → Nat) (ml : Nat → Nat → Int64), c + j = cnt → (∀ a, a ≠ 97 → ml a = ml0 a) → UI S ip n L mi u ml → LD L cnt mi v u q c → am_T l (d + 1) M_K_findLetterSizes 41 [some (.ref 93), some (.int (nI q)), some (.int (nI c)), none] [] (hm mi ml mr) 0 0 Q := by
  obtain ⟨⟨⟨c1, c40⟩, L1, L161⟩, ⟨e1, e2, e3⟩, h0, hd, hre, hlet, hl0, htm⟩ := id hK
  have hF : FARx = 1152921504606846976 := rfl
  intro j
  induction j with
  | zero =>
    intro c u ml hj ho hU hD
    refine am_iload_n rfl rfl ?_
    refine am_aload_n rfl rfl ?_
    refine ho_getI rfl (by first | rfl | assumption) rfl ?_
    rw [e1]
    refine ho_icmp_ge rfl (by omega) (by omega) (fun _ => ?_) (fun z => absurd (by omega) z)
    refine am_iinc rfl rfl (nI_inc1 _) ?_
    show am_T _ _ _ _ [_, some _, _, _] _ _ _ _ _
    refine am_goto rfl ?_
    refine am_drops [2] ?_
    refine hout u ml ho hU (fun q' c' hc' h => hD q' c' hc' ?_)
    omega
  | succ j ih =>
    intro c u ml hj ho hU hD
    obtain ⟨y, hy, h98, h96⟩ := hA.1 q hq c (by omega)
    refine am_iload_n rfl rfl ?_
    refine am_aload_n rfl rfl ?_
    refine ho_getI rfl (by first | rfl | assumption) rfl ?_
    rw [e1]
    refine ho_icmp_ge rfl (by omega) (by omega) (fun z => absurd z (by omega)) (fun _ => ?_)
    refine am_aload_n rfl rfl ?_
    refine ho_getR rfl (by first | rfl | assumption) rfl (by first | assumption | exact hR _ _ _ rfl) ?_
    refine am_iload_n rfl rfl ?_
    refine am_bipush (v := nI 40) rfl (by decide) ?_
    first | refine ho_muln rfl ?_ | refine am_imul rfl ?_
    refine am_iload_n rfl rfl ?_
    first | refine ho_addn rfl ?_ | refine am_iadd rfl ?_
    refine ho_iaload rfl (by first | rfl | assumption) (by omega) ?_
    rw [h98]
    refine am_istore_n rfl (Nat.le_of_ble_eq_true rfl) ?_
    show am_T _ _ _ _ [_, _, _, some _] _ _ _ _ _
    refine am_aload_n rfl rfl ?_
    refine ho_getR rfl (by first | rfl | assumption) rfl (by first | assumption | exact hR _ _ _ rfl) ?_
    refine am_iload_n rfl rfl ?_
    refine am_aload_n rfl rfl ?_
    refine ho_getR rfl (by first | rfl | assumption) rfl (by first | assumption | exact hR _ _ _ rfl) ?_
    refine am_iload_n rfl rfl ?_
    refine ho_laload rfl (by first | rfl | assumption) (by omega) ?_
    rw [hU.1 y hy]
    refine am_lconst (v := 1) rfl (by decide) ?_
    refine am_aload_n rfl rfl ?_
    refine ho_getR rfl (by first | rfl | assumption) rfl (by first | assumption | exact hR _ _ _ rfl) ?_
    refine am_iload_n rfl rfl ?_
    refine ho_laload rfl (by first | rfl | assumption) (by omega) ?_
    rw [ho 95 (by decide), hV.1 c (by omega)]
    refine am_ladd rfl ?_
    rw [show (1 : Int64) = lJ 1 from rfl, lJ_add]
    refine am_mmin rfl (Nat.le_of_ble_eq_true rfl) ?_
    have hu := hU.2.2.1 y
    have hv := hV.2.2.1 c
    have hmin : (if lJ (1 + v c) < lJ (u y) then lJ (1 + v c) else lJ (u y)) = lJ (if 1 + v c < u y then 1 + v c else u y) := by
      by_cases e : 1 + v c < u y
      · rw [if_pos e, if_pos ((lJ_lt (by omega) (by omega)).mpr e)]
      · rw [if_neg e, if_neg (fun z => e ((lJ_lt (by omega) (by omega)).mp z))]
    rw [hmin]
    generalize hw : (if 1 + v c < u y then 1 + v c else u y) = w
    have hw1 : w ≤ u y := by rw [← hw]; split <;> omega
    have hw2 : w ≤ 1 + v c := by rw [← hw]; split <;> omega
    refine ho_lastore rfl rfl (by omega) ?_
    refine am_iinc rfl rfl (nI_inc1 _) ?_
    show am_T _ _ _ _ [_, _, some _, _] _ _ _ _ _
    refine am_goto rfl ?_
    refine am_drops [3] ?_
    have hle : ∀ x, (if x = y then w else u x) ≤ u x := by
      intro x
      by_cases e : x = y
      · rw [if_pos e, e]; exact hw1
      · rw [if_neg e]; exact Nat.le_refl _
    refine ih (c + 1) (fun x => if x = y then w else u x) _ (by omega) (fun a ha => by rw [up2_off _ _ _ ha]; exact ho a ha) ⟨fun x hx => ?_, Nat.le_trans (hle 0) hU.2.1, fun x => Nat.le_trans (hle x) (hU.2.2.1 x), fun x hx => ?_⟩ (fun q' c' hc' h x hx hm98 => ?_)
    · unfold up2
      by_cases e : x = y
      · simp [e]
      · simp [e, hU.1 x hx]
    · show (if x = y then w else u x) = FARx ∨ LZ S ip n mi x (if x = y then w else u x)
      by_cases e : x = y
      · rw [if_pos e, e]
        by_cases e4 : 1 + v c < u y
        · rw [if_pos e4] at hw
          right
          refine ⟨q + 2, ml0 94 c, v c, by omega, by omega, h96, ?_, by rw [if_neg (by omega)]; exact hw.symm⟩
          rcases Nat.eq_zero_or_pos c with e0 | e0
          · subst e0
            exact Or.inl ⟨h0, hV.2.1⟩
          · rcases hV.2.2.2 c e0 (by omega) with g | g
            · omega
            · exact Or.inr g
        · rw [if_neg e4] at hw
          rw [← hw]
          exact hU.2.2.2 y hy
      · rw [if_neg e]
        exact hU.2.2.2 x hx
    · by_cases e : q' = q ∧ c' = c
      · obtain ⟨rfl, rfl⟩ := e
        have : x = y := (nI_eq (by omega) (by omega)).mp (hm98.symm.trans h98)
        show (if x = y then w else u x) ≤ _
        rw [if_pos this]
        exact hw2
      · exact Nat.le_trans (hle x) (hD q' c' hc' (by omega) x hx hm98)
theorem c_K_fls_out (hR : SR mr) (ml0 : Nat → Nat → Int64) (hK : XK S ip n cnt L false mi ml0) (hA : XAll S ip n cnt cnt L mi ml0) (v : Nat → Nat) (hV : XV S cnt v ml0) {Q : Option Value → am_H → Prop}
    (hout : ∀ u ml, (∀ a, a ≠ 97 → ml a = ml0 a) → UI S ip n L mi u ml → LD L cnt mi v u 4 0 → Q none (hm mi ml mr)) :
    ∀ (j q : Nat) (u : Nat → Nat) (ml : Nat → Nat → Int64), q + j = 4 → (∀ a, a ≠ 97 → ml a = ml0 a) → UI S ip n L mi u ml → LD L cnt mi v u q 0 → am_T l (d + 1) M_K_findLetterSizes 34 [some (.ref 93), some (.int (nI q)), none, none] [] (hm mi ml mr) 0 0 Q := by
  intro j
  induction j with
  | zero =>
    intro q u ml hj ho hU hD
    refine am_iload_n rfl rfl ?_
    refine am_iconst (v := nI 4) rfl (by decide) ?_
    refine ho_icmp_ge rfl (by omega) (by omega) (fun _ => ?_) (fun z => absurd (by omega) z)
    have : q = 4 := by omega
    subst this
    exact am_return rfl rfl (hout u ml ho hU hD)
  | succ j ih =>
    intro q u ml hj ho hU hD
    refine am_iload_n rfl rfl ?_
    refine am_iconst (v := nI 4) rfl (by decide) ?_
    refine ho_icmp_ge rfl (by omega) (by omega) (fun z => absurd z (by omega)) (fun _ => ?_)
    refine am_iconst (v := nI 0) rfl (by decide) ?_
    refine am_istore_n rfl (Nat.le_of_ble_eq_true rfl) ?_
    show am_T _ _ _ _ [_, _, some _, _] _ _ _ _ _
    exact c_K_fls_in hR ml0 hK hA v hV q (by omega) (fun u' ml' g1 g2 g3 => ih (q + 1) u' ml' (by omega) g1 g2 g3) cnt 0 u ml (by omega) ho hU hD
theorem c_K_fls_init (hR : SR mr) (h161 : L ≤ 161) (hL : mi 93 4 = nI L) (ml0 : Nat → Nat → Int64) {Q : Option Value → am_H → Prop}
    (hout : ∀ ml, (∀ a, a ≠ 97 → ml a = ml0 a) → (∀ k, k < L → ml 97 k = lJ (if k = 0 then 1 else FARx)) → am_T l d M_K_findLetterSizes 32 [some (.ref 93), none, none, none] [] (hm mi ml mr) 0 0 Q) :
    ∀ (j k : Nat) (ml : Nat → Nat → Int64), 1 ≤ k → k + j = L → (∀ a, a ≠ 97 → ml a = ml0 a) → (∀ i, i < k → ml 97 i = lJ (if i = 0 then 1 else FARx)) → am_T l d M_K_findLetterSizes 9 [some (.ref 93), some (.int (nI k)), none, none] [] (hm mi ml mr) 0 0 Q := by
  intro j
  induction j with
  | zero =>
    intro k ml h1 hj ho hv
    refine am_iload_n rfl rfl ?_
    refine am_aload_n rfl rfl ?_
    refine ho_getI rfl (by first | rfl | assumption) rfl ?_
    rw [hL]
    refine ho_icmp_ge rfl (by omega) (by omega) (fun _ => ?_) (fun z => absurd (by omega) z)
    refine am_drops [1] ?_
    exact hout ml ho (fun i hi => hv i (by omega))
  | succ j ih =>
    intro k ml h1 hj ho hv
    refine am_iload_n rfl rfl ?_
    refine am_aload_n rfl rfl ?_
    refine ho_getI rfl (by first | rfl | assumption) rfl ?_
    rw [hL]
    refine ho_icmp_ge rfl (by omega) (by omega) (fun z => absurd z (by omega)) (fun _ => ?_)
    refine am_aload_n rfl rfl ?_
    refine ho_getR rfl (by first | rfl | assumption) rfl (by first | assumption | exact hR _ _ _ rfl) ?_
    refine am_iload_n rfl rfl ?_
    refine am_ldc2 rfl rfl ?_
    refine ho_lastore rfl (by first | rfl | assumption) (by omega) ?_
    refine am_iinc rfl rfl (nI_inc1 _) ?_
    show am_T _ _ _ _ [_, some _, _, _] _ _ _ _ _
    refine am_goto rfl ?_
    refine ih (k + 1) _ (by omega) (by omega) (fun a ha => by rw [up2_off _ _ _ ha]; exact ho a ha) (fun i hi => ?_)
    unfold up2
    by_cases e : i = k
    · rw [if_pos ⟨rfl, e⟩, if_neg (by omega)]
      rfl
    · rw [if_neg (fun z => e z.2)]
      exact hv i (by omega)
/-- findLetterSizes() -/
theorem c_K_findLetterSizes (hR : SR mr) (ml0 : Nat → Nat → Int64) (hK : XK S ip n cnt L false mi ml0) (hA : XAll S ip n cnt cnt L mi ml0) (v : Nat → Nat) (hV : XV S cnt v ml0) : am_T l (d + 1) M_K_findLetterSizes 0 [some (.ref 93), none, none, none] [] (hm mi ml0 mr) 0 0 (fun r h' => r = none ∧ ∃ u ml, h' = hm mi ml mr ∧ (∀ a, a ≠ 97 → ml a = ml0 a) ∧ UI S ip n L mi u ml ∧ LD L cnt mi v u 4 0) := by
  obtain ⟨⟨⟨c1, c40⟩, L1, L161⟩, ⟨e1, e2, e3⟩, h0, hd, hre, hlet, hl0, htm⟩ := id hK
  refine am_aload_n rfl rfl ?_
  refine ho_getR rfl (by first | rfl | assumption) rfl (by first | assumption | exact hR _ _ _ rfl) ?_
  refine am_iconst (v := nI 0) rfl (by decide) ?_
  refine am_lconst (v := 1) rfl (by decide) ?_
  refine ho_lastore rfl (by first | rfl | assumption) (by omega) ?_
  refine am_iconst (v := nI 1) rfl (by decide) ?_
  refine am_istore_n rfl (Nat.le_of_ble_eq_true rfl) ?_
  show am_T _ _ _ _ [_, some _, _, _] _ _ _ _ _
  refine c_K_fls_init hR L161 e2 ml0 (fun ml1 g1 g2 => ?_) (L - 1) 1 _ (Nat.le_refl _) (by omega) (fun a ha => up2_off _ _ _ ha) (fun i hi => ?_)
  · refine am_iconst (v := nI 0) rfl (by decide) ?_
    refine am_istore_n rfl (Nat.le_of_ble_eq_true rfl) ?_
    show am_T _ _ _ _ [_, some _, _, _] _ _ _ _ _
    refine c_K_fls_out hR ml0 hK hA v hV (fun u ml a1 a2 a3 => ⟨rfl, u, ml, rfl, a1, a2, a3⟩) 4 0 (fun k => if k = 0 then 1 else FARx) ml1 rfl g1 ⟨g2, Nat.le_refl 1, fun y => ?_, fun y hy => ?_⟩ (fun q' c' _ h => by omega)
    · show (if y = 0 then 1 else FARx) ≤ FARx
      have hF : FARx = 1152921504606846976 := rfl
      split <;> omega
    · show (if y = 0 then 1 else FARx) = FARx ∨ LZ S ip n mi y (if y = 0 then 1 else FARx)
      by_cases e : y = 0
      · subst e
        right
        refine ⟨1, K0 S, 0, by omega, by omega, ?_, Or.inl ⟨rfl, rfl⟩, rfl⟩
        rw [hl0]
        congr 1
      · exact Or.inl (if_neg e)
  · have : i = 0 := by omega
    subst this
    unfold up2
    rw [if_pos ⟨rfl, rfl⟩]
    rfl
end Z4
