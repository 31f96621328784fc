/-! the class: fitsRoom -/
/-- all that is known of the kinds -/
def XKn (S : Rs) (ip : Nat → Nat) (n cnt : Nat) (tm : Bool) (mi : Nat → Nat → Int32) (ml : Nat → Nat → Int64) : Prop := ∃ L, XK S ip n cnt L tm mi ml ∧ (tm = false → XAll S ip n cnt cnt L mi ml ∧ (∀ b, b < 6 → MemB S cnt (ml 94) (ml 101 b) b) ∧ ∃ v, XV S cnt v ml ∧ FinV S (ml 94) cnt v)
/-- what fitsRoom leaves alone -/
def Fy (mi mi' : Nat → Nat → Int32) (ml ml' : Nat → Nat → Int64) : Prop := (∀ a, a ≠ 93 → a ≠ 96 → a ≠ 98 → a ≠ 99 → mi' a = mi a) ∧ (∀ j, j ≠ 1 → j ≠ 2 → j ≠ 3 → j ≠ 4 → mi' 93 j = mi 93 j) ∧ ∀ a, a ≠ 94 → a ≠ 95 → a ≠ 97 → a ≠ 101 → ml' a = ml a
section Y2
variable {l : Launch} {d : Nat} {mr : Nat → Nat → Option Nat} {S : Rs} {ip : Nat → Nat} {n : Nat}
theorem repX_known {mi : Nat → Nat → Int32} {ml : Nat → Nat → Int64} {x : Int32} (h : repX S ip n mi ml) : repX S ip n (up2 mi 93 1 x) ml := by
  unfold repX at h ⊢
  rw [up2_off _ _ _ (show (84 : Nat) ≠ 93 by decide), up2_off _ _ _ (show (85 : Nat) ≠ 93 by decide), up2_off _ _ _ (show (86 : Nat) ≠ 93 by decide)]
  exact h
theorem XKn_known {mi : Nat → Nat → Int32} {ml : Nat → Nat → Int64} {x : Int32} {cnt : Nat} {tm : Bool} (h : XKn S ip n cnt tm mi ml) : XKn S ip n cnt tm (up2 mi 93 1 x) ml := by
  have r : ∀ i, i ≠ 1 → up2 mi 93 1 x 93 i = mi 93 i := fun i hi => by unfold up2; rw [if_neg (fun z => hi z.2)]
  obtain ⟨L, h1, h2⟩ := h
  refine ⟨L, ?_, fun e => ⟨?_, (h2 e).2⟩⟩
  · unfold XK at h1 ⊢
    rw [r 2 (by decide), r 3 (by decide), r 4 (by decide), up2_off _ _ _ (show (96 : Nat) ≠ 93 by decide)]
    exact h1
  · have := (h2 e).1
    unfold XAll LL XJ at this ⊢
    rw [up2_off _ _ _ (show (96 : Nat) ≠ 93 by decide), up2_off _ _ _ (show (98 : Nat) ≠ 93 by decide), up2_off _ _ _ (show (99 : Nat) ≠ 93 by decide)]
    exact this
/-- fitsRoom() -/
theorem c_K_fitsRoom (hR : SR mr) (hS : okS S) (mi : Nat → Nat → Int32) (ml : Nat → Nat → Int64) (hX : repX S ip n mi ml) (kn : Bool) (hkn : mi 93 1 = bI kn) (hk : kn = true → ∃ cnt tm, XKn S ip n cnt tm mi ml) : am_T l (d + 4) M_K_fitsRoom 0 [some (.ref 93)] [] (hm mi ml mr) 0 0 (fun r h' => ∃ cnt tm mi' ml', r = some (.int (bI (!tm))) ∧ h' = hm mi' ml' mr ∧ repX S ip n mi' ml' ∧ XKn S ip n cnt tm mi' ml' ∧ mi' 93 1 = bI true ∧ Fy mi mi' ml ml') := by
  have fin : ∀ (cnt : Nat) (tm : Bool) (mi' : Nat → Nat → Int32) (ml' : Nat → Nat → Int64), repX S ip n mi' ml' → XKn S ip n cnt tm mi' ml' → mi' 93 1 = bI true → Fy mi mi' ml ml' → am_T l (d + 4) M_K_fitsRoom 31 [some (.ref 93)] [] (hm mi' ml' mr) 0 0 (fun r h' => ∃ cnt tm mi' ml', r = some (.int (bI (!tm))) ∧ h' = hm mi' ml' mr ∧ repX S ip n mi' ml' ∧ XKn S ip n cnt tm mi' ml' ∧ mi' 93 1 = bI true ∧ Fy mi mi' ml ml') := by
    intro cnt tm mi' ml' g1 g2 g3 g4
    have e2 : mi' 93 2 = bI tm := by
      obtain ⟨L, h1, -⟩ := g2
      exact h1.2.1.2.2
    refine am_aload_n rfl rfl ?_
    refine ho_getI rfl (by first | rfl | assumption) rfl ?_
    rw [e2]
    refine am_if_ne rfl (fun q => ?_) (fun q => ?_)
    · refine am_iconst (v := nI 0) rfl (by decide) ?_
      refine am_zreturn rfl rfl (Or.inl rfl) ⟨cnt, tm, mi', ml', ?_, rfl, g1, g2, g3, g4⟩
      rw [(bI_ne _).mp q]
      rfl
    · refine am_iconst (v := nI 1) rfl (by decide) ?_
      refine am_goto rfl ?_
      refine am_zreturn rfl rfl (Or.inr rfl) ⟨cnt, tm, mi', ml', ?_, rfl, g1, g2, g3, g4⟩
      rw [(bI_eq _).mp q]
      rfl
  have put : ∀ (cnt : Nat) (tm : Bool) (mi' : Nat → Nat → Int32) (ml' : Nat → Nat → Int64), repX S ip n mi' ml' → XKn S ip n cnt tm mi' ml' → Fy mi mi' ml ml' → am_T l (d + 4) M_K_fitsRoom 26 [some (.ref 93)] [] (hm mi' ml' mr) 0 0 (fun r h' => ∃ cnt tm mi' ml', r = some (.int (bI (!tm))) ∧ h' = hm mi' ml' mr ∧ repX S ip n mi' ml' ∧ XKn S ip n cnt tm mi' ml' ∧ mi' 93 1 = bI true ∧ Fy mi mi' ml ml') := by
    intro cnt tm mi' ml' g1 g2 g4
    refine am_aload_n rfl rfl ?_
    refine am_iconst (v := nI 1) rfl (by decide) ?_
    refine ho_putI rfl (by first | rfl | assumption) rfl (by first | rfl | assumption) ?_
    refine fin cnt tm _ ml' (repX_known g1) (XKn_known g2) ?_ ⟨fun a h1 h2 h3 h4 => ?_, fun j h1 h2 h3 h4 => ?_, g4.2.2⟩
    · unfold up2
      rw [if_pos ⟨rfl, rfl⟩]
      rfl
    · rw [up2_off _ _ _ h1]
      exact g4.1 a h1 h2 h3 h4
    · unfold up2
      rw [if_neg (fun z => h1 z.2)]
      exact g4.2.1 j h1 h2 h3 h4
  refine am_aload_n rfl rfl ?_
  refine ho_getI rfl (by first | rfl | assumption) rfl ?_
  rw [hkn]
  refine am_if_ne rfl (fun q => ?_) (fun q => ?_)
  · have e := (bI_ne _).mp q
    obtain ⟨cnt, tm, h⟩ := hk e
    exact fin cnt tm mi ml hX h (by rw [hkn, e]) ⟨fun _ _ _ _ _ => rfl, fun _ _ _ _ _ => rfl, fun _ _ _ _ _ => rfl⟩
  refine am_aload_n rfl rfl ?_
  refine ho_cv0 rfl (by first | rfl | assumption) rfl (Nat.le_of_ble_eq_true rfl) (Nat.le_of_ble_eq_true rfl) (c_K_findKinds hR hS mi ml hX) ?_
  rintro v h' ⟨rfl, cnt, L, tm, mi1, ml1, rfl, hX1, hK1, hA1, hF1⟩
  show am_T _ _ _ _ _ [] _ _ _ _
  have f1 : Fy mi mi1 ml ml1 := ⟨hF1.1, fun j _ h2 h3 h4 => hF1.2.1 j h2 h3 h4, fun a h1 _ _ _ => hF1.2.2 a h1⟩
  refine am_aload_n rfl rfl ?_
  refine ho_getI rfl (by first | rfl | assumption) rfl ?_
  rw [hK1.2.1.2.2]
  refine am_if_ne rfl (fun q2 => ?_) (fun q2 => ?_)
  · have e := (bI_ne _).mp q2
    exact put cnt tm mi1 ml1 hX1 ⟨L, hK1, fun z => by rw [e] at z; cases z⟩ f1
  have e := (bI_eq _).mp q2
  subst e
  have hA := hA1 rfl
  refine am_aload_n rfl rfl ?_
  refine ho_cv0 rfl (by first | rfl | assumption) rfl (Nat.le_of_ble_eq_true rfl) (Nat.le_of_ble_eq_true rfl) (c_K_findMembers hR hS hK1.1.1.2 hK1.2.1.1 ml1 hX1) ?_
  rintro v h' ⟨rfl, ml2, rfl, o2, hM⟩
  show am_T _ _ _ _ _ [] _ _ _ _
  have hX2 : repX S ip n mi1 ml2 := repX_ml2 (fun a ha => o2 a (by omega)) hX1
  have hK2 := XK_ml2 (o2 94 (by decide)) hK1
  have hA2 := XAll_ml2 (o2 94 (by decide)) hA
  refine am_aload_n rfl rfl ?_
  refine ho_cv0 rfl (by first | rfl | assumption) rfl (Nat.le_of_ble_eq_true rfl) (Nat.le_of_ble_eq_true rfl) (c_K_findSizes hR hS ml2 hX2 hK2 hA2) ?_
  rintro v h' ⟨rfl, w, ml3, rfl, o3, hV, hFin⟩
  show am_T _ _ _ _ _ [] _ _ _ _
  have e94 : ml3 94 = ml2 94 := o3 94 (by decide) (by decide)
  refine put cnt false mi1 ml3 (repX_ml2 (fun a ha => o3 a (by omega) (by omega)) hX2) ⟨L, XK_ml2 e94 hK2, fun _ => ⟨XAll_ml2 e94 hA2, fun b hb => ?_, w, hV, by rw [e94]; exact hFin⟩⟩ ⟨f1.1, f1.2.1, fun a h1 h2 h3 h4 => (o3 a h2 h3).trans ((o2 a h4).trans (f1.2.2 a h1 h2 h3 h4))⟩
  rw [e94, o3 101 (by decide) (by decide), o2 94 (by decide)]
  exact hM b hb
end Y2
