/-! the class: leastOf -/
/-- the least of the sizes of those that p picks, or -1 -/
def Lst (p : Nat → Bool) (cnt : Nat) (v : Nat → Nat) (r : Int64) : Prop := (r = -1 ∧ ∀ k, k < cnt → p k = false) ∨ ∃ k, k < cnt ∧ p k = true ∧ r = lJ (v k) ∧ ∀ k', k' < cnt → p k' = true → v k ≤ v k'
theorem lJ_nn {a : Nat} (h : a < 2 ^ 63) : lJ a ≠ -1 := by
  intro e
  have := congrArg Int64.toInt e
  rw [lJ_toInt h, show (-1 : Int64).toInt = -1 from rfl] at this
  omega
section Y3
variable {l : Launch} {d : Nat} {mi : Nat → Nat → Int32} {ml : Nat → Nat → Int64} {mr : Nat → Nat → Option Nat} {S : Rs} {cnt : Nat}
theorem c_K_leastOf_loop (hR : SR mr) (h40 : cnt ≤ 40) (hc : mi 93 3 = nI cnt) (v : Nat → Nat) (hv : ∀ k, k < cnt → ml 95 k = lJ (v k)) (hF : ∀ k, v k ≤ FARx) (m : Int64) {Q : Option Value → am_H → Prop} (hout : ∀ r, Lst (tb m) cnt v r → Q (some (.long r)) (hm mi ml mr)) :
    ∀ (j k : Nat) (r : Int64), k + j = cnt → Lst (tb m) k v r → am_T l d M_K_leastOf 7 [some (.ref 93), some (.long m), none, some (.long r), none, some (.int (nI k))] [] (hm mi ml mr) 0 0 Q := by
  have hFF : FARx = 1152921504606846976 := rfl
  intro j
  induction j with
  | zero =>
    intro k r hj hL
    have : k = cnt := by omega
    subst this
    refine am_iload rfl rfl ?_
    refine am_aload_n rfl rfl ?_
    refine ho_getI rfl (by first | rfl | assumption) rfl ?_
    rw [hc]
    refine ho_icmp_ge rfl (by omega) (by omega) (fun _ => ?_) (fun z => absurd (Nat.le_refl _) z)
    refine am_lload_n rfl rfl ?_
    exact am_lreturn rfl rfl (hout r hL)
  | succ j ih =>
    intro k r hj hL
    have hFk := hF k
    have next : ∀ r', Lst (tb m) (k + 1) v r' → am_T l d M_K_leastOf 55 [some (.ref 93), some (.long m), none, some (.long r'), none, some (.int (nI k))] [] (hm mi ml mr) 0 0 Q := by
      intro r' h
      refine am_iinc rfl rfl (nI_inc1 _) ?_
      show am_T _ _ _ _ [_, _, _, _, _, some _] _ _ _ _ _
      refine am_goto rfl ?_
      exact ih (k + 1) r' (by omega) h
    refine am_iload rfl rfl ?_
    refine am_aload_n rfl rfl ?_
    refine ho_getI rfl (by first | rfl | assumption) rfl ?_
    rw [hc]
    refine ho_icmp_ge rfl (by omega) (by omega) (fun z => absurd z (by omega)) (fun _ => ?_)
    refine am_lload_n rfl rfl ?_
    refine am_iload rfl rfl ?_
    refine am_lushr rfl rfl ?_
    refine am_lconst (v := 1) rfl (by decide) ?_
    refine am_land rfl ?_
    refine am_lconst (v := 0) rfl (by decide) ?_
    refine am_lcmp rfl ?_
    refine am_if_eq rfl (fun q => ?_) (fun q => ?_)
    · have hp := (tb_utest (by omega)).mp q
      refine next r ?_
      rcases hL with ⟨h1, h2⟩ | ⟨x, x1, x2, x3, x4⟩
      · refine Or.inl ⟨h1, fun k' hk' => ?_⟩
        by_cases e : k' = k
        · rw [e]; exact hp
        · exact h2 k' (by omega)
      · refine Or.inr ⟨x, by omega, x2, x3, fun k' hk' hp' => ?_⟩
        by_cases e : k' = k
        · rw [e, hp] at hp'; cases hp'
        · exact x4 k' (by omega) hp'
    have hp : tb m k = true := by
      cases e : tb m k with
      | true => rfl
      | false => exact absurd ((tb_utest (by omega)).mpr e) q
    have take : (∀ k', k' < k → tb m k' = true → v k ≤ v k') → am_T l d M_K_leastOf 47 [some (.ref 93), some (.long m), none, some (.long r), none, some (.int (nI k))] [] (hm mi ml mr) 0 0 Q := by
      intro hle
      refine am_aload_n rfl rfl ?_
      refine ho_getR rfl (by first | rfl | assumption) rfl (by first | assumption | exact hR _ _ _ rfl) ?_
      refine am_iload rfl rfl ?_
      refine ho_laload rfl (by first | rfl | assumption) (by omega) ?_
      rw [hv k (by omega)]
      refine am_lstore_n rfl (Nat.le_of_ble_eq_true rfl) ?_
      show am_T _ _ _ _ [_, _, _, some _, none, _] _ _ _ _ _
      refine next _ (Or.inr ⟨k, by omega, hp, rfl, fun k' hk' hp' => ?_⟩)
      by_cases e : k' = k
      · rw [e]; exact Nat.le_refl _
      · exact hle k' (by omega) hp'
    refine am_lload_n rfl rfl ?_
    refine am_ldc2m rfl rfl ?_
    refine am_lcmp rfl ?_
    refine am_if_eq rfl (fun q2 => ?_) (fun q2 => ?_)
    · have e := lg_cmp_0.mp q2
      refine take (fun k' hk' hp' => ?_)
      rcases hL with ⟨h1, h2⟩ | ⟨x, x1, x2, x3, x4⟩
      · rw [h2 k' hk'] at hp'; cases hp'
      · have := hF x
        exact absurd (x3.symm.trans e) (lJ_nn (by omega))
    rcases hL with ⟨h1, h2⟩ | ⟨x, x1, x2, x3, x4⟩
    · exact absurd (lg_cmp_0.mpr h1) q2
    have hFx := hF x
    refine am_aload_n rfl rfl ?_
    refine ho_getR rfl (by first | rfl | assumption) rfl (by first | assumption | exact hR _ _ _ rfl) ?_
    refine am_iload rfl rfl ?_
    refine ho_laload rfl (by first | rfl | assumption) (by omega) ?_
    rw [hv k (by omega)]
    refine am_lload_n rfl rfl ?_
    refine am_lcmp rfl ?_
    refine am_if_ge rfl (fun q3 => ?_) (fun q3 => ?_)
    · have hle : v x ≤ v k := by
        have h2 := Int64.le_iff_toInt_le.mp (lg_ge.mp q3)
        rw [x3, lJ_toInt (by omega), lJ_toInt (by omega)] at h2
        omega
      refine next r (Or.inr ⟨x, by omega, x2, x3, fun k' hk' hp' => ?_⟩)
      by_cases e : k' = k
      · rw [e]; exact hle
      · exact x4 k' (by omega) hp'
    · refine take (fun k' hk' hp' => ?_)
      have h1 := x4 k' hk' hp'
      rcases Nat.lt_or_ge (v k) (v x) with g | g
      · omega
      · refine absurd (lg_ge.mpr (Int64.le_iff_toInt_le.mpr ?_)) q3
        rw [x3, lJ_toInt (by omega), lJ_toInt (by omega)]
        omega
/-- leastOf -/
theorem c_K_leastOf (hR : SR mr) (h40 : cnt ≤ 40) (hc : mi 93 3 = nI cnt) (v : Nat → Nat) (hv : ∀ k, k < cnt → ml 95 k = lJ (v k)) (hF : ∀ k, v k ≤ FARx) (m : Int64) : am_T l d M_K_leastOf 0 [some (.ref 93), some (.long m), none, none, none, none] [] (hm mi ml mr) 0 0 (fun r h' => ∃ x, r = some (.long x) ∧ h' = hm mi ml mr ∧ Lst (tb m) cnt v x) := by
  refine am_ldc2m rfl rfl ?_
  refine am_lstore_n rfl (Nat.le_of_ble_eq_true rfl) ?_
  show am_T _ _ _ _ [_, _, _, some _, none, _] _ _ _ _ _
  refine am_iconst (v := nI 0) rfl (by decide) ?_
  refine am_istore rfl (Nat.le_of_ble_eq_true rfl) ?_
  show am_T _ _ _ _ [_, _, _, _, _, some _] _ _ _ _ _
  exact c_K_leastOf_loop hR h40 hc v hv hF m (fun r h => ⟨r, rfl, rfl, h⟩) cnt 0 _ (by omega) (Or.inl ⟨rfl, fun k hk => by omega⟩)
end Y3
