/-! the class: show -/
section S7
variable {l : Launch} {d : Nat} {mr : Nat → Nat → Option Nat} {s : Sta}
theorem XI_txt {mi mi' : Nat → Nat → Int32} {ml : Nat → Nat → Int64} (h : XI s mi ml mr) (hi : ∀ a, a < 116 → a ≠ 102 → a ≠ 103 → a ≠ 104 → a ≠ 105 → mi' a = mi a) (hT : XT s.D mi' ml) : XI s mi' ml mr := by
  obtain ⟨⟨a0, a1⟩, a2, a3, ⟨td, tw, b1, b2, b3, b4, b5, b6, b7, b8⟩, a5, a6, a7⟩ := h
  exact ⟨⟨by rw [hi 0 (by decide) (by decide) (by decide) (by decide) (by decide)]; exact a0, txt_to a1 (hi 1 (by decide) (by decide) (by decide) (by decide) (by decide))⟩, XD_to a2 (fun a _ h => hi a (by omega) (by omega) (by omega) (by omega) (by omega)) rfl rfl, XF_to a3 (fun a _ h => hi a (by omega) (by omega) (by omega) (by omega) (by omega)) rfl rfl, ⟨td, tw, b1, b2, b3, b4, b5, b6, HA_to b7 (hi _ (by omega) (by omega) (by omega) (by omega) (by omega)) (hi _ (by omega) (by omega) (by omega) (by omega) (by omega)) (hi _ (by omega) (by omega) (by omega) (by omega) (by omega)), HA_to b8 (hi _ (by omega) (by omega) (by omega) (by omega) (by omega)) (hi _ (by omega) (by omega) (by omega) (by omega) (by omega)) (hi _ (by omega) (by omega) (by omega) (by omega) (by omega))⟩, XR_to a5 (fun a _ h => hi a (by omega) (by omega) (by omega) (by omega) (by omega)) (fun a _ h _ => rfl), fun i q => by rw [hi 100 (by decide) (by decide) (by decide) (by decide) (by decide)]; exact a6 i q, hT⟩
/-- what show answers, and what it shows -/
def shoR (s : Sta) (x y : Int32) (r : Option Value) (s' : Sta) : Prop := difR s x y r ∧ ((∃ q, r = some (.long q) ∧ (q < 0 ∨ 12 < q) ∧ s' = s) ∨ ∃ ip n cnt L v mj mk a b z o k N, KF (SD s.D) ip n cnt L v mj mk ∧ a < 6 ∧ b < 6 ∧ x = nI a ∧ y = nI b ∧ z ≤ 12 ∧ r = some (.long (lJ z)) ∧ Dn (SD s.D) (mk 94) cnt v 13 o ∧ Pk (tb (mk 101 a &&& (mk 101 b ^^^ (-1)))) v z o cnt (some k) ∧ Tk o k = tx N 0 ∧ okN 0 N ∧ N.length ≤ 12 ∧ s' = (s.setN (N)))
theorem x_show (hR : SR mr) (hs : okSta s) (mi : Nat → Nat → Int32) (ml : Nat → Nat → Int64) (hX : XI s mi ml mr) (x y : Int32) : am_T l (d + 6) M_X_show 0 [some (.ref 0), some (.int x), some (.int y), none, none, none] [] (hm mi ml mr) 0 0 (fun r h' => (∃ q, r = some (.long q)) ∧ ∃ mi' ml' mr' s', h' = hm mi' ml' mr' ∧ SR mr' ∧ XI s' mi' ml' mr' ∧ shoR s x y r s' ∧ (∀ a, 116 ≤ a → mi' a = mi a) ∧ ∀ a, 116 ≤ a → ml' a = ml a) := by
  refine am_aload_n rfl rfl ?_
  refine am_iload_n rfl rfl ?_
  refine am_iload_n rfl rfl ?_
  refine ho_cv2 rfl (by first | rfl | assumption) rfl (Nat.le_of_ble_eq_true rfl) (Nat.le_of_ble_eq_true rfl) (x_differ hR hs mi ml hX x y) ?_
  rintro r h' ⟨mi1, ml1, rfl, g1, g2, g3, g4⟩
  -- nothing is shown
  have no : ∀ q : Int64, difR s x y (some (.long q)) → (q < 0 ∨ 12 < q) → am_T l (d + 6) M_X_show 88 [some (.ref 0), some (.int x), some (.int y), some (.long q), none, none] [] (hm mi1 ml1 mr) 0 0 (fun r h' => (∃ q, r = some (.long q)) ∧ ∃ mi' ml' mr' s', h' = hm mi' ml' mr' ∧ SR mr' ∧ XI s' mi' ml' mr' ∧ shoR s x y r s' ∧ (∀ a, 116 ≤ a → mi' a = mi a) ∧ ∀ a, 116 ≤ a → ml' a = ml a) := by
    intro q h1 h2
    refine am_lload_n rfl rfl ?_
    exact am_lreturn rfl rfl ⟨⟨q, rfl⟩, mi1, ml1, mr, s, rfl, hR, g1, ⟨h1, Or.inl ⟨q, rfl, h2, rfl⟩⟩, g2, g3⟩
  rcases g4 with ⟨k1, rfl⟩ | ⟨k1, cnt, tm, k2, kk, ⟨rfl, rfl⟩ | ⟨rfl, a, b, v, z, k3, k4, rfl, rfl, k7, k8, k9, k10, rfl, k11⟩⟩
  · refine am_lstore_n rfl (Nat.le_of_ble_eq_true rfl) ?_
    show am_T _ _ _ _ [_, _, _, some _, none, _] _ _ _ _ _
    refine am_lload_n rfl rfl ?_
    refine am_lconst (v := 0) rfl (by decide) ?_
    refine am_lcmp rfl ?_
    refine am_if_lt rfl (fun _ => no (-2) (Or.inl ⟨k1, rfl⟩) (Or.inl (by decide))) (fun q => absurd ((lg_cmp_lt _ _).mpr (by decide)) q)
  · refine am_lstore_n rfl (Nat.le_of_ble_eq_true rfl) ?_
    show am_T _ _ _ _ [_, _, _, some _, none, _] _ _ _ _ _
    refine am_lload_n rfl rfl ?_
    refine am_lconst (v := 0) rfl (by decide) ?_
    refine am_lcmp rfl ?_
    refine am_if_lt rfl (fun _ => no (-3) (Or.inr ⟨k1, cnt, true, mi1, ml1, k2, Or.inl ⟨rfl, rfl⟩⟩) (Or.inl (by decide))) (fun q => absurd ((lg_cmp_lt _ _).mpr (by decide)) q)
  have hdif : difR s (nI a) (nI b) (some (.long z)) := Or.inr ⟨k1, cnt, false, mi1, ml1, k2, Or.inr ⟨rfl, a, b, v, z, k3, k4, rfl, rfl, k7, k8, k9, k10, rfl, k11⟩⟩
  refine am_lstore_n rfl (Nat.le_of_ble_eq_true rfl) ?_
  show am_T _ _ _ _ [_, _, _, some _, none, _] _ _ _ _ _
  refine am_lload_n rfl rfl ?_
  refine am_lconst (v := 0) rfl (by decide) ?_
  refine am_lcmp rfl ?_
  rcases id k11 with ⟨rfl, -⟩ | ⟨kz, z1, z2, rfl, z4⟩
  · refine am_if_lt rfl (fun _ => no (-1) hdif (Or.inl (by decide))) (fun q => absurd ((lg_cmp_lt _ _).mpr (by decide)) q)
  refine am_if_lt rfl (fun q => absurd ((lg_cmp_lt _ _).mp q) (lJ_nn0 (XV_lt k7 kz))) (fun _ => ?_)
  refine am_lload_n rfl rfl ?_
  refine am_ldc2 rfl rfl ?_
  refine am_lcmp rfl ?_
  refine am_if_gt rfl (fun q => no _ hdif (Or.inr ((lg_cmp_gt _ _).mp q))) (fun q => ?_)
  have hz : v kz ≤ 12 := by
    have h1 : ¬ lJ 12 < lJ (v kz) := fun e => q ((lg_cmp_gt _ _).mpr e)
    rw [lJ_lt (by omega) (XV_lt k7 kz)] at h1
    omega
  obtain ⟨ip, n, hrep, L, hXK, hXA⟩ := id k2
  obtain ⟨hA, hMem, u, hU, hFu⟩ := hXA rfl
  have hKF : KF (SD s.D) ip n cnt L v mi1 ml1 := ⟨hrep, hXK, hA, hMem, k7, k8⟩
  have hS := okS_SD hs.2.1
  obtain ⟨tk, ht1, ht2⟩ := g1.2.2.2.2.2.2
  have h40 : cnt ≤ 40 := (hKF.ke hS).2.1
  have ht3 : tk = true → TXK (SD s.D) cnt mi1 ml1 := by
    intro e
    obtain ⟨-, c2, e1, e2, e3⟩ := ht2 e
    have : c2 = cnt := by
      have h3 := hXK.2.1.1
      rw [e1] at h3
      exact (nI_eq (by omega) (by omega)).mp h3
    rw [← this]
    exact e3
  refine am_aload_n rfl rfl ?_
  refine ho_getR rfl (by first | rfl | assumption) rfl (by first | assumption | exact hR _ _ _ rfl) ?_
  refine am_aload_n rfl rfl ?_
  refine ho_getR rfl (by first | rfl | assumption) rfl (by first | assumption | exact hR _ _ _ rfl) ?_
  refine ho_getR rfl (by first | rfl | assumption) rfl (by first | assumption | exact hR _ _ _ rfl) ?_
  refine am_iload_n rfl rfl ?_
  refine ho_laload rfl rfl (by omega) ?_
  refine am_aload_n rfl rfl ?_
  refine ho_getR rfl (by first | rfl | assumption) rfl (by first | assumption | exact hR _ _ _ rfl) ?_
  refine ho_getR rfl (by first | rfl | assumption) rfl (by first | assumption | exact hR _ _ _ rfl) ?_
  refine am_iload_n rfl rfl ?_
  refine ho_laload rfl rfl (by omega) ?_
  refine am_ldc2m rfl rfl ?_
  refine am_lxor rfl ?_
  refine am_land rfl ?_
  refine am_lload_n rfl rfl ?_
  refine ho_cv2 rfl (by first | rfl | assumption) rfl (Nat.le_of_ble_eq_true rfl) (Nat.le_of_ble_eq_true rfl) (c_T_pickFirst (d := d + 1) hR hS mi1 hKF tk ht1 ht3 (ml1 101 a &&& (ml1 101 b ^^^ (-1))) (v kz) hz ⟨kz, z1, z2, rfl⟩) ?_
  rintro r h' ⟨mi2, o, k, rfl, rfl, p1, p2, p3, p4, p5, p6⟩
  have hFT := p1.tk (hKF.ke hS) k7.2.1 p2.1 (by have := p2.2.2.1; omega)
  obtain ⟨N, n1, n2, n3, n4⟩ := ht_read hFT.1 (by have := p2.2.2.1; omega)
  have hX2 : XI s mi2 ml1 mr := XI_txt g1 (fun c _ c1 c2 c3 c4 => p6 c c1 c2 c3 c4) ⟨true, p4, fun _ => ⟨by rw [p6 93 (by decide) (by decide) (by decide) (by decide)]; exact kk, cnt, by rw [p6 93 (by decide) (by decide) (by decide) (by decide)]; exact hXK.2.1.1, h40, p5⟩⟩
  obtain ⟨td, tw, b1, b2, b3, b4, b5, b6, b7, b8⟩ := hX2.2.2.2.1
  have hu : 143 - td = 70 ∨ 143 - td = 73 := by omega
  have hR1 := SR_82 (w := 105) hR
  have hu1 : up2 mr 82 0 (some 105) 0 7 = some (143 - td) := by rw [up2_off _ _ _ (by decide)]; exact b4
  have ht1' : up2 mr 82 0 (some 105) 0 6 = some td := by rw [up2_off _ _ _ (by decide)]; exact b3
  have h36 : (Tk o k).length ≤ 36 := by have := HT_len hFT.1; have := p2.2.2.1; omega
  have hrd : rd 105 36 (Tk o k) (up2 mi2 82 1 (nI (Tk o k).length)) (up2 mr 82 0 (some 105)) := ⟨by simp [up2], rfl, h36, by decide, by simp [up2], fun i hi => by rw [up2_off _ _ _ (by decide)]; exact p3.2.1 i hi, p3.2.2⟩
  refine am_istore rfl (Nat.le_of_ble_eq_true rfl) ?_
  show am_T _ _ _ _ [_, _, _, _, _, some _] _ _ _ _ _
  refine am_aload_n rfl rfl ?_
  refine ho_getR rfl (by first | rfl | assumption) rfl (by first | assumption | exact hR _ _ _ rfl) ?_
  refine am_aload_n rfl rfl ?_
  refine ho_getR rfl (by first | rfl | assumption) rfl (by first | assumption | exact hR _ _ _ rfl) ?_
  refine ho_getR rfl (by first | rfl | assumption) rfl (by first | assumption | exact hR _ _ _ rfl) ?_
  refine am_iload rfl rfl ?_
  refine ho_cv2 rfl (by first | rfl | assumption) rfl (Nat.le_of_ble_eq_true rfl) (Nat.le_of_ble_eq_true rfl) (c_R_open (t := 0)) ?_
  rintro r h' ⟨rfl, rfl⟩
  refine am_aload_n rfl rfl ?_
  refine ho_getR rfl rfl rfl (hR1 _ _ _ rfl) ?_
  refine am_aload_n rfl rfl ?_
  refine ho_getR rfl rfl rfl hu1 ?_
  refine ho_cv1 rfl (by first | rfl | assumption) rfl (Nat.le_of_ble_eq_true rfl) (Nat.le_of_ble_eq_true rfl) (c_R_readHedge (isH_of hR1 hu) (by omega) (by omega) _ hrd) ?_
  rw [n1]
  rintro r h' ⟨mi3, rfl, hF, rfl, hA3⟩
  refine am_if_eq rfl (fun z => by cases z) (fun _ => ?_)
  refine am_aload_n rfl rfl ?_
  refine ho_cv0 rfl (by first | rfl | assumption) rfl (Nat.le_of_ble_eq_true rfl) (Nat.le_of_ble_eq_true rfl) (c_X_changeDocument hR1 ht1' hu1) ?_
  rintro r h' ⟨rfl, rfl⟩
  refine am_lload_n rfl rfl ?_
  have q1 : ∀ a, a ≠ 82 → up2 mi2 82 1 (nI (Tk o k).length) a = mi2 a := fun a ha => up2_off _ _ _ ha
  have m1 : ∀ a, a ≠ 143 - td → a ≠ 143 - td + 1 → a ≠ 143 - td + 2 → a ≠ 82 → mi3 a = mi2 a := fun a h1 h2 h3 h4 => (hF.1 a h1 h2 h3 h4).trans (q1 a h4)
  refine am_lreturn rfl rfl ⟨⟨_, rfl⟩, _, _, _, (s.setN (N)), rfl, SR_doc (SR_82 hR), XI_hed (V' := s.V) hX2 (fun a h1 h2 _ h3 => m1 a (by omega) (by omega) (by omega) h2) (fun _ _ _ => rfl) (by rw [up2_off _ _ _ (by decide), up2_off _ _ _ (by decide), up2_off _ _ _ (by decide)]) (by rw [up2_off _ _ _ (by decide), up2_off _ _ _ (by decide), up2_off _ _ _ (by decide)]) (by simp [up2]) (by simp [up2]) ⟨143 - td, tw, hu, b2, by simp [up2], ?_, ?_, ?_, hA3, HA_to b8 (m1 _ (by omega) (by omega) (by omega) (by omega)) (m1 _ (by omega) (by omega) (by omega) (by omega)) (m1 _ (by omega) (by omega) (by omega) (by omega))⟩, ⟨hdif, Or.inr ⟨ip, n, cnt, L, v, mi1, ml1, a, b, v kz, o, k, N, hKF, k3, k4, rfl, rfl, hz, rfl, p1, p2, n2, n3, n4, rfl⟩⟩, fun c hc => (m1 c (by omega) (by omega) (by omega) (by omega)).trans ((p6 c (by omega) (by omega) (by omega) (by omega)).trans (g2 c hc)), g3⟩
  · rw [show 143 - (143 - td) = td by omega]
    simp [up2]
  · rw [← b5]
    simp [up2]
  · rw [← b6]
    simp [up2]
end S7
