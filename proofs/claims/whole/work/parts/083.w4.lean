/-! operations: kinds, least, differ -/
/-- the class knows the kinds -/
def KX (S : Rs) (cnt : Nat) (tm : Bool) (mi : Nat → Nat → Int32) (ml : Nat → Nat → Int64) : Prop := ∃ ip n, repX S ip n mi ml ∧ XKn S ip n cnt tm mi ml
section W4
variable {l : Launch} {d : Nat} {K : Option Value → Prop} {mr : Nat → Nat → Option Nat} {s : Sta}
theorem x_room (hR : SR mr) (hs : okSta s) (mi : Nat → Nat → Int32) (ml : Nat → Nat → Int64) (hX : XI s mi ml mr) : am_T l (d + 4) M_K_fitsRoom 0 [some (.ref 93)] [] (hm mi ml mr) 0 0 (fun r h' => ∃ cnt tm mi' ml', r = some (.int (bI (!tm))) ∧ h' = hm mi' ml' mr ∧ XI s mi' ml' mr ∧ KX (SD s.D) cnt tm mi' ml' ∧ mi' 93 1 = bI true ∧ (∀ a, 116 ≤ a → mi' a = mi a) ∧ ∀ a, 116 ≤ a → ml' a = ml a) := by
  obtain ⟨⟨a0, a1⟩, a2, a3, ⟨td, tw, b1, b2, b3, b4, b5, b6, b7, b8⟩, ⟨ip, n, hrep, kb, hkb, hkn⟩, a6, ⟨tk, ht1, ht2⟩⟩ := id hX
  cases kb with
  | true =>
    obtain ⟨cnt, tm, hK⟩ := hkn rfl
    have e2 : mi 93 2 = bI tm := by
      obtain ⟨L, h1, -⟩ := hK
      exact h1.2.1.2.2
    refine am_aload_n rfl rfl ?_
    refine ho_getI rfl (by first | rfl | assumption) rfl ?_
    rw [hkb]
    refine am_if_ne rfl (fun _ => ?_) (fun q => by cases q)
    refine am_aload_n rfl rfl ?_
    refine ho_getI rfl (by first | rfl | assumption) rfl ?_
    rw [e2]
    refine am_if_ne rfl (fun q => ?_) (fun q => ?_)
    · refine am_iconst (v := nI 0) rfl (by decide) ?_
      exact am_zreturn rfl rfl (Or.inl rfl) ⟨cnt, tm, mi, ml, by rw [(bI_ne _).mp q]; rfl, rfl, hX, ⟨ip, n, hrep, hK⟩, hkb, fun _ _ => rfl, fun _ _ => rfl⟩
    · refine am_iconst (v := nI 1) rfl (by decide) ?_
      refine am_goto rfl ?_
      exact am_zreturn rfl rfl (Or.inr rfl) ⟨cnt, tm, mi, ml, by rw [(bI_eq _).mp q]; rfl, rfl, hX, ⟨ip, n, hrep, hK⟩, hkb, fun _ _ => rfl, fun _ _ => rfl⟩
  | false =>
    refine am_T.to (c_K_fitsRoom hR (okS_SD hs.2.1) mi ml hrep false hkb (fun q => by cases q)) ?_
    rintro r h' ⟨cnt, tm, mi', ml', rfl, rfl, g1, g2, g3, g4⟩
    have htk : tk = false := by
      cases tk with
      | false => rfl
      | true =>
        have := (ht2 rfl).1
        rw [hkb] at this
        cases this
    have m1 : ∀ a, a ≠ 93 → a ≠ 96 → a ≠ 98 → a ≠ 99 → mi' a = mi a := g4.1
    refine ⟨cnt, tm, mi', ml', rfl, rfl, ⟨⟨by rw [m1 0 (by omega) (by omega) (by omega) (by omega)]; exact a0, txt_to a1 (m1 1 (by omega) (by omega) (by omega) (by omega))⟩, XD_to a2 (fun a _ h => m1 a (by omega) (by omega) (by omega) (by omega)) rfl rfl, XF_to a3 (fun a _ h => m1 a (by omega) (by omega) (by omega) (by omega)) rfl rfl, ⟨td, tw, b1, b2, b3, b4, b5, b6, HA_to b7 (m1 _ (by omega) (by omega) (by omega) (by omega)) (m1 _ (by omega) (by omega) (by omega) (by omega)) (m1 _ (by omega) (by omega) (by omega) (by omega)), HA_to b8 (m1 _ (by omega) (by omega) (by omega) (by omega)) (m1 _ (by omega) (by omega) (by omega) (by omega)) (m1 _ (by omega) (by omega) (by omega) (by omega))⟩, ⟨ip, n, g1, true, g3, fun _ => ⟨cnt, tm, g2⟩⟩, fun i q => by rw [m1 100 (by omega) (by omega) (by omega) (by omega)]; exact a6 i q, ⟨false, by rw [m1 102 (by omega) (by omega) (by omega) (by omega), ht1, htk], fun q => (by cases q)⟩⟩, ⟨ip, n, g1, g2⟩, g3, fun a ha => m1 a (by omega) (by omega) (by omega) (by omega), fun a ha => g4.2.2 a (by omega) (by omega) (by omega) (by omega)⟩
/-- the reference knows the kinds -/
theorem m_know (hR : SR mr) (hs : okSta s) (mi : Nat → Nat → Int32) (ml : Nat → Nat → Int64) (hM : MI s mi ml) : am_T l (d + 4) M_m_know 0 [some (.ref 116), none, none, none] [] (hm mi ml mr) 0 0 (fun r h' => r = none ∧ ∃ cnt mi' ml', h' = hm mi' ml' mr ∧ MI s mi' ml' ∧ repS (SD s.D) mi' ∧ MKn (SD s.D) cnt mi' ml' ∧ mi' 116 11 = bI true ∧ Fn2 mi mi' ml ml') := by
  refine am_T.to (c_m_know hR hs.2.1 mi ml hM.2.1 hM.2.2.2.1) ?_
  rintro r h' ⟨rfl, cnt, mi', ml', rfl, q1, q2, q3, q4⟩
  exact ⟨rfl, cnt, mi', ml', rfl, MI_know hM q1 q2 q3 (fun a h1 h2 => q4.1 a (by omega) (by omega) (by omega) (by omega) (by omega) (by omega)) (fun j hj => q4.2.1 j (by omega) (by omega) (by omega)), q1, q2, q3, q4⟩
theorem m_room (hR : SR mr) (hs : okSta s) (mi : Nat → Nat → Int32) (ml : Nat → Nat → Int64) (hM : MI s mi ml) : am_T l (d + 5) M_m_room 0 [some (.ref 116)] [] (hm mi ml mr) 0 0 (fun r h' => ∃ cnt mi' ml', r = some (.int (bI (decide (40 < cnt)))) ∧ h' = hm mi' ml' mr ∧ MI s mi' ml' ∧ repS (SD s.D) mi' ∧ MKn (SD s.D) cnt mi' ml' ∧ mi' 116 11 = bI true ∧ Fn2 mi mi' ml ml') := by
  refine am_aload_n rfl rfl ?_
  refine ho_cv0 rfl (by first | rfl | assumption) rfl (Nat.le_of_ble_eq_true rfl) (Nat.le_of_ble_eq_true rfl) (m_know hR hs mi ml hM) ?_
  rintro r h' ⟨rfl, cnt, mi', ml', rfl, q0, q1, q2, q3, q4⟩
  have hc := q2.1.1
  refine am_aload_n rfl rfl ?_
  refine ho_getI rfl (by first | rfl | assumption) rfl ?_
  rw [q2.1.2.1]
  refine am_bipush (v := nI 40) rfl (by decide) ?_
  refine ho_icmp_le rfl (by omega) (by omega) (fun z => ?_) (fun z => ?_)
  · refine am_iconst (v := nI 0) rfl (by decide) ?_
    exact am_zreturn rfl rfl (Or.inl rfl) ⟨cnt, mi', ml', by rw [decide_eq_false (by omega)]; rfl, rfl, q0, q1, q2, q3, q4⟩
  · refine am_iconst (v := nI 1) rfl (by decide) ?_
    refine am_goto rfl ?_
    exact am_zreturn rfl rfl (Or.inr rfl) ⟨cnt, mi', ml', by rw [decide_eq_true (by omega)]; rfl, rfl, q0, q1, q2, q3, q4⟩
/-- both find as many kinds -/
theorem room_same {S : Rs} (hS : okS S) {cm cx : Nat} {tm : Bool} {mi mj : Nat → Nat → Int32} {ml mk : Nat → Nat → Int64} (hM : MKn S cm mi ml) (hX : KX S cx tm mj mk) : tm = decide (40 < cm) ∧ (tm = false → cm = cx) := by
  obtain ⟨ip, n, h1, L, h2, h3⟩ := hX
  have := kinds_same hS hM.1 (fun q => (hM.2.1 q).1) h1 h2 (fun q => (h3 q).1)
  refine ⟨?_, this.2⟩
  cases tm with
  | true => rw [decide_eq_true (this.1.mp rfl)]
  | false =>
    rw [decide_eq_false (fun q => by have := this.1.mpr q; cases this)]
theorem w_kinds (hK : ∀ v, K (some (.int v))) : lw2 l K 59 137 [] := by
  refine lw_mk (fun mi ml mr s hR hs hX => ⟨fun r s' => s' = s ∧ ∃ cnt tm mj mk, KX (SD s.D) cnt tm mj mk ∧ r = some (.int (if tm then -3 else nI cnt)), ?_, ?_⟩)
  · show am_T l 60 M_X_kinds 0 [some (.ref 0)] [] _ 0 0 _
    refine am_aload_n rfl rfl ?_
    refine ho_getR rfl (by first | rfl | assumption) rfl (by first | assumption | exact hR _ _ _ rfl) ?_
    refine ho_cv0 rfl (by first | rfl | assumption) rfl (Nat.le_of_ble_eq_true rfl) (Nat.le_of_ble_eq_true rfl) (x_room hR hs mi ml hX) ?_
    rintro v h' ⟨cnt, tm, mi1, ml1, rfl, rfl, g1, g2, g3, g4, g5⟩
    obtain ⟨ip, n, -, L, hK1, -⟩ := id g2
    cases tm with
    | true =>
      refine am_if_eq rfl (fun _ => ?_) (fun q => absurd rfl q)
      refine am_bipush (v := -3) rfl (by decide) ?_
      exact am_ireturn rfl rfl ⟨hK _, _, _, _, s, rfl, hR, g1, ⟨rfl, cnt, true, mi1, ml1, g2, rfl⟩, g4, g5⟩
    | false =>
      refine am_if_eq rfl (fun q => by cases q) (fun _ => ?_)
      refine am_aload_n rfl rfl ?_
      refine ho_getR rfl (by first | rfl | assumption) rfl (by first | assumption | exact hR _ _ _ rfl) ?_
      refine ho_getI rfl (by first | rfl | assumption) rfl ?_
      rw [hK1.2.1.1]
      refine am_goto rfl ?_
      exact am_ireturn rfl rfl ⟨hK _, _, _, _, s, rfl, hR, g1, ⟨rfl, cnt, false, mi1, ml1, g2, rfl⟩, g4, g5⟩
  · rintro r s' mi ml mr hR hM - ⟨rfl, cnt, tm, mj, mk, hKX, rfl⟩
    show am_T l 60 M_m_kinds 0 [some (.ref 116)] [] _ 0 0 _
    refine am_aload_n rfl rfl ?_
    refine ho_cv0 rfl (by first | rfl | assumption) rfl (Nat.le_of_ble_eq_true rfl) (Nat.le_of_ble_eq_true rfl) (m_room hR hs mi ml hM) ?_
    rintro v h' ⟨cm, mi', ml', rfl, rfl, q0, q1, q2, q3, q4⟩
    obtain ⟨e1, e2⟩ := room_same (okS_SD hs.2.1) q2 hKX
    rw [← e1]
    have hfr : (∀ a, a < 116 → mi' a = mi a) ∧ ∀ a, a < 116 → ml' a = ml a := ⟨fun a ha => q4.1 a (by omega) (by omega) (by omega) (by omega) (by omega) (by omega), fun a ha => q4.2.2.1 a (by omega) (by omega) (by omega)⟩
    cases tm with
    | true =>
      refine am_if_eq rfl (fun z => by cases z) (fun _ => ?_)
      refine am_bipush (v := -3) rfl (by decide) ?_
      refine am_goto rfl ?_
      exact am_ireturn rfl rfl ⟨rfl, _, _, rfl, hs, q0, hfr.1, hfr.2⟩
    | false =>
      refine am_if_eq rfl (fun _ => ?_) (fun z => absurd rfl z)
      refine am_aload_n rfl rfl ?_
      refine ho_getI rfl (by first | rfl | assumption) rfl ?_
      rw [q2.1.2.1, e2 rfl]
      exact am_ireturn rfl rfl ⟨rfl, _, _, rfl, hs, q0, hfr.1, hfr.2⟩
/-- the reference's sizes are below FAR -/
theorem sizes_far {S : Rs} {cnt : Nat} {mi : Nat → Nat → Int32} {ml : Nat → Nat → Int64} (hM : MKn S cnt mi ml) (h40 : cnt ≤ 40) {v : Nat → Nat} (hV : VI S cnt v ml) (hv : ∀ k, 1 ≤ k → k < cnt → v k = lsz S (ml 127 k)) : ∀ k, k < cnt → v k < 2 ^ 40 := by
  intro k hk
  rcases Nat.eq_zero_or_pos k with e | e
  · subst e
    rw [hV.2.1]
    decide
  · rw [hv k e hk]
    have h1 := lsz_bound (S := S) (km := ml 127) (cnt := cnt) (by omega) (fun m hm => m_all hM.1 (hM.2.1 h40).1 hm) (hM.1.2.2.2.2 k e hk)
    exact Nat.lt_of_lt_of_le h1 (Nat.pow_le_pow_right (by decide) h40)
theorem w_least (hK : ∀ v, K (some (.long v))) (x : Int32) : lw2 l K 69 149 [.int x] := by
  refine lw_mk (fun mi ml mr s hR hs hX => ⟨fun r s' => s' = s ∧ ((isNm x = false ∧ r = some (.long (-2))) ∨ (isNm x = true ∧ ∃ cnt tm mj mk, KX (SD s.D) cnt tm mj mk ∧ ((tm = true ∧ r = some (.long (-3))) ∨ (tm = false ∧ ∃ a v y, a < 6 ∧ x = nI a ∧ XV (SD s.D) cnt v mk ∧ FinV (SD s.D) (mk 94) cnt v ∧ MemB (SD s.D) cnt (mk 94) (mk 101 a) a ∧ r = some (.long y) ∧ Lst (tb (mk 101 a)) cnt v y)))), ?_, ?_⟩)
  · show am_T l 60 M_X_least 0 [some (.ref 0), some (.int x)] [] _ 0 0 _
    refine am_iload_n rfl rfl ?_
    refine ho_cs1 rfl rfl (Nat.le_of_ble_eq_true rfl) (Nat.le_of_ble_eq_true rfl) (c_X_isNameNumber x) ?_
    rintro v h' ⟨rfl, rfl⟩
    refine am_if_ne rfl (fun q => ?_) (fun q => ?_)
    case refine_2 =>
      refine am_ldc2m rfl rfl ?_
      exact am_lreturn rfl rfl ⟨hK _, _, _, _, s, rfl, hR, hX, ⟨rfl, Or.inl ⟨(bI_eq _).mp q, rfl⟩⟩, fun _ _ => rfl, fun _ _ => rfl⟩
    have hx := (bI_ne _).mp q
    refine am_aload_n rfl rfl ?_
    refine ho_getR rfl (by first | rfl | assumption) rfl (by first | assumption | exact hR _ _ _ rfl) ?_
    refine ho_cv0 rfl (by first | rfl | assumption) rfl (Nat.le_of_ble_eq_true rfl) (Nat.le_of_ble_eq_true rfl) (x_room hR hs mi ml hX) ?_
    rintro v h' ⟨cnt, tm, mi1, ml1, rfl, rfl, g1, g2, g3, g4, g5⟩
    cases tm with
    | true =>
      refine am_if_ne rfl (fun q => absurd rfl q) (fun _ => ?_)
      refine am_ldc2m rfl rfl ?_
      exact am_lreturn rfl rfl ⟨hK _, _, _, _, s, rfl, hR, g1, ⟨rfl, Or.inr ⟨hx, cnt, true, mi1, ml1, g2, Or.inl ⟨rfl, rfl⟩⟩⟩, g4, g5⟩
    | false =>
      refine am_if_ne rfl (fun _ => ?_) (fun q => by cases q)
      obtain ⟨a, ha, rfl⟩ := isNm_nI hx
      obtain ⟨ip, n, -, L, hK1, hK2⟩ := id g2
      obtain ⟨hA, hMem, w, hV, hFin⟩ := hK2 rfl
      refine am_aload_n rfl rfl ?_
      refine ho_getR rfl (by first | rfl | assumption) rfl (by first | assumption | exact hR _ _ _ rfl) ?_
      refine am_aload_n rfl rfl ?_
      refine ho_getR rfl (by first | rfl | assumption) rfl (by first | assumption | exact hR _ _ _ rfl) ?_
      refine ho_getR rfl (by first | rfl | assumption) rfl (by first | assumption | exact hR _ _ _ rfl) ?_
      refine am_iload_n rfl rfl ?_
      refine ho_laload rfl (by first | rfl | assumption) (by omega) ?_
      refine ho_cv1 rfl (by first | rfl | assumption) rfl (Nat.le_of_ble_eq_true rfl) (Nat.le_of_ble_eq_true rfl) (c_K_leastOf hR hK1.1.1.2 hK1.2.1.1 w hV.1 hV.2.2.1 (ml1 101 a)) ?_
      rintro v h' ⟨y, rfl, rfl, hy⟩
      exact am_lreturn rfl rfl ⟨hK _, _, _, _, s, rfl, hR, g1, ⟨rfl, Or.inr ⟨hx, cnt, false, mi1, ml1, g2, Or.inr ⟨rfl, a, w, y, ha, rfl, hV, hFin, hMem a ha, rfl, hy⟩⟩⟩, g4, g5⟩
  · rintro r s' mi ml mr hR hM - ⟨rfl, hr⟩
    show am_T l 60 M_m_least 0 [some (.ref 116), some (.int x)] [] _ 0 0 _
    refine am_iload_n rfl rfl ?_
    refine ho_cs1 rfl rfl (Nat.le_of_ble_eq_true rfl) (Nat.le_of_ble_eq_true rfl) (c_m_isName x) ?_
    rintro v h' ⟨rfl, rfl⟩
    rcases hr with ⟨hx, rfl⟩ | ⟨hx, cnt, tm, mj, mk, hKX, hr⟩
    · refine am_if_ne rfl (fun q => by have := (bI_ne _).mp q; rw [hx] at this; cases this) (fun _ => ?_)
      refine am_ldc2m rfl rfl ?_
      refine am_goto rfl ?_
      exact am_lreturn rfl rfl ⟨rfl, _, _, rfl, hs, hM, fun _ _ => rfl, fun _ _ => rfl⟩
    refine am_if_ne rfl (fun _ => ?_) (fun q => by have := (bI_eq _).mp q; rw [hx] at this; cases this)
    refine am_aload_n rfl rfl ?_
    refine ho_cv0 rfl (by first | rfl | assumption) rfl (Nat.le_of_ble_eq_true rfl) (Nat.le_of_ble_eq_true rfl) (m_room hR hs mi ml hM) ?_
    rintro v h' ⟨cm, mi', ml', rfl, rfl, q0, q1, q2, q3, q4⟩
    have hS := okS_SD hs.2.1
    obtain ⟨e1, e2⟩ := room_same hS q2 hKX
    rw [← e1]
    have hfr : (∀ a, a < 116 → mi' a = mi a) ∧ ∀ a, a < 116 → ml' a = ml a := ⟨fun a ha => q4.1 a (by omega) (by omega) (by omega) (by omega) (by omega) (by omega), fun a ha => q4.2.2.1 a (by omega) (by omega) (by omega)⟩
    rcases hr with ⟨rfl, rfl⟩ | ⟨rfl, a, w, y, ha, rfl, hV, hFin, hMem, rfl, hy⟩
    · refine am_if_eq rfl (fun z => by cases z) (fun _ => ?_)
      refine am_ldc2m rfl rfl ?_
      refine am_goto rfl ?_
      exact am_lreturn rfl rfl ⟨rfl, _, _, rfl, hs, q0, hfr.1, hfr.2⟩
    · have h40 : cm ≤ 40 := by
        have := of_decide_eq_false e1.symm
        omega
      refine am_if_eq rfl (fun _ => ?_) (fun z => absurd rfl z)
      obtain ⟨-, u, hVu, hu⟩ := q2.2.1 h40
      have hfar := sizes_far q2 h40 hVu hu
      refine am_aload_n rfl rfl ?_
      refine am_iload_n rfl rfl ?_
      refine am_iconst (v := -1) rfl (by decide) ?_
      refine ho_cv2 rfl (by first | rfl | assumption) rfl (Nat.le_of_ble_eq_true rfl) (Nat.le_of_ble_eq_true rfl) (c_m_smallest hR hS q1 h40 q2.1.2.1 u hVu.1 (fun k hk => Nat.lt_trans (hfar k hk) (by decide)) a ha none (fun b q => by cases q)) ?_
      rintro v h' ⟨z, rfl, rfl, hz⟩
      obtain ⟨ip, n, hX1, hXK⟩ := hKX
      have := least_same hS q2 h40 hX1 hXK hVu hu hV hFin (fun x => pkM (SD s'.D) (fun _ => x) a none 0) (p := pkM (SD s'.D) (ml' 127) a none) (p' := tb (mk 101 a)) (fun k hk => rfl) (pick_one hMem) hz hy
      subst this
      exact am_lreturn rfl rfl ⟨rfl, _, _, rfl, hs, q0, hfr.1, hfr.2⟩
def difR (s : Sta) (x y : Int32) (r : Option Value) : Prop := ((isNm x && isNm y) = false ∧ r = some (.long (-2))) ∨ ((isNm x && isNm y) = true ∧ ∃ cnt tm mj mk, KX (SD s.D) cnt tm mj mk ∧ ((tm = true ∧ r = some (.long (-3))) ∨ (tm = false ∧ ∃ a b v z, a < 6 ∧ b < 6 ∧ x = nI a ∧ y = nI b ∧ XV (SD s.D) cnt v mk ∧ FinV (SD s.D) (mk 94) cnt v ∧ MemB (SD s.D) cnt (mk 94) (mk 101 a) a ∧ MemB (SD s.D) cnt (mk 94) (mk 101 b) b ∧ r = some (.long z) ∧ Lst (tb (mk 101 a &&& (mk 101 b ^^^ (-1)))) cnt v z)))
/-- the class's differ -/
theorem x_differ (hR : SR mr) (hs : okSta s) (mi : Nat → Nat → Int32) (ml : Nat → Nat → Int64) (hX : XI s mi ml mr) (x y : Int32) : am_T l (d + 5) M_X_differ 0 [some (.ref 0), some (.int x), some (.int y)] [] (hm mi ml mr) 0 0 (fun r h' => ∃ mi' ml', h' = hm mi' ml' mr ∧ XI s mi' ml' mr ∧ (∀ a, 116 ≤ a → mi' a = mi a) ∧ (∀ a, 116 ≤ a → ml' a = ml a) ∧ (((isNm x && isNm y) = false ∧ r = some (.long (-2))) ∨ ((isNm x && isNm y) = true ∧ ∃ cnt tm, KX (SD s.D) cnt tm mi' ml' ∧ mi' 93 1 = bI true ∧ ((tm = true ∧ r = some (.long (-3))) ∨ (tm = false ∧ ∃ a b v z, a < 6 ∧ b < 6 ∧ x = nI a ∧ y = nI b ∧ XV (SD s.D) cnt v ml' ∧ FinV (SD s.D) (ml' 94) cnt v ∧ MemB (SD s.D) cnt (ml' 94) (ml' 101 a) a ∧ MemB (SD s.D) cnt (ml' 94) (ml' 101 b) b ∧ r = some (.long z) ∧ Lst (tb (ml' 101 a &&& (ml' 101 b ^^^ (-1)))) cnt v z))))) := by
  have no : (isNm x && isNm y) = false → am_T l (d + 5) M_X_differ 14 [some (.ref 0), some (.int x), some (.int y)] [] (hm mi ml mr) 0 0 (fun r h' => ∃ mi' ml', h' = hm mi' ml' mr ∧ XI s mi' ml' mr ∧ (∀ a, 116 ≤ a → mi' a = mi a) ∧ (∀ a, 116 ≤ a → ml' a = ml a) ∧ (((isNm x && isNm y) = false ∧ r = some (.long (-2))) ∨ ((isNm x && isNm y) = true ∧ ∃ cnt tm, KX (SD s.D) cnt tm mi' ml' ∧ mi' 93 1 = bI true ∧ ((tm = true ∧ r = some (.long (-3))) ∨ (tm = false ∧ ∃ a b v z, a < 6 ∧ b < 6 ∧ x = nI a ∧ y = nI b ∧ XV (SD s.D) cnt v ml' ∧ FinV (SD s.D) (ml' 94) cnt v ∧ MemB (SD s.D) cnt (ml' 94) (ml' 101 a) a ∧ MemB (SD s.D) cnt (ml' 94) (ml' 101 b) b ∧ r = some (.long z) ∧ Lst (tb (ml' 101 a &&& (ml' 101 b ^^^ (-1)))) cnt v z))))) := by
    intro e
    refine am_ldc2m rfl rfl ?_
    exact am_lreturn rfl rfl ⟨mi, ml, rfl, hX, fun _ _ => rfl, fun _ _ => rfl, Or.inl ⟨e, rfl⟩⟩
  refine am_iload_n rfl rfl ?_
  refine ho_cs1 rfl rfl (Nat.le_of_ble_eq_true rfl) (Nat.le_of_ble_eq_true rfl) (c_X_isNameNumber x) ?_
  rintro v h' ⟨rfl, rfl⟩
  refine am_if_eq rfl (fun z => no (by rw [(bI_eq _).mp z]; rfl)) (fun z => ?_)
  have z := (bI_ne _).mp z
  refine am_iload_n rfl rfl ?_
  refine ho_cs1 rfl rfl (Nat.le_of_ble_eq_true rfl) (Nat.le_of_ble_eq_true rfl) (c_X_isNameNumber y) ?_
  rintro v h' ⟨rfl, rfl⟩
  refine am_if_ne rfl (fun w => ?_) (fun w => no (by rw [(bI_eq _).mp w, Bool.and_false]))
  have w := (bI_ne _).mp w
  have hb : (isNm x && isNm y) = true := by rw [z, w]; rfl
  obtain ⟨a, ha, rfl⟩ := isNm_nI z
  obtain ⟨b, hb6, rfl⟩ := isNm_nI w
  refine am_aload_n rfl rfl ?_
  refine ho_getR rfl (by first | rfl | assumption) rfl (by first | assumption | exact hR _ _ _ rfl) ?_
  refine ho_cv0 rfl (by first | rfl | assumption) rfl (Nat.le_of_ble_eq_true rfl) (Nat.le_of_ble_eq_true rfl) (x_room hR hs mi ml hX) ?_
  rintro v h' ⟨cnt, tm, mi1, ml1, rfl, rfl, g1, g2, g3, g4, g5⟩
  cases tm with
  | true =>
    refine am_if_ne rfl (fun q => absurd rfl q) (fun _ => ?_)
    refine am_ldc2m rfl rfl ?_
    exact am_lreturn rfl rfl ⟨mi1, ml1, rfl, g1, g4, g5, Or.inr ⟨hb, cnt, true, g2, g3, Or.inl ⟨rfl, rfl⟩⟩⟩
  | false =>
    refine am_if_ne rfl (fun _ => ?_) (fun q => by cases q)
    obtain ⟨ip, n, -, L, hK1, hK2⟩ := id g2
    obtain ⟨hA, hMem, u, hV, hFin⟩ := hK2 rfl
    refine am_aload_n rfl rfl ?_
    refine ho_getR rfl (by first | rfl | assumption) rfl (by first | assumption | exact hR _ _ _ rfl) ?_
    refine am_aload_n rfl rfl ?_
    refine ho_getR rfl (by first | rfl | assumption) rfl (by first | assumption | exact hR _ _ _ rfl) ?_
    refine ho_getR rfl (by first | rfl | assumption) rfl (by first | assumption | exact hR _ _ _ rfl) ?_
    refine am_iload_n rfl rfl ?_
    refine ho_laload rfl (by first | rfl | assumption) (by omega) ?_
    refine am_aload_n rfl rfl ?_
    refine ho_getR rfl (by first | rfl | assumption) rfl (by first | assumption | exact hR _ _ _ rfl) ?_
    refine ho_getR rfl (by first | rfl | assumption) rfl (by first | assumption | exact hR _ _ _ rfl) ?_
    refine am_iload_n rfl rfl ?_
    refine ho_laload rfl (by first | rfl | assumption) (by omega) ?_
    refine am_ldc2m rfl rfl ?_
    refine am_lxor rfl ?_
    refine am_land rfl ?_
    refine ho_cv1 rfl (by first | rfl | assumption) rfl (Nat.le_of_ble_eq_true rfl) (Nat.le_of_ble_eq_true rfl) (c_K_leastOf hR hK1.1.1.2 hK1.2.1.1 u hV.1 hV.2.2.1 _) ?_
    rintro v h' ⟨r, rfl, rfl, hr⟩
    exact am_lreturn rfl rfl ⟨mi1, ml1, rfl, g1, g4, g5, Or.inr ⟨hb, cnt, false, g2, g3, Or.inr ⟨rfl, a, b, u, r, ha, hb6, rfl, rfl, hV, hFin, hMem a ha, hMem b hb6, rfl, hr⟩⟩⟩
/-- the reference's differ -/
theorem m_differ (hR : SR mr) (hs : okSta s) (mi : Nat → Nat → Int32) (ml : Nat → Nat → Int64) (hM : MI s mi ml) (x y : Int32) (r : Option Value) (hr : difR s x y r) : am_T l (d + 6) M_m_differ 0 [some (.ref 116), some (.int x), some (.int y)] [] (hm mi ml mr) 0 0 (fun r2 h' => r2 = r ∧ ∃ mi' ml', h' = hm mi' ml' mr ∧ MI s mi' ml' ∧ Fn2 mi mi' ml ml' ∧ ((isNm x && isNm y) = true → ∃ cnt, repS (SD s.D) mi' ∧ MKn (SD s.D) cnt mi' ml' ∧ mi' 116 11 = bI true)) := by
  have hS := okS_SD hs.2.1
  have no : (isNm x && isNm y) = false → am_T l (d + 6) M_m_differ 14 [some (.ref 116), some (.int x), some (.int y)] [] (hm mi ml mr) 0 0 (fun r2 h' => r2 = r ∧ ∃ mi' ml', h' = hm mi' ml' mr ∧ MI s mi' ml' ∧ Fn2 mi mi' ml ml' ∧ ((isNm x && isNm y) = true → ∃ cnt, repS (SD s.D) mi' ∧ MKn (SD s.D) cnt mi' ml' ∧ mi' 116 11 = bI true)) := by
    intro e
    rcases hr with ⟨-, rfl⟩ | ⟨h1, -⟩
    · refine am_ldc2m rfl rfl ?_
      refine am_goto rfl ?_
      exact am_lreturn rfl rfl ⟨rfl, mi, ml, rfl, hM, Fn2.rf, fun q => by rw [e] at q; cases q⟩
    · rw [e] at h1
      cases h1
  refine am_iload_n rfl rfl ?_
  refine ho_cs1 rfl rfl (Nat.le_of_ble_eq_true rfl) (Nat.le_of_ble_eq_true rfl) (c_m_isName x) ?_
  rintro v h' ⟨rfl, rfl⟩
  refine am_if_eq rfl (fun z => no (by rw [(bI_eq _).mp z]; rfl)) (fun z => ?_)
  have z := (bI_ne _).mp z
  refine am_iload_n rfl rfl ?_
  refine ho_cs1 rfl rfl (Nat.le_of_ble_eq_true rfl) (Nat.le_of_ble_eq_true rfl) (c_m_isName y) ?_
  rintro v h' ⟨rfl, rfl⟩
  refine am_if_ne rfl (fun w => ?_) (fun w => no (by rw [(bI_eq _).mp w, Bool.and_false]))
  have w := (bI_ne _).mp w
  have hb : (isNm x && isNm y) = true := by rw [z, w]; rfl
  rcases hr with ⟨h1, -⟩ | ⟨-, cnt, tm, mj, mk, hKX, hr⟩
  · rw [hb] at h1
    cases h1
  refine am_aload_n rfl rfl ?_
  refine ho_cv0 rfl (by first | rfl | assumption) rfl (Nat.le_of_ble_eq_true rfl) (Nat.le_of_ble_eq_true rfl) (m_room hR hs mi ml hM) ?_
  rintro v h' ⟨cm, mi', ml', rfl, rfl, q0, q1, q2, q3, q4⟩
  obtain ⟨e1, e2⟩ := room_same hS q2 hKX
  rw [← e1]
  rcases hr with ⟨rfl, rfl⟩ | ⟨rfl, a, b, u, t, ha, hb6, rfl, rfl, hV, hFin, hMa, hMb, rfl, ht⟩
  · refine am_if_eq rfl (fun z => by cases z) (fun _ => ?_)
    refine am_ldc2m rfl rfl ?_
    refine am_goto rfl ?_
    exact am_lreturn rfl rfl ⟨rfl, mi', ml', rfl, q0, q4, fun _ => ⟨cm, q1, q2, q3⟩⟩
  · have h40 : cm ≤ 40 := by
      have := of_decide_eq_false e1.symm
      omega
    refine am_if_eq rfl (fun _ => ?_) (fun z => absurd rfl z)
    obtain ⟨-, g, hVu, hu⟩ := q2.2.1 h40
    have hfar := sizes_far q2 h40 hVu hu
    refine am_aload_n rfl rfl ?_
    refine am_iload_n rfl rfl ?_
    refine am_iload_n rfl rfl ?_
    refine ho_cv2 rfl (by first | rfl | assumption) rfl (Nat.le_of_ble_eq_true rfl) (Nat.le_of_ble_eq_true rfl) (c_m_smallest hR hS q1 h40 q2.1.2.1 g hVu.1 (fun k hk => Nat.lt_trans (hfar k hk) (by decide)) a ha (some b) (fun c q => by cases q; exact hb6)) ?_
    rintro v h' ⟨z, rfl, rfl, hz⟩
    obtain ⟨ip, n, hX1, hXK⟩ := hKX
    obtain ⟨L, hK1, -⟩ := id hXK
    have := least_same hS q2 h40 hX1 hXK hVu hu hV hFin (fun x => pkM (SD s.D) (fun _ => x) a (some b) 0) (p := pkM (SD s.D) (ml' 127) a (some b)) (p' := tb (mk 101 a &&& (mk 101 b ^^^ (-1)))) (fun k hk => rfl) (pick_two hK1.1.1.2 hMa hMb) hz ht
    subst this
    exact am_lreturn rfl rfl ⟨rfl, mi', ml', rfl, q0, q4, fun _ => ⟨cm, q1, q2, q3⟩⟩
theorem w_differ (hK : ∀ v, K (some (.long v))) (x y : Int32) : lw2 l K 71 152 [.int x, .int y] := by
  refine lw_mk (fun mi ml mr s hR hs hX => ⟨fun r s' => s' = s ∧ difR s x y r, ?_, ?_⟩)
  · show am_T l 60 M_X_differ 0 [some (.ref 0), some (.int x), some (.int y)] [] _ 0 0 _
    refine am_T.to (x_differ hR hs mi ml hX x y) ?_
    rintro r h ⟨mi', ml', rfl, g1, g2, g3, g4⟩
    rcases g4 with ⟨k1, rfl⟩ | ⟨k1, cnt, tm, k2, -, ⟨rfl, rfl⟩ | ⟨rfl, a, b, v, z, k3, k4, k5, k6, k7, k8, k9, k10, rfl, k11⟩⟩
    · exact ⟨hK _, _, _, _, s, rfl, hR, g1, ⟨rfl, Or.inl ⟨k1, rfl⟩⟩, g2, g3⟩
    · exact ⟨hK _, _, _, _, s, rfl, hR, g1, ⟨rfl, Or.inr ⟨k1, cnt, true, mi', ml', k2, Or.inl ⟨rfl, rfl⟩⟩⟩, g2, g3⟩
    · exact ⟨hK _, _, _, _, s, rfl, hR, g1, ⟨rfl, Or.inr ⟨k1, cnt, false, mi', ml', k2, Or.inr ⟨rfl, a, b, v, z, k3, k4, k5, k6, k7, k8, k9, k10, rfl, k11⟩⟩⟩, g2, g3⟩
  · rintro r s' mi ml mr hR hM - ⟨rfl, hr⟩
    show am_T l 60 M_m_differ 0 [some (.ref 116), some (.int x), some (.int y)] [] _ 0 0 _
    refine am_T.to (m_differ hR hs mi ml hM x y r hr) ?_
    rintro r2 h ⟨rfl, mi', ml', rfl, g1, q4, -⟩
    exact ⟨rfl, _, _, rfl, hs, g1, fun a ha => q4.1 a (by omega) (by omega) (by omega) (by omega) (by omega) (by omega), fun a ha => q4.2.2.1 a (by omega) (by omega) (by omega)⟩
end W4
