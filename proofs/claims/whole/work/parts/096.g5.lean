/-! operation: uncovered -/
/-- the kinds of one are kinds of the other -/
def SK (km : Nat → Int64) (v : Nat → Nat) (cm : Nat) (kx : Nat → Int64) (w : Nat → Nat) (cx : Nat) : Prop := ∀ k, k < cm → ∃ k', k' < cx ∧ kx k' = km k ∧ w k' = v k ∧ (k = 0 ↔ k' = 0)
theorem sk_both {S : Rs} (hS : okS S) {ip : Nat → Nat} {n cm cx L : Nat} {mi mj : Nat → Nat → Int32} {ml mk : Nat → Nat → Int64} (hM : MKn S cm mi ml) (hc : cm ≤ 40) {v w : Nat → Nat} (hV : VI S cm v ml) (hv : ∀ k, 1 ≤ k → k < cm → v k = lsz S (ml 127 k)) (hK : KF S ip n cx L w mj mk) : SK (ml 127) v cm (mk 94) w cx ∧ SK (mk 94) w cx (ml 127) v cm := by
  obtain ⟨hX, hK1, hA, -, hW, hw⟩ := hK
  obtain ⟨hAm, -⟩ := hM.2.1 hc
  have m0 := hM.1.2.2.1
  have x0 := hK1.2.2.1
  have n1 := hM.1.1.1
  have n2 := hK1.1.1.1
  constructor
  · intro k hk
    rcases Nat.eq_zero_or_pos k with e | e
    · subst e
      exact ⟨0, n2, x0.trans m0.symm, hW.2.1.trans hV.2.1.symm, Iff.rfl⟩
    · obtain ⟨k', a1, a2, a3⟩ := x_reach hS hX hK1 hA (hM.1.2.2.2.2 k e hk)
      exact ⟨k', a2, a3, by rw [hw k' a1 a2, hv k e hk, a3], by omega⟩
  · intro k hk
    rcases Nat.eq_zero_or_pos k with e | e
    · subst e
      exact ⟨0, n1, m0.trans x0.symm, hV.2.1.trans hW.2.1.symm, Iff.rfl⟩
    · obtain ⟨k', a1, a2, a3⟩ := m_all hM.1 hAm (hK1.2.2.2.2.1 k e hk)
      exact ⟨k', a2, a3, by rw [hv k' a1 a2, hw k e hk, a3], by omega⟩
/-- ways and cuts speak of the same -/
theorem way_cut {S : Rs} (hS : okS S) {ip : Nat → Nat} {n cm cx : Nat} {mj : Nat → Nat → Int32} {mk : Nat → Nat → Int64} (hX : repX S ip n mj mk) {km kx : Nat → Int64} {v w : Nat → Nat} (hx : 1 ≤ cx) (h0 : kx 0 = K0 S) (w0 : w 0 = 0) (h : SK km v cm kx w cx) (h1 : 1 ≤ cm) : ∀ i, i < 1 + 5 * cm * cm → ∃ i', i' < 1 + cx + 4 * cx * cx ∧ cF cx i' = wF cm i ∧ wt w (cF cx i') (cC cx i') (cW cx i') = wt v (wF cm i) (wC cm i) (wW cm i) ∧ ∀ F : Fn, wch S F (cF cx i') (kx (cC cx i')) (kx (cW cx i')) = wch S F (wF cm i) (km (wC cm i)) (km (wW cm i)) := by
  intro i hi
  obtain ⟨w1, w2, w3⟩ := w_in h1 hi
  obtain ⟨c', a1, a2, a3, -⟩ := h _ w2
  obtain ⟨y', b1, b2, b3, -⟩ := h _ w3
  by_cases e0 : wF cm i = 0
  · refine ⟨0, by omega, ?_, ?_, fun F => ?_⟩
    · rw [e0]
      rfl
    · rw [e0]
      rfl
    · rw [e0, show cF cx 0 = 0 from rfl]
      exact wch_0 _ _ _ _
  by_cases e1 : wF cm i = 1
  · obtain ⟨i', i1, i2, i3, i4⟩ := c_at1 b1
    refine ⟨i', i1, by rw [i2, e1], ?_, fun F => ?_⟩
    · rw [i2, e1, i4]
      show 1 + w y' + 0 = 1 + v (wW cm i) + 0
      rw [b3]
    · rw [i2, e1, i4, b2]
      exact wch_1 hS hX _ _ _
  · obtain ⟨i', i1, i2, i3, i4⟩ := c_at (f := wF cm i) (by omega) w1 a1 b1
    refine ⟨i', i1, i2, ?_, fun F => ?_⟩
    · rw [i2, i3, i4]
      unfold wt
      rw [if_neg e0, if_neg e0, if_neg e1, if_neg e1, a3, b3]
    · rw [i2, i3, i4, a2, b2]
theorem cut_way {S : Rs} {cm cx : Nat} {km kx : Nat → Int64} {v w : Nat → Nat} (h : SK kx w cx km v cm) (h1 : 1 ≤ cx) : ∀ i, i < 1 + cx + 4 * cx * cx → ∃ i', i' < 1 + 5 * cm * cm ∧ wF cm i' = cF cx i ∧ wt v (wF cm i') (wC cm i') (wW cm i') = wt w (cF cx i) (cC cx i) (cW cx i) ∧ ∀ F : Fn, wch S F (wF cm i') (km (wC cm i')) (km (wW cm i')) = wch S F (cF cx i) (kx (cC cx i)) (kx (cW cx i)) := by
  intro i hi
  obtain ⟨w1, w2, w3, -⟩ := c_in h1 hi
  obtain ⟨c', a1, a2, a3, -⟩ := h _ w2
  obtain ⟨y', b1, b2, b3, -⟩ := h _ w3
  by_cases e0 : cF cx i = 0
  · refine ⟨0, by omega, ?_, ?_, fun F => ?_⟩
    · rw [e0]
      rfl
    · rw [e0]
      rfl
    · rw [e0, show wF cm 0 = 0 from rfl]
      exact wch_0 _ _ _ _
  · obtain ⟨i', i1, -, i2, i3, i4⟩ := w_at (f := cF cx i) (by omega) w1 a1 b1
    refine ⟨i', i1, i2, ?_, fun F => ?_⟩
    · rw [i2, i3, i4]
      unfold wt
      rw [a3, b3]
    · rw [i2, i3, i4, a2, b2]
def uncR (s : Sta) (x : Int32) (r : Option Value) : Prop := (def3 s.F x = false ∧ r = some (.long (-2))) ∨ (def3 s.F x = true ∧ ∃ cnt tm mj mk, KX (SD s.D) cnt tm mj mk ∧ ((tm = true ∧ r = some (.long (-3))) ∨ (tm = false ∧ ∃ φ ip n L v z, φ < 3 ∧ x = nI φ ∧ KF (SD s.D) ip n cnt L v mj mk ∧ r = some (.long z) ∧ Lst (unX (SD s.D) (s.F φ) cnt (mk 94)) (1 + cnt + 4 * cnt * cnt) (utX v cnt) z)))
section G5
variable {l : Launch} {d : Nat} {K : Option Value → Prop} {mr : Nat → Nat → Option Nat} {s : Sta}
theorem KX_KF {S : Rs} {cnt : Nat} {mi : Nat → Nat → Int32} {ml : Nat → Nat → Int64} (h : KX S cnt false mi ml) : ∃ ip n L v, KF S ip n cnt L v mi ml := by
  obtain ⟨ip, n, h1, L, h2, h3⟩ := h
  obtain ⟨a1, a2, v, a3, a4⟩ := h3 rfl
  exact ⟨ip, n, L, v, h1, h2, a1, a2, a3, a4⟩
theorem XI_Fc {mi mi' : Nat → Nat → Int32} {ml : Nat → Nat → Int64} (h : XI s mi ml mr) (hF : Fc mi mi') : XI s mi' ml mr := by
  obtain ⟨⟨a0, a1⟩, a2, a3, ⟨td, tw, b1, b2, b3, b4, b5, b6, b7, b8⟩, a5, a6, a7⟩ := h
  refine ⟨⟨by rw [hF 0 (by decide)]; exact a0, txt_to a1 (hF 1 (by decide))⟩, XD_to a2 (fun a _ h => hF a (by omega)) rfl rfl, XF_to a3 (fun a _ h => hF a (by omega)) rfl rfl, ⟨td, tw, b1, b2, b3, b4, b5, b6, HA_to b7 (hF _ (by omega)) (hF _ (by omega)) (hF _ (by omega)), HA_to b8 (hF _ (by omega)) (hF _ (by omega)) (hF _ (by omega))⟩, XR_to a5 (fun a _ h => hF a (by omega)) (fun a _ h _ => rfl), fun i q => by rw [hF 100 (by decide)]; exact a6 i q, XT_to a7 (by rw [hF 102 (by decide)]) (by rw [hF 93 (by decide)]) (by rw [hF 93 (by decide)]) (hF 103 (by decide)) (hF 104 (by decide)) rfl⟩
theorem x_uncovered (hR : SR mr) (hs : okSta s) (mi : Nat → Nat → Int32) (ml : Nat → Nat → Int64) (hX : XI s mi ml mr) (x : Int32) : am_T l (d + 5) M_X_uncovered 0 [some (.ref 0), some (.int x)] [] (hm mi ml mr) 0 0 (fun r h' => (∃ v, r = some (.long v)) ∧ ∃ mi' ml', h' = hm mi' ml' mr ∧ XI s mi' ml' mr ∧ uncR s x r ∧ (∀ a, 116 ≤ a → mi' a = mi a) ∧ ∀ a, 116 ≤ a → ml' a = ml a) := by
  have hS := okS_SD hs.2.1
  refine am_aload_n rfl rfl ?_
  refine am_iload_n rfl rfl ?_
  refine ho_cv1 rfl (by first | rfl | assumption) rfl (Nat.le_of_ble_eq_true rfl) (Nat.le_of_ble_eq_true rfl) (c_X_isDefined hR hX.2.2.1 x) ?_
  rintro v h' ⟨rfl, rfl⟩
  refine am_if_ne rfl (fun z => ?_) (fun z => ?_)
  case refine_2 =>
    refine am_ldc2m rfl rfl ?_
    exact am_lreturn rfl rfl ⟨⟨_, rfl⟩, mi, ml, rfl, hX, Or.inl ⟨(bI_eq _).mp z, rfl⟩, fun _ _ => rfl, fun _ _ => rfl⟩
  have hdef := (bI_ne _).mp z
  obtain ⟨φ, hφ, rfl, hz⟩ := def3_of hdef
  refine am_aload_n rfl rfl ?_
  refine ho_getR rfl (by first | rfl | assumption) rfl (by first | assumption | exact hR _ _ _ rfl) ?_
  refine ho_cv0 rfl (by first | rfl | assumption) rfl (Nat.le_of_ble_eq_true rfl) (Nat.le_of_ble_eq_true rfl) (x_room hR hs mi ml hX) ?_
  rintro v h' ⟨cnt, tm, mi1, ml1, rfl, rfl, g1, g2, g3, g4, g5⟩
  cases tm with
  | true =>
    refine am_if_eq rfl (fun _ => ?_) (fun q => absurd rfl q)
    refine am_ldc2m rfl rfl ?_
    exact am_lreturn rfl rfl ⟨⟨_, rfl⟩, mi1, ml1, rfl, g1, Or.inr ⟨hdef, cnt, true, mi1, ml1, g2, Or.inl ⟨rfl, rfl⟩⟩, g4, g5⟩
  | false =>
    refine am_if_eq rfl (fun q => by cases q) (fun _ => ?_)
    obtain ⟨ip, n, L, v, hKF⟩ := KX_KF g2
    obtain ⟨oF, c1, c2, c3, c4, c5⟩ := id g1.2.2.1
    have hrφ := c3 φ hφ
    have hFn := isFn_of hR (c1 φ (by omega))
    have hokF : okF (s.F φ) := (hs.2.2.1 φ).1.resolve_left (fun q => hz (by rw [q]; rfl))
    refine am_aload_n rfl rfl ?_
    refine ho_getR rfl (by first | rfl | assumption) rfl (by first | assumption | exact hR _ _ _ rfl) ?_
    refine am_aload_n rfl rfl ?_
    refine ho_getR rfl (by first | rfl | assumption) rfl (by first | assumption | exact hR _ _ _ rfl) ?_
    refine am_iload_n rfl rfl ?_
    refine ho_aaload rfl (by first | rfl | assumption) ⟨by decide, rfl⟩ (by omega) (by first | assumption | exact hR _ _ _ rfl) ?_
    refine ho_cv1 rfl (by first | rfl | assumption) rfl (Nat.le_of_ble_eq_true rfl) (Nat.le_of_ble_eq_true rfl) (c_C_leastUncovered hR hS hFn hokF mi1 hKF ((c5 φ hφ).2 hz)) ?_
    rintro r h' ⟨z, mi2, rfl, rfl, k1, k2⟩
    refine am_goto rfl ?_
    exact am_lreturn rfl rfl ⟨⟨_, rfl⟩, mi2, ml1, rfl, XI_Fc g1 k1, Or.inr ⟨hdef, cnt, false, mi1, ml1, g2, Or.inr ⟨rfl, φ, ip, n, L, v, z, hφ, rfl, hKF, rfl, k2⟩⟩, fun a ha => by rw [k1 a (by omega)]; exact g4 a ha, g5⟩
/-- the reference's uncovered, for a function that is defined -/
theorem m_unc (hR : SR mr) (hs : okSta s) (mi : Nat → Nat → Int32) (ml : Nat → Nat → Int64) (hM : MI s mi ml) (φ : Nat) (hφ : φ < 3) (hz : (s.F φ).2.2.length ≠ 0) : am_T l (d + 6) M_m_uncovered 0 [some (.ref 116), some (.int (nI φ)), none, none, none, none, none] [] (hm mi ml mr) 0 0 (fun r h' => ∃ cm mi' ml', h' = hm mi' ml' mr ∧ MI s mi' ml' ∧ repS (SD s.D) mi' ∧ MKn (SD s.D) cm mi' ml' ∧ mi' 116 11 = bI true ∧ Fn2 mi mi' ml ml' ∧ ((40 < cm ∧ r = some (.long (-3))) ∨ (cm ≤ 40 ∧ ∃ v z, VI (SD s.D) cm v ml' ∧ (∀ k, 1 ≤ k → k < cm → v k = lsz (SD s.D) (ml' 127 k)) ∧ r = some (.long z) ∧ Lst (unM (SD s.D) (s.F φ) cm (ml' 127)) (1 + 5 * cm * cm) (utM v cm) z))) := by
  have hS := okS_SD hs.2.1
  have hokF : okF (s.F φ) := (hs.2.2.1 φ).1.resolve_left (fun q => hz (by rw [q]; rfl))
  refine am_aload_n rfl rfl ?_
  refine am_iload_n rfl rfl ?_
  refine ho_cv1 rfl (by first | rfl | assumption) rfl (Nat.le_of_ble_eq_true rfl) (Nat.le_of_ble_eq_true rfl) (c_m_definedN hR φ hφ (hM.2.2.1 φ hφ)) ?_
  rintro v h' ⟨rfl, rfl⟩
  rw [decide_eq_true hz]
  refine am_if_ne rfl (fun _ => ?_) (fun z => by cases z)
  refine am_aload_n rfl rfl ?_
  refine ho_cv0 rfl (by first | rfl | assumption) rfl (Nat.le_of_ble_eq_true rfl) (Nat.le_of_ble_eq_true rfl) (m_room hR hs mi ml hM) ?_
  rintro v h' ⟨cm, mi', ml', rfl, rfl, q0, q1, q2, q3, q4⟩
  by_cases h40 : 40 < cm
  · rw [decide_eq_true h40]
    refine am_if_eq rfl (fun z => by cases z) (fun _ => ?_)
    refine am_ldc2m rfl rfl ?_
    exact am_lreturn rfl rfl ⟨cm, mi', ml', rfl, q0, q1, q2, q3, q4, Or.inl ⟨h40, rfl⟩⟩
  · rw [decide_eq_false h40]
    refine am_if_eq rfl (fun _ => ?_) (fun z => absurd rfl z)
    have h40 : cm ≤ 40 := by omega
    obtain ⟨-, v, hV, hv⟩ := q2.2.1 h40
    have hfar := sizes_far q2 h40 hV hv
    have hE := q0.2.2.1 φ hφ
    rw [fTx_def hz] at hE
    refine am_ldc2 rfl rfl ?_
    refine am_lstore_n rfl (Nat.le_of_ble_eq_true rfl) ?_
    show am_T _ _ _ _ [_, _, some _, none, _, _, _] _ _ _ _ _
    refine am_iconst (v := nI 0) rfl (by decide) ?_
    refine am_istore rfl (Nat.le_of_ble_eq_true rfl) ?_
    show am_T _ _ _ _ [_, _, _, _, some _, _, _] _ _ _ _ _
    have k := c_m_unc_loop (l := l) (d := d + 1) hR hS q1 q2 h40 hV.1 hfar φ hφ hokF hE (1 + 5 * cm * cm) 0 FARm (Nat.zero_add _) (Or.inl ⟨rfl, fun k hk => by omega⟩)
    refine am_T.to k ?_
    rintro r h' ⟨z, rfl, rfl, hL⟩
    exact ⟨cm, mi', ml', rfl, q0, q1, q2, q3, q4, Or.inr ⟨h40, v, z, hV, hv, rfl, hL⟩⟩
theorem unc_same {S : Rs} (hS : okS S) {ip : Nat → Nat} {n cm cx L : Nat} {mi mj : Nat → Nat → Int32} {ml mk : Nat → Nat → Int64} (hM : MKn S cm mi ml) (hc : cm ≤ 40) {v w : Nat → Nat} (hV : VI S cm v ml) (hv : ∀ k, 1 ≤ k → k < cm → v k = lsz S (ml 127 k)) (hK : KF S ip n cx L w mj mk) {F : Fn} {r r' : Int64} (h : Lst (unM S F cm (ml 127)) (1 + 5 * cm * cm) (utM v cm) r) (h' : Lst (unX S F cx (mk 94)) (1 + cx + 4 * cx * cx) (utX w cx) r') : r = r' := by
  obtain ⟨s1, s2⟩ := sk_both hS hM hc hV hv hK
  refine Lst_same (fun i hi => ?_) (fun i hi => ?_) h h'
  · obtain ⟨i', a1, -, a2, a3⟩ := way_cut hS hK.1 hK.2.1.1.1.1 hK.2.1.2.2.1 hK.2.2.2.2.1.2.1 s1 hM.1.1.1 i hi
    exact ⟨i', a1, by unfold unX unM unP; rw [a3], a2⟩
  · obtain ⟨i', a1, -, a2, a3⟩ := cut_way (S := S) s2 hK.2.1.1.1.1 i hi
    exact ⟨i', a1, by unfold unX unM unP; rw [a3], a2⟩
theorem w_uncovered (hK : ∀ v, K (some (.long v))) (x : Int32) : lw2 l K 82 158 [.int x] := by
  refine lw_mk (fun mi ml mr s hR hs hX => ⟨fun r s' => s' = s ∧ uncR s x r, ?_, ?_⟩)
  · show am_T l 60 M_X_uncovered 0 [some (.ref 0), some (.int x)] [] _ 0 0 _
    refine am_T.to (x_uncovered hR hs mi ml hX x) ?_
    rintro r h ⟨⟨v, rfl⟩, mi', ml', rfl, g1, g2, g3, g4⟩
    exact ⟨hK _, mi', ml', mr, s, rfl, hR, g1, ⟨rfl, g2⟩, g3, g4⟩
  · rintro r s' mi ml mr hR hM - ⟨rfl, hr⟩
    show am_T l 60 M_m_uncovered 0 [some (.ref 116), some (.int x), none, none, none, none, none] [] _ 0 0 _
    rcases hr with ⟨h1, rfl⟩ | ⟨h1, cnt, tm, mj, mk, hKX, hr⟩
    · refine am_aload_n rfl rfl ?_
      refine am_iload_n rfl rfl ?_
      refine ho_cv1 rfl (by first | rfl | assumption) rfl (Nat.le_of_ble_eq_true rfl) (Nat.le_of_ble_eq_true rfl) (c_m_definedX hR hM.2.2.1 x) ?_
      rintro v h' ⟨rfl, rfl⟩
      rw [h1]
      refine am_if_ne rfl (fun z => absurd rfl z) (fun _ => ?_)
      refine am_ldc2m rfl rfl ?_
      exact am_lreturn rfl rfl ⟨rfl, _, _, rfl, hs, hM, fun _ _ => rfl, fun _ _ => rfl⟩
    · obtain ⟨φ, hφ, rfl, hz⟩ := def3_of h1
      have hS := okS_SD hs.2.1
      refine am_T.to (m_unc hR hs mi ml hM φ hφ hz) ?_
      rintro r2 h' ⟨cm, mi', ml', rfl, q0, q1, q2, q3, q4, q5⟩
      obtain ⟨e1, e2⟩ := room_same hS q2 hKX
      have hfr : (∀ a, a < 116 → mi' a = mi a) ∧ ∀ a, a < 116 → ml' a = ml a := ⟨fun a ha => q4.1 a (by omega) (by omega) (by omega) (by omega) (by omega) (by omega), fun a ha => q4.2.2.1 a (by omega) (by omega) (by omega)⟩
      refine ⟨?_, _, _, rfl, hs, q0, hfr.1, hfr.2⟩
      rcases q5 with ⟨k1, rfl⟩ | ⟨k1, v, z, k2, k3, rfl, k4⟩
      · rcases hr with ⟨-, rfl⟩ | ⟨rfl, -⟩
        · rfl
        · exact absurd k1 (of_decide_eq_false e1.symm)
      · rcases hr with ⟨rfl, -⟩ | ⟨rfl, ψ, ip, n, L, w, y, m1, m2, m3, rfl, m4⟩
        · have := of_decide_eq_true e1.symm
          omega
        · have : φ = ψ := (nI_eq (by omega) (by omega)).mp m2
          subst this
          rw [unc_same hS q2 k1 k2 k3 m3 k4 m4]
end G5
