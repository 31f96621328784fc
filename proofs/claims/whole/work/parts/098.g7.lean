/-! the reference: useless; the operation -/
section G7
variable {l : Launch} {d : Nat} {mi : Nat → Nat → Int32} {ml : Nat → Nat → Int64} {mr : Nat → Nat → Option Nat} {S : Rs} {cnt : Nat} {F : Fn}
theorem c_m_usl_count {Q : Option Value → am_H → Prop} (x1 : Int32) (m C : Nat) (hm7 : m < 128) (hC : C ≤ 6) (hQ : Q (some (.int (nI (cnt0 (fun j => m.testBit (j + 1)) C)))) (hm mi ml mr)) : ∀ (j c : Nat), c + j = C → am_T l d M_m_useless 75 [some (.ref 116), some (.int x1), some (.int (nI m)), some (.int (nI C)), some (.int (nI (cnt0 (fun j => m.testBit (j + 1)) c))), some (.int (nI (c + 1)))] [] (hm mi ml mr) 0 0 Q := by
  intro j
  induction j with
  | zero =>
    intro c hj
    have : c = C := by omega
    subst this
    refine am_iload rfl rfl ?_
    refine am_iload_n rfl rfl ?_
    refine ho_icmp_gt rfl (by omega) (by omega) (fun _ => ?_) (fun z => absurd (by omega) z)
    refine am_iload rfl rfl ?_
    exact am_ireturn rfl rfl hQ
  | succ j ih =>
    intro c hj
    refine am_iload rfl rfl ?_
    refine am_iload_n rfl rfl ?_
    refine ho_icmp_gt rfl (by omega) (by omega) (fun z => absurd z (by omega)) (fun _ => ?_)
    refine am_iload_n rfl rfl ?_
    refine am_iload rfl rfl ?_
    refine am_ishr rfl ?_
    refine am_iconst (v := nI 1) rfl (by decide) ?_
    refine am_iand rfl ?_
    rw [shr_bit7 m hm7 (c + 1) (by omega)]
    have hn := ih (c + 1) (by omega)
    unfold cnt0 at hn
    cases hb : m.testBit (c + 1) with
    | true =>
      rw [hb] at hn
      refine am_if_ne rfl (fun _ => ?_) (fun z => absurd z (by decide))
      refine am_iload rfl rfl ?_
      refine am_istore rfl (Nat.le_of_ble_eq_true rfl) ?_
      show am_T _ _ _ _ [_, _, _, _, some _, _] _ _ _ _ _
      refine am_iinc rfl rfl (nI_inc1 _) ?_
      show am_T _ _ _ _ [_, _, _, _, _, some _] _ _ _ _ _
      refine am_goto rfl ?_
      exact hn
    | false =>
      rw [hb] at hn
      refine am_if_ne rfl (fun z => absurd rfl z) (fun _ => ?_)
      refine am_iload rfl rfl ?_
      refine am_iconst (v := nI 1) rfl (by decide) ?_
      first | refine ho_addn rfl ?_ | refine am_iadd rfl ?_
      refine am_goto rfl ?_
      refine am_istore rfl (Nat.le_of_ble_eq_true rfl) ?_
      show am_T _ _ _ _ [_, _, _, _, some _, _] _ _ _ _ _
      refine am_iinc rfl rfl (nI_inc1 _) ?_
      show am_T _ _ _ _ [_, _, _, _, _, some _] _ _ _ _ _
      refine am_goto rfl ?_
      exact hn
theorem c_m_usl_loop (hR : SR mr) (hS : okS S) (hr : repS S mi) (hM : MKn S cnt mi ml) (h40 : cnt ≤ 40) (f : Nat) (hf : f < 3) (hF : okF F) (hE : EN mi (6 + f) (ftx (102 + f) F)) : ∀ (j k m : Nat), k + j = 1 + 5 * cnt * cnt → m < 128 → UsB (wM S F cnt (ml 127)) k (fun j => m.testBit (j + 1)) → am_T l (d + 5) M_m_useless 25 [some (.ref 116), some (.int (nI f)), some (.int (nI m)), some (.int (nI k)), none, none] [] (hm mi ml mr) 0 0 (fun r h' => ∃ B, r = some (.int (nI (cnt0 B F.2.2.length))) ∧ h' = hm mi ml mr ∧ UsB (wM S F cnt (ml 127)) (1 + 5 * cnt * cnt) B) := by
  obtain ⟨⟨c1, c2⟩, hc, c3, c4, c5⟩ := id hM.1
  have hs := sq_le h40
  have h6 := hF.2.2.2.2
  have hM5 : 1 + 5 * cnt * cnt ≤ 10000 := by
    rw [Nat.mul_assoc]
    omega
  intro j
  induction j with
  | zero =>
    intro k m hj hm7 hU
    have hk : k = 1 + 5 * cnt * cnt := hj
    rw [hk] at hU
    refine am_iload_n rfl rfl ?_
    refine am_aload_n rfl rfl ?_
    refine ho_cv0 rfl (by first | rfl | assumption) rfl (Nat.le_of_ble_eq_true rfl) (Nat.le_of_ble_eq_true rfl) (c_m_ways hc h40) ?_
    rintro x h' ⟨rfl, rfl⟩
    refine ho_icmp_ge rfl (by omega) (by omega) (fun _ => ?_) (fun z => absurd (by omega) z)
    refine am_aload_n rfl rfl ?_
    refine am_iload_n rfl rfl ?_
    refine ho_cv1 rfl (by first | rfl | assumption) rfl (Nat.le_of_ble_eq_true rfl) (Nat.le_of_ble_eq_true rfl) (c_m_clauses hR f hf F hF hE) ?_
    rintro x h' ⟨rfl, rfl⟩
    refine am_istore_n rfl (Nat.le_of_ble_eq_true rfl) ?_
    show am_T _ _ _ _ [_, _, _, some _, _, _] _ _ _ _ _
    refine am_iconst (v := nI 0) rfl (by decide) ?_
    refine am_istore rfl (Nat.le_of_ble_eq_true rfl) ?_
    show am_T _ _ _ _ [_, _, _, _, some _, _] _ _ _ _ _
    refine am_iconst (v := nI 1) rfl (by decide) ?_
    refine am_istore rfl (Nat.le_of_ble_eq_true rfl) ?_
    show am_T _ _ _ _ [_, _, _, _, _, some _] _ _ _ _ _
    exact c_m_usl_count (nI f) m F.2.2.length hm7 (by omega) ⟨_, rfl, rfl, hU⟩ F.2.2.length 0 (by omega)
  | succ j ih =>
    intro k m hj hm7 hU
    have hk : k < 1 + 5 * cnt * cnt := by omega
    refine am_iload_n rfl rfl ?_
    refine am_aload_n rfl rfl ?_
    refine ho_cv0 rfl (by first | rfl | assumption) rfl (Nat.le_of_ble_eq_true rfl) (Nat.le_of_ble_eq_true rfl) (c_m_ways hc h40) ?_
    rintro x h' ⟨rfl, rfl⟩
    refine ho_icmp_ge rfl (by omega) (by omega) (fun z => absurd z (by omega)) (fun _ => ?_)
    refine am_aload_n rfl rfl ?_
    refine am_iload_n rfl rfl ?_
    refine am_iload_n rfl rfl ?_
    refine ho_cv2 rfl (by first | rfl | assumption) rfl (Nat.le_of_ble_eq_true rfl) (Nat.le_of_ble_eq_true rfl) (c_m_wayChoice hR hS hr hM h40 f hf F hF hE k hk) ?_
    rintro x h' ⟨rfl, rfl⟩
    have no : ∀ y : Int32, y ≤ 0 → (∀ j, wM S F cnt (ml 127) k ≠ some (some j)) → am_T l (d + 5) M_m_useless 39 [some (.ref 116), some (.int (nI f)), some (.int (nI m)), some (.int (nI k)), none, none] [.int y] (hm mi ml mr) 0 0 (fun r h' => ∃ B, r = some (.int (nI (cnt0 B F.2.2.length))) ∧ h' = hm mi ml mr ∧ UsB (wM S F cnt (ml 127)) (1 + 5 * cnt * cnt) B) := by
      intro y hy hn
      refine am_istore rfl (Nat.le_of_ble_eq_true rfl) ?_
      show am_T _ _ _ _ [_, _, _, _, some _, _] _ _ _ _ _
      refine am_iload rfl rfl ?_
      refine am_if_le rfl (fun _ => ?_) (fun z => absurd hy z)
      refine am_iload_n rfl rfl ?_
      refine am_istore_n rfl (Nat.le_of_ble_eq_true rfl) ?_
      show am_T _ _ _ _ [_, _, some _, _, _, _] _ _ _ _ _
      refine am_iinc rfl rfl (nI_inc1 _) ?_
      show am_T _ _ _ _ [_, _, _, some _, _, _] _ _ _ _ _
      refine am_goto rfl ?_
      refine am_drops [4] ?_
      exact ih (k + 1) m (by omega) hm7 (UsB_no hU hn)
    cases hw : wch S F (wF cnt k) (ml 127 (wC cnt k)) (ml 127 (wW cnt k)) with
    | none => exact no (-1) (by decide) (fun j q => by unfold wM at q; rw [hw] at q; cases q)
    | some q =>
      cases q with
      | none => exact no (nI 0) (by decide) (fun j q => by unfold wM at q; rw [hw] at q; cases q)
      | some j0 =>
        have hj0 := wch_lt hw
        obtain ⟨o1, o2⟩ := or_bit7 m hm7 (j0 + 1) (by omega)
        show am_T l (d + 5) M_m_useless 39 _ (.int (nI (j0 + 1)) :: _) _ _ _ _
        refine am_istore rfl (Nat.le_of_ble_eq_true rfl) ?_
        show am_T _ _ _ _ [_, _, _, _, some _, _] _ _ _ _ _
        refine am_iload rfl rfl ?_
        refine am_if_le rfl (fun z => ?_) (fun _ => ?_)
        · have z : nI (j0 + 1) ≤ nI 0 := z
          rw [nI_leI (by omega) (by omega)] at z
          omega
        refine am_iload_n rfl rfl ?_
        refine am_iconst (v := nI 1) rfl (by decide) ?_
        refine am_iload rfl rfl ?_
        refine am_ishl rfl ?_
        refine am_ior rfl ?_
        rw [o1]
        refine am_goto rfl ?_
        refine am_istore_n rfl (Nat.le_of_ble_eq_true rfl) ?_
        show am_T _ _ _ _ [_, _, some _, _, _, _] _ _ _ _ _
        refine am_iinc rfl rfl (nI_inc1 _) ?_
        show am_T _ _ _ _ [_, _, _, some _, _, _] _ _ _ _ _
        refine am_goto rfl ?_
        refine am_drops [4] ?_
        refine ih (k + 1) (m ||| 2 ^ (j0 + 1)) (by omega) o2 (UsB_yes hU hw (fun j => ?_))
        show (m ||| 2 ^ (j0 + 1)).testBit (j + 1) = _
        rw [testBit_or2]
        congr 1
        exact decide_eq_decide.mpr ⟨fun q => by omega, fun q => by omega⟩
end G7
theorem UsB_same {W W' : Nat → Option (Option Nat)} {k k' : Nat} {B B' : Nat → Bool} (h : UsB W k B) (h' : UsB W' k' B') (a : ∀ i, i < k → ∃ i', i' < k' ∧ W' i' = W i) (b : ∀ i, i < k' → ∃ i', i' < k ∧ W i' = W' i) : ∀ j, B j = B' j := by
  intro j
  rw [Bool.eq_iff_iff, h j, h' j]
  constructor
  · rintro ⟨i, h1, h2⟩
    obtain ⟨i', h3, h4⟩ := a i h1
    exact ⟨i', h3, h4.trans h2⟩
  · rintro ⟨i, h1, h2⟩
    obtain ⟨i', h3, h4⟩ := b i h1
    exact ⟨i', h3, h4.trans h2⟩
def uslR (s : Sta) (x : Int32) (r : Option Value) : Prop := (def3 s.F x = false ∧ r = some (.int (-2))) ∨ (def3 s.F x = true ∧ ∃ cnt tm mj mk, KX (SD s.D) cnt tm mj mk ∧ ((tm = true ∧ r = some (.int (-3))) ∨ (tm = false ∧ ∃ φ ip n L v B, φ < 3 ∧ x = nI φ ∧ KF (SD s.D) ip n cnt L v mj mk ∧ r = some (.int (nI (cnt0 B (s.F φ).2.2.length))) ∧ UsB (wX (SD s.D) (s.F φ) cnt (mk 94)) (1 + cnt + 4 * cnt * cnt) B)))
section G7b
variable {l : Launch} {d : Nat} {K : Option Value → Prop} {mr : Nat → Nat → Option Nat} {s : Sta}
theorem x_useless (hR : SR mr) (hs : okSta s) (mi : Nat → Nat → Int32) (ml : Nat → Nat → Int64) (hX : XI s mi ml mr) (x : Int32) : am_T l (d + 5) M_X_useless 0 [some (.ref 0), some (.int x)] [] (hm mi ml mr) 0 0 (fun r h' => (∃ v, r = some (.int v)) ∧ ∃ mi' ml', h' = hm mi' ml' mr ∧ XI s mi' ml' mr ∧ uslR s x r ∧ (∀ a, 116 ≤ a → mi' a = mi a) ∧ ∀ a, 116 ≤ a → ml' a = ml a) := by
  have hS := okS_SD hs.2.1
  refine am_aload_n rfl rfl ?_
  refine am_iload_n rfl rfl ?_
  refine ho_cv1 rfl (by first | rfl | assumption) rfl (Nat.le_of_ble_eq_true rfl) (Nat.le_of_ble_eq_true rfl) (c_X_isDefined hR hX.2.2.1 x) ?_
  rintro v h' ⟨rfl, rfl⟩
  refine am_if_ne rfl (fun z => ?_) (fun z => ?_)
  case refine_2 =>
    refine am_bipush (v := -2) rfl (by decide) ?_
    exact am_ireturn rfl rfl ⟨⟨_, rfl⟩, mi, ml, rfl, hX, Or.inl ⟨(bI_eq _).mp z, rfl⟩, fun _ _ => rfl, fun _ _ => rfl⟩
  have hdef := (bI_ne _).mp z
  obtain ⟨φ, hφ, rfl, hz⟩ := def3_of hdef
  refine am_aload_n rfl rfl ?_
  refine ho_getR rfl (by first | rfl | assumption) rfl (by first | assumption | exact hR _ _ _ rfl) ?_
  refine ho_cv0 rfl (by first | rfl | assumption) rfl (Nat.le_of_ble_eq_true rfl) (Nat.le_of_ble_eq_true rfl) (x_room hR hs mi ml hX) ?_
  rintro v h' ⟨cnt, tm, mi1, ml1, rfl, rfl, g1, g2, g3, g4, g5⟩
  cases tm with
  | true =>
    refine am_if_eq rfl (fun _ => ?_) (fun q => absurd rfl q)
    refine am_bipush (v := -3) rfl (by decide) ?_
    exact am_ireturn rfl rfl ⟨⟨_, rfl⟩, mi1, ml1, rfl, g1, Or.inr ⟨hdef, cnt, true, mi1, ml1, g2, Or.inl ⟨rfl, rfl⟩⟩, g4, g5⟩
  | false =>
    refine am_if_eq rfl (fun q => by cases q) (fun _ => ?_)
    obtain ⟨ip, n, L, v, hKF⟩ := KX_KF g2
    obtain ⟨oF, c1, c2, c3, c4, c5⟩ := id g1.2.2.1
    have hrφ := c3 φ hφ
    have hFn := isFn_of hR (c1 φ (by omega))
    have hokF : okF (s.F φ) := (hs.2.2.1 φ).1.resolve_left (fun q => hz (by rw [q]; rfl))
    refine am_aload_n rfl rfl ?_
    refine ho_getR rfl (by first | rfl | assumption) rfl (by first | assumption | exact hR _ _ _ rfl) ?_
    refine am_aload_n rfl rfl ?_
    refine ho_getR rfl (by first | rfl | assumption) rfl (by first | assumption | exact hR _ _ _ rfl) ?_
    refine am_iload_n rfl rfl ?_
    refine ho_aaload rfl (by first | rfl | assumption) ⟨by decide, rfl⟩ (by omega) (by first | assumption | exact hR _ _ _ rfl) ?_
    refine ho_cv1 rfl (by first | rfl | assumption) rfl (Nat.le_of_ble_eq_true rfl) (Nat.le_of_ble_eq_true rfl) (c_C_countUseless hR hS hFn hokF mi1 hKF ((c5 φ hφ).2 hz)) ?_
    rintro r h' ⟨B, mi2, rfl, rfl, k1, k2⟩
    refine am_goto rfl ?_
    exact am_ireturn rfl rfl ⟨⟨_, rfl⟩, mi2, ml1, rfl, XI_Fc g1 k1, Or.inr ⟨hdef, cnt, false, mi1, ml1, g2, Or.inr ⟨rfl, φ, ip, n, L, v, B, hφ, rfl, hKF, rfl, k2⟩⟩, fun a ha => by rw [k1 a (by omega)]; exact g4 a ha, g5⟩
theorem w_useless (hK : ∀ v, K (some (.int v))) (x : Int32) : lw2 l K 92 172 [.int x] := by
  refine lw_mk (fun mi ml mr s hR hs hX => ⟨fun r s' => s' = s ∧ uslR s x r, ?_, ?_⟩)
  · show am_T l 60 M_X_useless 0 [some (.ref 0), some (.int x)] [] _ 0 0 _
    refine am_T.to (x_useless hR hs mi ml hX x) ?_
    rintro r h ⟨⟨v, rfl⟩, mi', ml', rfl, g1, g2, g3, g4⟩
    exact ⟨hK _, mi', ml', mr, s, rfl, hR, g1, ⟨rfl, g2⟩, g3, g4⟩
  · rintro r s' mi ml mr hR hM - ⟨rfl, hr⟩
    show am_T l 60 M_m_useless 0 [some (.ref 116), some (.int x), none, none, none, none] [] _ 0 0 _
    refine am_aload_n rfl rfl ?_
    refine am_iload_n rfl rfl ?_
    refine ho_cv1 rfl (by first | rfl | assumption) rfl (Nat.le_of_ble_eq_true rfl) (Nat.le_of_ble_eq_true rfl) (c_m_definedX hR hM.2.2.1 x) ?_
    rintro v h' ⟨rfl, rfl⟩
    rcases hr with ⟨h1, rfl⟩ | ⟨h1, cnt, tm, mj, mk, hKX, hr⟩
    · rw [h1]
      refine am_if_ne rfl (fun z => absurd rfl z) (fun _ => ?_)
      refine am_bipush (v := -2) rfl (by decide) ?_
      exact am_ireturn rfl rfl ⟨rfl, _, _, rfl, hs, hM, fun _ _ => rfl, fun _ _ => rfl⟩
    · rw [h1]
      refine am_if_ne rfl (fun _ => ?_) (fun z => by cases z)
      obtain ⟨φ, hφ, rfl, hz⟩ := def3_of h1
      have hS := okS_SD hs.2.1
      have hokF : okF (s'.F φ) := (hs.2.2.1 φ).1.resolve_left (fun q => hz (by rw [q]; rfl))
      refine am_aload_n rfl rfl ?_
      refine ho_cv0 rfl (by first | rfl | assumption) rfl (Nat.le_of_ble_eq_true rfl) (Nat.le_of_ble_eq_true rfl) (m_room hR hs mi ml hM) ?_
      rintro v h' ⟨cm, mi', ml', rfl, rfl, q0, q1, q2, q3, q4⟩
      obtain ⟨e1, e2⟩ := room_same hS q2 hKX
      rw [← e1]
      have hfr : (∀ a, a < 116 → mi' a = mi a) ∧ ∀ a, a < 116 → ml' a = ml a := ⟨fun a ha => q4.1 a (by omega) (by omega) (by omega) (by omega) (by omega) (by omega), fun a ha => q4.2.2.1 a (by omega) (by omega) (by omega)⟩
      rcases hr with ⟨rfl, rfl⟩ | ⟨rfl, ψ, ip, n, L, w, B, m1, m2, m3, rfl, m4⟩
      · refine am_if_eq rfl (fun z => by cases z) (fun _ => ?_)
        refine am_bipush (v := -3) rfl (by decide) ?_
        exact am_ireturn rfl rfl ⟨rfl, _, _, rfl, hs, q0, hfr.1, hfr.2⟩
      · refine am_if_eq rfl (fun _ => ?_) (fun z => absurd rfl z)
        have h40 : cm ≤ 40 := by
          have := of_decide_eq_false e1.symm
          omega
        have hψ : φ = ψ := (nI_eq (by omega) (by omega)).mp m2
        subst hψ
        obtain ⟨-, v, hV, hv⟩ := q2.2.1 h40
        obtain ⟨s1, s2⟩ := sk_both hS q2 h40 hV hv m3
        have hE := q0.2.2.1 φ hφ
        rw [fTx_def hz] at hE
        refine am_iconst (v := nI 0) rfl (by decide) ?_
        refine am_istore_n rfl (Nat.le_of_ble_eq_true rfl) ?_
        show am_T _ _ _ _ [_, _, some _, _, _, _] _ _ _ _ _
        refine am_iconst (v := nI 0) rfl (by decide) ?_
        refine am_istore_n rfl (Nat.le_of_ble_eq_true rfl) ?_
        show am_T _ _ _ _ [_, _, _, some _, _, _] _ _ _ _ _
        refine am_T.to (c_m_usl_loop (l := l) hR hS q1 q2 h40 φ hφ hokF hE (1 + 5 * cm * cm) 0 0 (Nat.zero_add _) (by omega) (fun j => ⟨fun z => by simp at z, fun ⟨i, hi, _⟩ => by omega⟩)) ?_
        rintro r h' ⟨B', rfl, rfl, hU⟩
        refine ⟨?_, _, _, rfl, hs, q0, hfr.1, hfr.2⟩
        have := UsB_same hU m4 (fun i hi => by
          obtain ⟨i', a1, -, -, a3⟩ := way_cut hS m3.1 m3.2.1.1.1.1 m3.2.1.2.2.1 m3.2.2.2.2.1.2.1 s1 q2.1.1.1 i hi
          exact ⟨i', a1, a3 _⟩) (fun i hi => by
          obtain ⟨i', a1, -, -, a3⟩ := cut_way (S := SD s'.D) s2 m3.2.1.1.1.1 i hi
          exact ⟨i', a1, a3 _⟩)
        rw [cnt0_congr (fun j _ => this j)]
end G7b
