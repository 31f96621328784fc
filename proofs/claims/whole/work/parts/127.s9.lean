/-! the reference: texts offered, all first texts -/
def F3t (mi mi' : Nat → Nat → Int32) : Prop := ∀ a, a ≠ 130 → a ≠ 131 → a ≠ 132 → mi' a = mi a
theorem F3t.rf {mi : Nat → Nat → Int32} : F3t mi mi := fun _ _ _ _ => rfl
theorem F3t.tr {mi mi' mi'' : Nat → Nat → Int32} (h : F3t mi mi') (h' : F3t mi' mi'') : F3t mi mi'' := fun a h1 h2 h3 => (h' a h1 h2 h3).trans (h a h1 h2 h3)
theorem F132.f3 {mi mi' : Nat → Nat → Int32} (h : F132 mi mi') : F3t mi mi' := fun a _ _ h3 => h a h3
section S9
variable {l : Launch} {d : Nat} {ml : Nat → Nat → Int64} {mr : Nat → Nat → Option Nat} {S : Rs} {cnt : Nat} {v : Nat → Nat} {km : Nat → Int64}
theorem c_m_offer_61 (hR : SR mr) (mi : Nat → Nat → Int32) (T : List Nat) (hT : TQ mi T) (h36 : T.length ≤ 36) (k : Nat) (hk : k < 41) (x2 x3 x4 x6 : Int32) : ∀ (j i : Nat), i + j = T.length →
    am_T l (d + 1) M_m_offer 61 [some (.ref 116), some (.int (nI k)), some (.int x2), some (.int x3), some (.int x4), some (.int (nI T.length)), some (.int x6), some (.int (nI i))] [] (hm (cpN mi 130 (36 * k) 132 0 i) ml mr) 0 0 (fun r h' => r = none ∧ h' = hm (up2 (cpN mi 130 (36 * k) 132 0 T.length) 131 k (nI T.length)) ml mr) := by
  intro j
  induction j with
  | zero =>
    intro i hi
    refine am_iload rfl rfl ?_
    refine am_iload rfl rfl ?_
    refine ho_icmp_ge rfl (by omega) (by omega) (fun _ => ?_) (fun z => absurd (by omega) z)
    have e : i = T.length := by omega
    subst e
    refine am_aload_n rfl rfl ?_
    refine ho_getR rfl (by first | rfl | assumption) rfl (by first | assumption | exact hR _ _ _ rfl) ?_
    refine am_iload_n rfl rfl ?_
    refine am_iload rfl rfl ?_
    refine ho_iastore rfl (by first | rfl | assumption) (by omega) ?_
    exact am_return rfl rfl ⟨rfl, rfl⟩
  | succ j ih =>
    intro i hi
    refine am_iload rfl rfl ?_
    refine am_iload rfl rfl ?_
    refine ho_icmp_ge rfl (by omega) (by omega) (fun z => absurd z (by omega)) (fun _ => ?_)
    refine am_aload_n rfl rfl ?_
    refine ho_getR rfl (by first | rfl | assumption) rfl (by first | assumption | exact hR _ _ _ rfl) ?_
    refine am_bipush (v := nI 36) rfl (by decide) ?_
    refine am_iload_n rfl rfl ?_
    first | refine ho_muln rfl ?_ | refine am_imul rfl ?_
    refine am_iload rfl rfl ?_
    first | refine ho_addn rfl ?_ | refine am_iadd rfl ?_
    refine am_aload_n rfl rfl ?_
    refine ho_getR rfl (by first | rfl | assumption) rfl (by first | assumption | exact hR _ _ _ rfl) ?_
    refine am_iload rfl rfl ?_
    refine ho_caload rfl rfl (by omega) ?_
    rw [cpN_off _ (show (132 : Nat) ≠ 130 by decide)]
    refine ho_castore rfl rfl (by omega) (by rw [hT.1 i (by omega)]; exact nar_c (okT_at hT.2 i)) ?_
    have e : up2 (cpN mi 130 (36 * k) 132 0 i) 130 (36 * k + i) (mi 132 i) = cpN mi 130 (36 * k) 132 0 (i + 1) := by
      have := cpN_s mi (a := 130) (oa := 36 * k) (b := 132) (ob := 0) (n := i)
      rw [Nat.zero_add] at this
      exact this
    rw [e]
    refine am_iinc rfl rfl (nI_inc1 _) ?_
    show am_T _ _ _ _ [_, _, _, _, _, _, _, some _] _ _ _ _ _
    refine am_goto rfl ?_
    exact ih (i + 1) (by omega)
theorem c_m_offer (hR : SR mr) (hE : KE S km cnt) (hv0 : v 0 = 0) (mi : Nat → Nat → Int32) {s : Nat} {o0 o : Nat → Option (List Nat)} {Q : Nat → Nat → Nat → Prop} (h12 : s ≤ 12) (h0 : Dn S km cnt v s o0) (hM : Mid S km cnt v s o0 Q o) (hT : TS (mi 130) (mi 131) cnt o) (q c w k : Nat) (hq : q ≤ 4) (k1 : 1 ≤ k) (k2 : k < cnt) (hv : v k = s) (hc : CutP S km cnt v s (q + 1) c w k) :
    am_T l (d + 1) M_m_offer 0 [some (.ref 116), some (.int (nI k)), some (.int (nI q)), some (.int (nI c)), some (.int (nI w)), none, none, none] [] (hm mi ml mr) 0 0 (fun r h' => r = none ∧ ∃ mi' o', h' = hm mi' ml mr ∧ TS (mi' 130) (mi' 131) cnt o' ∧ Mid S km cnt v s o0 (fun f' c' w' => Q f' c' w' ∨ (f' = q + 1 ∧ c' = c ∧ w' = w)) o' ∧ F3t mi mi') := by
  have h40 := hE.2.1
  have hlen := hc.len hE hv0 h0
  have hok := HT_ok (hc.ht hE hv0 h0)
  have hoff := hM.offer hE k1 k2 hv hc
  obtain ⟨-, -, c1, w1, -, es⟩ := id hc
  have ew : o w = some ((o0 w).getD []) := by rw [hM.at h0 w1 (by omega)]; exact h0.some w1 (by omega)
  have hTw := hT w w1
  rw [ew] at hTw
  have hTc : 1 ≤ q → TR (mi 130) (mi 131) c (some ((o0 c).getD [])) := by
    intro h
    rw [if_neg (by omega)] at es
    have ec : o c = some ((o0 c).getD []) := by rw [hM.at h0 c1 (by omega)]; exact h0.some c1 (by omega)
    have := hT c c1
    rw [ec] at this
    exact this
  refine am_aload_n rfl rfl ?_
  refine am_iload_n rfl rfl ?_
  refine am_iload_n rfl rfl ?_
  refine am_iload rfl rfl ?_
  refine ho_cv3 rfl (by first | rfl | assumption) rfl (Nat.le_of_ble_eq_true rfl) (Nat.le_of_ble_eq_true rfl) (c_m_compose hR mi o0 q c w hq (by omega) (by omega) hTw hTc (by omega)) ?_
  rintro r h' ⟨rfl, mi1, rfl, g1, g2⟩
  generalize hu : cutT o0 (q + 1) c w = u at *
  -- it is laid in
  have lay : ∀ x6 : Int32, ofr (o k) u = some u → am_T l (d + 1) M_m_offer 58 [some (.ref 116), some (.int (nI k)), some (.int (nI q)), some (.int (nI c)), some (.int (nI w)), some (.int (nI u.length)), some (.int x6), none] [] (hm mi1 ml mr) 0 0 (fun r h' => r = none ∧ ∃ mi' o', h' = hm mi' ml mr ∧ TS (mi' 130) (mi' 131) cnt o' ∧ Mid S km cnt v s o0 (fun f' c' w' => Q f' c' w' ∨ (f' = q + 1 ∧ c' = c ∧ w' = w)) o' ∧ F3t mi mi') := by
    intro x6 e
    rw [e] at hoff
    refine am_iconst (v := nI 0) rfl (by decide) ?_
    refine am_istore rfl (Nat.le_of_ble_eq_true rfl) ?_
    show am_T _ _ _ _ [_, _, _, _, _, _, _, some _] _ _ _ _ _
    have := c_m_offer_61 (l := l) (d := d) (ml := ml) hR mi1 u g1 (by omega) k (by omega) (nI q) (nI c) (nI w) x6 u.length 0 (by omega)
    rw [cpN_0] at this
    refine am_T.to this ?_
    rintro r h' ⟨rfl, rfl⟩
    refine ⟨rfl, _, _, rfl, TS_up (k := k) (t := u) hT (by omega) hok ?_ (fun j hj => ?_) (fun i hi => ?_) (fun i hi => ?_), hoff, fun a a1 a2 a3 => ?_⟩
    · simp [up2]
    · rw [show up2 (cpN mi1 130 (36 * k) 132 0 u.length) 131 k (nI u.length) 131 j = cpN mi1 130 (36 * k) 132 0 u.length 131 j by unfold up2; rw [if_neg (by omega)], cpN_off _ (by decide), g2 131 (by decide)]
    · rw [up2_off _ _ _ (by decide), cpN_in _ (by omega) (by omega), show 0 + (36 * k + i - 36 * k) = i by omega]
      exact g1.1 i hi
    · rw [up2_off _ _ _ (by decide), ← g2 130 (by decide)]
      unfold cpN
      rw [if_neg (by omega)]
    · rw [up2_off _ _ _ a2, cpN_off _ a1]
      exact g2 a a3
  have hTk := hT k k2
  refine am_istore rfl (Nat.le_of_ble_eq_true rfl) ?_
  show am_T _ _ _ _ [_, _, _, _, _, some _, _, _] _ _ _ _ _
  refine am_aload_n rfl rfl ?_
  refine ho_getR rfl (by first | rfl | assumption) rfl (by first | assumption | exact hR _ _ _ rfl) ?_
  refine am_iload_n rfl rfl ?_
  refine ho_iaload rfl rfl (by omega) ?_
  rw [g2 131 (by decide)]
  cases ho : o k with
  | none =>
    rw [ho] at hTk
    have hTk : mi 131 k = -1 := hTk
    rw [hTk]
    refine am_istore rfl (Nat.le_of_ble_eq_true rfl) ?_
    show am_T _ _ _ _ [_, _, _, _, _, _, some _, _] _ _ _ _ _
    refine am_iload rfl rfl ?_
    refine am_if_lt rfl (fun _ => lay _ (by rw [ho]; rfl)) (fun z => absurd (by decide) z)
  | some u0 =>
    rw [ho] at hTk
    obtain ⟨t1, t2, t3, t4⟩ := id hTk
    rw [t3]
    refine am_istore rfl (Nat.le_of_ble_eq_true rfl) ?_
    show am_T _ _ _ _ [_, _, _, _, _, _, some _, _] _ _ _ _ _
    refine am_iload rfl rfl ?_
    refine am_if_lt rfl (fun z => ?_) (fun _ => ?_)
    · exfalso
      have := Int32.lt_iff_toInt_lt.mp z
      rw [nI_toInt (by omega), Int32.toInt_zero] at this
      omega
    have hco := c_m_sooner (l := l) (d := d) (ml := ml) hR mi1 132 0 130 (36 * k) 36 1476 u u0 rfl rfl (by omega) (by omega) ⟨hok, fun i hi => by rw [Nat.zero_add]; exact g1.1 i hi⟩ ⟨t2, fun i hi => by rw [g2 130 (by decide)]; exact t4 i hi⟩
    -- behind the question
    have fin : am_T l (d + 1) M_m_offer 54 [some (.ref 116), some (.int (nI k)), some (.int (nI q)), some (.int (nI c)), some (.int (nI w)), some (.int (nI u.length)), some (.int (nI u0.length)), none] [.int (bI (sn u u0))] (hm mi1 ml mr) 0 0 (fun r h' => r = none ∧ ∃ mi' o', h' = hm mi' ml mr ∧ TS (mi' 130) (mi' 131) cnt o' ∧ Mid S km cnt v s o0 (fun f' c' w' => Q f' c' w' ∨ (f' = q + 1 ∧ c' = c ∧ w' = w)) o' ∧ F3t mi mi') := by
      refine am_if_ne rfl (fun z => lay _ ?_) (fun z => ?_)
      · have e := (bI_ne _).mp z
        rw [ho]
        unfold ofr
        simp only
        rw [if_pos e]
      · have e := (bI_eq _).mp z
        have e2 : ofr (o k) u = o k := by
          rw [ho]
          unfold ofr
          simp only
          rw [if_neg (by rw [e]; decide)]
        rw [e2] at hoff
        have e3 : upD o k (o k) = o := by
          funext j
          show (if j = k then o k else o j) = o j
          by_cases y : j = k
          · rw [if_pos y, y]
          · rw [if_neg y]
        rw [e3] at hoff
        exact am_return rfl rfl ⟨rfl, mi1, o, rfl, fun j hj => TR_to (hT j hj) (g2 130 (by decide)) (g2 131 (by decide)), hoff, g2.f3⟩
    refine am_aload_n rfl rfl ?_
    refine am_aload_n rfl rfl ?_
    refine ho_getR rfl (by first | rfl | assumption) rfl (by first | assumption | exact hR _ _ _ rfl) ?_
    refine am_iconst (v := nI 0) rfl (by decide) ?_
    refine am_aload_n rfl rfl ?_
    refine ho_getR rfl (by first | rfl | assumption) rfl (by first | assumption | exact hR _ _ _ rfl) ?_
    refine am_bipush (v := nI 36) rfl (by decide) ?_
    refine am_iload_n rfl rfl ?_
    first | refine ho_muln rfl ?_ | refine am_imul rfl ?_
    refine am_iload rfl rfl ?_
    refine am_iload rfl rfl ?_
    refine ho_icmp_ge rfl (by omega) (by omega) (fun z => ?_) (fun z => ?_)
    · rw [if_neg (by omega)] at hco
      refine am_iload rfl rfl ?_
      refine ho_cv5 rfl (by first | rfl | assumption) rfl (Nat.le_of_ble_eq_true rfl) (Nat.le_of_ble_eq_true rfl) (hco) ?_
      rintro r h' ⟨rfl, rfl⟩
      exact fin
    · rw [if_pos (by omega)] at hco
      refine am_iload rfl rfl ?_
      refine am_goto rfl ?_
      refine ho_cv5 rfl (by first | rfl | assumption) rfl (Nat.le_of_ble_eq_true rfl) (Nat.le_of_ble_eq_true rfl) (hco) ?_
      rintro r h' ⟨rfl, rfl⟩
      exact fin
/-- the reference has offered these cuts -/
def TNx (S : Rs) (km : Nat → Int64) (cnt : Nat) (v : Nat → Nat) (s : Nat) (o0 : Nat → Option (List Nat)) (mi0 : Nat → Nat → Int32) (Q : Nat → Nat → Nat → Prop) (mi : Nat → Nat → Int32) : Prop := ∃ o, TS (mi 130) (mi 131) cnt o ∧ Mid S km cnt v s o0 Q o ∧ F3t mi0 mi
theorem VI_lt {ml : Nat → Nat → Int64} (h : VI S cnt v ml) (k : Nat) : v k ≤ 1000000000000000000 := h.2.2.1 k
theorem c_m_wt_in (hR : SR mr) (mi0 : Nat → Nat → Int32) (hMk : MKn S cnt mi0 ml) (h40 : cnt ≤ 40) (hV : VI S cnt v ml) {s : Nat} {o0 : Nat → Option (List Nat)} (hs1 : 1 ≤ s) (h12 : s ≤ 12) (h0 : Dn S (ml 127) cnt v s o0) {Qp : Option Value → am_H → Prop}
    (out : ∀ mi, TNx S (ml 127) cnt v s o0 mi0 (fun _ _ _ => True) mi → am_T l (d + 2) M_m_writeTexts 150 [some (.ref 116), some (.int (nI s)), none, none, none, none, none] [] (hm mi ml mr) 0 0 Qp) :
    ∀ (j i : Nat) (mi : Nat → Nat → Int32), i + j = 5 * cnt * cnt → TNx S (ml 127) cnt v s o0 mi0 (fun f c w => ∃ i', i' < i ∧ f = i' / (cnt * cnt) + 1 ∧ c = i' / cnt % cnt ∧ w = i' % cnt) mi → am_T l (d + 2) M_m_writeTexts 41 [some (.ref 116), some (.int (nI s)), some (.int (nI i)), none, none, none, none] [] (hm mi ml mr) 0 0 Qp := by
  have hE := hMk.ke h40
  have hc1 := hE.1
  have hc0 := hMk.1.2.1
  have hA := (hMk.2.1 h40).1
  have hsq : cnt * cnt ≤ 1600 := Nat.mul_le_mul h40 h40
  have h5 : 5 * cnt * cnt = 5 * (cnt * cnt) := Nat.mul_assoc 5 cnt cnt
  have hpos : 0 < cnt * cnt := Nat.mul_pos hc1 hc1
  intro j
  induction j with
  | zero =>
    intro i mi hi hM
    obtain ⟨o, m1, m2, m3⟩ := hM
    have hc : mi 116 18 = nI cnt := by rw [m3 116 (by decide) (by decide) (by decide)]; exact hc0
    refine am_iload_n rfl rfl ?_
    refine am_iconst (v := nI 5) rfl (by decide) ?_
    refine am_aload_n rfl rfl ?_
    refine ho_getI rfl (by first | rfl | assumption) rfl ?_
    rw [hc]
    first | refine ho_muln rfl ?_ | refine am_imul rfl ?_
    refine am_aload_n rfl rfl ?_
    refine ho_getI rfl (by first | rfl | assumption) rfl ?_
    rw [hc]
    first | refine ho_muln rfl ?_ | refine am_imul rfl ?_
    refine ho_icmp_ge rfl (by omega) (by omega) (fun _ => ?_) (fun z => absurd (by omega) z)
    refine am_drops [2] ?_
    refine out mi ⟨o, m1, m2.to (fun f c w k _ _ _ g1 _ => ⟨c, ?_, g1, rfl⟩), m3⟩
    obtain ⟨i', a1, a2, a3, a4, a5⟩ := w_at g1.1 g1.2.1 g1.2.2.1 g1.2.2.2.1
    unfold wF at a3
    unfold wC at a4
    unfold wW at a5
    rw [if_neg a2] at a3 a4 a5
    exact ⟨i' - 1, by omega, a3.symm, a4.symm, a5.symm⟩
  | succ j ih =>
    intro i mi hi hM
    obtain ⟨o, m1, m2, m3⟩ := hM
    have hc : mi 116 18 = nI cnt := by rw [m3 116 (by decide) (by decide) (by decide)]; exact hc0
    have hq : i / (cnt * cnt) ≤ 4 := by
      have : i / (cnt * cnt) < 5 := (Nat.div_lt_iff_lt_mul hpos).mpr (by omega)
      omega
    have hcc : i / cnt % cnt < cnt := Nat.mod_lt _ hc1
    have hww : i % cnt < cnt := Nat.mod_lt _ hc1
    obtain ⟨k, k1, k2, k3, k4⟩ := hA _ hq _ _ hcc hww
    rw [← m3 129 (by decide) (by decide) (by decide)] at k3
    refine am_iload_n rfl rfl ?_
    refine am_iconst (v := nI 5) rfl (by decide) ?_
    refine am_aload_n rfl rfl ?_
    refine ho_getI rfl (by first | rfl | assumption) rfl ?_
    rw [hc]
    first | refine ho_muln rfl ?_ | refine am_imul rfl ?_
    refine am_aload_n rfl rfl ?_
    refine ho_getI rfl (by first | rfl | assumption) rfl ?_
    rw [hc]
    first | refine ho_muln rfl ?_ | refine am_imul rfl ?_
    refine ho_icmp_ge rfl (by omega) (by omega) (fun z => absurd z (by omega)) (fun _ => ?_)
    refine am_iload_n rfl rfl ?_
    refine am_aload_n rfl rfl ?_
    refine ho_getI rfl (by first | rfl | assumption) rfl ?_
    rw [hc]
    refine am_aload_n rfl rfl ?_
    refine ho_getI rfl (by first | rfl | assumption) rfl ?_
    rw [hc]
    first | refine ho_muln rfl ?_ | refine am_imul rfl ?_
    refine am_idiv rfl (nI_nz hpos (by omega)) ?_
    rw [nI_div (by omega) (by omega)]
    refine am_istore_n rfl (Nat.le_of_ble_eq_true rfl) ?_
    show am_T _ _ _ _ [_, _, _, some _, _, _, _] _ _ _ _ _
    refine am_iload_n rfl rfl ?_
    refine am_aload_n rfl rfl ?_
    refine ho_getI rfl (by first | rfl | assumption) rfl ?_
    rw [hc]
    refine am_idiv rfl (nI_nz hc1 (by omega)) ?_
    rw [nI_div (by omega) (by omega)]
    refine am_aload_n rfl rfl ?_
    refine ho_getI rfl (by first | rfl | assumption) rfl ?_
    rw [hc]
    refine am_irem rfl (nI_nz hc1 (by omega)) ?_
    rw [nI_mod (Nat.lt_of_le_of_lt (Nat.div_le_self i cnt) (by omega)) (by omega)]
    refine am_istore rfl (Nat.le_of_ble_eq_true rfl) ?_
    show am_T _ _ _ _ [_, _, _, _, some _, _, _] _ _ _ _ _
    refine am_iload_n rfl rfl ?_
    refine am_aload_n rfl rfl ?_
    refine ho_getI rfl (by first | rfl | assumption) rfl ?_
    rw [hc]
    refine am_irem rfl (nI_nz hc1 (by omega)) ?_
    rw [nI_mod (by omega) (by omega)]
    refine am_istore rfl (Nat.le_of_ble_eq_true rfl) ?_
    show am_T _ _ _ _ [_, _, _, _, _, some _, _] _ _ _ _ _
    refine am_aload_n rfl rfl ?_
    refine am_iload_n rfl rfl ?_
    refine am_iload rfl rfl ?_
    refine am_iload rfl rfl ?_
    refine ho_cv3 rfl (by first | rfl | assumption) rfl (Nat.le_of_ble_eq_true rfl) (Nat.le_of_ble_eq_true rfl) (c_m_joined hR _ _ _ hq (by omega) (by omega)) ?_
    rintro r h' ⟨rfl, rfl⟩
    show am_T _ _ _ _ _ (_ :: []) _ _ _ _
    rw [k3]
    -- the next one
    have next : ∀ (mi' : Nat → Nat → Int32), TNx S (ml 127) cnt v s o0 mi0 (fun f c w => (∃ i', i' < i ∧ f = i' / (cnt * cnt) + 1 ∧ c = i' / cnt % cnt ∧ w = i' % cnt) ∨ (f = i / (cnt * cnt) + 1 ∧ c = i / cnt % cnt ∧ w = i % cnt)) mi' → am_T l (d + 2) M_m_writeTexts 144 [some (.ref 116), some (.int (nI s)), some (.int (nI i)), some (.int (nI (i / (cnt * cnt)))), some (.int (nI (i / cnt % cnt))), some (.int (nI (i % cnt))), some (.int (nI k))] [] (hm mi' ml mr) 0 0 Qp := by
      rintro mi' ⟨o', n1, n2, n3⟩
      refine am_iinc rfl rfl (nI_inc1 _) ?_
      show am_T _ _ _ _ [_, _, some _, _, _, _, _] _ _ _ _ _
      refine am_goto rfl ?_
      refine am_drops [3, 4, 5, 6] ?_
      refine ih (i + 1) mi' (by omega) ⟨o', n1, n2.to (fun f c w k _ _ _ g1 g2 => ⟨c, ?_, g1, rfl⟩), n3⟩
      obtain ⟨i', e1, e2, e3, e4⟩ := g2
      rcases Nat.lt_succ_iff_lt_or_eq.mp e1 with y | y
      · exact Or.inl ⟨i', y, e2, e3, e4⟩
      · subst y
        exact Or.inr ⟨e2, e3, e4⟩
    generalize i / (cnt * cnt) = q at *
    generalize i / cnt % cnt = c at *
    generalize i % cnt = w at *
    have v1 := VI_lt hV k
    have v2 := VI_lt hV c
    have v3 := VI_lt hV w
    have uni : ∀ j, 1 ≤ j → j < cnt → CutP S (ml 127) cnt v s (q + 1) c w j → j = k := fun j j1 j2 hcj => hE.inj j2 k2 (by rw [decide_eq_false (by omega), decide_eq_false (by omega)]) (hcj.2.2.2.2.1.trans k4.symm)
    refine am_istore rfl (Nat.le_of_ble_eq_true rfl) ?_
    show am_T _ _ _ _ [_, _, _, _, _, _, some _] _ _ _ _ _
    refine am_iload rfl rfl ?_
    refine am_if_le rfl (fun z => ?_) (fun _ => ?_)
    · exfalso
      have := Int32.le_iff_toInt_le.mp z
      rw [nI_toInt (by omega), Int32.toInt_zero] at this
      omega
    refine am_aload_n rfl rfl ?_
    refine ho_getR rfl (by first | rfl | assumption) rfl (by first | assumption | exact hR _ _ _ rfl) ?_
    refine am_iload rfl rfl ?_
    refine ho_laload rfl rfl (by omega) ?_
    rw [hV.1 k k2]
    refine am_iload_n rfl rfl ?_
    refine am_i2l rfl (i2l_12 s (by omega)) ?_
    refine am_lcmp rfl ?_
    refine am_if_ne rfl (fun z => ?_) (fun z => ?_)
    · have hne : v k ≠ s := fun e => z (lg_cmp_0.mpr (by rw [e]))
      refine next mi ⟨o, m1, m2.skip (fun j j1 j2 hv hcj => ?_), m3⟩
      have := uni j j1 j2 hcj
      subst this
      exact hne hv
    have hv : v k = s := (lJ_eq (by omega) (by omega)).mp (lg_cmp_0.mp z)
    refine am_aload_n rfl rfl ?_
    refine am_iload_n rfl rfl ?_
    refine am_iload rfl rfl ?_
    refine am_iload rfl rfl ?_
    refine ho_cv3 rfl (by first | rfl | assumption) rfl (Nat.le_of_ble_eq_true rfl) (Nat.le_of_ble_eq_true rfl) (c_m_weight hR v _ _ _ (by omega) (by omega) (hV.1 _ hcc) (hV.1 _ hww) (by omega)) ?_
    rintro r h' ⟨rfl, rfl⟩
    show am_T _ _ _ _ _ (_ :: []) _ _ _ _
    have hwt : (if q = 0 then 0 else v c) = (if q + 1 = 1 then 0 else v c) := by
      by_cases e : q = 0
      · rw [if_pos e, if_pos (by omega)]
      · rw [if_neg e, if_neg (by omega)]
    have hle : (if q = 0 then 0 else v c) ≤ 1000000000000000000 := by split <;> omega
    refine am_iload_n rfl rfl ?_
    refine am_i2l rfl (i2l_12 s (by omega)) ?_
    refine am_lcmp rfl ?_
    refine am_if_ne rfl (fun z => ?_) (fun z => ?_)
    · refine next mi ⟨o, m1, m2.skip (fun j j1 j2 hv hcj => ?_), m3⟩
      refine z (lg_cmp_0.mpr ?_)
      rw [hwt, ← hcj.2.2.2.2.2]
    have hw2 : 1 + v w + (if q = 0 then 0 else v c) = s := (lJ_eq (by omega) (by omega)).mp (lg_cmp_0.mp z)
    refine am_aload_n rfl rfl ?_
    refine am_iload rfl rfl ?_
    refine am_iload_n rfl rfl ?_
    refine am_iload rfl rfl ?_
    refine am_iload rfl rfl ?_
    refine ho_cv4 rfl (by first | rfl | assumption) rfl (Nat.le_of_ble_eq_true rfl) (Nat.le_of_ble_eq_true rfl) (c_m_offer hR hE hV.2.1 mi h12 h0 m2 m1 q c w k hq k1 k2 hv ⟨by omega, by omega, hcc, hww, k4, by rw [← hwt]; exact hw2.symm⟩) ?_
    rintro r h' ⟨rfl, mi', o', rfl, g1, g2, g3⟩
    exact next mi' ⟨o', g1, g2, m3.tr g3⟩
theorem c_m_wt_sizes (hR : SR mr) (mi0 : Nat → Nat → Int32) (hMk : MKn S cnt mi0 ml) (h40 : cnt ≤ 40) (hV : VI S cnt v ml) (hF : FinV S (ml 127) cnt v) : ∀ (j s : Nat) (mi : Nat → Nat → Int32) (o : Nat → Option (List Nat)), s + j = 13 → 1 ≤ s → Dn S (ml 127) cnt v s o → TS (mi 130) (mi 131) cnt o → F3t mi0 mi →
    am_T l (d + 2) M_m_writeTexts 33 [some (.ref 116), some (.int (nI s)), none, none, none, none, none] [] (hm mi ml mr) 0 0 (fun r h' => r = none ∧ ∃ mi' o', h' = hm mi' ml mr ∧ Dn S (ml 127) cnt v 13 o' ∧ TS (mi' 130) (mi' 131) cnt o' ∧ F3t mi0 mi') := by
  have hE := hMk.ke h40
  intro j
  induction j with
  | zero =>
    intro s mi o hs h1 hD hT hF
    refine am_iload_n rfl rfl ?_
    refine am_bipush (v := nI 12) rfl (by decide) ?_
    refine ho_icmp_gt rfl (by omega) (by omega) (fun _ => ?_) (fun z => absurd (by omega) z)
    have e : s = 13 := by omega
    subst e
    exact am_return rfl rfl ⟨rfl, mi, o, rfl, hD, hT, hF⟩
  | succ j ih =>
    intro s mi o hs h1 hD hT hF3
    refine am_iload_n rfl rfl ?_
    refine am_bipush (v := nI 12) rfl (by decide) ?_
    refine ho_icmp_gt rfl (by omega) (by omega) (fun z => absurd z (by omega)) (fun _ => ?_)
    refine am_iconst (v := nI 0) rfl (by decide) ?_
    refine am_istore_n rfl (Nat.le_of_ble_eq_true rfl) ?_
    show am_T _ _ _ _ [_, _, some _, _, _, _, _] _ _ _ _ _
    refine c_m_wt_in hR mi0 hMk h40 hV h1 (by omega) hD (fun mi' g => ?_) (5 * cnt * cnt) 0 mi (by omega) ⟨o, hT, hD.mid.to (fun f c w k _ _ _ _ q => ?_), hF3⟩
    · obtain ⟨o', g1, g2, g3⟩ := g
      refine am_iinc rfl rfl (nI_inc1 _) ?_
      show am_T _ _ _ _ [_, some _, _, _, _, _, _] _ _ _ _ _
      refine am_goto rfl ?_
      exact ih (s + 1) mi' o' (by omega) (by omega) (g2.fin hE hV.2.1 hF hD) g1 g3
    · obtain ⟨i', e, -⟩ := q
      exact absurd e (Nat.not_lt_zero _)
theorem c_m_wt_init (hR : SR mr) (mi0 : Nat → Nat → Int32) (hMk : MKn S cnt mi0 ml) (h40 : cnt ≤ 40) (hV : VI S cnt v ml) (hF : FinV S (ml 127) cnt v) : ∀ (j k : Nat) (mi : Nat → Nat → Int32), k + j = cnt → (∀ i, i < k → mi 131 i = if i = 0 then nI 0 else -1) → F3t mi0 mi →
    am_T l (d + 2) M_m_writeTexts 2 [some (.ref 116), some (.int (nI k)), none, none, none, none, none] [] (hm mi ml mr) 0 0 (fun r h' => r = none ∧ ∃ mi' o', h' = hm mi' ml mr ∧ Dn S (ml 127) cnt v 13 o' ∧ TS (mi' 130) (mi' 131) cnt o' ∧ F3t mi0 mi') := by
  have hE := hMk.ke h40
  have hc0 := hMk.1.2.1
  intro j
  induction j with
  | zero =>
    intro k mi hk hz hF3
    refine am_iload_n rfl rfl ?_
    refine am_aload_n rfl rfl ?_
    refine ho_getI rfl (by first | rfl | assumption) rfl ?_
    rw [hF3 116 (by decide) (by decide) (by decide), hc0]
    refine ho_icmp_ge rfl (by omega) (by omega) (fun _ => ?_) (fun z => absurd (by omega) z)
    refine am_iconst (v := nI 1) rfl (by decide) ?_
    refine am_istore_n rfl (Nat.le_of_ble_eq_true rfl) ?_
    show am_T _ _ _ _ [_, some _, _, _, _, _, _] _ _ _ _ _
    refine c_m_wt_sizes hR mi0 hMk h40 hV hF 12 1 mi _ (by omega) (by omega) (Dn_1 hE hF) (fun i hi => ?_) hF3
    have := hz i (by omega)
    by_cases e : i = 0
    · subst e
      exact ⟨by decide, (fun c hc => by cases hc), this, fun i hi => by cases hi⟩
    · show TR _ _ i (if i = 0 then some [] else none)
      rw [if_neg e] at this ⊢
      exact this
  | succ j ih =>
    intro k mi hk hz hF3
    have next : ∀ x : Int32, x = (if k = 0 then nI 0 else -1) → am_T l (d + 2) M_m_writeTexts 24 [some (.ref 116), some (.int (nI k)), none, none, none, none, none] [.int x, .int (nI k), .ref 131] (hm mi ml mr) 0 0 (fun r h' => r = none ∧ ∃ mi' o', h' = hm mi' ml mr ∧ Dn S (ml 127) cnt v 13 o' ∧ TS (mi' 130) (mi' 131) cnt o' ∧ F3t mi0 mi') := by
      intro x hx
      refine ho_iastore rfl (by first | rfl | assumption) (by omega) ?_
      refine am_iinc rfl rfl (nI_inc1 _) ?_
      show am_T _ _ _ _ [_, some _, _, _, _, _, _] _ _ _ _ _
      refine am_goto rfl ?_
      refine ih (k + 1) _ (by omega) (fun i hi => ?_) (hF3.tr (fun a _ h2 _ => up2_off _ _ _ h2))
      unfold up2
      by_cases e : i = k
      · rw [if_pos ⟨rfl, e⟩, hx, e]
      · rw [if_neg (by omega)]
        exact hz i (by omega)
    refine am_iload_n rfl rfl ?_
    refine am_aload_n rfl rfl ?_
    refine ho_getI rfl (by first | rfl | assumption) rfl ?_
    rw [hF3 116 (by decide) (by decide) (by decide), hc0]
    refine ho_icmp_ge rfl (by omega) (by omega) (fun z => absurd z (by omega)) (fun _ => ?_)
    refine am_aload_n rfl rfl ?_
    refine ho_getR rfl (by first | rfl | assumption) rfl (by first | assumption | exact hR _ _ _ rfl) ?_
    refine am_iload_n rfl rfl ?_
    refine am_iload_n rfl rfl ?_
    refine am_if_ne rfl (fun z => ?_) (fun z => ?_)
    · refine am_iconst (v := -1) rfl (by decide) ?_
      exact next _ (by rw [if_neg (fun e => z (by rw [e]; rfl))])
    · refine am_iconst (v := nI 0) rfl (by decide) ?_
      refine am_goto rfl ?_
      have e : k = 0 := (nI_eq (a := k) (b := 0) (by omega) (by omega)).mp (z.trans (rfl : (0 : Int32) = nI 0))
      exact next _ (by rw [if_pos e])
theorem c_m_writeTexts (hR : SR mr) (mi : Nat → Nat → Int32) (hMk : MKn S cnt mi ml) (h40 : cnt ≤ 40) (hV : VI S cnt v ml) (hF : FinV S (ml 127) cnt v) : am_T l (d + 2) M_m_writeTexts 0 [some (.ref 116), none, none, none, none, none, none] [] (hm mi ml mr) 0 0 (fun r h' => r = none ∧ ∃ mi' o', h' = hm mi' ml mr ∧ Dn S (ml 127) cnt v 13 o' ∧ TS (mi' 130) (mi' 131) cnt o' ∧ F3t mi mi') := by
  refine am_iconst (v := nI 0) rfl (by decide) ?_
  refine am_istore_n rfl (Nat.le_of_ble_eq_true rfl) ?_
  show am_T _ _ _ _ [_, some _, _, _, _, _, _] _ _ _ _ _
  exact c_m_wt_init hR mi hMk h40 hV hF cnt 0 mi (by omega) (fun i h => absurd h (Nat.not_lt_zero _)) F3t.rf
end S9
