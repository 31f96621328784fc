/-! the reference: show; the operation -/
section T1b
variable {l : Launch} {d : Nat} {ml : Nat → Nat → Int64} {mr : Nat → Nat → Option Nat} {s : Sta}
theorem MI_F3 {mi mi' : Nat → Nat → Int32} (h : MI s mi ml) (hi : ∀ a, 116 ≤ a → a < 130 → mi' a = mi a) : MI s mi' ml := by
  obtain ⟨a1, a2, a3, a4, ⟨a5, a6⟩, a7, a8⟩ := h
  have e116 := hi 116 (by decide) (by decide)
  refine ⟨?_, MD_to a2 (hi 118 (by decide) (by decide)) (hi 119 (by decide) (by decide)), fun f hf => EN_to (a3 f hf) (hi 118 (by decide) (by decide)) (hi 119 (by decide) (by decide)), MC_to a4 (fun a h1 h2 => hi a (by omega) (by omega)) (by rw [e116]) (by rw [e116]) (by rw [e116]) rfl rfl rfl, ⟨txt_to a5 (hi 120 (by decide) (by decide)), by rw [e116]; exact a6⟩, txt_to a7 (hi 121 (by decide) (by decide)), by rw [e116]; exact a8⟩
  obtain ⟨b1, b2, b3, b4⟩ := a1
  exact ⟨txt_to b1 (hi 117 (by decide) (by decide)), by rw [e116]; exact b2, b3, b4⟩
theorem nn_lt {k : Nat} (hk : k < 2 ^ 31) : ¬ nI k < 0 := by
  intro z
  have := Int32.lt_iff_toInt_lt.mp z
  rw [nI_toInt (by omega), Int32.toInt_zero] at this
  omega
theorem c_m_show_184 (hR : SR mr) (mi : Nat → Nat → Int32) (t : List Nat) (b : Nat) (hb : b < 41) (hT : TR (mi 130) (mi 131) b (some t)) (hl : mi 116 5 = nI t.length) (x1 x2 : Int32) (z : Int64) : ∀ (j i : Nat), i + j = t.length →
    am_T l d M_m_show 184 [some (.ref 116), some (.int x1), some (.int x2), some (.long z), none, some (.int (nI b)), some (.int (nI i)), none] [] (hm (cpN mi 120 0 130 (36 * b) i) ml mr) 0 0 (fun r h' => r = some (.long z) ∧ h' = hm (cpN mi 120 0 130 (36 * b) t.length) ml mr) := by
  obtain ⟨t1, t2, t3, t4⟩ := id hT
  intro j
  induction j with
  | zero =>
    intro i hi
    refine am_iload rfl rfl ?_
    refine am_aload_n rfl rfl ?_
    refine ho_getI rfl (by first | rfl | assumption) rfl ?_
    rw [cpN_off _ (by decide), hl]
    refine ho_icmp_ge rfl (by omega) (by omega) (fun _ => ?_) (fun z => absurd (by omega) z)
    refine am_lload_n rfl rfl ?_
    have e : i = t.length := by omega
    subst e
    exact am_lreturn rfl rfl ⟨rfl, rfl⟩
  | succ j ih =>
    intro i hi
    refine am_iload rfl rfl ?_
    refine am_aload_n rfl rfl ?_
    refine ho_getI rfl (by first | rfl | assumption) rfl ?_
    rw [cpN_off _ (by decide), hl]
    refine ho_icmp_ge rfl (by omega) (by omega) (fun z => absurd z (by omega)) (fun _ => ?_)
    refine am_aload_n rfl rfl ?_
    refine ho_getR rfl (by first | rfl | assumption) rfl (by first | assumption | exact hR _ _ _ rfl) ?_
    refine am_iload rfl rfl ?_
    refine am_aload_n rfl rfl ?_
    refine ho_getR rfl (by first | rfl | assumption) rfl (by first | assumption | exact hR _ _ _ rfl) ?_
    refine am_bipush (v := nI 36) rfl (by decide) ?_
    refine am_iload rfl rfl ?_
    first | refine ho_muln rfl ?_ | refine am_imul rfl ?_
    refine am_iload rfl rfl ?_
    first | refine ho_addn rfl ?_ | refine am_iadd rfl ?_
    refine ho_caload rfl rfl (by omega) ?_
    rw [cpN_off _ (show (130 : Nat) ≠ 120 by decide)]
    refine ho_castore rfl rfl (by omega) (by rw [t4 i (by omega)]; exact nar_c (okT_at t2 i)) ?_
    have e : up2 (cpN mi 120 0 130 (36 * b) i) 120 i (mi 130 (36 * b + i)) = cpN mi 120 0 130 (36 * b) (i + 1) := by
      have := cpN_s mi (a := 120) (oa := 0) (b := 130) (ob := 36 * b) (n := i)
      rw [Nat.zero_add] at this
      exact this
    rw [e]
    refine am_iinc rfl rfl (nI_inc1 _) ?_
    show am_T _ _ _ _ [_, _, _, _, _, _, some _, _] _ _ _ _ _
    refine am_goto rfl ?_
    exact ih (i + 1) (by omega)
/-- the first text among those that are due -/
theorem c_m_show_33 (hR : SR mr) {S : Rs} (hS : okS S) {cnt : Nat} {v : Nat → Nat} (mi : Nat → Nat → Int32) (hr : repS S mi) (h40 : cnt ≤ 40) (hc : mi 116 18 = nI cnt) (hV : VI S cnt v ml) (o : Nat → Option (List Nat)) (hT : TX (mi 130) (mi 131) cnt v o) (a b z : Nat) (ha : a < 6) (hb : b < 6) (hz : z ≤ 12) {Q : Option Value → am_H → Prop}
    (out : ∀ best, Pk (pkM S (ml 127) a (some b)) v z o cnt best → am_T l (d + 1) M_m_show 170 [some (.ref 116), some (.int (nI a)), some (.int (nI b)), some (.long (lJ z)), none, some (.int (bsI best)), none, none] [] (hm mi ml mr) 0 0 Q) :
    ∀ (j i : Nat) (best : Option Nat), i + j = cnt → Pk (pkM S (ml 127) a (some b)) v z o i best → am_T l (d + 1) M_m_show 33 [some (.ref 116), some (.int (nI a)), some (.int (nI b)), some (.long (lJ z)), none, some (.int (bsI best)), some (.int (nI i)), none] [] (hm mi ml mr) 0 0 Q := by
  intro j
  induction j with
  | zero =>
    intro i best hi hP
    refine am_iload rfl rfl ?_
    refine am_aload_n rfl rfl ?_
    refine ho_getI rfl (by first | rfl | assumption) rfl ?_
    rw [hc]
    refine ho_icmp_ge rfl (by omega) (by omega) (fun _ => ?_) (fun z => absurd (by omega) z)
    have e : i = cnt := by omega
    subst e
    refine am_drops [6] ?_
    exact out best hP
  | succ j ih =>
    intro i best hi hP
    refine am_iload rfl rfl ?_
    refine am_aload_n rfl rfl ?_
    refine ho_getI rfl (by first | rfl | assumption) rfl ?_
    rw [hc]
    refine ho_icmp_ge rfl (by omega) (by omega) (fun z => absurd z (by omega)) (fun _ => ?_)
    have step : ∀ (x : Int32) (best' : Option Nat), Pk (pkM S (ml 127) a (some b)) v z o (i + 1) best' → am_T l (d + 1) M_m_show 164 [some (.ref 116), some (.int (nI a)), some (.int (nI b)), some (.long (lJ z)), none, some (.int (bsI best')), some (.int (nI i)), some (.int x)] [] (hm mi ml mr) 0 0 Q := by
      intro x best' h
      refine am_iinc rfl rfl (nI_inc1 _) ?_
      show am_T _ _ _ _ [_, _, _, _, _, _, some _, _] _ _ _ _ _
      refine am_goto rfl ?_
      refine am_drops [7] ?_
      exact ih (i + 1) best' (by omega) h
    have skip : ¬ (pkM S (ml 127) a (some b) i = true ∧ v i = z) → am_T l (d + 1) M_m_show 88 [some (.ref 116), some (.int (nI a)), some (.int (nI b)), some (.long (lJ z)), none, some (.int (bsI best)), some (.int (nI i)), none] [] (hm mi ml mr) 0 0 Q := by
      intro h
      refine am_iconst (v := nI 0) rfl (by decide) ?_
      refine am_istore rfl (Nat.le_of_ble_eq_true rfl) ?_
      show am_T _ _ _ _ [_, _, _, _, _, _, _, some _] _ _ _ _ _
      refine am_iload rfl rfl ?_
      refine am_if_eq rfl (fun _ => step _ best (Pk_skip hP h)) (fun q => absurd rfl q)
    have v1 := VI_lt hV i
    refine am_aload_n rfl rfl ?_
    refine ho_getR rfl (by first | rfl | assumption) rfl (by first | assumption | exact hR _ _ _ rfl) ?_
    refine am_iload rfl rfl ?_
    refine ho_laload rfl rfl (by omega) ?_
    rw [hV.1 i (by omega)]
    refine am_lload_n rfl rfl ?_
    refine am_lcmp rfl ?_
    refine am_if_ne rfl (fun q => skip (fun y => q (lg_cmp_0.mpr (by rw [y.2])))) (fun q => ?_)
    have hv : v i = z := (lJ_eq (by omega) (by omega)).mp (lg_cmp_0.mp q)
    refine am_aload_n rfl rfl ?_
    refine am_aload_n rfl rfl ?_
    refine ho_getR rfl (by first | rfl | assumption) rfl (by first | assumption | exact hR _ _ _ rfl) ?_
    refine am_iload rfl rfl ?_
    refine ho_laload rfl rfl (by omega) ?_
    refine am_iload_n rfl rfl ?_
    refine ho_cv2 rfl (by first | rfl | assumption) rfl (Nat.le_of_ble_eq_true rfl) (Nat.le_of_ble_eq_true rfl) (c_m_inName hR hS hr (ml 127 i) a ha) ?_
    rintro r h' ⟨rfl, rfl⟩
    refine am_if_eq rfl (fun q => skip (fun y => ?_)) (fun q1 => ?_)
    · have h1 : inN S (tb (ml 127 i)) a = false := (bI_eq _).mp q
      have := y.1
      simp [pkM, h1] at this
    have h1 : inN S (tb (ml 127 i)) a = true := (bI_ne _).mp q1
    refine am_aload_n rfl rfl ?_
    refine am_aload_n rfl rfl ?_
    refine ho_getR rfl (by first | rfl | assumption) rfl (by first | assumption | exact hR _ _ _ rfl) ?_
    refine am_iload rfl rfl ?_
    refine ho_laload rfl rfl (by omega) ?_
    refine am_iload_n rfl rfl ?_
    refine ho_cv2 rfl (by first | rfl | assumption) rfl (Nat.le_of_ble_eq_true rfl) (Nat.le_of_ble_eq_true rfl) (c_m_inName hR hS hr (ml 127 i) b hb) ?_
    rintro r h' ⟨rfl, rfl⟩
    refine am_if_ne rfl (fun q => skip (fun y => ?_)) (fun q2 => ?_)
    · have h2 : inN S (tb (ml 127 i)) b = true := (bI_ne _).mp q
      have := y.1
      simp [pkM, h2] at this
    have h2 : inN S (tb (ml 127 i)) b = false := (bI_eq _).mp q2
    have hp : pkM S (ml 127) a (some b) i = true := by simp [pkM, h1, h2]
    refine am_iconst (v := nI 1) rfl (by decide) ?_
    refine am_goto rfl ?_
    refine am_istore rfl (Nat.le_of_ble_eq_true rfl) ?_
    show am_T _ _ _ _ [_, _, _, _, _, _, _, some _] _ _ _ _ _
    refine am_iload rfl rfl ?_
    refine am_if_eq rfl (fun q => by cases q) (fun _ => ?_)
    have take : Pk (pkM S (ml 127) a (some b)) v z o (i + 1) (some i) → am_T l (d + 1) M_m_show 160 [some (.ref 116), some (.int (nI a)), some (.int (nI b)), some (.long (lJ z)), none, some (.int (bsI best)), some (.int (nI i)), some (.int (nI 1))] [] (hm mi ml mr) 0 0 Q := by
      intro h
      refine am_iload rfl rfl ?_
      refine am_istore rfl (Nat.le_of_ble_eq_true rfl) ?_
      show am_T _ _ _ _ [_, _, _, _, _, some _, _, _] _ _ _ _ _
      exact step _ (some i) h
    refine am_iload rfl rfl ?_
    cases best with
    | none =>
      refine am_if_lt rfl (fun _ => take (Pk_take0 hP hp hv)) (fun q => absurd (by decide) q)
    | some k =>
      obtain ⟨b1, b2, b3, b4⟩ := id hP
      show am_T _ _ _ _ [_, _, _, _, _, some (.int (nI k)), _, _] _ _ _ _ _
      refine am_if_lt rfl (fun q => absurd q (nn_lt (by omega))) (fun _ => ?_)
      obtain ⟨i1, i2, i3, i4⟩ := hT i (by omega) (by omega)
      obtain ⟨k1, k2, k3, k4⟩ := hT k (by omega) (by omega)
      have hco := c_m_sooner (l := l) (d := d) (ml := ml) hR mi 130 (36 * i) 130 (36 * k) 1476 1476 (Tk o i) (Tk o k) rfl rfl (by omega) (by omega) ⟨i2, i4⟩ ⟨k2, k4⟩
      have fin : am_T l (d + 1) M_m_show 157 [some (.ref 116), some (.int (nI a)), some (.int (nI b)), some (.long (lJ z)), none, some (.int (nI k)), some (.int (nI i)), some (.int (nI 1))] [.int (bI (sn (Tk o i) (Tk o k)))] (hm mi ml mr) 0 0 Q := by
        refine am_if_eq rfl (fun q => ?_) (fun q => take (Pk_take hP hp hv ((bI_ne _).mp q)))
        exact step _ (some k) (Pk_keep hP ((bI_eq _).mp q))
      refine am_aload_n rfl rfl ?_
      refine am_aload_n rfl rfl ?_
      refine ho_getR rfl (by first | rfl | assumption) rfl (by first | assumption | exact hR _ _ _ rfl) ?_
      refine am_bipush (v := nI 36) rfl (by decide) ?_
      refine am_iload rfl rfl ?_
      first | refine ho_muln rfl ?_ | refine am_imul rfl ?_
      refine am_aload_n rfl rfl ?_
      refine ho_getR rfl (by first | rfl | assumption) rfl (by first | assumption | exact hR _ _ _ rfl) ?_
      refine am_bipush (v := nI 36) rfl (by decide) ?_
      refine am_iload rfl rfl ?_
      first | refine ho_muln rfl ?_ | refine am_imul rfl ?_
      refine am_aload_n rfl rfl ?_
      refine ho_getR rfl (by first | rfl | assumption) rfl (by first | assumption | exact hR _ _ _ rfl) ?_
      refine am_iload rfl rfl ?_
      refine ho_iaload rfl rfl (by omega) ?_
      rw [i3]
      refine am_aload_n rfl rfl ?_
      refine ho_getR rfl (by first | rfl | assumption) rfl (by first | assumption | exact hR _ _ _ rfl) ?_
      refine am_iload rfl rfl ?_
      refine ho_iaload rfl rfl (by omega) ?_
      rw [k3]
      refine ho_icmp_ge rfl (by omega) (by omega) (fun q => ?_) (fun q => ?_)
      · rw [if_neg (by omega)] at hco
        refine am_aload_n rfl rfl ?_
        refine ho_getR rfl (by first | rfl | assumption) rfl (by first | assumption | exact hR _ _ _ rfl) ?_
        refine am_iload rfl rfl ?_
        refine ho_iaload rfl rfl (by omega) ?_
        rw [k3]
        refine ho_cv5 rfl (by first | rfl | assumption) rfl (Nat.le_of_ble_eq_true rfl) (Nat.le_of_ble_eq_true rfl) (hco) ?_
        rintro r h' ⟨rfl, rfl⟩
        exact fin
      · rw [if_pos (by omega)] at hco
        refine am_aload_n rfl rfl ?_
        refine ho_getR rfl (by first | rfl | assumption) rfl (by first | assumption | exact hR _ _ _ rfl) ?_
        refine am_iload rfl rfl ?_
        refine ho_iaload rfl rfl (by omega) ?_
        rw [i3]
        refine am_goto rfl ?_
        refine ho_cv5 rfl (by first | rfl | assumption) rfl (Nat.le_of_ble_eq_true rfl) (Nat.le_of_ble_eq_true rfl) (hco) ?_
        rintro r h' ⟨rfl, rfl⟩
        exact fin
theorem m_show (hR : SR mr) (hs : okSta s) (mi : Nat → Nat → Int32) (ml : Nat → Nat → Int64) (hM : MI s mi ml) (x y : Int32) (r : Option Value) (s' : Sta) (hr : shoR s x y r s') : am_T l (d + 7) M_m_show 0 [some (.ref 116), some (.int x), some (.int y), none, none, none, none, none] [] (hm mi ml mr) 0 0 (fun r2 h' => r2 = r ∧ ∃ mi' ml', h' = hm mi' ml' mr ∧ okSta s' ∧ MI s' mi' ml' ∧ (∀ a, a < 116 → mi' a = mi a) ∧ ∀ a, a < 116 → ml' a = ml a) := by
  have hS := okS_SD hs.2.1
  obtain ⟨hdif, hr⟩ := hr
  refine am_aload_n rfl rfl ?_
  refine am_iload_n rfl rfl ?_
  refine am_iload_n rfl rfl ?_
  refine ho_cv2 rfl (by first | rfl | assumption) rfl (Nat.le_of_ble_eq_true rfl) (Nat.le_of_ble_eq_true rfl) (m_differ hR hs mi ml hM x y r hdif) ?_
  rintro r2 h' ⟨rfl, mi1, ml1, rfl, g1, q4, hk⟩
  have hfr : (∀ a, a < 116 → mi1 a = mi a) ∧ ∀ a, a < 116 → ml1 a = ml a := ⟨fun a ha => q4.1 a (by omega) (by omega) (by omega) (by omega) (by omega) (by omega), fun a ha => q4.2.2.1 a (by omega) (by omega) (by omega)⟩
  rcases hr with ⟨q, rfl, hq, rfl⟩ | ⟨ip, n, cx, L, w, mj, mk, a, b, z, o', k', N, hKF, ha, hb, rfl, rfl, hz, rfl, hD', hP', hN, hN1, hN2, rfl⟩
  · refine am_lstore_n rfl (Nat.le_of_ble_eq_true rfl) ?_
    show am_T _ _ _ _ [_, _, _, some _, none, _, _, _] _ _ _ _ _
    refine am_lload_n rfl rfl ?_
    refine am_lconst (v := 0) rfl (by decide) ?_
    refine am_lcmp rfl ?_
    have ret : am_T l (d + 7) M_m_show 21 [some (.ref 116), some (.int x), some (.int y), some (.long q), none, none, none, none] [] (hm mi1 ml1 mr) 0 0 (fun r2 h' => r2 = some (.long q) ∧ ∃ mi' ml', h' = hm mi' ml' mr ∧ okSta s' ∧ MI s' mi' ml' ∧ (∀ a, a < 116 → mi' a = mi a) ∧ ∀ a, a < 116 → ml' a = ml a) := by
      refine am_lload_n rfl rfl ?_
      exact am_lreturn rfl rfl ⟨rfl, mi1, ml1, rfl, hs, g1, hfr.1, hfr.2⟩
    refine am_if_lt rfl (fun _ => ret) (fun y1 => ?_)
    refine am_lload_n rfl rfl ?_
    refine am_ldc2 rfl rfl ?_
    refine am_lcmp rfl ?_
    refine am_if_le rfl (fun y2 => ?_) (fun _ => ret)
    exfalso
    have h1 : ¬ q < 0 := fun e => y1 ((lg_cmp_lt _ _).mpr e)
    have h2 : q ≤ 12 := (lg_cmp_le _ _).mp y2
    rcases hq with e | e
    · exact h1 e
    · exact absurd h2 (Int64.not_le.mpr e)
  -- it is shown
  have hn0 : ∀ e : Int64, e < 0 → lJ z ≠ e := fun e he q => lJ_nn0 (x := z) (by omega) (by rw [q]; exact he)
  rcases hdif with ⟨-, h2⟩ | ⟨hnm, cnt', tm, mj', mk', hKX, ⟨rfl, h2⟩ | ⟨rfl, -⟩⟩
  · exact absurd (by injection h2 with h2; injection h2) (hn0 (-2) (by decide))
  · exact absurd (by injection h2 with h2; injection h2) (hn0 (-3) (by decide))
  obtain ⟨cm, hrep, hMk, hkn⟩ := hk hnm
  obtain ⟨e1, -⟩ := room_same hS hMk hKX
  have h40 : cm ≤ 40 := by
    have := of_decide_eq_false e1.symm
    omega
  obtain ⟨-, v, hV, hv⟩ := hMk.2.1 h40
  have hE := hMk.ke h40
  have hE' := hKF.ke hS
  obtain ⟨sk1, sk2⟩ := sk_both hS hMk h40 hV hv hKF
  refine am_lstore_n rfl (Nat.le_of_ble_eq_true rfl) ?_
  show am_T _ _ _ _ [_, _, _, some _, none, _, _, _] _ _ _ _ _
  refine am_lload_n rfl rfl ?_
  refine am_lconst (v := 0) rfl (by decide) ?_
  refine am_lcmp rfl ?_
  refine am_if_lt rfl (fun q => absurd ((lg_cmp_lt _ _).mp q) (lJ_nn0 (by omega))) (fun _ => ?_)
  refine am_lload_n rfl rfl ?_
  refine am_ldc2 rfl rfl ?_
  refine am_lcmp rfl ?_
  refine am_if_le rfl (fun _ => ?_) (fun q => ?_)
  case refine_2 =>
    exfalso
    refine q ((lg_cmp_le _ _).mpr ?_)
    rw [Int64.le_iff_toInt_le, lJ_toInt (by omega)]
    show (z : Int) ≤ 12
    omega
  refine am_aload_n rfl rfl ?_
  refine ho_cv0 rfl (by first | rfl | assumption) rfl (Nat.le_of_ble_eq_true rfl) (Nat.le_of_ble_eq_true rfl) (c_m_writeTexts (d := d + 4) hR mi1 hMk h40 hV hv) ?_
  rintro r h' ⟨rfl, mi2, o, rfl, p1, p2, p3⟩
  have hTX := TX.of p1 p2
  have e116 := p3 116 (by decide) (by decide) (by decide)
  have hrep2 : repS (SD s.D) mi2 := by
    unfold repS at hrep ⊢
    rw [e116, p3 123 (by decide) (by decide) (by decide), p3 124 (by decide) (by decide) (by decide), p3 125 (by decide) (by decide) (by decide), p3 126 (by decide) (by decide) (by decide)]
    exact hrep
  refine am_iconst (v := -1) rfl (by decide) ?_
  refine am_istore rfl (Nat.le_of_ble_eq_true rfl) ?_
  show am_T _ _ _ _ [_, _, _, _, _, some _, _, _] _ _ _ _ _
  refine am_iconst (v := nI 0) rfl (by decide) ?_
  refine am_istore rfl (Nat.le_of_ble_eq_true rfl) ?_
  show am_T _ _ _ _ [_, _, _, _, _, _, some _, _] _ _ _ _ _
  refine c_m_show_33 (d := d + 6) hR hS mi2 hrep2 h40 (by rw [e116]; exact hMk.1.2.1) hV o hTX a b z ha hb hz (fun best hP => ?_) cm 0 none (by omega) Pk_0
  -- one is due
  have hpk : ∀ k, k < cx → tb (mk 101 a &&& (mk 101 b ^^^ (-1))) k = (fun x => pkM (SD s.D) (fun _ => x) a (some b) 0) (mk 94 k) := pick_two hE'.2.1 (hKF.2.2.2.1 a ha) (hKF.2.2.2.1 b hb)
  cases best with
  | none =>
    exfalso
    obtain ⟨c1, c2, c3, -⟩ := hP'
    obtain ⟨k, d1, d2, d3, -⟩ := sk2 k' c1
    refine hP k d1 ?_ (d3.trans c3)
    have := hpk k' c1
    rw [c2] at this
    show pkM (SD s.D) (fun _ => ml1 127 k) a (some b) 0 = true
    rw [d2]
    exact this.symm
  | some k =>
    have hsame := pick_same hE hE' hV.2.1 hKF.2.2.2.2.1.2.1 sk1 sk2 p1 hD' hz (fun x => pkM (SD s.D) (fun _ => x) a (some b) 0) (fun k hk => rfl) hpk hP hP'
    obtain ⟨b1, b2, b3, -⟩ := id hP
    have hTk := hTX k b1 (by omega)
    rw [hsame, hN] at hTk
    obtain ⟨t1, t2, t3, t4⟩ := id hTk
    show am_T _ _ _ _ [_, _, _, _, _, some (.int (nI k)), _, _] _ _ _ _ _
    refine am_aload_n rfl rfl ?_
    refine am_aload_n rfl rfl ?_
    refine ho_getR rfl (by first | rfl | assumption) rfl (by first | assumption | exact hR _ _ _ rfl) ?_
    refine am_iload rfl rfl ?_
    refine ho_iaload rfl rfl (by omega) ?_
    rw [t3]
    refine ho_putI rfl (by first | rfl | assumption) rfl rfl ?_
    refine am_iconst (v := nI 0) rfl (by decide) ?_
    refine am_istore rfl (Nat.le_of_ble_eq_true rfl) ?_
    show am_T _ _ _ _ [_, _, _, _, _, _, some _, _] _ _ _ _ _
    have hT2 : TR (up2 mi2 116 5 (nI (tx N 0).length) 130) (up2 mi2 116 5 (nI (tx N 0).length) 131) k (some (tx N 0)) := by
      rw [up2_off _ _ _ (by decide), up2_off _ _ _ (by decide)]
      exact hTk
    have hfi := c_m_show_184 (l := l) (d := d + 7) (ml := ml1) hR _ (tx N 0) k (by omega) hT2 (by simp [up2]) (nI a) (nI b) (lJ z) (tx N 0).length 0 (by omega)
    rw [cpN_0] at hfi
    refine am_T.to hfi ?_
    rintro r h' ⟨rfl, rfl⟩
    have hM2 : MI s mi2 ml1 := MI_F3 g1 (fun c h1 h2 => p3 c (by omega) (by omega) (by omega))
    refine ⟨rfl, _, ml1, rfl, ⟨hs.1, hs.2.1, hs.2.2.1, ⟨hN1, hN2⟩, hs.2.2.2.2⟩, MI_doc (N' := N) hM2 (fun c h1 h2 => ?_) (fun j hj => ?_) (fun i hi => ?_) ?_, fun c hc => ?_, hfr.2⟩
    · rw [cpN_off _ h2, up2_off _ _ _ (by omega)]
    · rw [cpN_off _ (by decide)]
      unfold up2
      rw [if_neg (by omega)]
    · rw [cpN_in _ (by omega) (by omega), up2_off _ _ _ (by decide), Nat.sub_zero]
      exact t4 i hi
    · rw [cpN_off _ (by decide)]
      simp [up2]
    · rw [cpN_off _ (by omega), up2_off _ _ _ (by omega)]
      exact (p3 c (by omega) (by omega) (by omega)).trans (hfr.1 c hc)
theorem w_show {K : Option Value → Prop} (hK : ∀ v, K (some (.long v))) (x y : Int32) : lw2 l K 72 153 [.int x, .int y] := by
  refine lw_mk (fun mi ml mr s hR hs hX => ⟨fun r s' => shoR s x y r s', ?_, ?_⟩)
  · show am_T l 60 M_X_show 0 [some (.ref 0), some (.int x), some (.int y), none, none, none] [] _ 0 0 _
    refine am_T.to (x_show hR hs mi ml hX x y) ?_
    rintro r h ⟨⟨q, rfl⟩, mi', ml', mr', s', rfl, g1, g2, g3, g4, g5⟩
    exact ⟨hK _, mi', ml', mr', s', rfl, g1, g2, g3, g4, g5⟩
  · rintro r s' mi ml mr hR hM - hr
    show am_T l 60 M_m_show 0 [some (.ref 116), some (.int x), some (.int y), none, none, none, none, none] [] _ 0 0 _
    exact m_show hR hs mi ml hM x y r s' hr
end T1b
