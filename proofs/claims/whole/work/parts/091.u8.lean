/-! the reference: run -/
section U8
variable {l : Launch} {d : Nat} {mr : Nat → Nat → Option Nat} {s : Sta}
theorem c_m_definedX {mi : Nat → Nat → Int32} {ml : Nat → Nat → Int64} {F : Nat → Fn} (hR : SR mr) (hM : MF F mi) (x : Int32) : am_T l d M_m_defined 0 [some (.ref 116), some (.int x)] [] (hm mi ml mr) 0 0 (fun r h' => r = some (.int (bI (def3 F x))) ∧ h' = hm mi ml mr) := by
  by_cases h1 : x.toInt < 0
  · refine am_iload_n rfl rfl ?_
    refine am_if_lt rfl (fun _ => ?_) (fun q => absurd (Int32.lt_iff_toInt_lt.mpr h1) q)
    refine am_iconst (v := nI 0) rfl (by decide) ?_
    exact am_zreturn rfl rfl (Or.inl rfl) ⟨by rw [show def3 F x = false from decide_eq_false (by omega)]; rfl, rfl⟩
  by_cases h2 : x.toInt < 3
  · obtain ⟨φ, hφ, rfl⟩ := f3_nI (x := x) (by omega) h2
    rw [def3_nI hφ]
    exact c_m_definedN hR φ hφ (hM φ hφ)
  · refine am_iload_n rfl rfl ?_
    refine am_if_lt rfl (fun q => absurd (Int32.lt_iff_toInt_lt.mp q) h1) (fun q => ?_)
    refine am_iload_n rfl rfl ?_
    refine am_iconst (v := nI 2) rfl (by decide) ?_
    refine am_icmp_gt rfl (fun w => ?_) (fun w => ?_)
    · refine am_iconst (v := nI 0) rfl (by decide) ?_
      exact am_zreturn rfl rfl (Or.inl rfl) ⟨by rw [show def3 F x = false from decide_eq_false (by omega)]; rfl, rfl⟩
    · exact absurd (Int32.lt_iff_toInt_lt.mpr (by rw [show (nI 2).toInt = 2 from rfl]; omega)) w
theorem MI_Fp {mi mi' : Nat → Nat → Int32} {ml : Nat → Nat → Int64} (h : MI s mi ml) (hF : Fp mi mi') : MI s mi' ml := by
  obtain ⟨⟨p1, p2, p3, p4⟩, a2, a3, a4, ⟨a5, a6⟩, a7, a8⟩ := h
  obtain ⟨hi, h116⟩ := hF
  exact ⟨⟨txt_to p1 (hi 117 (by omega) (by omega) (by omega) (by omega) (by omega)), by rw [h116 1 (by omega) (by omega)]; exact p2, p3, p4⟩, MD_to a2 (hi 118 (by omega) (by omega) (by omega) (by omega) (by omega)) (hi 119 (by omega) (by omega) (by omega) (by omega) (by omega)), fun f hf => EN_to (a3 f hf) (hi 118 (by omega) (by omega) (by omega) (by omega) (by omega)) (hi 119 (by omega) (by omega) (by omega) (by omega) (by omega)), MC_to a4 (fun a h1 _ => hi a (by omega) (by omega) (by omega) (by omega) (by omega)) (h116 11 (by omega) (by omega)) (h116 12 (by omega) (by omega)) (h116 18 (by omega) (by omega)) rfl rfl rfl, ⟨txt_to a5 (hi 120 (by omega) (by omega) (by omega) (by omega) (by omega)), by rw [h116 5 (by omega) (by omega)]; exact a6⟩, txt_to a7 (hi 121 (by omega) (by omega) (by omega) (by omega) (by omega)), by rw [h116 7 (by omega) (by omega)]; exact a8⟩
theorem MI_val {mi mi' : Nat → Nat → Int32} {ml : Nat → Nat → Int64} (h : MI s mi ml) {V' : Nd} (hi : ∀ a, 116 < a → a ≠ 121 → mi' a = mi a) (h116 : ∀ j, j ≠ 7 → mi' 116 j = mi 116 j) (hV : txt mi' 121 (tx V' 0)) (hL : mi' 116 7 = nI (tx V' 0).length) : MI (s.setV (V')) mi' ml := by
  obtain ⟨⟨p1, p2, p3, p4⟩, a2, a3, a4, ⟨a5, a6⟩, -, -⟩ := h
  exact ⟨⟨txt_to p1 (hi 117 (by omega) (by omega)), by rw [h116 1 (by omega)]; exact p2, p3, p4⟩, MD_to a2 (hi 118 (by omega) (by omega)) (hi 119 (by omega) (by omega)), fun f hf => EN_to (a3 f hf) (hi 118 (by omega) (by omega)) (hi 119 (by omega) (by omega)), MC_to a4 (fun a h1 _ => hi a (by omega) (by omega)) (h116 11 (by omega)) (h116 12 (by omega)) (h116 18 (by omega)) rfl rfl rfl, ⟨txt_to a5 (hi 120 (by omega) (by omega)), by rw [h116 5 (by omega)]; exact a6⟩, hV, hL⟩
theorem c_m_run_copy {mi : Nat → Nat → Int32} {ml : Nat → Nat → Int64} (hR : SR mr) (T : List Nat) (hT : txt mi 122 T) (hn : mi 116 9 = nI T.length) (hl : T.length ≤ 60) (hok : okT T) (x1 x2 x4 : Int32) {Q : Option Value → am_H → Prop} (hQ : Q (some (.int x2)) (hm (up2 (cpN mi 121 0 122 0 T.length) 116 7 (nI T.length)) ml mr)) : ∀ (n i : Nat), i + n = T.length → am_T l d M_m_run 365 [some (.ref 116), some (.int x1), some (.int x2), none, some (.int x4), some (.int (nI i)), none, none, none] [] (hm (cpN mi 121 0 122 0 i) ml mr) 0 0 Q := by
  intro n
  induction n with
  | zero =>
    intro i hi
    have e : i = T.length := by omega
    subst e
    refine am_iload rfl rfl ?_
    refine am_aload_n rfl rfl ?_
    refine ho_getI rfl (by first | rfl | assumption) rfl ?_
    rw [cpN_off mi (show (116 : Nat) ≠ 121 by decide), hn]
    refine ho_icmp_ge rfl (by omega) (by omega) (fun h1 => ?_) (fun h1 => absurd (by omega) h1)
    refine am_aload_n rfl rfl ?_
    refine am_aload_n rfl rfl ?_
    refine ho_getI rfl (by first | rfl | assumption) rfl ?_
    rw [cpN_off mi (show (116 : Nat) ≠ 121 by decide), hn]
    refine ho_putI rfl (by first | rfl | assumption) rfl rfl ?_
    refine am_iload_n rfl rfl ?_
    exact am_ireturn rfl rfl hQ
  | succ n ih =>
    intro i hi
    refine am_iload rfl rfl ?_
    refine am_aload_n rfl rfl ?_
    refine ho_getI rfl (by first | rfl | assumption) rfl ?_
    rw [cpN_off mi (show (116 : Nat) ≠ 121 by decide), hn]
    refine ho_icmp_ge rfl (by omega) (by omega) (fun h1 => absurd h1 (by omega)) (fun h1 => ?_)
    refine am_aload_n rfl rfl ?_
    refine ho_getR rfl (by first | rfl | assumption) rfl (by first | assumption | exact hR _ _ _ rfl) ?_
    refine am_iload rfl rfl ?_
    refine am_aload_n rfl rfl ?_
    refine ho_getR rfl (by first | rfl | assumption) rfl (by first | assumption | exact hR _ _ _ rfl) ?_
    refine am_iload rfl rfl ?_
    refine ho_caload rfl (by first | rfl | assumption) (by omega) ?_
    rw [cpN_off mi (show (122 : Nat) ≠ 121 by decide)]
    have hv : vp_nar .char (mi 122 i) = mi 122 i := by
      rw [hT i (by omega)]
      have := okT_at hok i
      exact am_char_nar (nI_pos' (by omega)) (by have := nI_le (a := T.getD i 0) (b := 65535) (by omega) (by omega); exact this)
    refine ho_castore rfl (by first | rfl | assumption) (by omega) (by assumption) ?_
    have e := cpN_s mi (a := 121) (oa := 0) (b := 122) (ob := 0) (n := i)
    rw [Nat.zero_add] at e
    rw [e]
    refine am_iinc rfl rfl (nI_inc1 _) ?_
    show am_T _ _ _ _ [_, _, _, _, _, some _, _, _, _] _ _ _ _ _
    refine am_goto rfl ?_
    exact ih (i + 1) (by omega)
/-- the reference's run -/
theorem m_run {mi : Nat → Nat → Int32} {ml : Nat → Nat → Int64} (hR : SR mr) (hs : okSta s) (hM : MI s mi ml) (x : Int32) (r : Option Value) (s' : Sta) (hr : runR s x r s') : am_T l (d + 8) M_m_run 0 [some (.ref 116), some (.int x), none, none, none, none, none, none, none] [] (hm mi ml mr) 0 0 (fun r2 h' => r2 = r ∧ ∃ mi' ml', h' = hm mi' ml' mr ∧ okSta s' ∧ MI s' mi' ml' ∧ (∀ a, a < 116 → mi' a = mi a) ∧ ∀ a, a < 116 → ml' a = ml a) := by
  have hS := okS_SD hs.2.1
  obtain ⟨hP, hMD, hMF, hMC, ⟨a5, a6⟩, a7, a8⟩ := id hM
  refine am_aload_n rfl rfl ?_
  refine am_iload_n rfl rfl ?_
  refine ho_cv1 rfl (by first | rfl | assumption) rfl (Nat.le_of_ble_eq_true rfl) (Nat.le_of_ble_eq_true rfl) (c_m_definedX hR hMF x) ?_
  rintro v h' ⟨rfl, rfl⟩
  rcases hr with ⟨k1, rfl, rfl⟩ | ⟨k1, φ, f, hφ, rfl, hf, hr⟩
  · rw [k1]
    refine am_if_ne rfl (fun z => absurd rfl z) (fun _ => ?_)
    refine am_bipush (v := -2) rfl (by decide) ?_
    exact am_ireturn rfl rfl ⟨rfl, mi, ml, rfl, hs, hM, fun _ _ => rfl, fun _ _ => rfl⟩
  rw [k1]
  refine am_if_ne rfl (fun _ => ?_) (fun z => by cases z)
  rw [def3_nI hφ] at k1
  have hz : (s.F φ).2.2.length ≠ 0 := of_decide_eq_true k1
  have hNo := hs.2.2.2.1.1
  have hl := hs.2.2.2.1.2
  refine am_aload_n rfl rfl ?_
  refine am_iconst (v := nI 0) rfl (by decide) ?_
  refine ho_cv1 rfl (by first | rfl | assumption) rfl (Nat.le_of_ble_eq_true rfl) (Nat.le_of_ble_eq_true rfl) (c_m_takeNodes hR hs.2.1 false s.N hNo (by omega) (tx_len36 hs.2.2.2.1) mi ml hMD hMC a5 a6) ?_
  rintro v h' ⟨rfl, cnt, mi1, ml1, rfl, q1, q2, q3, q4, q5, q6⟩
  have hM1 : MI s mi1 ml1 := MI_know hM q1 q2 q3 (fun a h1 h2 => q6.1 a (by omega) (by omega) (by omega) (by omega) (by omega) (by omega) (by omega) (by omega) (by omega) (by omega) (by omega)) (fun j hj => q6.2.1 j (by omega) (by omega) (by omega) (by omega))
  have hlow : ∀ a, a < 116 → mi1 a = mi a := fun a ha => q6.1 a (by omega) (by omega) (by omega) (by omega) (by omega) (by omega) (by omega) (by omega) (by omega) (by omega) (by omega)
  have hlow2 : ∀ a, a < 116 → ml1 a = ml a := fun a ha => q6.2.2 a (by omega) (by omega) (by omega) (by omega)
  have h17 := q2.2.2
  have hfg : ∀ j, j < s.N.length → f j = ml1 137 j := fun j hj => NM_uniq hf q5 s.N.length 0 (by omega) j (Nat.zero_le _) hj
  have hrun : runA s f φ = runA s (ml1 137) φ := ap_congr hfg 13 φ (o0 s.N) 0 [] 0 o0_lt
  rw [hrun] at hr
  have hRC1 : RC (SD s.D) s.N s.F mi1 := ⟨q4, hM1.2.2.2.2.1.1, hM1.2.2.2.2.1.2, q1, hM1.2.2.1⟩
  refine am_aload_n rfl rfl ?_
  refine am_iconst (v := nI 0) rfl (by decide) ?_
  refine ho_putI rfl (by first | rfl | assumption) rfl rfl ?_
  refine am_aload_n rfl rfl ?_
  refine am_iconst (v := nI 0) rfl (by decide) ?_
  refine ho_putI rfl (by first | rfl | assumption) rfl rfl ?_
  refine am_iconst (v := nI 1) rfl (by decide) ?_
  refine am_istore_n rfl (Nat.le_of_ble_eq_true rfl) ?_
  show am_T _ _ _ _ [_, _, some _, _, _, _, _, _, _] _ _ _ _ _
  have hF2 : Fp mi1 (up2 (up2 mi1 116 9 (nI 0)) 116 10 (nI 0)) := ⟨fun a h1 _ _ _ _ => by rw [up2_off _ _ _ h1, up2_off _ _ _ h1], fun j h1 h2 => by unfold up2; rw [if_neg (by omega), if_neg (by omega)]⟩
  have hO2 : OTx (up2 (up2 mi1 116 9 (nI 0)) 116 10 (nI 0)) [] 0 := ⟨by simp [up2], by simp [up2], fun i hi => by cases hi⟩
  generalize up2 (up2 mi1 116 9 (nI 0)) 116 10 (nI 0) = mi2 at hF2 hO2 ⊢
  have hRC2 := hRC1.to hF2
  have endS : ∀ (v : Int32), r = some (.int v) → s' = s → ∀ mi' : Nat → Nat → Int32, Fp mi2 mi' → (fun (r2 : Option Value) (h' : am_H) => r2 = r ∧ ∃ mi' ml', h' = hm mi' ml' mr ∧ okSta s' ∧ MI s' mi' ml' ∧ (∀ a, a < 116 → mi' a = mi a) ∧ ∀ a, a < 116 → ml' a = ml a) (some (.int v)) (hm mi' ml1 mr) := by
    rintro v rfl rfl mi' hF
    exact ⟨rfl, mi', ml1, rfl, hs, MI_Fp (MI_Fp hM1 hF2) hF, fun a ha => by rw [hF.1 a (by omega) (by omega) (by omega) (by omega) (by omega), hF2.1 a (by omega) (by omega) (by omega) (by omega) (by omega)]; exact hlow a ha, hlow2⟩
  have hn25 := hRC2.1.1
  refine am_aload_n rfl rfl ?_
  refine am_iload_n rfl rfl ?_
  refine am_aload_n rfl rfl ?_
  refine ho_getI rfl (by first | rfl | assumption) rfl ?_
  rw [hn25]
  have s42 : ∀ y : Int32, y = noI (o0 s.N) → am_T l (d + 8) M_m_run 42 [some (.ref 116), some (.int (nI φ)), some (.int (nI 1)), none, none, none, none, none, none] [.int y, .int (nI φ), .ref 116] (hm mi2 ml1 mr) 0 0 (fun r2 h' => r2 = r ∧ ∃ mi' ml', h' = hm mi' ml' mr ∧ okSta s' ∧ MI s' mi' ml' ∧ (∀ a, a < 116 → mi' a = mi a) ∧ ∀ a, a < 116 → ml' a = ml a) := by
    intro y hy
    subst hy
    refine ho_cv2 rfl (by first | rfl | assumption) rfl (Nat.le_of_ble_eq_true rfl) (Nat.le_of_ble_eq_true rfl) (c_m_chosen hR hS hl mi2 hRC2 h17 φ hφ (hs.2.2.1 φ).1 (o0 s.N) o0_lt) ?_
    rintro v h' ⟨rfl, rfl⟩
    refine am_istore_n rfl (Nat.le_of_ble_eq_true rfl) ?_
    show am_T _ _ _ _ [_, _, _, some _, _, _, _, _, _] _ _ _ _ _
    refine am_iload_n rfl rfl ?_
    cases hch : choF (SD s.D) s.N (ml1 137) (s.F φ).2.2 (o0 s.N) with
    | none =>
      have est : runA s (ml1 137) φ = .inr true := by
        unfold runA ap
        rw [hch]
      refine am_if_ne rfl (fun z => absurd rfl z) (fun _ => ?_)
      refine am_bipush (v := -4) rfl (by decide) ?_
      rcases hr with ⟨out, a, e, -⟩ | ⟨-, h1, h2⟩ | ⟨e, -⟩
      · rw [est] at e
        cases e
      · exact am_ireturn rfl rfl (endS _ h1 h2 mi2 Fp.rf)
      · rw [est] at e
        cases e
    | some j =>
      obtain ⟨c1, c2, c3⟩ := choF_p hch
      have hokF : okF (s.F φ) := (hs.2.2.1 φ).1.resolve_left (fun q => hz (by rw [q]; rfl))
      have hokc := clA_ok hokF c1
      have h6 := hokF.2.2.2.2
      have hap : runA s (ml1 137) φ = wr s.N (ap (SD s.D) s.N (ml1 137) s.F 12) (o0 s.N) (clA (s.F φ).2.2 j).2 (0 + 0) [] 1 := by
        unfold runA
        rw [ap, hch]
      rw [hap] at hr
      show am_T l (d + 8) M_m_run 47 [_, _, _, some (.int (nI (j + 1))), _, _, _, _, _] (.int (nI (j + 1)) :: _) _ _ _ _
      refine am_if_ne rfl (fun _ => ?_) (fun z => ?_)
      case refine_2 =>
        have : j + 1 = 0 := (nI_eq (a := j + 1) (b := 0) (by omega) (by omega)).mp z
        omega
      refine am_aload_n rfl rfl ?_
      refine ho_getR rfl (by first | rfl | assumption) rfl (by first | assumption | exact hR _ _ _ rfl) ?_
      refine am_iconst (v := nI 0) rfl (by decide) ?_
      refine am_iload_n rfl rfl ?_
      refine ho_iastore rfl (by first | rfl | assumption) (by omega) ?_
      refine am_aload_n rfl rfl ?_
      refine ho_getR rfl (by first | rfl | assumption) rfl (by first | assumption | exact hR _ _ _ rfl) ?_
      refine am_iconst (v := nI 0) rfl (by decide) ?_
      refine am_aload_n rfl rfl ?_
      refine am_iload_n rfl rfl ?_
      refine am_iload_n rfl rfl ?_
      have hF3 : Fp mi2 (up2 mi2 139 0 (nI φ)) := ⟨fun a _ _ h3 _ _ => up2_off _ _ _ h3, fun j _ _ => by rw [up2_off _ _ _ (by decide)]⟩
      have hE3 := (hRC2.to hF3).2.2.2.2 φ hφ
      rw [fTx_def hz] at hE3
      have hb3 := cpos_bound hE3 c1
      have hre3 := rpos_end (s.F φ).2.2 c1
      have h803 := hE3.2.1
      refine ho_cv2 rfl (by first | rfl | assumption) rfl (Nat.le_of_ble_eq_true rfl) (Nat.le_of_ble_eq_true rfl) (c_m_result hR φ hφ _ hokF hE3 j c1) ?_
      rintro v h' ⟨rfl, rfl⟩
      refine ho_iastore rfl rfl (by omega) ?_
      refine am_aload_n rfl rfl ?_
      refine ho_getR rfl (by first | rfl | assumption) rfl (by first | assumption | exact hR _ _ _ rfl) ?_
      refine am_iconst (v := nI 0) rfl (by decide) ?_
      refine am_aload_n rfl rfl ?_
      refine ho_getI rfl (by first | rfl | assumption) rfl ?_
      rw [up2_off _ _ _ (show (116 : Nat) ≠ 140 by decide), up2_off _ _ _ (show (116 : Nat) ≠ 139 by decide), hn25]
      have s89 : ∀ y : Int32, y = noI (o0 s.N) → am_T l (d + 8) M_m_run 89 [some (.ref 116), some (.int (nI φ)), some (.int (nI 1)), some (.int (nI (j + 1))), none, none, none, none, none] [.int y, .int (nI 0), .ref 141] (hm (up2 (up2 mi2 139 0 (nI φ)) 140 0 (nI (rpos (s.F φ).2.2 j))) ml1 mr) 0 0 (fun r2 h' => r2 = r ∧ ∃ mi' ml', h' = hm mi' ml' mr ∧ okSta s' ∧ MI s' mi' ml' ∧ (∀ a, a < 116 → mi' a = mi a) ∧ ∀ a, a < 116 → ml' a = ml a) := by
        intro y hy
        subst hy
        refine ho_iastore rfl (by first | rfl | assumption) (by omega) ?_
        refine am_iconst (v := nI 0) rfl (by decide) ?_
        refine am_istore rfl (Nat.le_of_ble_eq_true rfl) ?_
        show am_T _ _ _ _ [_, _, _, _, some _, _, _, _, _] _ _ _ _ _
        refine am_drops [3] ?_
        have hF4 : Fp mi2 (up2 (up2 (up2 mi2 139 0 (nI φ)) 140 0 (nI (rpos (s.F φ).2.2 j))) 141 0 (noI (o0 s.N))) := hF3.tr ⟨fun a _ _ _ h4 h5 => by rw [up2_off _ _ _ h5, up2_off _ _ _ h4], fun j _ _ => by rw [up2_off _ _ _ (by decide), up2_off _ _ _ (by decide)]⟩
        have hO4 : OTx (up2 (up2 (up2 mi2 139 0 (nI φ)) 140 0 (nI (rpos (s.F φ).2.2 j))) 141 0 (noI (o0 s.N))) (tx [] (0 + 0)) ([] : Nd).length := by
          unfold OTx txt at hO2 ⊢
          rw [up2_off _ _ _ (show (116 : Nat) ≠ 141 by decide), up2_off _ _ _ (show (116 : Nat) ≠ 140 by decide), up2_off _ _ _ (show (116 : Nat) ≠ 139 by decide), up2_off _ _ _ (show (122 : Nat) ≠ 141 by decide), up2_off _ _ _ (show (122 : Nat) ≠ 140 by decide), up2_off _ _ _ (show (122 : Nat) ≠ 139 by decide)]
          exact hO2
        have hfr4 : frm (up2 (up2 (up2 mi2 139 0 (nI φ)) 140 0 (nI (rpos (s.F φ).2.2 j))) 141 0 (noI (o0 s.N))) 0 φ (rpos (s.F φ).2.2 j + (ktx []).length) (o0 s.N) := ⟨by simp [up2], by simp [up2, ktx], by simp [up2]⟩
        generalize (up2 (up2 (up2 mi2 139 0 (nI φ)) 140 0 (nI (rpos (s.F φ).2.2 j))) 141 0 (noI (o0 s.N))) = mi4 at hF4 hO4 hfr4 ⊢
        refine m_wr hR hS hl hNo h17 hs.2.2.1 (nI φ) mi2 _ 12 (clA (s.F φ).2.2 j).2 [] φ j (o0 s.N) 0 0 [] 1 0 mi4 hφ c1 rfl c2 (fun i hi => ⟨o0_lt i hi, c3 i hi, by omega⟩) rfl hokc.2.2.2.2.1 trivial (Nat.zero_le _) (Nat.zero_le _) hO4 hfr4 (hRC2.to hF4) hF4 (fun e mi' hF => ?_) (fun e mi' hF => ?_) (fun out a mi' e y1 y2 y3 y4 y5 y6 y7 y8 => ?_)
        · rcases hr with ⟨out, a, e', -⟩ | ⟨-, h1, h2⟩ | ⟨e', -⟩
          · rw [e] at e'
            cases e'
          · exact endS _ h1 h2 mi' hF
          · rw [e] at e'
            cases e'
        · rcases hr with ⟨out, a, e', -⟩ | ⟨e', -⟩ | ⟨-, h1, h2⟩
          · rw [e] at e'
            cases e'
          · rw [e] at e'
            cases e'
          · exact endS _ h1 h2 mi' hF
        · rcases hr with ⟨out', a', e', h1, h2⟩ | ⟨e', -⟩ | ⟨e', -⟩
          case inr.inl =>
            rw [e] at e'
            cases e'
          case inr.inr =>
            rw [e] at e'
            cases e'
          rw [e] at e'
          cases e'
          subst h1
          subst h2
          refine c_m_run_head hR mi' y7 φ hφ hz 0 _ (by omega) (by omega) _ y5 (nI φ) a ?_
          rw [sgn_cpos _ _ (by omega)]
          refine am_iload rfl rfl ?_
          refine am_bipush (v := nI 47) rfl (by decide) ?_
          refine ho_icmp_ne rfl (by omega) (by omega) (fun z => absurd rfl z) (fun _ => ?_)
          refine am_iinc (v := -1) rfl rfl rfl ?_
          refine am_goto rfl ?_
          refine am_goto rfl ?_
          show am_T _ _ _ _ [_, _, _, _, some (.int (-1)), _, _, _, _] _ _ _ _ _
          refine am_drops [5, 6, 7] ?_
          show am_T _ _ _ _ [some (.ref 116), some (.int (nI φ)), some (.int (nI a)), none, some (.int (-1)), none, none, none, none] _ _ _ _ _
          refine am_iload rfl rfl ?_
          refine am_if_lt rfl (fun _ => ?_) (fun z => absurd (by decide) z)
          refine am_iconst (v := nI 0) rfl (by decide) ?_
          refine am_istore rfl (Nat.le_of_ble_eq_true rfl) ?_
          show am_T _ _ _ _ [_, _, _, _, _, some _, _, _, _] _ _ _ _ _
          have hlen := tx_len60 (s := (s.setV (out))) ⟨y1, y2⟩
          have k := c_m_run_copy (l := l) (d := d + 8) (ml := ml1) (mr := mr) hR (tx out 0) y4.2.2 y4.1 hlen (fun c hc => tx_ok y1 c hc) (nI φ) (nI a) (-1) (Q := fun r2 h' => r2 = some (.int (nI a)) ∧ ∃ mi' ml', h' = hm mi' ml' mr ∧ okSta (s.setV (out)) ∧ MI (s.setV (out)) mi' ml' ∧ (∀ a, a < 116 → mi' a = mi a) ∧ ∀ a, a < 116 → ml' a = ml a) ?_ (tx out 0).length 0 (by omega)
          · rw [cpN_0] at k
            exact k
          · have hM' : MI s mi' ml1 := MI_Fp (MI_Fp hM1 hF2) y8
            refine ⟨rfl, _, ml1, rfl, ⟨hs.1, hs.2.1, hs.2.2.1, hs.2.2.2.1, y1, y2⟩, MI_val hM' (fun a h1 h2 => by rw [up2_off _ _ _ (by omega), cpN_off _ h2]) (fun j hj => ?_) (fun i hi => ?_) (by simp [up2]), fun a ha => ?_, hlow2⟩
            · rw [show up2 (cpN mi' 121 0 122 0 (tx out 0).length) 116 7 (nI (tx out 0).length) 116 j = cpN mi' 121 0 122 0 (tx out 0).length 116 j by unfold up2; rw [if_neg (by omega)], cpN_off _ (by decide)]
            · rw [up2_off _ _ _ (by decide), cpN_in _ (Nat.zero_le _) (by omega), Nat.sub_zero, Nat.zero_add]
              exact y4.2.2 i hi
            · rw [up2_off _ _ _ (by omega), cpN_off _ (by omega), y8.1 a (by omega) (by omega) (by omega) (by omega) (by omega), hF2.1 a (by omega) (by omega) (by omega) (by omega) (by omega)]
              exact hlow a ha
      refine am_if_ne rfl (fun z => ?_) (fun z => ?_)
      · refine am_iconst (v := nI 0) rfl (by decide) ?_
        refine s89 _ ?_
        unfold o0
        rw [if_neg (fun q => z (by rw [q]; rfl))]
        rfl
      · refine am_iconst (v := -1) rfl (by decide) ?_
        refine am_goto rfl ?_
        refine s89 _ ?_
        unfold o0
        rw [if_pos ((nI_eq (a := s.N.length) (b := 0) (by omega) (by omega)).mp z)]
        rfl
  refine am_if_ne rfl (fun z => ?_) (fun z => ?_)
  · refine am_iconst (v := nI 0) rfl (by decide) ?_
    refine s42 _ ?_
    unfold o0
    rw [if_neg (fun q => z (by rw [q]; rfl))]
    rfl
  · refine am_iconst (v := -1) rfl (by decide) ?_
    refine am_goto rfl ?_
    refine s42 _ ?_
    unfold o0
    rw [if_pos ((nI_eq (a := s.N.length) (b := 0) (by omega) (by omega)).mp z)]
    rfl
theorem w_run {K : Option Value → Prop} (hK : ∀ v, K (some (.int v))) (x : Int32) : lw2 l K 108 193 [.int x] := by
  refine lw_mk (fun mi ml mr s hR hs hX => ⟨fun r s' => runR s x r s', ?_, ?_⟩)
  · show am_T l 60 M_X_run 0 [some (.ref 0), some (.int x), none, none] [] _ 0 0 _
    refine am_T.to (x_run hR hs hX x) ?_
    rintro r h ⟨⟨v, rfl⟩, mi', ml', mr', s', rfl, g1, g2, g3, g4, g5⟩
    exact ⟨hK _, mi', ml', mr', s', rfl, g1, g2, g3, g4, g5⟩
  · rintro r s' mi ml mr hR hM - hr
    show am_T l 60 M_m_run 0 [some (.ref 116), some (.int x), none, none, none, none, none, none, none] [] _ 0 0 _
    exact m_run hR hs hM x r s' hr
end U8
