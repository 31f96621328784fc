/-! the class: a text offered -/
def Fo (mi mi' : Nat → Nat → Int32) : Prop := (∀ a, a ≠ 102 → a ≠ 103 → a ≠ 104 → a ≠ 105 → mi' a = mi a) ∧ ∀ j, j ≠ 5 → mi' 102 j = mi 102 j
theorem Fo.rf {mi : Nat → Nat → Int32} : Fo mi mi := ⟨fun _ _ _ _ _ => rfl, fun _ _ => rfl⟩
theorem Fo.tr {mi mi' mi'' : Nat → Nat → Int32} (h : Fo mi mi') (h' : Fo mi' mi'') : Fo mi mi'' := ⟨fun a h1 h2 h3 h4 => (h'.1 a h1 h2 h3 h4).trans (h.1 a h1 h2 h3 h4), fun j hj => (h'.2 j hj).trans (h.2 j hj)⟩
theorem Ftt.fo {mi mi' : Nat → Nat → Int32} (h : Ftt mi mi') : Fo mi mi' := ⟨fun a h1 _ _ h4 => h.1 a h1 h4, h.2⟩
theorem KF.txt {S : Rs} {ip : Nat → Nat} {n cnt L : Nat} {v : Nat → Nat} {mi mi' : Nat → Nat → Int32} {ml : Nat → Nat → Int64} (h : KF S ip n cnt L v mi ml) (hF : Fo mi mi') : KF S ip n cnt L v mi' ml := by
  obtain ⟨h1, h2, h3, h4⟩ := h
  have e : ∀ a, a < 102 → mi' a = mi a := fun a ha => hF.1 a (by omega) (by omega) (by omega) (by omega)
  refine ⟨repX_to h1 (e 84 (by decide)) (e 85 (by decide)) (e 86 (by decide)) (fun _ _ _ => rfl), ?_, ?_, h4⟩
  · unfold XK at h2 ⊢
    rw [e 93 (by decide), e 96 (by decide)]
    exact h2
  · unfold XAll LL XJ at h3 ⊢
    rw [e 96 (by decide), e 98 (by decide), e 99 (by decide)]
    exact h3
theorem i2l_12 : ∀ s, s < 13 → (nI s).toInt64 = lJ s := by decide +kernel
theorem fp_nar : ∀ f, f < 6 → 2 ≤ f → ((nI (97 + fp f)).toUInt32 % 65536).toInt32 = nI (f + 95) := by decide +kernel
theorem XV_lt {S : Rs} {cnt : Nat} {v : Nat → Nat} {ml : Nat → Nat → Int64} (h : XV S cnt v ml) (k : Nat) : v k < 2 ^ 63 := Nat.lt_of_le_of_lt (h.2.2.1 k) (by decide)
/-- a row of texts, with one row more -/
theorem TS_up {mc mn mc' mn' : Nat → Int32} {cnt : Nat} {o : Nat → Option (List Nat)} (h : TS mc mn cnt o) {k : Nat} {t : List Nat} (h1 : t.length ≤ 36) (h2 : okT t) (hn : mn' k = nI t.length) (hn' : ∀ j, j ≠ k → mn' j = mn j) (hc : ∀ i, i < t.length → mc' (36 * k + i) = nI (t.getD i 0)) (hc' : ∀ i, ¬ (36 * k ≤ i ∧ i < 36 * k + 36) → mc' i = mc i) : TS mc' mn' cnt (upD o k (some t)) := by
  intro j hj
  show TR mc' mn' j (if j = k then some t else o j)
  by_cases e : j = k
  · subst e
    rw [if_pos rfl]
    exact ⟨h1, h2, hn, hc⟩
  · rw [if_neg e]
    have := h j hj
    cases ho : o j with
    | none =>
      rw [ho] at this
      show mn' j = -1
      rw [hn' j e]
      exact this
    | some u =>
      rw [ho] at this
      obtain ⟨a1, a2, a3, a4⟩ := this
      exact ⟨a1, a2, by rw [hn' j e]; exact a3, fun i hi => by rw [hc' _ (by omega)]; exact a4 i hi⟩
theorem TR_to {mc mn mc' mn' : Nat → Int32} {k : Nat} {o : Option (List Nat)} (h : TR mc mn k o) (e1 : mc' = mc) (e2 : mn' = mn) : TR mc' mn' k o := by
  subst e1 e2
  exact h
section S4
variable {l : Launch} {d : Nat} {ml : Nat → Nat → Int64} {mr : Nat → Nat → Option Nat} {S : Rs} {ip : Nat → Nat} {n cnt L : Nat} {v : Nat → Nat}
theorem Mid.at {km : Nat → Int64} {s : Nat} {o0 o : Nat → Option (List Nat)} {Q : Nat → Nat → Nat → Prop} (h : Mid S km cnt v s o0 Q o) (h0 : Dn S km cnt v s o0) {c : Nat} (hc : c < cnt) (hs : v c < s) : o c = o0 c := by
  rcases Nat.eq_zero_or_pos c with e | e
  · subst e
    rw [h.1, h0.1]
  · exact (h.2 c e hc).1 hs
theorem Dn.some {km : Nat → Int64} {s : Nat} {o0 : Nat → Option (List Nat)} (h : Dn S km cnt v s o0) {c : Nat} (hc : c < cnt) (hs : v c < s) : o0 c = some ((o0 c).getD []) := by
  rcases Nat.eq_zero_or_pos c with e | e
  · subst e
    rw [h.1]
    rfl
  · obtain ⟨t, ht, -⟩ := (h.2 c e hc).1 hs
    rw [ht]
    rfl
/-- the trial holds the text of a cut -/
theorem c_T_offer_80 (hR : SR mr) (hS : okS S) (mi : Nat → Nat → Int32) (hK : KF S ip n cnt L v mi ml) {s : Nat} {o0 o : Nat → Option (List Nat)} {Q : Nat → Nat → Nat → Prop} (h12 : s ≤ 12) (h0 : Dn S (ml 94) cnt v s o0) (hM : Mid S (ml 94) cnt v s o0 Q o) (hT : TS (mi 103) (mi 104) cnt o) (f c w k : Nat) (x1 x2 x3 x4 : Value) (k1 : 1 ≤ k) (k2 : k < cnt) (hv : v k = s) (hc : CutP S (ml 94) cnt v s f c w k) (hu : TL mi (cutT o0 f c w)) :
    am_T l (d + 1) M_T_offer 80 [some (.ref 102), some x1, some x2, some x3, some x4, some (.int (nI k))] [] (hm mi ml mr) 0 0 (fun r h' => r = none ∧ ∃ mi' o', h' = hm mi' ml mr ∧ TS (mi' 103) (mi' 104) cnt o' ∧ Mid S (ml 94) cnt v s o0 (fun f' c' w' => Q f' c' w' ∨ (f' = f ∧ c' = c ∧ w' = w)) o' ∧ Fo mi mi') := by
  have hE := hK.ke hS
  have h40 := hE.2.1
  have hlen := hc.len hE hK.2.2.2.2.1.2.1 h0
  have hok := HT_ok (hc.ht hE hK.2.2.2.2.1.2.1 h0)
  have hoff := hM.offer hE k1 k2 hv hc
  -- it is laid in
  have lay : ofr (o k) (cutT o0 f c w) = some (cutT o0 f c w) → am_T l (d + 1) M_T_offer 100 [some (.ref 102), some x1, some x2, some x3, some x4, some (.int (nI k))] [] (hm mi ml mr) 0 0 (fun r h' => r = none ∧ ∃ mi' o', h' = hm mi' ml mr ∧ TS (mi' 103) (mi' 104) cnt o' ∧ Mid S (ml 94) cnt v s o0 (fun f' c' w' => Q f' c' w' ∨ (f' = f ∧ c' = c ∧ w' = w)) o' ∧ Fo mi mi') := by
    intro e
    rw [e] at hoff
    refine am_aload_n rfl rfl ?_
    refine ho_getR rfl (by first | rfl | assumption) rfl (by first | assumption | exact hR _ _ _ rfl) ?_
    refine am_iconst (v := nI 0) rfl (by decide) ?_
    refine am_aload_n rfl rfl ?_
    refine ho_getR rfl (by first | rfl | assumption) rfl (by first | assumption | exact hR _ _ _ rfl) ?_
    refine am_iload rfl rfl ?_
    refine am_bipush (v := nI 36) rfl (by decide) ?_
    first | refine ho_muln rfl ?_ | refine am_imul rfl ?_
    refine am_aload_n rfl rfl ?_
    refine ho_getI rfl (by first | rfl | assumption) rfl ?_
    rw [hu.1]
    refine ho_acopy rfl rfl rfl (by omega) (by omega) (fun i hi => ?_) (by decide) ?_
    · rw [Nat.zero_add, hu.2.1 i hi]
      exact fit_c (okT_at hok i)
    refine am_aload_n rfl rfl ?_
    refine ho_getR rfl (by first | rfl | assumption) rfl (by first | assumption | exact hR _ _ _ rfl) ?_
    refine am_iload rfl rfl ?_
    refine am_aload_n rfl rfl ?_
    refine ho_getI rfl (by first | rfl | assumption) rfl ?_
    rw [cpN_off _ (by decide), hu.1]
    refine ho_iastore rfl (by first | rfl | assumption) (by omega) ?_
    refine am_return rfl rfl ⟨rfl, _, _, rfl, TS_up (k := k) (t := cutT o0 f c w) hT (by omega) hok ?_ (fun j hj => ?_) (fun i hi => ?_) (fun i hi => ?_), hoff, ⟨fun a a1 a2 a3 a4 => ?_, fun j hj => ?_⟩⟩
    · simp [up2]
    · rw [show up2 (cpN mi 103 (k * 36) 105 0 (cutT o0 f c w).length) 104 k (nI (cutT o0 f c w).length) 104 j = cpN mi 103 (k * 36) 105 0 (cutT o0 f c w).length 104 j by unfold up2; rw [if_neg (by omega)], cpN_off _ (by decide)]
    · rw [up2_off _ _ _ (by decide), cpN_in _ (by omega) (by omega), show 0 + (36 * k + i - k * 36) = i by omega]
      exact hu.2.1 i hi
    · rw [up2_off _ _ _ (by decide)]
      unfold cpN
      rw [if_neg (by omega)]
    · rw [up2_off _ _ _ a3, cpN_off _ a2]
    · rw [up2_off _ _ _ (by decide), cpN_off _ (by decide)]
  have hTk := hT k k2
  refine am_aload_n rfl rfl ?_
  refine ho_getR rfl (by first | rfl | assumption) rfl (by first | assumption | exact hR _ _ _ rfl) ?_
  refine am_iload rfl rfl ?_
  refine ho_iaload rfl rfl (by omega) ?_
  cases ho : o k with
  | none =>
    rw [ho] at hTk
    have hTk : mi 104 k = -1 := hTk
    rw [hTk]
    refine am_iconst (v := -1) rfl (by decide) ?_
    refine am_icmp_eq rfl (fun _ => lay (by rw [ho]; rfl)) (fun q => absurd rfl q)
  | some u =>
    rw [ho] at hTk
    obtain ⟨t1, t2, t3, t4⟩ := id hTk
    rw [t3]
    refine am_iconst (v := -1) rfl (by decide) ?_
    refine am_icmp_eq rfl (fun q => absurd q (nI_nm1 (by omega))) (fun _ => ?_)
    refine am_aload_n rfl rfl ?_
    refine am_iload rfl rfl ?_
    refine ho_cv1 rfl (by first | rfl | assumption) rfl (Nat.le_of_ble_eq_true rfl) (Nat.le_of_ble_eq_true rfl) (c_T_comesBefore hR k (by omega) u _ (by omega) mi hTk hu) ?_
    rintro r h' ⟨rfl, rfl⟩
    refine am_if_eq rfl (fun q => ?_) (fun q => lay ?_)
    · have e := (bI_eq _).mp q
      have e2 : ofr (o k) (cutT o0 f c w) = o k := by
        rw [ho]
        unfold ofr
        simp only
        rw [if_neg (by rw [e]; decide)]
      rw [e2] at hoff
      have e3 : upD o k (o k) = o := by
        funext j
        show (if j = k then o k else o j) = o j
        by_cases z : j = k
        · rw [if_pos z, z]
        · rw [if_neg z]
      rw [e3] at hoff
      exact am_return rfl rfl ⟨rfl, mi, o, rfl, hT, hoff, Fo.rf⟩
    · have e := (bI_ne _).mp q
      rw [ho]
      unfold ofr
      simp only
      rw [if_pos e]
theorem c_T_offer (hR : SR mr) (hS : okS S) (mi : Nat → Nat → Int32) (hK : KF S ip n cnt L v mi ml) {s : Nat} {o0 o : Nat → Option (List Nat)} {Q : Nat → Nat → Nat → Prop} (h12 : s ≤ 12) (h0 : Dn S (ml 94) cnt v s o0) (hM : Mid S (ml 94) cnt v s o0 Q o) (hT : TS (mi 103) (mi 104) cnt o) (f c w : Nat) (f1 : 1 ≤ f) (f5 : f ≤ 5) (c1 : c < cnt) (w1 : w < cnt) (es : s = 1 + v w + (if f = 1 then 0 else v c)) :
    am_T l (d + 2) M_T_offer 0 [some (.ref 102), some (.int (nI (fp f))), some (.int (nI c)), some (.int (nI w)), some (.int (nI s)), none] [] (hm mi ml mr) 0 0 (fun r h' => r = none ∧ ∃ mi' o', h' = hm mi' ml mr ∧ TS (mi' 103) (mi' 104) cnt o' ∧ Mid S (ml 94) cnt v s o0 (fun f' c' w' => Q f' c' w' ∨ (f' = f ∧ c' = c ∧ w' = w)) o' ∧ Fo mi mi') := by
  have hE := hK.ke hS
  have h40 := hE.2.1
  have hV := hK.2.2.2.2.1
  refine am_aload_n rfl rfl ?_
  refine ho_getR rfl (by first | rfl | assumption) rfl (by first | assumption | exact hR _ _ _ rfl) ?_
  refine am_iload_n rfl rfl ?_
  refine am_iload_n rfl rfl ?_
  refine am_iload_n rfl rfl ?_
  refine ho_cv3 rfl (by first | rfl | assumption) rfl (Nat.le_of_ble_eq_true rfl) (Nat.le_of_ble_eq_true rfl) (c_K_follow hR hS hK f c w f1 f5 c1 w1) ?_
  rintro r h' ⟨k, k1, k2, rfl, rfl, em⟩
  refine am_istore rfl (Nat.le_of_ble_eq_true rfl) ?_
  show am_T _ _ _ _ [_, _, _, _, _, some _] _ _ _ _ _
  refine am_aload_n rfl rfl ?_
  refine ho_getR rfl (by first | rfl | assumption) rfl (by first | assumption | exact hR _ _ _ rfl) ?_
  refine ho_getR rfl (by first | rfl | assumption) rfl (by first | assumption | exact hR _ _ _ rfl) ?_
  refine am_iload rfl rfl ?_
  refine ho_laload rfl rfl (by omega) ?_
  rw [hV.1 k k2]
  refine am_iload rfl rfl ?_
  refine am_i2l rfl (i2l_12 s (by omega)) ?_
  refine am_lcmp rfl ?_
  refine am_if_eq rfl (fun q => ?_) (fun q => ?_)
  case refine_2 =>
    have hne : v k ≠ s := fun e => q (lg_cmp_0.mpr (by rw [e]))
    refine am_return rfl rfl ⟨rfl, mi, o, rfl, hT, hM.skip (fun j j1 j2 hv hc => ?_), Fo.rf⟩
    have : j = k := hE.inj j2 k2 (by rw [decide_eq_false (by omega), decide_eq_false (by omega)]) (hc.2.2.2.2.1.trans em.symm)
    subst this
    exact hne hv
  have hv : v k = s := (lJ_eq (XV_lt hV k) (by omega)).mp (lg_cmp_0.mp q)
  have hc : CutP S (ml 94) cnt v s f c w k := ⟨f1, f5, c1, w1, em, es⟩
  have hlen := hc.len hE hV.2.1 h0
  have ew : o w = some ((o0 w).getD []) := by rw [hM.at h0 w1 (by omega)]; exact h0.some w1 (by omega)
  have hTw := hT w w1
  rw [ew] at hTw
  refine am_aload_n rfl rfl ?_
  refine am_iconst (v := nI 0) rfl (by decide) ?_
  refine ho_putI rfl (by first | rfl | assumption) rfl rfl ?_
  refine am_iload_n rfl rfl ?_
  refine am_iconst (v := nI 4) rfl (by decide) ?_
  by_cases e1 : f = 1
  · subst e1
    refine ho_icmp_ne rfl (by decide) (by decide) (fun z => absurd rfl z) (fun _ => ?_)
    refine am_aload_n rfl rfl ?_
    refine am_bipush (v := nI 48) rfl (by decide) ?_
    refine ho_cv1 rfl (by first | rfl | assumption) rfl (Nat.le_of_ble_eq_true rfl) (Nat.le_of_ble_eq_true rfl) (c_T_put hR _ [] TL_0 (by decide) 48 (by decide)) ?_
    rintro r h' ⟨rfl, mi1, rfl, g1, g2⟩
    have F1 := Ftt_0.tr g2
    refine am_goto rfl ?_
    refine am_aload_n rfl rfl ?_
    refine am_iload_n rfl rfl ?_
    have hL : (cutT o0 1 c w).length = 1 + ((o0 w).getD []).length := by
      show (48 :: (o0 w).getD []).length = _
      simp
      omega
    refine ho_cv1 rfl (by first | rfl | assumption) rfl (Nat.le_of_ble_eq_true rfl) (Nat.le_of_ble_eq_true rfl) (c_T_append hR w (by omega) _ _ (by rw [List.nil_append]; show 1 + _ ≤ 36; omega) mi1 (TR_to hTw (F1.1 103 (by decide) (by decide)) (F1.1 104 (by decide) (by decide))) g1) ?_
    rintro r h' ⟨rfl, mi2, rfl, g3, g4⟩
    have F2 := F1.tr g4
    have hT2 : TS (mi2 103) (mi2 104) cnt o := fun j hj => TR_to (hT j hj) (F2.1 103 (by decide) (by decide)) (F2.1 104 (by decide) (by decide))
    refine am_T.to (c_T_offer_80 (d := d + 1) hR hS mi2 (hK.txt F2.fo) h12 h0 hM hT2 1 c w k _ _ _ _ k1 k2 hv hc g3) ?_
    rintro r h' ⟨rfl, mi3, o3, rfl, g5, g6, g7⟩
    exact ⟨rfl, mi3, o3, rfl, g5, g6, F2.fo.tr g7⟩
  · have hf4 : fp f ≠ 4 := fun q => e1 ((fp_r f5).2.2.1.mp q)
    have hf6 := (fp_r f5).1
    rw [if_neg e1] at es
    have ec : o c = some ((o0 c).getD []) := by rw [hM.at h0 c1 (by omega)]; exact h0.some c1 (by omega)
    have hTc := hT c c1
    rw [ec] at hTc
    have hL : (cutT o0 f c w).length = 3 + ((o0 c).getD []).length + ((o0 w).getD []).length := by
      unfold cutT ftx2
      rw [if_neg e1]
      simp
      omega
    refine ho_icmp_ne rfl (by omega) (by decide) (fun _ => ?_) (fun z => absurd z hf4)
    refine am_aload_n rfl rfl ?_
    refine am_bipush (v := nI 97) rfl (by decide) ?_
    refine am_iload_n rfl rfl ?_
    first | refine ho_addn rfl ?_ | refine am_iadd rfl ?_
    refine am_i2c rfl (fp_nar f (by omega) (by omega)) ?_
    refine ho_cv1 rfl (by first | rfl | assumption) rfl (Nat.le_of_ble_eq_true rfl) (Nat.le_of_ble_eq_true rfl) (c_T_put hR _ [] TL_0 (by decide) (f + 95) (by omega)) ?_
    rintro r h' ⟨rfl, mi1, rfl, g1, g2⟩
    have F1 := Ftt_0.tr g2
    refine am_aload_n rfl rfl ?_
    refine am_bipush (v := nI 91) rfl (by decide) ?_
    refine ho_cv1 rfl (by first | rfl | assumption) rfl (Nat.le_of_ble_eq_true rfl) (Nat.le_of_ble_eq_true rfl) (c_T_put hR _ _ g1 (by simp) 91 (by decide)) ?_
    rintro r h' ⟨rfl, mi2, rfl, g3, g4⟩
    have F2 := F1.tr g4
    refine am_aload_n rfl rfl ?_
    refine am_iload_n rfl rfl ?_
    refine ho_cv1 rfl (by first | rfl | assumption) rfl (Nat.le_of_ble_eq_true rfl) (Nat.le_of_ble_eq_true rfl) (c_T_append hR c (by omega) _ _ (by simp; omega) mi2 (TR_to hTc (F2.1 103 (by decide) (by decide)) (F2.1 104 (by decide) (by decide))) g3) ?_
    rintro r h' ⟨rfl, mi3, rfl, g5, g6⟩
    have F3 := F2.tr g6
    refine am_aload_n rfl rfl ?_
    refine am_bipush (v := nI 93) rfl (by decide) ?_
    refine ho_cv1 rfl (by first | rfl | assumption) rfl (Nat.le_of_ble_eq_true rfl) (Nat.le_of_ble_eq_true rfl) (c_T_put hR _ _ g5 (by simp; omega) 93 (by decide)) ?_
    rintro r h' ⟨rfl, mi4, rfl, g7, g8⟩
    have F4 := F3.tr g8
    refine am_aload_n rfl rfl ?_
    refine am_iload_n rfl rfl ?_
    refine ho_cv1 rfl (by first | rfl | assumption) rfl (Nat.le_of_ble_eq_true rfl) (Nat.le_of_ble_eq_true rfl) (c_T_append hR w (by omega) _ _ (by simp; omega) mi4 (TR_to hTw (F4.1 103 (by decide) (by decide)) (F4.1 104 (by decide) (by decide))) g7) ?_
    rintro r h' ⟨rfl, mi5, rfl, g9, g10⟩
    have F5 := F4.tr g10
    have hT2 : TS (mi5 103) (mi5 104) cnt o := fun j hj => TR_to (hT j hj) (F5.1 103 (by decide) (by decide)) (F5.1 104 (by decide) (by decide))
    have eu : [] ++ [f + 95] ++ [91] ++ (o0 c).getD [] ++ [93] ++ (o0 w).getD [] = cutT o0 f c w := by
      unfold cutT ftx2
      rw [if_neg e1]
      simp
    rw [eu] at g9
    refine am_T.to (c_T_offer_80 (d := d + 1) hR hS mi5 (hK.txt F5.fo) h12 h0 hM hT2 f c w k _ _ _ _ k1 k2 hv hc g9) ?_
    rintro r h' ⟨rfl, mi6, o6, rfl, g11, g12, g13⟩
    exact ⟨rfl, mi6, o6, rfl, g11, g12, F5.fo.tr g13⟩
end S4
