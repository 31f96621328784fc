/-! the reference: takeNodes whole, validText -/
/-- the reference's nodes hold N -/
def TNN (N : Nd) (mi : Nat → Nat → Int32) : Prop := mi 116 25 = nI N.length ∧ ∀ j, j < N.length → mi 133 j = nI (kn (cd N j) - 1) ∧ mi 134 j = nI (pl N j (dp N j)) ∧ mi 135 j = noI (contN N j) ∧ mi 136 j = noI (behN N j)
theorem noI_at {o : Option Nat} {n : Nat} (h : ∀ k, o = some k → k < n) (hn : n < 2 ^ 31) : o = none ∨ ∃ k, o = some k ∧ k < n := by
  cases o with
  | none => exact Or.inl rfl
  | some k => exact Or.inr ⟨k, rfl, h k rfl⟩
theorem fI_kn {c : Nat} : nI (kn c - 1) = fI (kn c) := by
  unfold fI
  have := kn_range (c := c)
  rw [if_neg (by omega)]
section M12
variable {l : Launch} {d : Nat} {mr : Nat → Nat → Option Nat} {S : Rs}
theorem c_m_tn_held (hR : SR mr) (hS : okS S) (N : Nd) (h20 : N.length ≤ 20) (mi : Nat → Nat → Int32) (hr : repS S mi) (hTN : TNN N mi) (v : Int32) (ml0 : Nat → Nat → Int64) : ∀ (k : Nat) (ml : Nat → Nat → Int64), k ≤ N.length → ml 116 17 = K0 S → (∀ j, k ≤ j → j < N.length → NM S N (ml 137) j) → (∀ a, a ≠ 137 → ml a = ml0 a) →
    am_T l (d + 3) M_m_takeNodes 239 [some (.ref 116), some (.int v), none, none, none, some (.int (nI k - nI 1)), none, none] [] (hm mi ml mr) 0 0 (fun r h' => r = none ∧ ∃ ml', h' = hm mi ml' mr ∧ (∀ j, j < N.length → NM S N (ml' 137) j) ∧ ∀ a, a ≠ 137 → ml' a = ml0 a) := by
  intro k
  induction k with
  | zero =>
    intro ml hk h0 hNM hF
    refine am_iload rfl rfl ?_
    refine am_if_lt rfl (fun _ => ?_) (fun z => absurd (by decide) z)
    exact am_return rfl rfl ⟨rfl, ml, rfl, fun j hj => hNM j (Nat.zero_le _) hj, hF⟩
  | succ k ih =>
    intro ml hk h0 hNM hF
    rw [show nI (k + 1) - nI 1 = nI k from nI_pred k]
    obtain ⟨t1, t2, t3, t4⟩ := hTN.2 k (by omega)
    refine am_iload rfl rfl ?_
    refine am_if_lt rfl (fun z => absurd z (nI_pos (by omega))) (fun _ => ?_)
    have s320 : ∀ x y : Int64, x = om S (ml 137) (contN N k) → y = om S (ml 137) (behN N k) → am_T l (d + 3) M_m_takeNodes 320 [some (.ref 116), some (.int v), none, none, none, some (.int (nI k)), some (.long x), none] [.long y, .long x, .int (nI (kn (cd N k) - 1)), .ref 116, .int (nI k), .ref 137] (hm mi ml mr) 0 0 (fun r h' => r = none ∧ ∃ ml', h' = hm mi ml' mr ∧ (∀ j, j < N.length → NM S N (ml' 137) j) ∧ ∀ a, a ≠ 137 → ml' a = ml0 a) := by
      intro x y hx hy
      rw [fI_kn]
      refine ho_cv3 rfl (by first | rfl | assumption) rfl (Nat.le_of_ble_eq_true rfl) (Nat.le_of_ble_eq_true rfl) (c_m_belongs hR hS hr (kn (cd N k)) (kn_range).2 x y) ?_
      rintro r h' ⟨rfl, rfl⟩
      refine ho_lastore rfl rfl (by omega) ?_
      refine am_iinc rfl rfl (nI_m1 _) ?_
      show am_T _ _ _ _ [_, _, _, _, _, some _, _, _] _ _ _ _ _
      refine am_goto rfl ?_
      refine am_drops [6] ?_
      have hup : ∀ o : Option Nat, (∀ i, o = some i → k < i ∧ i < N.length) → om S (up2 ml 137 k (belF S (kn (cd N k)) (tb x) (tb y)) 137) o = om S (ml 137) o := by
        intro o ho
        cases o with
        | none => rfl
        | some i =>
          show up2 ml 137 k _ 137 i = ml 137 i
          have := ho i rfl
          unfold up2
          rw [if_neg (by omega)]
      refine ih _ (by omega) ?_ (fun j h1 h2 => ?_) (fun a ha => by rw [up2_off _ _ _ ha]; exact hF a ha)
      · rw [up2_off _ _ _ (by decide)]
        exact h0
      · rcases Nat.eq_or_lt_of_le h1 with q | q
        · subst q
          unfold NM
          rw [hup _ (fun i h => contN_gt h), hup _ (fun i h => behN_gt h), ← hx, ← hy]
          simp [up2]
        · have hj := hNM j q h2
          unfold NM at hj ⊢
          have hup2 : ∀ o : Option Nat, (∀ i, o = some i → j < i ∧ i < N.length) → om S (up2 ml 137 k (belF S (kn (cd N k)) (tb x) (tb y)) 137) o = om S (ml 137) o := fun o ho => hup o (fun i h => ⟨by have := (ho i h).1; omega, (ho i h).2⟩)
          rw [hup2 _ (fun i h => contN_gt h), hup2 _ (fun i h => behN_gt h), ← hj]
          unfold up2
          rw [if_neg (by omega)]
    have s273 : ∀ x : Int64, x = om S (ml 137) (contN N k) → am_T l (d + 3) M_m_takeNodes 273 [some (.ref 116), some (.int v), none, none, none, some (.int (nI k)), none, none] [.long x] (hm mi ml mr) 0 0 (fun r h' => r = none ∧ ∃ ml', h' = hm mi ml' mr ∧ (∀ j, j < N.length → NM S N (ml' 137) j) ∧ ∀ a, a ≠ 137 → ml' a = ml0 a) := by
      intro x hx
      refine am_lstore rfl (Nat.le_of_ble_eq_true rfl) ?_
      show am_T _ _ _ _ [_, _, _, _, _, _, some _, none] _ _ _ _ _
      refine am_aload_n rfl rfl ?_
      refine ho_getR rfl (by first | rfl | assumption) rfl (by first | assumption | exact hR _ _ _ rfl) ?_
      refine am_iload rfl rfl ?_
      refine am_aload_n rfl rfl ?_
      refine am_aload_n rfl rfl ?_
      refine ho_getR rfl (by first | rfl | assumption) rfl (by first | assumption | exact hR _ _ _ rfl) ?_
      refine am_iload rfl rfl ?_
      refine ho_iaload rfl (by first | rfl | assumption) (by omega) ?_
      rw [t1]
      refine am_lload rfl rfl ?_
      refine am_aload_n rfl rfl ?_
      refine ho_getR rfl (by first | rfl | assumption) rfl (by first | assumption | exact hR _ _ _ rfl) ?_
      refine am_iload rfl rfl ?_
      refine ho_iaload rfl (by first | rfl | assumption) (by omega) ?_
      rw [t4]
      cases hb : behN N k with
      | none =>
        refine am_if_ge rfl (fun z => absurd z (by decide)) (fun _ => ?_)
        refine am_aload_n rfl rfl ?_
        refine ho_getL rfl (by first | rfl | assumption) rfl ?_
        refine am_goto rfl ?_
        exact s320 x _ hx (by rw [hb, h0]; rfl)
      | some i =>
        have hi := behN_gt hb
        refine am_if_ge rfl (fun _ => ?_) (fun z => absurd (nI_pos' (by omega)) z)
        refine am_aload_n rfl rfl ?_
        refine ho_getR rfl (by first | rfl | assumption) rfl (by first | assumption | exact hR _ _ _ rfl) ?_
        refine am_aload_n rfl rfl ?_
        refine ho_getR rfl (by first | rfl | assumption) rfl (by first | assumption | exact hR _ _ _ rfl) ?_
        refine am_iload rfl rfl ?_
        refine ho_iaload rfl (by first | rfl | assumption) (by omega) ?_
        rw [t4, hb]
        show am_T _ _ _ _ _ (.int (nI i) :: _) _ _ _ _
        refine ho_laload rfl rfl (by omega) ?_
        exact s320 x _ hx (by rw [hb]; rfl)
    refine am_aload_n rfl rfl ?_
    refine ho_getR rfl (by first | rfl | assumption) rfl (by first | assumption | exact hR _ _ _ rfl) ?_
    refine am_iload rfl rfl ?_
    refine ho_iaload rfl (by first | rfl | assumption) (by omega) ?_
    rw [t3]
    cases hc : contN N k with
    | none =>
      refine am_if_ge rfl (fun z => absurd z (by decide)) (fun _ => ?_)
      refine am_aload_n rfl rfl ?_
      refine ho_getL rfl (by first | rfl | assumption) rfl ?_
      refine am_goto rfl ?_
      exact s273 _ (by rw [hc, h0]; rfl)
    | some i =>
      have hi := contN_gt hc
      refine am_if_ge rfl (fun _ => ?_) (fun z => absurd (nI_pos' (by omega)) z)
      refine am_aload_n rfl rfl ?_
      refine ho_getR rfl (by first | rfl | assumption) rfl (by first | assumption | exact hR _ _ _ rfl) ?_
      refine am_aload_n rfl rfl ?_
      refine ho_getR rfl (by first | rfl | assumption) rfl (by first | assumption | exact hR _ _ _ rfl) ?_
      refine am_iload rfl rfl ?_
      refine ho_iaload rfl (by first | rfl | assumption) (by omega) ?_
      rw [t3, hc]
      show am_T _ _ _ _ _ (.int (nI i) :: _) _ _ _ _
      refine ho_laload rfl rfl (by omega) ?_
      exact s273 _ (by rw [hc]; rfl)
/-- what takeNodes may change -/
def Fw2 (mi mi' : Nat → Nat → Int32) (ml ml' : Nat → Nat → Int64) : Prop := (∀ a, a ≠ 116 → a ≠ 123 → a ≠ 124 → a ≠ 125 → a ≠ 126 → a ≠ 129 → a ≠ 133 → a ≠ 134 → a ≠ 135 → a ≠ 136 → a ≠ 138 → mi' a = mi a) ∧ (∀ j, j ≠ 11 → j ≠ 12 → j ≠ 18 → j ≠ 25 → mi' 116 j = mi 116 j) ∧ ∀ a, a ≠ 116 → a ≠ 127 → a ≠ 128 → a ≠ 137 → ml' a = ml a
theorem Ft.rep {mi mi' : Nat → Nat → Int32} (h : Ft mi mi') (hr : repS S mi) : repS S mi' := by
  refine ⟨(h.2 12 (by decide)).trans hr.1, fun r hr' => ?_⟩
  rw [h.1 123 (by decide) (by decide) (by decide) (by decide) (by decide) (by decide), h.1 124 (by decide) (by decide) (by decide) (by decide) (by decide) (by decide), h.1 125 (by decide) (by decide) (by decide) (by decide) (by decide) (by decide), h.1 126 (by decide) (by decide) (by decide) (by decide) (by decide) (by decide)]
  exact hr.2 r hr'
theorem MKn.to {cnt : Nat} {mi mi' : Nat → Nat → Int32} {ml ml' : Nat → Nat → Int64} (h : MKn S cnt mi ml) (h1 : mi' 116 18 = mi 116 18) (h2 : mi' 129 = mi 129) (h3 : ml' 127 = ml 127) (h4 : ml' 128 = ml 128) (h5 : ml' 116 17 = ml 116 17) : MKn S cnt mi' ml' := by
  obtain ⟨a, b, c⟩ := h
  refine ⟨?_, fun q => ?_, by rw [h5]; exact c⟩
  · unfold KI at a ⊢
    rw [h1, h3]
    exact a
  · obtain ⟨b1, v, b2, b3⟩ := b q
    refine ⟨?_, v, ?_, ?_⟩
    · unfold All Jn at b1 ⊢
      rw [h2, h3]
      exact b1
    · unfold VI at b2 ⊢
      rw [h3, h4]
      exact b2
    · rw [h3]
      exact b3
theorem c_m_takeNodes {D : Nat → List Rt} (hR : SR mr) (hD : okDs D) (v : Bool) (N : Nd) (hN : okN 0 N) (h20 : N.length ≤ 20) (h60 : (tx N 0).length ≤ if v then 60 else 36) (mi : Nat → Nat → Int32) (ml : Nat → Nat → Int64) (hM : MD D mi) (hC : MC D mi ml) (hT : txt mi (vc v) (tx N 0)) (hL : mi 116 (if v then 7 else 5) = nI (tx N 0).length) :
    am_T l (d + 5) M_m_takeNodes 0 [some (.ref 116), some (.int (bI v)), none, none, none, none, none, none] [] (hm mi ml mr) 0 0 (fun r h' => r = none ∧ ∃ cnt mi' ml', h' = hm mi' ml' mr ∧ repS (SD D) mi' ∧ MKn (SD D) cnt mi' ml' ∧ mi' 116 11 = bI true ∧ TNN N mi' ∧ (∀ j, j < N.length → NM (SD D) N (ml' 137) j) ∧ Fw2 mi mi' ml ml') := by
  refine am_aload_n rfl rfl ?_
  refine ho_cv0 rfl (by first | rfl | assumption) rfl (Nat.le_of_ble_eq_true rfl) (Nat.le_of_ble_eq_true rfl) (c_m_know hR hD mi ml hM hC) ?_
  rintro r h' ⟨rfl, cnt, mi1, ml1, rfl, q1, q2, q3, q4⟩
  have hT1 : txt mi1 (vc v) (tx N 0) := by
    intro i hi
    rw [q4.1 (vc v) (by unfold vc; split <;> decide) (by unfold vc; split <;> decide) (by unfold vc; split <;> decide) (by unfold vc; split <;> decide) (by unfold vc; split <;> decide) (by unfold vc; split <;> decide)]
    exact hT i hi
  have s19 : am_T l (d + 5) M_m_takeNodes 19 [some (.ref 116), some (.int (bI v)), none, none, none, none, none, none] [.int (nI (tx N 0).length)] (hm mi1 ml1 mr) 0 0 (fun r h' => r = none ∧ ∃ cnt mi' ml', h' = hm mi' ml' mr ∧ repS (SD D) mi' ∧ MKn (SD D) cnt mi' ml' ∧ mi' 116 11 = bI true ∧ TNN N mi' ∧ (∀ j, j < N.length → NM (SD D) N (ml' 137) j) ∧ Fw2 mi mi' ml ml') := by
    refine am_istore_n rfl (Nat.le_of_ble_eq_true rfl) ?_
    show am_T _ _ _ _ [_, _, some _, _, _, _, _, _] _ _ _ _ _
    refine am_iconst (v := nI 0) rfl (by decide) ?_
    refine am_istore_n rfl (Nat.le_of_ble_eq_true rfl) ?_
    show am_T _ _ _ _ [_, _, _, some _, _, _, _, _] _ _ _ _ _
    refine am_iconst (v := -1) rfl (by decide) ?_
    refine am_istore rfl (Nat.le_of_ble_eq_true rfl) ?_
    show am_T _ _ _ _ [_, _, _, _, some _, _, _, _] _ _ _ _ _
    refine am_aload_n rfl rfl ?_
    refine am_iconst (v := nI 0) rfl (by decide) ?_
    refine ho_putI rfl (by first | rfl | assumption) rfl rfl ?_
    refine am_iconst (v := nI 0) rfl (by decide) ?_
    refine am_istore rfl (Nat.le_of_ble_eq_true rfl) ?_
    show am_T _ _ _ _ [_, _, _, _, _, some _, _, _] _ _ _ _ _
    have hF1 : Ft mi1 (up2 mi1 116 25 (nI 0)) := ⟨fun a h1 _ _ _ _ _ => up2_off _ _ _ h1, fun j hj => by unfold up2; rw [if_neg (by omega)]⟩
    have := c_m_tn_loop (l := l) (d := d + 4) (mr := mr) (ml := ml1) hR v N hN h20 h60 (up2 mi1 116 25 (nI 0)) (fun i hi => by rw [up2_off _ _ _ (by unfold vc; split <;> decide)]; exact hT1 i hi) (Q := fun r h' => r = none ∧ ∃ cnt mi' ml', h' = hm mi' ml' mr ∧ repS (SD D) mi' ∧ MKn (SD D) cnt mi' ml' ∧ mi' 116 11 = bI true ∧ TNN N mi' ∧ (∀ j, j < N.length → NM (SD D) N (ml' 137) j) ∧ Fw2 mi mi' ml ml') ?_ (tx N 0).length 0 0 none (up2 mi1 116 25 (nI 0)) (by omega) (Nat.zero_le _) ?_ (Nat.zero_le _) ⟨by simp [up2], fun j hj => by omega, fun a ha => by omega⟩ (Or.inl rfl) Ft.rf
    · exact this
    · intro mi2 hTN hF2
      have hF := hF1.tr hF2
      refine am_aload_n rfl rfl ?_
      refine ho_getI rfl (by first | rfl | assumption) rfl ?_
      rw [hTN.1]
      refine am_iconst (v := nI 1) rfl (by decide) ?_
      refine am_isub rfl ?_
      refine am_istore rfl (Nat.le_of_ble_eq_true rfl) ?_
      show am_T _ _ _ _ [_, _, _, _, _, some _, _, _] _ _ _ _ _
      have hTNN : TNN N mi2 := ⟨hTN.1, fun j hj => by rw [contN_k, behN_k]; exact hTN.2.1 j hj⟩
      have hk := c_m_tn_held (l := l) (d := d + 2) (mr := mr) hR (okS_SD hD) N h20 mi2 (hF.rep q1) hTNN (bI v) ml1 N.length ml1 (Nat.le_refl _) q2.2.2 (fun j h1 h2 => by omega) (fun _ _ => rfl)
      refine am_T.to hk ?_
      rintro r h' ⟨rfl, ml3, rfl, hNM, hF3⟩
      refine ⟨rfl, cnt, mi2, ml3, rfl, hF.rep q1, q2.to (hF.2 18 (by decide)) (hF.1 129 (by decide) (by decide) (by decide) (by decide) (by decide) (by decide)) (hF3 127 (by decide)) (hF3 128 (by decide)) (by rw [hF3 116 (by decide)]), (hF.2 11 (by decide)).trans q3, hTNN, hNM, ?_, ?_, ?_⟩
      · intro a h1 h2 h3 h4 h5 h6 h7 h8 h9 h10 h11
        rw [hF.1 a h1 h7 h8 h9 h10 h11]
        exact q4.1 a h1 h2 h3 h4 h5 h6
      · intro j h1 h2 h3 h4
        rw [hF.2 j h4]
        exact q4.2.1 j h1 h2 h3
      · intro a h1 h2 h3 h4
        rw [hF3 a h4]
        exact q4.2.2.1 a h1 h2 h3
    · rw [List.drop_zero]
      cases N with
      | nil => exact Nat.le_refl _
      | cons x r => exact hN.1
  refine am_iload_n rfl rfl ?_
  cases v with
  | true =>
    refine am_if_eq rfl (fun z => by cases z) (fun _ => ?_)
    refine am_aload_n rfl rfl ?_
    refine ho_getI rfl (by first | rfl | assumption) rfl ?_
    rw [q4.2.1 7 (by decide) (by decide) (by decide), show mi 116 7 = nI (tx N 0).length from hL]
    refine am_goto rfl ?_
    exact s19
  | false =>
    refine am_if_eq rfl (fun _ => ?_) (fun z => absurd rfl z)
    refine am_aload_n rfl rfl ?_
    refine ho_getI rfl (by first | rfl | assumption) rfl ?_
    rw [q4.2.1 5 (by decide) (by decide) (by decide), show mi 116 5 = nI (tx N 0).length from hL]
    exact s19
theorem c_m_validText {D : Nat → List Rt} (hR : SR mr) (hD : okDs D) (v : Bool) (N : Nd) (hN : okN 0 N) (h20 : N.length ≤ 20) (h60 : (tx N 0).length ≤ if v then 60 else 36) (mi : Nat → Nat → Int32) (ml : Nat → Nat → Int64) (hM : MD D mi) (hC : MC D mi ml) (hT : txt mi (vc v) (tx N 0)) (hL : mi 116 (if v then 7 else 5) = nI (tx N 0).length) (x : Int32) :
    am_T l (d + 6) M_m_validText 0 [some (.ref 116), some (.int (bI v)), some (.int x)] [] (hm mi ml mr) 0 0 (fun r h' => (isNm x = false ∧ r = some (.int (bI false)) ∧ h' = hm mi ml mr) ∨ (isNm x = true ∧ ∃ a cnt mi' ml', a < 6 ∧ x = nI a ∧ h' = hm mi' ml' mr ∧ repS (SD D) mi' ∧ MKn (SD D) cnt mi' ml' ∧ mi' 116 11 = bI true ∧ (∀ j, j < N.length → NM (SD D) N (ml' 137) j) ∧ Fw2 mi mi' ml ml' ∧ r = some (.int (bI (inN (SD D) (tb (if N.length = 0 then K0 (SD D) else ml' 137 0)) a))))) := by
  refine am_iload_n rfl rfl ?_
  refine ho_cs1 rfl rfl (Nat.le_of_ble_eq_true rfl) (Nat.le_of_ble_eq_true rfl) (c_m_isName x) ?_
  rintro r h' ⟨rfl, rfl⟩
  refine am_if_ne rfl (fun z => ?_) (fun z => ?_)
  · have z := (bI_ne _).mp z
    obtain ⟨a, ha, rfl⟩ := isNm_nI z
    refine am_aload_n rfl rfl ?_
    refine am_iload_n rfl rfl ?_
    refine ho_cv1 rfl (by first | rfl | assumption) rfl (Nat.le_of_ble_eq_true rfl) (Nat.le_of_ble_eq_true rfl) (c_m_takeNodes hR hD v N hN h20 h60 mi ml hM hC hT hL) ?_
    rintro r h' ⟨rfl, cnt, mi1, ml1, rfl, q1, q2, q3, q4, q5, q6⟩
    have s35 : ∀ m : Int64, m = (if N.length = 0 then K0 (SD D) else ml1 137 0) → am_T l (d + 6) M_m_validText 35 [some (.ref 116), some (.int (bI v)), some (.int (nI a))] [.long m, .ref 116] (hm mi1 ml1 mr) 0 0 (fun r h' => (isNm (nI a) = false ∧ r = some (.int (bI false)) ∧ h' = hm mi ml mr) ∨ (isNm (nI a) = true ∧ ∃ b cnt mi' ml', b < 6 ∧ nI a = nI b ∧ h' = hm mi' ml' mr ∧ repS (SD D) mi' ∧ MKn (SD D) cnt mi' ml' ∧ mi' 116 11 = bI true ∧ (∀ j, j < N.length → NM (SD D) N (ml' 137) j) ∧ Fw2 mi mi' ml ml' ∧ r = some (.int (bI (inN (SD D) (tb (if N.length = 0 then K0 (SD D) else ml' 137 0)) b))))) := by
      intro m hmm
      refine am_iload_n rfl rfl ?_
      refine ho_cv2 rfl (by first | rfl | assumption) rfl (Nat.le_of_ble_eq_true rfl) (Nat.le_of_ble_eq_true rfl) (c_m_inName hR (okS_SD hD) q1 m a ha) ?_
      rintro r h' ⟨rfl, rfl⟩
      exact am_zreturn rfl rfl (bI_01 _) (Or.inr ⟨z, a, cnt, mi1, ml1, ha, rfl, rfl, q1, q2, q3, q5, q6, by rw [hmm]⟩)
    refine am_aload_n rfl rfl ?_
    refine am_aload_n rfl rfl ?_
    refine ho_getI rfl (by first | rfl | assumption) rfl ?_
    rw [q4.1]
    refine am_if_ne rfl (fun y => ?_) (fun y => ?_)
    · have hne : ¬ N.length = 0 := fun e => y (by rw [e]; rfl)
      refine am_aload_n rfl rfl ?_
      refine ho_getR rfl (by first | rfl | assumption) rfl (by first | assumption | exact hR _ _ _ rfl) ?_
      refine am_iconst (v := nI 0) rfl (by decide) ?_
      refine ho_laload rfl rfl (by omega) ?_
      exact s35 _ (by rw [if_neg hne])
    · have he : N.length = 0 := (nI_eq (by omega) (by omega)).mp (y.trans (rfl : (0 : Int32) = nI 0))
      refine am_aload_n rfl rfl ?_
      refine ho_getL rfl (by first | rfl | assumption) rfl ?_
      refine am_goto rfl ?_
      exact s35 _ (by rw [if_pos he]; exact q2.2.2)
  · refine am_iconst (v := nI 0) rfl (by decide) ?_
    exact am_zreturn rfl rfl (Or.inl rfl) (Or.inl ⟨(bI_eq _).mp z, rfl, rfl⟩)
end M12
