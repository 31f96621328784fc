/-! operations: clear, size, text, value, take, read, enter, valid, kinds, least, differ -/
section W2
variable {l : Launch} {d : Nat} {K : Option Value → Prop} {mr : Nat → Nat → Option Nat} {s : Sta}
/-- a change of the hedges alone -/
theorem XI_hed {mi mi' : Nat → Nat → Int32} {ml ml' : Nat → Nat → Int64} {mr' : Nat → Nat → Option Nat} (h : XI s mi ml mr) {N' V' : Nd} (hi : ∀ a, a < 116 → a ≠ 82 → a ≠ 109 → (a < 70 ∨ 81 < a) → mi' a = mi a) (hl : ∀ a, a < 116 → a ≠ 92 → ml' a = ml a) (h2 : mr' 2 = mr 2) (h45 : mr' 45 = mr 45) (h3 : mr' 0 3 = mr 0 3) (h5 : mr' 0 5 = mr 0 5) (hH : XH N' V' mi' mr') : XI (s.setNV N' V') mi' ml' mr' := by
  obtain ⟨⟨a0, a1⟩, a2, a3, -, a5, a6, a7⟩ := h
  exact ⟨⟨by rw [hi 0 (by omega) (by omega) (by omega) (by omega)]; exact a0, txt_to a1 (hi 1 (by omega) (by omega) (by omega) (by omega))⟩, XD_to a2 (fun a _ h => hi a (by omega) (by omega) (by omega) (by omega)) h2 h3, XF_to a3 (fun a _ h => hi a (by omega) (by omega) (by omega) (by omega)) h45 h5, hH, XR_to a5 (fun a _ h => hi a (by omega) (by omega) (by omega) (by omega)) (fun a _ h h92 => hl a (by omega) h92), fun i q => by rw [hi 100 (by omega) (by omega) (by omega) (by omega)]; exact a6 i q, XT_to a7 (by rw [hi 102 (by omega) (by omega) (by omega) (by omega)]) (by rw [hi 93 (by omega) (by omega) (by omega) (by omega)]) (by rw [hi 93 (by omega) (by omega) (by omega) (by omega)]) (hi 103 (by omega) (by omega) (by omega) (by omega)) (hi 104 (by omega) (by omega) (by omega) (by omega)) (hl 94 (by omega) (by omega))⟩
/-- what the reference's hedges are, changed alone -/
theorem MI_doc {mi mi' : Nat → Nat → Int32} {ml : Nat → Nat → Int64} (h : MI s mi ml) {N' : Nd} (hi : ∀ a, 116 < a → a ≠ 120 → mi' a = mi a) (h116 : ∀ j, j ≠ 5 → mi' 116 j = mi 116 j) (hN : txt mi' 120 (tx N' 0)) (hL : mi' 116 5 = nI (tx N' 0).length) : MI (s.setN (N')) mi' ml := by
  obtain ⟨⟨p1, p2, p3, p4⟩, a2, a3, a4, -, a7, a8⟩ := h
  exact ⟨⟨txt_to p1 (hi 117 (by omega) (by omega)), by rw [h116 1 (by decide)]; exact p2, p3, p4⟩, MD_to a2 (hi 118 (by omega) (by omega)) (hi 119 (by omega) (by omega)), fun f hf => EN_to (a3 f hf) (hi 118 (by omega) (by omega)) (hi 119 (by omega) (by omega)), MC_to a4 (fun a h1 _ => hi a (by omega) (by omega)) (h116 11 (by decide)) (h116 12 (by decide)) (h116 18 (by decide)) rfl rfl rfl, ⟨hN, hL⟩, txt_to a7 (hi 121 (by omega) (by omega)), by rw [h116 7 (by decide)]; exact a8⟩
theorem tx_len36 (h : okN 0 s.N ∧ s.N.length ≤ 12) : (tx s.N 0).length ≤ 36 := by
  have := len_tx0 h.1
  omega
theorem tx_len60 (h : okN 0 s.V ∧ s.V.length ≤ 20) : (tx s.V 0).length ≤ 60 := by
  have := len_tx0 h.1
  omega
theorem w_clear (hK : K none) : lw2 l K 11 122 [] := by
  refine lw_mk (fun mi ml mr s hR hs hX => ⟨fun r s' => r = none ∧ s' = (s.setT ([])), ?_, ?_⟩)
  · show am_T l 60 M_X_clear 0 [some (.ref 0)] [] _ 0 0 _
    refine am_T.to c_X_clear ?_
    rintro r h ⟨rfl, rfl⟩
    exact ⟨hK, _, _, _, _, rfl, hR, XI_pad hX ⟨by simp [up2], fun i hi => by cases hi⟩ (fun a h1 _ => up2_off _ _ _ h1), ⟨rfl, rfl⟩, fun a ha => up2_off _ _ _ (by omega), fun _ _ => rfl⟩
  · rintro r s' mi ml mr hR hM - ⟨rfl, rfl⟩
    show am_T l 60 M_m_clear 0 [some (.ref 116)] [] _ 0 0 _
    refine am_T.to c_m_clear ?_
    rintro r2 h ⟨rfl, rfl⟩
    exact ⟨rfl, _, _, rfl, ⟨⟨Nat.zero_le _, fun c hc => (by cases hc)⟩, hs.2⟩, MI_pad hM ⟨fun i hi => (by cases hi), by simp [up2], Nat.zero_le _, fun c hc => (by cases hc)⟩ (fun a h1 _ => up2_off _ _ _ h1) (fun j hj => by unfold up2; rw [if_neg (by omega)]), fun a ha => up2_off _ _ _ (by omega), fun _ _ => rfl⟩
theorem w_size (hK : ∀ v, K (some (.int v))) : lw2 l K 46 183 [] := by
  refine lw_mk (fun mi ml mr s hR hs hX => ⟨fun r s' => r = some (.int (nI s.N.length)) ∧ s' = s, ?_, ?_⟩)
  · obtain ⟨td, tw, b1, b2, b3, b4, b5, b6, b7, b8⟩ := hX.2.2.2.1
    show am_T l 60 M_X_size 0 [some (.ref 0)] [] _ 0 0 _
    refine am_T.to (c_X_size b3 (isH_of hR b1).1) ?_
    rintro r h ⟨rfl, rfl⟩
    exact ⟨hK _, _, _, _, s, rfl, hR, hX, ⟨by rw [b7.1], rfl⟩, fun _ _ => rfl, fun _ _ => rfl⟩
  · rintro r s' mi ml mr hR hM - ⟨rfl, rfl⟩
    show am_T l 60 M_m_size 0 [some (.ref 116), none, none] [] _ 0 0 _
    refine am_T.to (c_m_size hR _ hM.2.2.2.2.1.1 hM.2.2.2.2.1.2 (tx_len36 hs.2.2.2.1) (fun c hc => tx_ok hs.2.2.2.1.1 c hc)) ?_
    rintro r2 h ⟨rfl, rfl⟩
    exact ⟨by rw [nNod_tx _ 0 0 hs.2.2.2.1.1], _, _, rfl, hs, hM, fun _ _ => rfl, fun _ _ => rfl⟩
theorem w_valueSize (hK : ∀ v, K (some (.int v))) : lw2 l K 115 189 [] := by
  refine lw_mk (fun mi ml mr s hR hs hX => ⟨fun r s' => r = some (.int (nI s.V.length)) ∧ s' = s, ?_, ?_⟩)
  · obtain ⟨td, tw, b1, b2, b3, b4, b5, b6, b7, b8⟩ := hX.2.2.2.1
    show am_T l 60 M_X_valueSize 0 [some (.ref 0)] [] _ 0 0 _
    refine am_T.to (c_X_valueSize b5 (isH_of2 hR b2).1) ?_
    rintro r h ⟨rfl, rfl⟩
    exact ⟨hK _, _, _, _, s, rfl, hR, hX, ⟨by rw [b8.1], rfl⟩, fun _ _ => rfl, fun _ _ => rfl⟩
  · rintro r s' mi ml mr hR hM - ⟨rfl, rfl⟩
    show am_T l 60 M_m_valueSize 0 [some (.ref 116), none, none] [] _ 0 0 _
    refine am_T.to (c_m_valueSize hR _ hM.2.2.2.2.2.1 hM.2.2.2.2.2.2 (tx_len60 hs.2.2.2.2) (fun c hc => tx_ok hs.2.2.2.2.1 c hc)) ?_
    rintro r2 h ⟨rfl, rfl⟩
    exact ⟨by rw [nNod_tx _ 0 0 hs.2.2.2.2.1], _, _, rfl, hs, hM, fun _ _ => rfl, fun _ _ => rfl⟩
theorem w_text (hK : ∀ v, K (some (.int v))) (x : Int32) : lw2 l K 47 185 [.int x] := by
  refine lw_mk (fun mi ml mr s hR hs hX => ⟨fun r s' => r = some (.int (at1 (tx s.N 0) x)) ∧ s' = s, ?_, ?_⟩)
  · obtain ⟨td, tw, b1, b2, b3, b4, b5, b6, b7, b8⟩ := hX.2.2.2.1
    show am_T l 60 M_X_text 0 [some (.ref 0), some (.int x)] [] _ 0 0 _
    refine am_T.to (c_X_text b3 (isH_of hR b1) b7 hs.2.2.2.1.2 hs.2.2.2.1.1 x) ?_
    rintro r h ⟨rfl, rfl⟩
    exact ⟨hK _, _, _, _, s, rfl, hR, hX, ⟨rfl, rfl⟩, fun _ _ => rfl, fun _ _ => rfl⟩
  · rintro r s' mi ml mr hR hM - ⟨rfl, rfl⟩
    show am_T l 60 M_m_text 0 [some (.ref 116), some (.int x)] [] _ 0 0 _
    refine am_T.to (c_m_text hR _ hM.2.2.2.2.1.1 hM.2.2.2.2.1.2 (tx_len36 hs.2.2.2.1) x) ?_
    rintro r2 h ⟨rfl, rfl⟩
    exact ⟨rfl, _, _, rfl, hs, hM, fun _ _ => rfl, fun _ _ => rfl⟩
theorem w_value (hK : ∀ v, K (some (.int v))) (x : Int32) : lw2 l K 116 190 [.int x] := by
  refine lw_mk (fun mi ml mr s hR hs hX => ⟨fun r s' => r = some (.int (at1 (tx s.V 0) x)) ∧ s' = s, ?_, ?_⟩)
  · obtain ⟨td, tw, b1, b2, b3, b4, b5, b6, b7, b8⟩ := hX.2.2.2.1
    show am_T l 60 M_X_value 0 [some (.ref 0), some (.int x)] [] _ 0 0 _
    refine am_T.to (c_X_value b5 (isH_of2 hR b2) b8 hs.2.2.2.2.2 hs.2.2.2.2.1 x) ?_
    rintro r h ⟨rfl, rfl⟩
    exact ⟨hK _, _, _, _, s, rfl, hR, hX, ⟨rfl, rfl⟩, fun _ _ => rfl, fun _ _ => rfl⟩
  · rintro r s' mi ml mr hR hM - ⟨rfl, rfl⟩
    show am_T l 60 M_m_value 0 [some (.ref 116), some (.int x)] [] _ 0 0 _
    refine am_T.to (c_m_value hR _ hM.2.2.2.2.2.1 hM.2.2.2.2.2.2 (tx_len60 hs.2.2.2.2) x) ?_
    rintro r2 h ⟨rfl, rfl⟩
    exact ⟨rfl, _, _, rfl, hs, hM, fun _ _ => rfl, fun _ _ => rfl⟩
theorem w_take (hK : ∀ v, K (some (.int v))) : lw2 l K 118 192 [] := by
  refine lw_mk (fun mi ml mr s hR hs hX => ⟨fun r s' => (12 < s.V.length ∧ r = some (.int 0) ∧ s' = s) ∨ (s.V.length ≤ 12 ∧ r = some (.int 1) ∧ s' = (s.setN (s.V))), ?_, ?_⟩)
  · obtain ⟨td, tw, b1, b2, b3, b4, b5, b6, b7, b8⟩ := hX.2.2.2.1
    show am_T l 60 M_X_take 0 [some (.ref 0)] [] _ 0 0 _
    refine am_T.to (c_X_take (isH_of hR b1) (isH_of2 hR b2) b3 b5 b1 b2 b8 hs.2.2.2.2.2) ?_
    rintro r h (⟨g1, rfl, rfl⟩ | ⟨g1, rfl, mi', rfl, g2, g3⟩)
    · exact ⟨hK _, _, _, _, s, rfl, hR, hX, Or.inl ⟨g1, rfl, rfl⟩, fun _ _ => rfl, fun _ _ => rfl⟩
    · exact ⟨hK _, _, _, _, (s.setN (s.V)), rfl, hR, XI_hed (V' := s.V) hX (fun a h1 _ _ h3 => g3 a (by omega) (by omega) (by omega)) (fun _ _ _ => rfl) rfl rfl rfl rfl ⟨td, tw, b1, b2, b3, b4, b5, b6, g2, HA_to b8 (g3 _ (by omega) (by omega) (by omega)) (g3 _ (by omega) (by omega) (by omega)) (g3 _ (by omega) (by omega) (by omega))⟩, Or.inr ⟨g1, rfl, rfl⟩, fun a ha => g3 a (by omega) (by omega) (by omega), fun _ _ => rfl⟩
  · rintro r s' mi ml mr hR hM - hr
    have hn := nNod_tx s.V 0 0 hs.2.2.2.2.1
    have hl := len_tx0 hs.2.2.2.2.1
    show am_T l 60 M_m_take 0 [some (.ref 116), none] [] _ 0 0 _
    refine am_T.to (c_m_take hR _ hM.2.2.2.2.2.1 hM.2.2.2.2.2.2 (tx_len60 hs.2.2.2.2) (fun q => by omega) (fun c hc => tx_ok hs.2.2.2.2.1 c hc)) ?_
    rintro r2 h ⟨k1, k2⟩
    rw [hn] at k1 k2
    rcases hr with ⟨g1, rfl, rfl⟩ | ⟨g1, rfl, rfl⟩
    · obtain ⟨rfl, rfl⟩ := k1 (by omega)
      exact ⟨rfl, _, _, rfl, hs, hM, fun _ _ => rfl, fun _ _ => rfl⟩
    · obtain ⟨rfl, rfl⟩ := k2 g1
      refine ⟨rfl, _, _, rfl, ⟨hs.1, hs.2.1, hs.2.2.1, ⟨hs.2.2.2.2.1, g1⟩, hs.2.2.2.2⟩, MI_doc hM (fun a h1 h2 => by rw [up2_off _ _ _ (by omega), cpN_off _ h2]) (fun j hj => ?_) (fun i hi => ?_) (by simp [up2]), fun a ha => by rw [up2_off _ _ _ (by omega), cpN_off _ (by omega)], fun _ _ => rfl⟩
      · rw [show up2 (cpN mi 120 0 121 0 (tx s.V 0).length) 116 5 (nI (tx s.V 0).length) 116 j = cpN mi 120 0 121 0 (tx s.V 0).length 116 j by unfold up2; rw [if_neg (by omega)], cpN_off _ (by decide)]
      · rw [up2_off _ _ _ (by decide), cpN_in _ (Nat.zero_le _) (by omega), Nat.sub_zero, Nat.zero_add]
        exact hM.2.2.2.2.2.1 i hi
theorem w_read (hK : ∀ v, K (some (.int v))) : lw2 l K 42 135 [] := by
  refine lw_mk (fun mi ml mr s hR hs hX => ⟨fun r s' => match hScan s.T (s.T.length + 1) 0 0 [] with
    | .inl t => r = some (.int (nI (1 + t))) ∧ s' = s
    | .inr N => r = some (.int 0) ∧ s' = (s.setN (N)), ?_, ?_⟩)
  · obtain ⟨td, tw, b1, b2, b3, b4, b5, b6, b7, b8⟩ := hX.2.2.2.1
    have hu : 143 - td = 70 ∨ 143 - td = 73 := by omega
    show am_T l 60 M_X_read 0 [some (.ref 0)] [] _ 0 0 _
    refine am_T.to (c_X_read hR hX.1 hs.1.1 hs.1.2 b3 b4 hu) ?_
    rintro r h ⟨mi', hF, hr⟩
    have p1 : ∀ a, a ≠ 82 → up2 mi 82 1 (nI s.T.length) a = mi a := fun a ha => up2_off _ _ _ ha
    have m1 : ∀ a, a ≠ 143 - td → a ≠ 143 - td + 1 → a ≠ 143 - td + 2 → a ≠ 82 → mi' a = mi a := fun a h1 h2 h3 h4 => (hF.1 a h1 h2 h3 h4).trans (p1 a h4)
    cases hsc : hScan s.T (s.T.length + 1) 0 0 [] with
    | inl t =>
      rw [hsc] at hr
      obtain ⟨rfl, rfl⟩ := hr
      refine ⟨hK _, _, _, _, s, rfl, SR_82 hR, XI_hed (N' := s.N) (V' := s.V) hX (fun a h1 h2 _ h3 => m1 a (by omega) (by omega) (by omega) h2) (fun _ _ _ => rfl) (up2_off _ _ _ (by decide)) (up2_off _ _ _ (by decide)) (by rw [up2_off _ _ _ (by decide)]) (by rw [up2_off _ _ _ (by decide)]) ⟨td, tw, b1, b2, ?_, ?_, ?_, ?_, HA_to b7 (m1 _ (by omega) (by omega) (by omega) (by omega)) (m1 _ (by omega) (by omega) (by omega) (by omega)) (m1 _ (by omega) (by omega) (by omega) (by omega)), HA_to b8 (m1 _ (by omega) (by omega) (by omega) (by omega)) (m1 _ (by omega) (by omega) (by omega) (by omega)) (m1 _ (by omega) (by omega) (by omega) (by omega))⟩, ⟨rfl, rfl⟩, fun a ha => m1 a (by omega) (by omega) (by omega) (by omega), fun _ _ => rfl⟩
      all_goals rw [up2_off _ _ _ (show (0 : Nat) ≠ 82 by decide)]
      all_goals assumption
    | inr N =>
      rw [hsc] at hr
      obtain ⟨rfl, hA, rfl⟩ := hr
      refine ⟨hK _, _, _, _, (s.setN (N)), rfl, SR_doc (SR_82 hR), XI_hed (V' := s.V) hX (fun a h1 h2 _ h3 => m1 a (by omega) (by omega) (by omega) h2) (fun _ _ _ => rfl) (by rw [up2_off _ _ _ (by decide), up2_off _ _ _ (by decide), up2_off _ _ _ (by decide)]) (by rw [up2_off _ _ _ (by decide), up2_off _ _ _ (by decide), up2_off _ _ _ (by decide)]) (by simp [up2]) (by simp [up2]) ⟨143 - td, tw, hu, b2, by simp [up2], ?_, ?_, ?_, hA, HA_to b8 (m1 _ (by omega) (by omega) (by omega) (by omega)) (m1 _ (by omega) (by omega) (by omega) (by omega)) (m1 _ (by omega) (by omega) (by omega) (by omega))⟩, ⟨rfl, rfl⟩, fun a ha => m1 a (by omega) (by omega) (by omega) (by omega), fun _ _ => rfl⟩
      · rw [show 143 - (143 - td) = td by omega]
        simp [up2]
      · rw [← b5]
        simp [up2]
      · rw [← b6]
        simp [up2]
  · rintro r s' mi ml mr hR hM - hr
    show am_T l 60 M_m_read 0 [some (.ref 116), none, none] [] _ 0 0 _
    refine am_T.to (c_m_read hR hM.1) ?_
    intro r2 h hq
    cases hsc : hScan s.T (s.T.length + 1) 0 0 [] with
    | inl t =>
      rw [hsc] at hr hq
      obtain ⟨rfl, rfl⟩ := hr
      obtain ⟨rfl, rfl⟩ := hq
      exact ⟨rfl, _, _, rfl, hs, hM, fun _ _ => rfl, fun _ _ => rfl⟩
    | inr N =>
      rw [hsc] at hr hq
      obtain ⟨rfl, rfl⟩ := hr
      obtain ⟨rfl, rfl⟩ := hq
      obtain ⟨hT, hN, h12⟩ := hScan_ok s.T _ 0 0 [] N (Nat.zero_le _) rfl trivial (Nat.le_refl _) (by decide) hsc
      refine ⟨rfl, _, _, rfl, ⟨hs.1, hs.2.1, hs.2.2.1, ⟨hN, h12⟩, hs.2.2.2.2⟩, MI_doc hM (fun a h1 h2 => by rw [up2_off _ _ _ (by omega), cpN_off _ h2]) (fun j hj => ?_) (fun i hi => ?_) (by rw [← hT]; simp [up2]), fun a ha => by rw [up2_off _ _ _ (by omega), cpN_off _ (by omega)], fun _ _ => rfl⟩
      · rw [show up2 (cpN mi 120 0 117 0 s.T.length) 116 5 (nI s.T.length) 116 j = cpN mi 120 0 117 0 s.T.length 116 j by unfold up2; rw [if_neg (by omega)], cpN_off _ (by decide)]
      · rw [← hT] at hi ⊢
        rw [up2_off _ _ _ (by decide), cpN_in _ (Nat.zero_le _) (by omega), Nat.sub_zero, Nat.zero_add]
        exact hM.1.1 i hi
end W2
