/-! operations: class and reference answer alike, and keep the invariant -/
def lw2 (l : Launch) (K : Option Value → Prop) (ix im : Nat) (As : List Value) : Prop :=
  ∀ mi ml mr, Inv2 mi ml mr → ∃ P : Option Value → (Nat → Nat → Int32) → (Nat → Nat → Int64) → (Nat → Nat → Option Nat) → Prop,
    am_T l 60 (am_m ix) 0 (am_entry (am_m ix).2.2.1 (.ref 0 :: As)) [] (hm mi ml mr) 0 0 (fun r h => K r ∧ ∃ mi' ml' mr', h = hm mi' ml' mr' ∧ P r mi' ml' mr') ∧
    ∀ r mi' ml' mr', K r → P r mi' ml' mr' → am_T l 60 (am_m im) 0 (am_entry (am_m im).2.2.1 (.ref 116 :: As)) [] (hm mi' ml' mr') 0 0 (fun r2 h => r2 = r ∧ ∃ mi'' ml'' mr'', h = hm mi'' ml'' mr'' ∧ Inv2 mi'' ml'' mr'')
theorem lw_mk {l : Launch} {K : Option Value → Prop} {ix im : Nat} {As : List Value}
    (h : ∀ mi ml mr s, SR mr → okSta s → XI s mi ml mr → ∃ R : Option Value → Sta → Prop,
      am_T l 60 (am_m ix) 0 (am_entry (am_m ix).2.2.1 (.ref 0 :: As)) [] (hm mi ml mr) 0 0 (fun r h => K r ∧ ∃ mi' ml' mr' s', h = hm mi' ml' mr' ∧ SR mr' ∧ XI s' mi' ml' mr' ∧ R r s' ∧ (∀ a, 116 ≤ a → mi' a = mi a) ∧ ∀ a, 116 ≤ a → ml' a = ml a) ∧
      ∀ r s' mi ml mr, SR mr → MI s mi ml → K r → R r s' → am_T l 60 (am_m im) 0 (am_entry (am_m im).2.2.1 (.ref 116 :: As)) [] (hm mi ml mr) 0 0 (fun r2 h => r2 = r ∧ ∃ mi' ml', h = hm mi' ml' mr ∧ okSta s' ∧ MI s' mi' ml' ∧ (∀ a, a < 116 → mi' a = mi a) ∧ ∀ a, a < 116 → ml' a = ml a)) : lw2 l K ix im As := by
  intro mi ml mr ⟨hR, s, hs, hM, hX⟩
  obtain ⟨R, h1, h2⟩ := h mi ml mr s hR hs hX
  refine ⟨fun r mi' ml' mr' => SR mr' ∧ MI s mi' ml' ∧ ∃ s', XI s' mi' ml' mr' ∧ R r s', am_T.to h1 ?_, ?_⟩
  · rintro r hh ⟨k, mi', ml', mr', s', rfl, g1, g2, g3, g4, g5⟩
    exact ⟨k, mi', ml', mr', rfl, g1, MI_to hM g4 g5, s', g2, g3⟩
  · rintro r mi' ml' mr' k ⟨g1, g2, s', g3, g4⟩
    refine am_T.to (h2 r s' mi' ml' mr' g1 g2 k g4) ?_
    rintro r2 hh ⟨rfl, mi'', ml'', rfl, c1, c2, c3, c4⟩
    exact ⟨rfl, mi'', ml'', mr', rfl, g1, s', c1, c2, XI_to g3 c3 c4⟩
theorem u32_nI (u : UInt32) : u.toInt32 = nI u.toNat := by
  apply Int32.toBitVec_inj.mp
  show u.toBitVec = BitVec.ofNat 32 u.toBitVec.toNat
  rw [← BitVec.toNat_inj]
  simp
theorem chr_nI (x : Int32) : ∃ c, c < 65536 ∧ (x.toUInt32 % 65536).toInt32 = nI c := by
  refine ⟨(x.toUInt32 % 65536).toNat, ?_, ?_⟩
  · rw [UInt32.toNat_mod]
    exact Nat.mod_lt _ (by decide)
  · exact u32_nI _
theorem okT_snoc {T : List Nat} (h : okT T) {c : Nat} (hc : c < 127) : okT (T ++ [c]) := by
  intro x hx
  rcases List.mem_append.mp hx with q | q
  · exact h x q
  · rw [List.mem_singleton.mp q]
    exact hc
theorem txt_snoc {mi mi' : Nat → Nat → Int32} {a : Nat} {T : List Nat} {c : Nat} (h : txt mi a T) (h1 : ∀ i, i < T.length → mi' a i = mi a i) (h2 : mi' a T.length = nI c) : txt mi' a (T ++ [c]) := by
  intro i hi
  rw [List.length_append, List.length_singleton] at hi
  rcases Nat.lt_succ_iff_lt_or_eq.mp hi with q | q
  · rw [getD_app1 _ _ q, h1 i q]
    exact h i q
  · subst q
    rw [h2]
    have := getD_app2 T [c] 0
    rw [Nat.add_zero] at this
    rw [this]
    rfl
/-- a change of the pad alone -/
theorem XI_pad {s : Sta} {mi mi' : Nat → Nat → Int32} {ml : Nat → Nat → Int64} {mr : Nat → Nat → Option Nat} (h : XI s mi ml mr) {T' : List Nat} (hP : PX T' mi') (hi : ∀ a, a ≠ 0 → a ≠ 1 → mi' a = mi a) : XI (s.setT (T')) mi' ml mr := by
  obtain ⟨-, a2, a3, ⟨td, tw, b1, b2, b3, b4, b5, b6, b7, b8⟩, a5, a6, a7⟩ := h
  exact ⟨hP, XD_to a2 (fun a h1 _ => hi a (by omega) (by omega)) rfl rfl, XF_to a3 (fun a h1 _ => hi a (by omega) (by omega)) rfl rfl, ⟨td, tw, b1, b2, b3, b4, b5, b6, HA_to b7 (hi _ (by omega) (by omega)) (hi _ (by omega) (by omega)) (hi _ (by omega) (by omega)), HA_to b8 (hi _ (by omega) (by omega)) (hi _ (by omega) (by omega)) (hi _ (by omega) (by omega))⟩, XR_to a5 (fun a h1 _ => hi a (by omega) (by omega)) (fun _ _ _ _ => rfl), fun i q => by rw [hi 100 (by decide) (by decide)]; exact a6 i q, XT_to a7 (by rw [hi 102 (by decide) (by decide)]) (by rw [hi 93 (by decide) (by decide)]) (by rw [hi 93 (by decide) (by decide)]) (hi 103 (by decide) (by decide)) (hi 104 (by decide) (by decide)) rfl⟩
theorem MI_pad {s : Sta} {mi mi' : Nat → Nat → Int32} {ml : Nat → Nat → Int64} (h : MI s mi ml) {T' : List Nat} (hP : PM T' mi') (hi : ∀ a, a ≠ 116 → a ≠ 117 → mi' a = mi a) (h116 : ∀ j, j ≠ 1 → mi' 116 j = mi 116 j) : MI (s.setT (T')) mi' ml := by
  obtain ⟨-, a2, a3, a4, ⟨a5, a6⟩, a7, a8⟩ := h
  exact ⟨hP, MD_to a2 (hi 118 (by decide) (by decide)) (hi 119 (by decide) (by decide)), fun f hf => EN_to (a3 f hf) (hi 118 (by decide) (by decide)) (hi 119 (by decide) (by decide)), MC_to a4 (fun a h1 _ => hi a (by omega) (by omega)) (h116 11 (by decide)) (h116 12 (by decide)) (h116 18 (by decide)) rfl rfl rfl, ⟨txt_to a5 (hi 120 (by decide) (by decide)), by rw [h116 5 (by decide)]; exact a6⟩, txt_to a7 (hi 121 (by decide) (by decide)), by rw [h116 7 (by decide)]; exact a8⟩
section W1
variable {l : Launch} {K : Option Value → Prop}
theorem w_type (hK : ∀ v, K (some (.int v))) (x : Int32) : lw2 l K 10 121 [.int (x.toUInt32 % 65536).toInt32] := by
  obtain ⟨c, hc, e⟩ := chr_nI x
  rw [e]
  refine lw_mk (fun mi ml mr s hR hs hX => ⟨fun r s' => (¬ (32 ≤ c ∧ c ≤ 126 ∧ s.T.length < 80) → r = some (.int 0) ∧ s' = s) ∧ (32 ≤ c ∧ c ≤ 126 ∧ s.T.length < 80 → r = some (.int 1) ∧ s' = (s.setT (s.T ++ [c]))), ?_, ?_⟩)
  · show am_T l 60 M_X_type 0 [some (.ref 0), some (.int (nI c))] [] _ 0 0 _
    refine am_T.to (c_X_type hR s.T.length hX.1.1 hs.1.1 c hc) ?_
    rintro r h ⟨g1, g2⟩
    by_cases hq : 32 ≤ c ∧ c ≤ 126 ∧ s.T.length < 80
    · obtain ⟨rfl, rfl⟩ := g2 hq
      refine ⟨hK _, _, _, _, (s.setT (s.T ++ [c])), rfl, hR, XI_pad hX ⟨?_, ?_⟩ (fun a h1 h2 => by rw [up2_off _ _ _ h1, up2_off _ _ _ h2]), ⟨fun q => absurd hq q, fun _ => ⟨rfl, rfl⟩⟩, fun a ha => by rw [up2_off _ _ _ (by omega), up2_off _ _ _ (by omega)], fun _ _ => rfl⟩
      · rw [List.length_append]
        simp [up2]
      · refine txt_snoc hX.1.2 (fun i hi => ?_) ?_
        · unfold up2
          rw [if_neg (by omega), if_neg (by omega)]
        · simp [up2]
    · obtain ⟨rfl, rfl⟩ := g1 hq
      exact ⟨hK _, _, _, _, s, rfl, hR, hX, ⟨fun _ => ⟨rfl, rfl⟩, fun q => absurd q hq⟩, fun _ _ => rfl, fun _ _ => rfl⟩
  · rintro r s' mi ml mr hR hM - ⟨k1, k2⟩
    show am_T l 60 M_m_type 0 [some (.ref 116), some (.int (nI c))] [] _ 0 0 _
    refine am_T.to (c_m_type hR s.T.length hM.1.2.1 hs.1.1 c hc) ?_
    rintro r2 h ⟨g1, g2⟩
    by_cases hq : 32 ≤ c ∧ c ≤ 126 ∧ s.T.length < 80
    · obtain ⟨rfl, rfl⟩ := g2 hq
      obtain ⟨rfl, rfl⟩ := k2 hq
      have hl : (s.T ++ [c]).length = s.T.length + 1 := by rw [List.length_append]; rfl
      refine ⟨rfl, _, _, rfl, ⟨⟨by show (s.T ++ [c]).length ≤ 80; omega, okT_snoc hs.1.2 (by omega)⟩, hs.2⟩, MI_pad hM ⟨?_, ?_, by omega, okT_snoc hs.1.2 (by omega)⟩ (fun a h1 h2 => by rw [up2_off _ _ _ h1, up2_off _ _ _ h2]) (fun j hj => ?_), fun a ha => by rw [up2_off _ _ _ (by omega), up2_off _ _ _ (by omega)], fun _ _ => rfl⟩
      · refine txt_snoc hM.1.1 (fun i hi => ?_) ?_
        · unfold up2
          rw [if_neg (by omega), if_neg (by omega)]
        · simp [up2]
      · rw [hl]
        simp [up2]
      · unfold up2
        rw [if_neg (by omega), if_neg (by omega)]
    · obtain ⟨rfl, rfl⟩ := g1 hq
      obtain ⟨rfl, rfl⟩ := k1 hq
      exact ⟨rfl, _, _, rfl, hs, hM, fun _ _ => rfl, fun _ _ => rfl⟩
end W1
