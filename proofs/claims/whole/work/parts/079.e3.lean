/-! the class: enter, with the invariant -/
def entR (s : Sta) (r : Option Value) (s' : Sta) : Prop :=
  (isNam (s.T.getD 0 0) = true → match dRead s.T with
    | .inl t => r = some (.int (nI (1 + t))) ∧ s' = s
    | .inr D' => (16 < totD s.D (s.T.getD 0 0 - 65) D' 6 → r = some (.int (-5)) ∧ s' = s) ∧ (totD s.D (s.T.getD 0 0 - 65) D' 6 ≤ 16 → r = some (.int 0) ∧ s' = (s.setD (upD s.D (s.T.getD 0 0 - 65) D')))) ∧
  (isFun (s.T.getD 0 0) = true → match fScan s.T with
    | .inl t => r = some (.int (nI (1 + t))) ∧ s' = s
    | .inr F' => r = some (.int 0) ∧ s' = (s.setF (upD s.F (s.T.getD 0 0 - 102) F'))) ∧
  (isNam (s.T.getD 0 0) = false → isFun (s.T.getD 0 0) = false → r = some (.int (nI 1)) ∧ s' = s)
theorem swp_inj {o : Nat → Nat} {M n m : Nat} (hinj : ∀ a b, a < M → b < M → o a = o b → a = b) (hn : n < M) (hm : m < M) (hne : n ≠ m) {a b : Nat} (ha : a < M) (hb : b < M) (h : (if a = n then o m else if a = m then o n else o a) = (if b = n then o m else if b = m then o n else o b)) : a = b := by
  have e : ∀ k, (if k = n then o m else if k = m then o n else o k) = o (if k = n then m else if k = m then n else k) := by
    intro k
    split
    · rfl
    · split <;> rfl
  have e2 : ∀ k, k < M → (if k = n then m else if k = m then n else k) < M := by
    intro k hk
    split
    · exact hm
    · split
      · exact hn
      · exact hk
  rw [e, e] at h
  have := hinj _ _ (e2 a ha) (e2 b hb) h
  by_cases c1 : a = n
  · rw [if_pos c1] at this
    by_cases c2 : b = n
    · omega
    · rw [if_neg c2] at this
      by_cases c3 : b = m
      · rw [if_pos c3] at this
        omega
      · rw [if_neg c3] at this
        omega
  · rw [if_neg c1] at this
    by_cases c2 : b = n
    · rw [if_pos c2] at this
      by_cases c3 : a = m
      · rw [if_pos c3] at this
        omega
      · rw [if_neg c3] at this
        omega
    · rw [if_neg c2] at this
      by_cases c3 : a = m
      · rw [if_pos c3] at this
        by_cases c4 : b = m
        · omega
        · rw [if_neg c4] at this
          omega
      · rw [if_neg c3] at this
        by_cases c4 : b = m
        · rw [if_pos c4] at this
          omega
        · rw [if_neg c4] at this
          exact this
section E3
variable {l : Launch} {d : Nat} {mr : Nat → Nat → Option Nat} {s : Sta}
/-- a change that the invariant doesn't see -/
theorem XI_quiet {mi mi' : Nat → Nat → Int32} {ml : Nat → Nat → Int64} (h : XI s mi ml mr) (od oF : Nat → Nat) (hod : ∀ n, n < 7 → od n ∈ dOb) (hinj : ∀ a b, a < 7 → b < 7 → od a = od b → a = b) (hr2 : ∀ n, n < 6 → mr 2 n = some (od n)) (hr3 : mr 0 3 = some (od 6)) (hdd : ∀ n, n < 6 → mi (od n) 0 = bI (decide (s.D n ≠ [])) ∧ (s.D n ≠ [] → DA mi (od n) (s.D n)))
    (hoF : ∀ n, n < 4 → oF n ∈ fOb) (hinF : ∀ a b, a < 4 → b < 4 → oF a = oF b → a = b) (hrF : ∀ n, n < 3 → mr 45 n = some (oF n)) (hrF3 : mr 0 5 = some (oF 3)) (hff : ∀ n, n < 3 → mi (oF n) 0 = bI (decide ((s.F n).2.2.length ≠ 0)) ∧ ((s.F n).2.2.length ≠ 0 → FA mi (oF n) (s.F n)))
    (hi : ∀ a, a < 116 → a ≠ 82 → (a < od 6 ∨ od 6 + 5 < a) → (a < oF 3 ∨ oF 3 + 5 < a) → mi' a = mi a) (w : Nat) : XI s mi' ml (up2 mr 82 0 (some w)) := by
  obtain ⟨⟨a0, a1⟩, -, -, ⟨td, tw, b1, b2, b3, b4, b5, b6, b7, b8⟩, a5, a6, a7⟩ := h
  have hd6 := dOb_r (hod 6 (by omega))
  have hf3 := fOb_r (hoF 3 (by omega))
  have hq : ∀ a, a < 116 → a ≠ 82 → a < 3 ∨ a = 45 ∨ 69 < a → mi' a = mi a := fun a h1 h2 h3 => hi a h1 h2 (by omega) (by omega)
  have hr : ∀ a, a ≠ 82 → up2 mr 82 0 (some w) a = mr a := fun a ha => up2_off _ _ _ ha
  refine ⟨⟨by rw [hq 0 (by omega) (by omega) (by omega)]; exact a0, txt_to a1 (hq 1 (by omega) (by omega) (by omega))⟩, ⟨od, hod, hinj, by rw [hr 2 (by decide)]; exact hr2, by rw [hr 0 (by decide)]; exact hr3, fun n hn => ?_⟩, ⟨oF, hoF, hinF, by rw [hr 45 (by decide)]; exact hrF, by rw [hr 0 (by decide)]; exact hrF3, fun n hn => ?_⟩, ⟨td, tw, b1, b2, by rw [hr 0 (by decide)]; exact b3, by rw [hr 0 (by decide)]; exact b4, by rw [hr 0 (by decide)]; exact b5, by rw [hr 0 (by decide)]; exact b6, HA_to b7 (hq _ (by omega) (by omega) (by omega)) (hq _ (by omega) (by omega) (by omega)) (hq _ (by omega) (by omega) (by omega)), HA_to b8 (hq _ (by omega) (by omega) (by omega)) (hq _ (by omega) (by omega) (by omega)) (hq _ (by omega) (by omega) (by omega))⟩, XR_to a5 (fun a h1 h2 => hq a (by omega) (by omega) (by omega)) (fun _ _ _ _ => rfl), fun i hi' => by rw [hq 100 (by omega) (by omega) (by omega)]; exact a6 i hi', XT_to a7 (by rw [hq 102 (by omega) (by omega) (by omega)]) (by rw [hq 93 (by omega) (by omega) (by omega)]) (by rw [hq 93 (by omega) (by omega) (by omega)]) (hq 103 (by omega) (by omega) (by omega)) (hq 104 (by omega) (by omega) (by omega)) rfl⟩
  · have h1 := dOb_r (hod n (by omega))
    have h2 := dOb_sep _ (hod n (by omega)) _ (hod 6 (by omega)) (fun e => by have := hinj _ _ (by omega) (by omega) e; omega)
    have h3 : ∀ a, od n ≤ a → a ≤ od n + 5 → mi' a = mi a := fun a c1 c2 => hi a (by omega) (by omega) (by omega) (by omega)
    exact ⟨by rw [h3 _ (by omega) (by omega)]; exact (hdd n hn).1, fun q => DA_to ((hdd n hn).2 q) h3⟩
  · have h1 := fOb_r (hoF n (by omega))
    have h2 := fOb_sep _ (hoF n (by omega)) _ (hoF 3 (by omega)) (fun e => by have := hinF _ _ (by omega) (by omega) e; omega)
    have h3 : ∀ a, oF n ≤ a → a ≤ oF n + 5 → mi' a = mi a := fun a c1 c2 => hi a (by omega) (by omega) (by omega) (by omega)
    exact ⟨by rw [h3 _ (by omega) (by omega)]; exact (hff n hn).1, fun q => FA_to ((hff n hn).2 q) h3⟩
theorem dRead_okD {T : List Nat} {D' : List Rt} (h : dRead T = .inr D') (h0 : 0 < T.length) : T ++ [124] = [T.getD 0 0, 61] ++ ptx D' ∧ okD D' := by
  unfold dRead at h
  by_cases h1 : T.getD 1 0 ≠ 61
  · rw [if_pos h1] at h
    cases h
  · rw [if_neg h1] at h
    have h1 := Classical.not_not.mp h1
    have hl := lt_of_getD h1 (by decide)
    refine dScan_ok T [T.getD 0 0, 61] T.length 2 [] D' false false (by omega) ?_ (fun r hr => by cases hr) (by decide) (by decide) (fun e => by cases e) (fun e => by cases e) h
    rw [show (2 : Nat) = 0 + 1 + 1 from rfl, take_s (by omega), take_s (by omega), h1]
    simp [ptx]
theorem c_X_enter (hR : SR mr) (mi : Nat → Nat → Int32) (ml : Nat → Nat → Int64) (hs : okSta s) (hX : XI s mi ml mr) : am_T l (d + 5) M_X_enter 0 [some (.ref 0)] [] (hm mi ml mr) 0 0 (fun r h' => ∃ mi' ml' mr' s', h' = hm mi' ml' mr' ∧ SR mr' ∧ XI s' mi' ml' mr' ∧ entR s r s' ∧ (∀ a, 116 ≤ a → mi' a = mi a) ∧ ∀ a, 116 ≤ a → ml' a = ml a) := by
  obtain ⟨⟨h80, hT⟩, hD, hF, -, -⟩ := hs
  obtain ⟨⟨a0, a1⟩, ⟨od, hod, hinj, hr2, hr3, hdd⟩, ⟨oF, hoF, hinF, hrF, hrF3, hff⟩, hXH, hXR, hX100, hXT⟩ := id hX
  have hR1 := SR_82 (w := 1) hR
  have hd6 := dOb_r (hod 6 (by omega))
  have hf3 := fOb_r (hoF 3 (by omega))
  have hc := okT_at hT 0
  have hrd : rd 1 80 s.T (up2 mi 82 1 (nI s.T.length)) (up2 mr 82 0 (some 1)) := ⟨by simp [up2], rfl, h80, by decide, by simp [up2], fun i hi => by rw [up2_off _ _ _ (by decide)]; exact a1 i hi, hT⟩
  have quiet : ∀ mi' : Nat → Nat → Int32, (∀ a, a < 116 → a ≠ 82 → (a < od 6 ∨ od 6 + 5 < a) → (a < oF 3 ∨ oF 3 + 5 < a) → mi' a = mi a) → XI s mi' ml (up2 mr 82 0 (some 1)) := fun mi' h => XI_quiet hX od oF hod hinj hr2 hr3 hdd hoF hinF hrF hrF3 hff h 1
  have e0 : ∀ a, a ≠ 82 → up2 mr 82 0 (some 1) a = mr a := fun a ha => up2_off _ _ _ ha
  have p1 : ∀ a, a ≠ 82 → up2 mi 82 1 (nI s.T.length) a = mi a := fun a ha => up2_off _ _ _ ha
  refine am_aload_n rfl rfl ?_
  refine ho_getR rfl (by first | rfl | assumption) rfl (by first | assumption | exact hR _ _ _ rfl) ?_
  refine am_aload_n rfl rfl ?_
  refine ho_getR rfl (by first | rfl | assumption) rfl (by first | assumption | exact hR _ _ _ rfl) ?_
  refine am_aload_n rfl rfl ?_
  refine ho_getI rfl (by first | rfl | assumption) rfl ?_
  rw [a0]
  refine ho_cv2 rfl (by first | rfl | assumption) rfl (Nat.le_of_ble_eq_true rfl) (Nat.le_of_ble_eq_true rfl) (c_R_open (t := 0)) ?_
  rintro v h' ⟨rfl, rfl⟩
  -- neither a name nor a letter
  have s133 : isNam (s.T.getD 0 0) = false → isFun (s.T.getD 0 0) = false → am_T l (d + 5) M_X_enter 133 [some (.ref 0)] [] (hm (up2 mi 82 1 (nI s.T.length)) ml (up2 mr 82 0 (some 1))) 0 0 (fun r h' => ∃ mi' ml' mr' s', h' = hm mi' ml' mr' ∧ SR mr' ∧ XI s' mi' ml' mr' ∧ entR s r s' ∧ (∀ a, 116 ≤ a → mi' a = mi a) ∧ ∀ a, 116 ≤ a → ml' a = ml a) := by
    intro n1 n2
    refine am_iconst (v := nI 1) rfl (by decide) ?_
    exact am_ireturn rfl rfl ⟨_, _, _, s, rfl, hR1, quiet _ (fun a _ h2 _ _ => p1 a h2), ⟨fun q => (by rw [n1] at q; cases q), fun q => (by rw [n2] at q; cases q), fun _ _ => ⟨rfl, rfl⟩⟩, fun a ha => p1 a (by omega), fun _ _ => rfl⟩
  have s74 : isNam (s.T.getD 0 0) = false → am_T l (d + 5) M_X_enter 74 [some (.ref 0)] [] (hm (up2 mi 82 1 (nI s.T.length)) ml (up2 mr 82 0 (some 1))) 0 0 (fun r h' => ∃ mi' ml' mr' s', h' = hm mi' ml' mr' ∧ SR mr' ∧ XI s' mi' ml' mr' ∧ entR s r s' ∧ (∀ a, 116 ≤ a → mi' a = mi a) ∧ ∀ a, 116 ≤ a → ml' a = ml a) := by
    intro n1
    refine am_aload_n rfl rfl ?_
    refine ho_getI rfl rfl rfl ?_
    rw [p1 0 (by decide), a0]
    refine am_if_le rfl (fun z => ?_) (fun z => ?_)
    · have z : nI s.T.length ≤ nI 0 := z
      rw [nI_leI (by omega) (by omega)] at z
      refine s133 n1 ?_
      rw [getD_ge (by omega)]
      rfl
    have z : ¬ nI s.T.length ≤ nI 0 := z
    rw [nI_leI (by omega) (by omega)] at z
    refine am_aload_n rfl rfl ?_
    refine ho_getR rfl rfl rfl (hR1 _ _ _ rfl) ?_
    refine am_iconst (v := nI 0) rfl (by decide) ?_
    refine ho_caload rfl rfl (by omega) ?_
    rw [p1 1 (by decide), a1 0 (by omega)]
    refine ho_cs1 rfl rfl (Nat.le_of_ble_eq_true rfl) (Nat.le_of_ble_eq_true rfl) (c_X_isFunction _ (by omega)) ?_
    rintro v h' ⟨rfl, rfl⟩
    refine am_if_eq rfl (fun y => s133 n1 ((bI_eq _).mp y)) (fun y => ?_)
    have y := (bI_ne _).mp y
    have yr := isFun_r y
    have hFn := isFn_of hR1 (hoF 3 (by omega))
    refine am_aload_n rfl rfl ?_
    refine ho_getR rfl rfl rfl (hR1 _ _ _ rfl) ?_
    refine am_aload_n rfl rfl ?_
    refine ho_getR rfl rfl rfl (by rw [e0 0 (by decide)]; exact hrF3) ?_
    refine ho_cv1 rfl (by first | rfl | assumption) rfl (Nat.le_of_ble_eq_true rfl) (Nat.le_of_ble_eq_true rfl) (c_R_readFunction hFn _ hrd (by omega)) ?_
    cases hsc : fScan s.T with
    | inl t =>
      rintro v h' ⟨mi1, rfl, hF1, rfl, hat⟩
      refine am_if_eq rfl (fun _ => ?_) (fun w => absurd rfl w)
      refine am_iconst (v := nI 1) rfl (by decide) ?_
      refine am_aload_n rfl rfl ?_
      refine ho_getR rfl rfl rfl (hR1 _ _ _ rfl) ?_
      refine ho_getI rfl rfl rfl ?_
      rw [hat]
      refine ho_addn rfl ?_
      refine am_ireturn rfl rfl ⟨_, _, _, s, rfl, hR1, quiet _ (fun a h1 h2 _ h4 => (hF1.1 a h4 h2).trans (p1 a h2)), ⟨fun q => (by rw [n1] at q; cases q), fun _ => ?_, fun _ q => (by rw [y] at q; cases q)⟩, fun a ha => (hF1.1 a (by omega) (by omega)).trans (p1 a (by omega)), fun _ _ => rfl⟩
      rw [hsc]
      exact ⟨rfl, rfl⟩
    | inr F' =>
      rintro v h' ⟨mi1, rfl, hF1, rfl, hFA, hgv⟩
      obtain ⟨-, hokF⟩ := fScan_ok hsc
      refine am_if_eq rfl (fun w => by cases w) (fun _ => ?_)
      refine am_aload_n rfl rfl ?_
      refine am_aload_n rfl rfl ?_
      refine ho_getR rfl rfl rfl (hR1 _ _ _ rfl) ?_
      refine am_iconst (v := nI 0) rfl (by decide) ?_
      refine ho_caload rfl rfl (by omega) ?_
      rw [hF1.1 1 (by omega) (by decide), p1 1 (by decide), a1 0 (by omega)]
      refine am_bipush (v := nI 102) rfl (by decide) ?_
      refine ho_subn rfl (by omega) ?_
      refine ho_cv1 rfl (by first | rfl | assumption) rfl (Nat.le_of_ble_eq_true rfl) (Nat.le_of_ble_eq_true rfl) (c_X_keepFunction hR1 oF hoF (by rw [e0 45 (by decide)]; exact hrF) (by rw [e0 0 (by decide)]; exact hrF3) _ _ (s.T.getD 0 0 - 102) (by omega)) ?_
      rintro v h' ⟨rfl, rfl⟩
      refine am_goto rfl ?_
      have hq := quiet mi1 (fun a h1 h2 _ h4 => (hF1.1 a h4 h2).trans (p1 a h2))
      obtain ⟨q1, q2, -, q4, q5, q6, q7⟩ := hq
      have hR2 : SR (up2 (up2 (up2 mr 82 0 (some 1)) 45 (s.T.getD 0 0 - 102) (some (oF 3))) 0 5 (some (oF (s.T.getD 0 0 - 102)))) := by
        intro a b c h
        unfold up2
        split
        · next q =>
          rw [q.1, q.2] at h
          cases h
        · split
          · next q =>
            rw [q.1, q.2] at h
            have : ∀ i, i < 3 → hs_st 45 i = none := by decide
            rw [this _ (by omega)] at h
            cases h
          · exact hR1 a b c h
      have hrr : ∀ a, a ≠ 0 → a ≠ 45 → up2 (up2 (up2 mr 82 0 (some 1)) 45 (s.T.getD 0 0 - 102) (some (oF 3))) 0 5 (some (oF (s.T.getD 0 0 - 102))) a = up2 mr 82 0 (some 1) a := fun a h1 h2 => by rw [up2_off _ _ _ h1, up2_off _ _ _ h2]
      have hr0 : ∀ j, j ≠ 5 → up2 (up2 (up2 mr 82 0 (some 1)) 45 (s.T.getD 0 0 - 102) (some (oF 3))) 0 5 (some (oF (s.T.getD 0 0 - 102))) 0 j = up2 mr 82 0 (some 1) 0 j := fun j hj => by
        show up2 (up2 _ 45 _ _) 0 5 _ 0 j = _
        rw [show up2 (up2 (up2 mr 82 0 (some 1)) 45 (s.T.getD 0 0 - 102) (some (oF 3))) 0 5 (some (oF (s.T.getD 0 0 - 102))) 0 j = up2 (up2 mr 82 0 (some 1)) 45 (s.T.getD 0 0 - 102) (some (oF 3)) 0 j by unfold up2; rw [if_neg (by omega)], up2_off _ _ _ (show (0 : Nat) ≠ 45 by decide)]
      refine am_ireturn rfl rfl ⟨_, _, _, (s.setF (upD s.F (s.T.getD 0 0 - 102) F')), rfl, hR2, ⟨q1, XD_to q2 (fun _ _ _ => rfl) (hrr 2 (by decide) (by decide)) (hr0 3 (by decide)), ?_, ?_, q5, q6, q7⟩, ⟨fun q => (by rw [n1] at q; cases q), fun _ => ?_, fun _ q => (by rw [y] at q; cases q)⟩, fun a ha => (hF1.1 a (by omega) (by omega)).trans (p1 a (by omega)), fun _ _ => rfl⟩
      · refine ⟨fun k => if k = s.T.getD 0 0 - 102 then oF 3 else if k = 3 then oF (s.T.getD 0 0 - 102) else oF k, fun k hk => ?_, fun a b ha hb => ?_, fun k hk => ?_, ?_, fun k hk => ?_⟩
        · show (if k = s.T.getD 0 0 - 102 then oF 3 else if k = 3 then oF (s.T.getD 0 0 - 102) else oF k) ∈ fOb
          split
          · exact hoF 3 (by omega)
          · split
            · exact hoF _ (by omega)
            · exact hoF k hk
        · show (if a = s.T.getD 0 0 - 102 then oF 3 else if a = 3 then oF (s.T.getD 0 0 - 102) else oF a) = (if b = s.T.getD 0 0 - 102 then oF 3 else if b = 3 then oF (s.T.getD 0 0 - 102) else oF b) → a = b
          exact swp_inj hinF (by omega) (by omega) (by omega) ha hb
        · rw [up2_off _ _ _ (show (45 : Nat) ≠ 0 by decide)]
          by_cases c1 : k = s.T.getD 0 0 - 102
          · simp [up2, c1]
          · simp only [c1, if_false, show ¬ k = 3 by omega]
            unfold up2
            rw [if_neg (by omega), if_neg (by omega)]
            exact hrF k hk
        · simp only [show ¬ (3 : Nat) = s.T.getD 0 0 - 102 by omega, if_false, if_true]
          simp [up2]
        · show mi1 (if k = s.T.getD 0 0 - 102 then oF 3 else if k = 3 then oF (s.T.getD 0 0 - 102) else oF k) 0 = bI (decide ((upD s.F (s.T.getD 0 0 - 102) F' k).2.2.length ≠ 0)) ∧ ((upD s.F (s.T.getD 0 0 - 102) F' k).2.2.length ≠ 0 → FA mi1 (if k = s.T.getD 0 0 - 102 then oF 3 else if k = 3 then oF (s.T.getD 0 0 - 102) else oF k) (upD s.F (s.T.getD 0 0 - 102) F' k))
          unfold upD
          by_cases c1 : k = s.T.getD 0 0 - 102
          · simp only [if_pos c1]
            have hne : F'.2.2.length ≠ 0 := fun q => hokF.2.2.2.1 (List.length_eq_zero_iff.mp q)
            refine ⟨?_, fun _ => hFA⟩
            rw [hgv]
            simp [hne]
            rfl
          · simp only [if_neg c1, if_neg (show ¬ k = 3 by omega)]
            have g1 := fOb_r (hoF k (by omega))
            have g2 := fOb_sep _ (hoF k (by omega)) _ (hoF 3 (by omega)) (fun e => by have := hinF _ _ (by omega) (by omega) e; omega)
            have g3 : ∀ a, oF k ≤ a → a ≤ oF k + 5 → mi1 a = mi a := fun a c1 c2 => (hF1.1 a (by omega) (by omega)).trans (p1 a (by omega))
            exact ⟨by rw [g3 _ (by omega) (by omega)]; exact (hff k hk).1, fun q => FA_to ((hff k hk).2 q) g3⟩
      · obtain ⟨td, tw, b1, b2, b3, b4, b5, b6, b7, b8⟩ := q4
        exact ⟨td, tw, b1, b2, by rw [hr0 6 (by decide)]; exact b3, by rw [hr0 7 (by decide)]; exact b4, by rw [hr0 8 (by decide)]; exact b5, by rw [hr0 9 (by decide)]; exact b6, b7, b8⟩
      · rw [hsc]
        exact ⟨rfl, rfl⟩
  refine am_aload_n rfl rfl ?_
  refine ho_getI rfl rfl rfl ?_
  rw [p1 0 (by decide), a0]
  refine am_if_le rfl (fun z => ?_) (fun z => ?_)
  · have z : nI s.T.length ≤ nI 0 := z
    rw [nI_leI (by omega) (by omega)] at z
    refine s74 ?_
    rw [getD_ge (by omega)]
    rfl
  have z : ¬ nI s.T.length ≤ nI 0 := z
  rw [nI_leI (by omega) (by omega)] at z
  refine am_aload_n rfl rfl ?_
  refine ho_getR rfl rfl rfl (hR1 _ _ _ rfl) ?_
  refine am_iconst (v := nI 0) rfl (by decide) ?_
  refine ho_caload rfl rfl (by omega) ?_
  rw [p1 1 (by decide), a1 0 (by omega)]
  refine ho_cs1 rfl rfl (Nat.le_of_ble_eq_true rfl) (Nat.le_of_ble_eq_true rfl) (c_X_isName _ (by omega)) ?_
  rintro v h' ⟨rfl, rfl⟩
  refine am_if_eq rfl (fun y => s74 ((bI_eq _).mp y)) (fun y => ?_)
  have y := (bI_ne _).mp y
  have yr := isNam_r y
  have hnf : isFun (s.T.getD 0 0) = false := by
    simp only [isFun, decide_eq_false_iff_not]
    omega
  have hDf := isDf_of hR1 (hod 6 (by omega))
  refine am_aload_n rfl rfl ?_
  refine ho_getR rfl rfl rfl (hR1 _ _ _ rfl) ?_
  refine am_aload_n rfl rfl ?_
  refine ho_getR rfl rfl rfl (by rw [e0 0 (by decide)]; exact hr3) ?_
  refine ho_cv1 rfl (by first | rfl | assumption) rfl (Nat.le_of_ble_eq_true rfl) (Nat.le_of_ble_eq_true rfl) (c_R_readDefinition hDf (by omega) _ hrd (by omega)) ?_
  cases hsc : dRead s.T with
  | inl t =>
    rintro v h' ⟨mi1, rfl, hF1, rfl, hat⟩
    refine am_if_eq rfl (fun _ => ?_) (fun w => absurd rfl w)
    refine am_iconst (v := nI 1) rfl (by decide) ?_
    refine am_aload_n rfl rfl ?_
    refine ho_getR rfl rfl rfl (hR1 _ _ _ rfl) ?_
    refine ho_getI rfl rfl rfl ?_
    rw [hat]
    refine ho_addn rfl ?_
    refine am_ireturn rfl rfl ⟨_, _, _, s, rfl, hR1, quiet _ (fun a h1 h2 h3 _ => (hF1.1 a h3 h2).trans (p1 a h2)), ⟨fun _ => ?_, fun q => (by rw [hnf] at q; cases q), fun q => (by rw [y] at q; cases q)⟩, fun a ha => (hF1.1 a (by omega) (by omega)).trans (p1 a (by omega)), fun _ _ => rfl⟩
    rw [hsc]
    exact ⟨rfl, rfl⟩
  | inr D' =>
    rintro v h' ⟨mi1, rfl, hF1, rfl, hDA, hgv⟩
    obtain ⟨-, hokD'⟩ := dRead_okD hsc (by omega)
    have g3 : ∀ k, k < 6 → ∀ a, od k ≤ a → a ≤ od k + 5 → mi1 a = mi a := by
      intro k hk a c1 c2
      have g1 := dOb_r (hod k (by omega))
      have g2 := dOb_sep _ (hod k (by omega)) _ (hod 6 (by omega)) (fun e => by have := hinj _ _ (by omega) (by omega) e; omega)
      exact (hF1.1 a (by omega) (by omega)).trans (p1 a (by omega))
    have hdd1 : ∀ k, k < 6 → mi1 (od k) 0 = bI (decide (s.D k ≠ [])) ∧ (s.D k ≠ [] → DA mi1 (od k) (s.D k)) := fun k hk => ⟨by rw [g3 k hk _ (by omega) (by omega)]; exact (hdd k hk).1, fun q => DA_to ((hdd k hk).2 q) (g3 k hk)⟩
    refine am_if_eq rfl (fun w => by cases w) (fun _ => ?_)
    refine am_aload_n rfl rfl ?_
    refine am_aload_n rfl rfl ?_
    refine ho_getR rfl rfl rfl (hR1 _ _ _ rfl) ?_
    refine am_iconst (v := nI 0) rfl (by decide) ?_
    refine ho_caload rfl rfl (by omega) ?_
    rw [hF1.1 1 (by omega) (by decide), p1 1 (by decide), a1 0 (by omega)]
    refine am_bipush (v := nI 65) rfl (by decide) ?_
    refine ho_subn rfl (by omega) ?_
    refine ho_cv1 rfl (by first | rfl | assumption) rfl (Nat.le_of_ble_eq_true rfl) (Nat.le_of_ble_eq_true rfl) (c_X_keepDefinition hR1 s.D D' od hod hinj (by rw [e0 2 (by decide)]; exact hr2) (by rw [e0 0 (by decide)]; exact hr3) mi1 ml hdd1 hD hokD' hDA hgv (s.T.getD 0 0 - 65) (by omega)) ?_
    rintro v h' ⟨k1, k2⟩
    refine am_goto rfl ?_
    have hq := quiet mi1 (fun a h1 h2 h3 _ => (hF1.1 a h3 h2).trans (p1 a h2))
    by_cases htot : 16 < totD s.D (s.T.getD 0 0 - 65) D' 6
    · obtain ⟨rfl, rfl⟩ := k1 htot
      refine am_ireturn rfl rfl ⟨_, _, _, s, rfl, hR1, hq, ⟨fun _ => ?_, fun q => (by rw [hnf] at q; cases q), fun q => (by rw [y] at q; cases q)⟩, fun a ha => (hF1.1 a (by omega) (by omega)).trans (p1 a (by omega)), fun _ _ => rfl⟩
      rw [hsc]
      exact ⟨fun _ => ⟨rfl, rfl⟩, fun q => absurd htot (by omega)⟩
    · obtain ⟨rfl, mi2, ml2, ip, m, hrep, hFb, rfl⟩ := k2 (by omega)
      obtain ⟨q1, -, q3, q4, -, q6, -⟩ := hq
      generalize hnn : s.T.getD 0 0 - 65 = nn at *
      have hnn6 : nn < 6 := by omega
      have hR2 : SR (up2 (up2 (up2 mr 82 0 (some 1)) 2 nn (some (od 6))) 0 3 (some (od nn))) := by
        intro a b c h
        unfold up2
        split
        · next q =>
          rw [q.1, q.2] at h
          cases h
        · split
          · next q =>
            rw [q.1, q.2] at h
            have : ∀ i, i < 6 → hs_st 2 i = none := by decide
            rw [this _ hnn6] at h
            cases h
          · exact hR1 a b c h
      have hrr : ∀ a, a ≠ 0 → a ≠ 2 → up2 (up2 (up2 mr 82 0 (some 1)) 2 nn (some (od 6))) 0 3 (some (od nn)) a = up2 mr 82 0 (some 1) a := fun a h1 h2 => by rw [up2_off _ _ _ h1, up2_off _ _ _ h2]
      have hr0 : ∀ j, j ≠ 3 → up2 (up2 (up2 mr 82 0 (some 1)) 2 nn (some (od 6))) 0 3 (some (od nn)) 0 j = up2 mr 82 0 (some 1) 0 j := fun j hj => by
        rw [show up2 (up2 (up2 mr 82 0 (some 1)) 2 nn (some (od 6))) 0 3 (some (od nn)) 0 j = up2 (up2 mr 82 0 (some 1)) 2 nn (some (od 6)) 0 j by unfold up2; rw [if_neg (by omega)], up2_off _ _ _ (show (0 : Nat) ≠ 2 by decide)]
      have m2 : ∀ a, a ≠ 93 → a ≠ 102 → a ≠ 84 → a ≠ 85 → a ≠ 86 → up2 (up2 mi2 93 1 (nI 0)) 102 1 (nI 0) a = mi1 a := fun a h1 h2 h3 h4 h5 => by rw [up2_off _ _ _ h2, up2_off _ _ _ h1, hFb.1 a h3 h4 h5]
      refine am_ireturn rfl rfl ⟨_, _, _, (s.setD (upD s.D nn D')), rfl, hR2, ⟨⟨by rw [m2 0 (by omega) (by omega) (by omega) (by omega) (by omega)]; exact q1.1, txt_to q1.2 (m2 1 (by omega) (by omega) (by omega) (by omega) (by omega))⟩, ?_, XF_to q3 (fun a h1 h2 => m2 a (by omega) (by omega) (by omega) (by omega) (by omega)) (hrr 45 (by decide) (by decide)) (hr0 5 (by decide)), ?_, ⟨ip, m, ?_, false, ?_, fun q => (by cases q)⟩, fun i hi => by rw [m2 100 (by omega) (by omega) (by omega) (by omega) (by omega)]; exact q6 i hi, ⟨false, ?_, fun q => (by cases q)⟩⟩, ⟨fun _ => ?_, fun q => (by rw [hnf] at q; cases q), fun q => (by rw [y] at q; cases q)⟩, fun a ha => (m2 a (by omega) (by omega) (by omega) (by omega) (by omega)).trans ((hF1.1 a (by omega) (by omega)).trans (p1 a (by omega))), fun a ha => hFb.2 a (by omega) (by omega) (by omega) (by omega) (by omega) (by omega)⟩
      · refine ⟨fun k => if k = nn then od 6 else if k = 6 then od nn else od k, fun k hk => ?_, fun a b ha hb => ?_, fun k hk => ?_, ?_, fun k hk => ?_⟩
        · show (if k = nn then od 6 else if k = 6 then od nn else od k) ∈ dOb
          split
          · exact hod 6 (by omega)
          · split
            · exact hod _ (by omega)
            · exact hod k hk
        · show (if a = nn then od 6 else if a = 6 then od nn else od a) = (if b = nn then od 6 else if b = 6 then od nn else od b) → a = b
          exact swp_inj hinj (by omega) (by omega) (by omega) ha hb
        · rw [up2_off _ _ _ (show (2 : Nat) ≠ 0 by decide)]
          by_cases c1 : k = nn
          · simp [up2, c1]
          · simp only [c1, if_false, show ¬ k = 6 by omega]
            unfold up2
            rw [if_neg (by omega), if_neg (by omega)]
            exact hr2 k hk
        · simp only [show ¬ (6 : Nat) = nn by omega, if_false, if_true]
          simp [up2]
        · show (up2 (up2 mi2 93 1 (nI 0)) 102 1 (nI 0)) (if k = nn then od 6 else if k = 6 then od nn else od k) 0 = bI (decide (upD s.D nn D' k ≠ [])) ∧ (upD s.D nn D' k ≠ [] → DA (up2 (up2 mi2 93 1 (nI 0)) 102 1 (nI 0)) (if k = nn then od 6 else if k = 6 then od nn else od k) (upD s.D nn D' k))
          unfold upD
          by_cases c1 : k = nn
          · simp only [if_pos c1]
            have hne : D' ≠ [] := fun q => by
              obtain ⟨-, -, -, P, x, h1, -⟩ := hokD'
              rw [q] at h1
              have := congrArg List.length h1
              simp at this
            refine ⟨?_, fun _ => DA_to hDA (fun a h1 h2 => m2 a (by omega) (by omega) (by omega) (by omega) (by omega))⟩
            rw [m2 _ (by omega) (by omega) (by omega) (by omega) (by omega), hgv]
            simp [hne]
            rfl
          · simp only [if_neg c1, if_neg (show ¬ k = 6 by omega)]
            have g1 := dOb_r (hod k (by omega))
            exact ⟨by rw [m2 _ (by omega) (by omega) (by omega) (by omega) (by omega)]; exact (hdd1 k hk).1, fun q => DA_to ((hdd1 k hk).2 q) (fun a h1 h2 => m2 a (by omega) (by omega) (by omega) (by omega) (by omega))⟩
      · obtain ⟨td, tw, b1, b2, b3, b4, b5, b6, b7, b8⟩ := q4
        exact ⟨td, tw, b1, b2, by rw [hr0 6 (by decide)]; exact b3, by rw [hr0 7 (by decide)]; exact b4, by rw [hr0 8 (by decide)]; exact b5, by rw [hr0 9 (by decide)]; exact b6, HA_to b7 (m2 _ (by omega) (by omega) (by omega) (by omega) (by omega)) (m2 _ (by omega) (by omega) (by omega) (by omega) (by omega)) (m2 _ (by omega) (by omega) (by omega) (by omega) (by omega)), HA_to b8 (m2 _ (by omega) (by omega) (by omega) (by omega) (by omega)) (m2 _ (by omega) (by omega) (by omega) (by omega) (by omega)) (m2 _ (by omega) (by omega) (by omega) (by omega) (by omega))⟩
      · exact repX_to hrep (by rw [up2_off _ _ _ (by decide), up2_off _ _ _ (by decide)]) (by rw [up2_off _ _ _ (by decide), up2_off _ _ _ (by decide)]) (by rw [up2_off _ _ _ (by decide), up2_off _ _ _ (by decide)]) (fun _ _ _ => rfl)
      · rw [up2_off _ _ _ (by decide)]
        simp [up2]
        rfl
      · simp [up2]
        rfl
      · rw [hsc, hnn]
        exact ⟨fun q => absurd q htot, fun _ => ⟨rfl, rfl⟩⟩
end E3
