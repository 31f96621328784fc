/-! the class: readDefinition -/
def rdP (ml : Nat → Nat → Int64) (mr : Nat → Nat → Option Nat) (o : Nat) (mi : Nat → Nat → Int32) (X : Nat ⊕ List Rt) (r : Option Value) (h' : am_H) : Prop := ∃ mi', h' = hm mi' ml mr ∧ FD o mi mi' ∧ match X with
  | .inl s => r = some (.int (bI false)) ∧ mi' 82 2 = nI s
  | .inr D => r = some (.int (bI true)) ∧ DA mi' o D ∧ mi' o 0 = nI 1
section R4
variable {l : Launch} {d : Nat} {ml : Nat → Nat → Int64} {mr : Nat → Nat → Option Nat} {cap o : Nat} {T : List Nat}
theorem c_R_readItems (hDf : isDf mr o) (ho3 : 3 ≤ o) (X : Nat ⊕ List Rt) (g i : Nat) (D : List Rt) (mi : Nat → Nat → Int32) (hg : T.length < i + g) (hi : i ≤ T.length) (hr : rd 1 cap T mi mr) (hat : mi 82 2 = nI i) (hA : DA mi o D) (hgv : mi o 0 = nI 1) (hX : X = dScan T g i D false false) (hit : nit D ≤ 16) (hen : nen D < 8) :
    am_T l (d + 3) M_R_readItems 0 [some (.ref 82), some (.ref o), none, none, none] [] (hm mi ml mr) 0 0 (riP ml mr o T mi X D) := by
  refine am_iconst (v := nI 0) rfl (by decide) ?_
  refine am_istore_n rfl (Nat.le_of_ble_eq_true rfl) ?_
  show am_T _ _ _ _ [_, _, some _, _, _] _ _ _ _ _
  exact c_R_readItems_loop hDf ho3 mi X D 16 0 g i D false mi rfl hg hi hr hat hA hgv FD.rf hX rfl hit hen (Nat.zero_le _) (fun e => by cases e)
theorem c_R_rd_body (hDf : isDf mr o) (ho3 : 3 ≤ o) (mi0 : Nat → Nat → Int32) (X : Nat ⊕ List Rt) (k g i : Nat) (D : List Rt) (mi : Nat → Nat → Int32) (hk : k < 8) (hg : T.length < i + g) (hi : i ≤ T.length) (hr : rd 1 cap T mi mr) (hat : mi 82 2 = nI i) (hA : DA mi o D) (hgv : mi o 0 = nI 1) (hF : FD o mi0 mi) (hX : X = dScan T g i D false false) (hen : nen D = k) (hit : nit D ≤ 16)
    (hnext : k + 1 < 8 → ∀ (g i : Nat) (D : List Rt) (mi : Nat → Nat → Int32), T.length < i + g → i ≤ T.length → rd 1 cap T mi mr → mi 82 2 = nI i → DA mi o D → mi o 0 = nI 1 → FD o mi0 mi → X = dScan T g i D false false → nen D = k + 1 → nit D ≤ 16 → am_T l (d + 4) M_R_readDefinition 39 [some (.ref 82), some (.ref o), none, some (.int (nI (k + 1)))] [] (hm mi ml mr) 0 0 (rdP ml mr o mi0 X)) :
    am_T l (d + 4) M_R_readDefinition 39 [some (.ref 82), some (.ref o), none, some (.int (nI k))] [] (hm mi ml mr) 0 0 (rdP ml mr o mi0 X) := by
  have hDf' := hDf
  obtain ⟨o39, k0, k1, k2, k3, k4, k5, r3, r4, r5, r6, r7⟩ := hDf'
  have h80 := hr.2.2.1
  have h81 := hr.2.2.2.1
  have hT := hr.2.2.2.2.2.2
  refine am_aload_n rfl rfl ?_
  refine am_aload_n rfl rfl ?_
  refine ho_cv1 rfl (by first | rfl | assumption) rfl (Nat.le_of_ble_eq_true rfl) (Nat.le_of_ble_eq_true rfl) (c_R_readItems hDf ho3 X g i D mi hg hi hr hat hA hgv hX hit (by omega)) ?_
  rintro v h' ⟨mi1, rfl, hF1, ⟨s, rfl, hs, hXs⟩ | ⟨rfl, hgv1, g1, i1, D1, mk1, hA1, hat1, hi1, hg1, hX1, hen1, hit1, hmk1, hend1⟩⟩
  · refine am_if_ne rfl (fun z => absurd rfl z) (fun _ => ?_)
    refine am_iconst (v := nI 0) rfl (by decide) ?_
    refine am_zreturn rfl rfl (Or.inl rfl) ⟨mi1, rfl, hF.tr hF1, ?_⟩
    rw [hXs]
    exact ⟨rfl, hs⟩
  refine am_if_ne rfl (fun _ => ?_) (fun z => by cases z)
  have hr1 := hF1.rd ho3 hr
  obtain ⟨g2, rfl⟩ : ∃ g2, g1 = g2 + 1 := ⟨g1 - 1, by omega⟩
  -- behind an alternative: its place j, what was read, how the reading goes on
  have s71 : ∀ (j : Nat) (D2 : List Rt) (mi2 : Nat → Nat → Int32), j ≤ T.length → rd 1 cap T mi2 mr → mi2 82 2 = nI j → DA mi2 o D2 → mi2 o 0 = nI 1 → FD o mi0 mi2 → nen D2 = k + 1 → nit D2 ≤ 16 → (T.length ≤ j → X = .inr D2) → (j < T.length → (T.getD j 0 ≠ 124 ∨ 8 ≤ nen D2) → X = .inl j) → (j < T.length → T.getD j 0 = 124 → nen D2 < 8 → ∃ g, T.length < j + 1 + g ∧ X = dScan T g (j + 1) D2 false false) →
      am_T l (d + 4) M_R_readDefinition 71 [some (.ref 82), some (.ref o), none, some (.int (nI k))] [] (hm mi2 ml mr) 0 0 (rdP ml mr o mi0 X) := by
    intro j D2 mi2 hj hr2 hat2 hA2 hgv2 hF2 hen2 hit2 x1 x2 x3
    have hl2 := hr2.2.2.2.2.1
    refine am_aload_n rfl rfl ?_
    refine ho_getI rfl (by first | rfl | assumption) rfl ?_
    rw [hat2]
    refine am_aload_n rfl rfl ?_
    refine ho_getI rfl (by first | rfl | assumption) rfl ?_
    rw [hl2]
    refine ho_icmp_lt rfl (by omega) (by omega) (fun z => ?_) (fun z => ?_)
    case refine_2 =>
      refine am_iconst (v := nI 1) rfl (by decide) ?_
      refine am_zreturn rfl rfl (Or.inr rfl) ⟨mi2, rfl, hF2, ?_⟩
      rw [x1 (by omega)]
      exact ⟨rfl, hA2, hgv2⟩
    refine am_bipush (v := nI 124) rfl (by decide) ?_
    refine am_istore_n rfl (Nat.le_of_ble_eq_true rfl) ?_
    show am_T _ _ _ _ [_, _, some _, _] _ _ _ _ _
    refine am_iinc rfl rfl (nI_inc1 _) ?_
    show am_T _ _ _ _ [_, _, _, some _] _ _ _ _ _
    refine am_goto rfl ?_
    refine am_iload_n rfl rfl ?_
    refine am_bipush (v := nI 8) rfl (by decide) ?_
    refine ho_icmp_ge rfl (by omega) (by omega) (fun y => ?_) (fun y => ?_)
    · refine am_iconst (v := nI 0) rfl (by decide) ?_
      refine am_zreturn rfl rfl (Or.inl rfl) ⟨mi2, rfl, hF2, ?_⟩
      rw [x2 z (Or.inr (by omega))]
      exact ⟨rfl, hat2⟩
    refine am_aload_n rfl rfl ?_
    refine am_iload_n rfl rfl ?_
    refine ho_cv1 rfl (by first | rfl | assumption) rfl (Nat.le_of_ble_eq_true rfl) (Nat.le_of_ble_eq_true rfl) (c_R_pass hr2 j hat2 (by omega) 124 (by decide) (by decide)) ?_
    rintro v h' (⟨e1, rfl, rfl⟩ | ⟨e1, rfl, rfl⟩)
    · refine am_if_eq rfl (fun w => by cases w) (fun _ => ?_)
      obtain ⟨g3, c1, c2⟩ := x3 z e1 (by omega)
      refine am_drops [2] ?_
      exact hnext (by omega) g3 (j + 1) D2 _ c1 (by omega) (rd_at (by decide) hr2) (by simp [up2]) (DA_at o39 hA2) (by rw [up2_off _ _ _ (show o ≠ 82 by omega)]; exact hgv2) (hF2.tr FD_at) c2 hen2 hit2
    · refine am_if_eq rfl (fun _ => ?_) (fun w => absurd rfl w)
      refine am_iconst (v := nI 0) rfl (by decide) ?_
      refine am_zreturn rfl rfl (Or.inl rfl) ⟨mi2, rfl, hF2, ?_⟩
      rw [x2 z (Or.inl e1)]
      exact ⟨rfl, hat2⟩
  -- the alternative's end
  have s68 : ∀ (w j : Nat) (mi2 : Nat → Nat → Int32), isE (w, 0, 0) = true → j ≤ T.length → rd 1 cap T mi2 mr → mi2 82 2 = nI j → DA mi2 o D1 → mi2 o 0 = nI 1 → FD o mi0 mi2 → (T.length ≤ j → X = .inr (D1 ++ [(w, 0, 0)])) → (j < T.length → (T.getD j 0 ≠ 124 ∨ 8 ≤ k + 1) → X = .inl j) → (j < T.length → T.getD j 0 = 124 → k + 1 < 8 → ∃ g, T.length < j + 1 + g ∧ X = dScan T g (j + 1) (D1 ++ [(w, 0, 0)]) false false) →
      am_T l (d + 4) M_R_readDefinition 68 [some (.ref 82), some (.ref o), none, some (.int (nI k))] [.int (tlI w), .ref o] (hm mi2 ml mr) 0 0 (rdP ml mr o mi0 X) := by
    intro w j mi2 hE hj hr2 hat2 hA2 hgv2 hF2 x1 x2 x3
    have e1 := (nit_E (D := D1) hE).2
    have e2 := (nit_E (D := D1) hE).1
    refine ho_cv1 rfl (by first | rfl | assumption) rfl (Nat.le_of_ble_eq_true rfl) (Nat.le_of_ble_eq_true rfl) (c_D_addAlternative mi2 hDf (nen D1) (nit D1) hA2.1 (by omega) hA2.2.1 (tlI w)) ?_
    rintro v h' ⟨rfl, rfl⟩
    have hF3 : FD o mi2 (up2 (up2 (up2 mi2 (o + 1) (nen D1) (nI (nit D1))) (o + 2) (nen D1) (tlI w)) o 1 (nI (nen D1 + 1))) := ((FD_up (by omega) o39).tr (FD_up (by omega) o39)).tr (FD_up (by omega) o39)
    refine s71 j (D1 ++ [(w, 0, 0)]) _ hj (hF3.rd ho3 hr2) ?_ (DA_end hA2 hE rfl) ?_ (hF2.tr hF3) (by omega) (by omega) x1 (fun a b => x2 a (b.imp id (fun q => by omega))) (fun a b c => x3 a b (by omega))
    · rw [up2_off _ _ _ (show (82 : Nat) ≠ o by omega), up2_off _ _ _ (show (82 : Nat) ≠ o + 2 by omega), up2_off _ _ _ (show (82 : Nat) ≠ o + 1 by omega)]
      exact hat2
    · rw [← hgv2]
      unfold up2
      rw [if_neg (by omega), if_neg (by omega), if_neg (by omega)]
  refine am_aload_n rfl rfl ?_
  refine am_aload_n rfl rfl ?_
  refine ho_cv0 rfl (by first | rfl | assumption) rfl (Nat.le_of_ble_eq_true rfl) (Nat.le_of_ble_eq_true rfl) (c_R_look hr1 i1 hat1 (by omega)) ?_
  rintro v h' ⟨rfl, rfl⟩
  refine ho_cn1 rfl rfl (Nat.le_of_ble_eq_true rfl) (Nat.le_of_ble_eq_true rfl) (c_X_isNameL hT i1) ?_
  rintro v h' ⟨rfl, rfl⟩
  refine am_if_eq rfl (fun z => ?_) (fun z => ?_)
  · have z := (bI_eq _).mp z
    refine am_iconst (v := -1) rfl (by decide) ?_
    have hclo : clo D1 false = D1 ++ [(0, 0, 0)] := rfl
    have hn1 : nen (clo D1 false) = k + 1 := by rw [hclo, (nit_E rfl).2]; omega
    refine s68 0 i1 mi1 rfl hi1 hr1 hat1 hA1 hgv1 (hF.tr hF1) (fun a => ?_) (fun a b => ?_) (fun a b c => ⟨g2, by omega, ?_⟩)
    · rw [hX1, dScan, if_pos a]
      rfl
    · rw [hX1, dScan, if_neg (by omega), if_neg (fun q => b.elim (fun b => b q.1) (fun b => by omega)), if_neg (by decide), if_neg (fun q => by have := hmk1 q.1; omega), if_neg (by rw [z]; decide)]
      rcases hend1 with e | e
      · rw [if_neg (fun q => e.1 q.2), if_neg (fun q => by rw [e.2] at q; cases q.2)]
      · rw [if_neg (fun q => by omega), if_neg (fun q => by omega)]
    · rw [hX1, dScan, if_neg (by omega), if_pos ⟨b, by omega⟩]
      rfl
  · have z := (bI_ne _).mp z
    have zr := isNam_r z
    have hlt : i1 < T.length := lt_of_getD rfl (by omega)
    refine am_aload_n rfl rfl ?_
    refine ho_cv0 rfl (by first | rfl | assumption) rfl (Nat.le_of_ble_eq_true rfl) (Nat.le_of_ble_eq_true rfl) (c_R_readName mi1 hr1 i1 hat1 z) ?_
    rintro v h' ⟨rfl, rfl⟩
    refine am_goto rfl ?_
    have hE : isE (T.getD i1 0 - 55, 0, 0) = true := by simp only [isE, decide_eq_true_eq]; omega
    have etl : nI (T.getD i1 0 - 65) = tlI (T.getD i1 0 - 55) := by
      unfold tlI
      rw [if_neg (by omega)]
      congr 1
    have hX2 : X = dScan T g2 (i1 + 1) (D1 ++ [(T.getD i1 0 - 55, 0, 0)]) false true := by
      rw [hX1, dScan, if_neg (by omega), if_neg (fun q => by omega), if_neg (by decide), if_neg (fun q => by omega), if_pos z]
    have hn1 : nen (clo (D1 ++ [(T.getD i1 0 - 55, 0, 0)]) true) = k + 1 := by
      show nen (D1 ++ [_]) = _
      rw [(nit_E hE).2]
      omega
    rw [etl]
    refine s68 (T.getD i1 0 - 55) (i1 + 1) _ hE (by omega) (rd_at (by decide) hr1) (by simp [up2]) (DA_at o39 hA1) (by rw [up2_off _ _ _ (show o ≠ 82 by omega)]; exact hgv1) ((hF.tr hF1).tr FD_at) (fun a => ?_) (fun a b => ?_) (fun a b c => ?_)
    · obtain ⟨g3, rfl⟩ : ∃ g3, g2 = g3 + 1 := ⟨g2 - 1, by omega⟩
      rw [hX2, dScan, if_pos a]
      rfl
    · obtain ⟨g3, rfl⟩ : ∃ g3, g2 = g3 + 1 := ⟨g2 - 1, by omega⟩
      rw [hX2, dScan, if_neg (by omega), if_neg (fun q => b.elim (fun b => b q.1) (fun b => by omega)), if_pos rfl]
    · obtain ⟨g3, rfl⟩ : ∃ g3, g2 = g3 + 1 := ⟨g2 - 1, by omega⟩
      refine ⟨g3, by omega, ?_⟩
      rw [hX2, dScan, if_neg (by omega), if_pos ⟨b, by omega⟩]
      rfl
theorem c_R_rd_loop (hDf : isDf mr o) (ho3 : 3 ≤ o) (mi0 : Nat → Nat → Int32) (X : Nat ⊕ List Rt) : ∀ (n k g i : Nat) (D : List Rt) (mi : Nat → Nat → Int32), k + n + 1 = 8 → T.length < i + g → i ≤ T.length → rd 1 cap T mi mr → mi 82 2 = nI i → DA mi o D → mi o 0 = nI 1 → FD o mi0 mi → X = dScan T g i D false false → nen D = k → nit D ≤ 16 →
    am_T l (d + 4) M_R_readDefinition 39 [some (.ref 82), some (.ref o), none, some (.int (nI k))] [] (hm mi ml mr) 0 0 (rdP ml mr o mi0 X) := by
  intro n
  induction n with
  | zero =>
    intro k g i D mi hk hg hi hr hat hA hgv hF hX hen hit
    exact c_R_rd_body hDf ho3 mi0 X k g i D mi (by omega) hg hi hr hat hA hgv hF hX hen hit (fun q => by omega)
  | succ n ih =>
    intro k g i D mi hk hg hi hr hat hA hgv hF hX hen hit
    exact c_R_rd_body hDf ho3 mi0 X k g i D mi (by omega) hg hi hr hat hA hgv hF hX hen hit (fun q g i D mi a1 a2 a3 a4 a5 a6 a7 a8 a9 a10 => ih (k + 1) g i D mi (by omega) a1 a2 a3 a4 a5 a6 a7 a8 a9 a10)
theorem c_R_readDefinition (hDf : isDf mr o) (ho3 : 3 ≤ o) (mi : Nat → Nat → Int32) (hr : rd 1 cap T mi mr) (h0 : 0 < T.length) : am_T l (d + 4) M_R_readDefinition 0 [some (.ref 82), some (.ref o), none, none] [] (hm mi ml mr) 0 0 (rdP ml mr o mi (dRead T)) := by
  have hDf' := hDf
  obtain ⟨o39, k0, k1, k2, k3, k4, k5, r3, r4, r5, r6, r7⟩ := hDf'
  refine am_aload_n rfl rfl ?_
  refine am_iconst (v := nI 1) rfl (by decide) ?_
  refine ho_putI rfl (by first | rfl | assumption) rfl (by first | rfl | assumption) ?_
  refine am_aload_n rfl rfl ?_
  refine am_iconst (v := nI 0) rfl (by decide) ?_
  refine ho_putI rfl (by first | rfl | assumption) rfl rfl ?_
  refine am_aload_n rfl rfl ?_
  refine am_iconst (v := nI 0) rfl (by decide) ?_
  refine ho_putI rfl (by first | rfl | assumption) rfl rfl ?_
  refine am_aload_n rfl rfl ?_
  refine am_iconst (v := nI 1) rfl (by decide) ?_
  refine ho_putI rfl (by first | rfl | assumption) rfl rfl ?_
  refine am_bipush (v := nI 61) rfl (by decide) ?_
  refine am_istore_n rfl (Nat.le_of_ble_eq_true rfl) ?_
  show am_T _ _ _ _ [_, _, some _, _] _ _ _ _ _
  refine am_iconst (v := nI 0) rfl (by decide) ?_
  refine am_istore_n rfl (Nat.le_of_ble_eq_true rfl) ?_
  show am_T _ _ _ _ [_, _, _, some _] _ _ _ _ _
  refine am_iload_n rfl rfl ?_
  refine am_bipush (v := nI 8) rfl (by decide) ?_
  refine ho_icmp_ge rfl (by omega) (by omega) (fun z => absurd z (by omega)) (fun _ => ?_)
  refine am_aload_n rfl rfl ?_
  refine am_iload_n rfl rfl ?_
  have hF : FD o mi (up2 (up2 (up2 (up2 mi o 0 (nI 1)) o 1 (nI 0)) o 2 (nI 0)) 82 2 (nI 1)) := (((FD_up (by omega) o39).tr (FD_up (by omega) o39)).tr (FD_up (by omega) o39)).tr FD_at
  have hr1 := hF.rd ho3 hr
  have hA : DA (up2 (up2 (up2 (up2 mi o 0 (nI 1)) o 1 (nI 0)) o 2 (nI 0)) 82 2 (nI 1)) o [] := by
    refine DA_at o39 ⟨by simp [up2]; rfl, by simp [up2]; rfl, fun P r R h => ?_⟩
    have := congrArg List.length h
    simp at this
  have hgv : (up2 (up2 (up2 (up2 mi o 0 (nI 1)) o 1 (nI 0)) o 2 (nI 0)) 82 2 (nI 1)) o 0 = nI 1 := by
    rw [up2_off _ _ _ (show o ≠ 82 by omega)]
    simp [up2]
  refine ho_cv1 rfl (by first | rfl | assumption) rfl (Nat.le_of_ble_eq_true rfl) (Nat.le_of_ble_eq_true rfl) (c_R_pass hr1 1 (by simp [up2]) (by omega) 61 (by decide) (by decide)) ?_
  rintro v h' (⟨e1, rfl, rfl⟩ | ⟨e1, rfl, rfl⟩)
  · refine am_if_eq rfl (fun w => by cases w) (fun _ => ?_)
    have hl := lt_of_getD e1 (by decide)
    refine am_drops [2] ?_
    unfold dRead
    rw [if_neg (fun q => q e1)]
    exact c_R_rd_loop hDf ho3 mi _ 7 0 T.length 2 [] _ rfl (by omega) (by omega) (rd_at (by decide) hr1) (by simp [up2]) (DA_at o39 hA) (by rw [up2_off _ _ _ (show o ≠ 82 by omega)]; exact hgv) (hF.tr FD_at) rfl rfl (by decide)
  · refine am_if_eq rfl (fun _ => ?_) (fun w => absurd rfl w)
    refine am_iconst (v := nI 0) rfl (by decide) ?_
    refine am_zreturn rfl rfl (Or.inl rfl) ⟨_, rfl, hF, ?_⟩
    unfold dRead
    rw [if_pos e1]
    exact ⟨rfl, by simp [up2]⟩
end R4
