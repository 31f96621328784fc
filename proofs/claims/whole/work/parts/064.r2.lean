/-! the class: reading a definition -/
theorem snoc_split {D P R : List Rt} {x r : Rt} (h : D ++ [x] = P ++ r :: R) : (R = [] ∧ P = D ∧ r = x) ∨ ∃ R', R = R' ++ [x] ∧ D = P ++ r :: R' := by
  by_cases hR : R = []
  · subst hR
    left
    have h1 := List.append_inj' h rfl
    exact ⟨rfl, h1.1.symm, by simpa using h1.2.symm⟩
  · right
    obtain ⟨R', y, rfl⟩ : ∃ R' y, R = R' ++ [y] := ⟨R.dropLast, R.getLast hR, (List.dropLast_concat_getLast hR).symm⟩
    rw [show P ++ r :: (R' ++ [y]) = (P ++ r :: R') ++ [y] by simp] at h
    have h1 := List.append_inj' h rfl
    have h2 : x = y := by simpa using h1.2
    exact ⟨R', by rw [h2], h1.1⟩
theorem nit_lt {D P R : List Rt} {r : Rt} (h : D = P ++ r :: R) : (isE r = false → nit P < nit D) ∧ (isE r = true → nen P < nen D) := by
  have h1 : nit D = nit P + (nit [r] + nit R) := by rw [h, nit_app, show r :: R = [r] ++ R from rfl, nit_app]
  have h2 : nen D = nen P + (nen [r] + nen R) := by rw [h, nen_app, show r :: R = [r] ++ R from rfl, nen_app]
  constructor
  · intro e
    have := (nen_I e).2
    omega
  · intro e
    have := (nen_E e).1
    omega
theorem DA_item {mi : Nat → Nat → Int32} {o : Nat} {D : List Rt} (h : DA mi o D) {w c : Nat} {f x : Int32} (hE : isE (w, c, 0) = false) (hf : f = nI (fx w)) (hx : 2 ≤ w → x = nI c) : DA (up2 (up2 (up2 (up2 mi (o + 3) (nit D) f) (o + 4) (nit D) x) (o + 5) (nit D) (nI 32)) o 2 (nI (nit D + 1))) o (D ++ [(w, c, 0)]) := by
  obtain ⟨h1, h2, h3⟩ := h
  refine ⟨?_, ?_, fun P r R hs => ?_⟩
  · rw [(nit_I hE).2, ← h1]
    unfold up2
    rw [if_neg (by omega), if_neg (by omega), if_neg (by omega), if_neg (by omega)]
  · rw [(nit_I hE).1]
    simp [up2]
  · rcases snoc_split hs with ⟨rfl, rfl, rfl⟩ | ⟨R', rfl, hD⟩
    · refine ⟨fun e => (by rw [hE] at e; cases e), fun _ => ⟨?_, fun h2 => ?_, ?_⟩⟩
      · show _ = nI (fx w)
        rw [← hf]
        unfold up2
        rw [if_neg (by omega), if_neg (by omega), if_neg (by omega), if_pos ⟨rfl, rfl⟩]
      · show _ = nI c
        rw [← hx h2]
        unfold up2
        rw [if_neg (by omega), if_neg (by omega), if_pos ⟨rfl, rfl⟩]
      · show _ = nI (mkc 0)
        unfold up2
        rw [if_neg (by omega), if_pos ⟨rfl, rfl⟩]
        rfl
    · obtain ⟨g1, g2⟩ := h3 P r R' hD
      obtain ⟨l1, l2⟩ := nit_lt hD
      refine ⟨fun e => ?_, fun e => ?_⟩
      · have := l2 e
        unfold up2
        rw [if_neg (by omega), if_neg (by omega), if_neg (by omega), if_neg (by omega), if_neg (by omega), if_neg (by omega), if_neg (by omega), if_neg (by omega)]
        exact g1 e
      · have := l1 e
        unfold up2
        rw [if_neg (by omega), if_neg (by omega), if_neg (by omega), if_neg (by omega), if_neg (by omega), if_neg (by omega), if_neg (by omega), if_neg (by omega), if_neg (by omega), if_neg (by omega), if_neg (by omega), if_neg (by omega)]
        exact g2 e
theorem DA_mark {mi : Nat → Nat → Int32} {o : Nat} {D : List Rt} {w c m : Nat} (hE : ∀ m, isE (w, c, m) = false) (h : DA mi o (D ++ [(w, c, 0)])) : DA (up2 mi (o + 5) (nit D) (nI (mkc m))) o (D ++ [(w, c, m)]) := by
  obtain ⟨h1, h2, h3⟩ := h
  refine ⟨?_, ?_, fun P r R hs => ?_⟩
  · rw [up2_off _ _ _ (show o ≠ o + 5 by omega), h1, (nit_I (hE 0)).2, (nit_I (hE m)).2]
  · rw [up2_off _ _ _ (show o ≠ o + 5 by omega), h2, (nit_I (hE 0)).1, (nit_I (hE m)).1]
  · rw [up2_off _ _ _ (show o + 1 ≠ o + 5 by omega), up2_off _ _ _ (show o + 2 ≠ o + 5 by omega), up2_off _ _ _ (show o + 3 ≠ o + 5 by omega), up2_off _ _ _ (show o + 4 ≠ o + 5 by omega)]
    rcases snoc_split hs with ⟨rfl, rfl, rfl⟩ | ⟨R', rfl, hD⟩
    · obtain ⟨-, g2⟩ := h3 P (w, c, 0) [] rfl
      obtain ⟨g3, g4, -⟩ := g2 (hE 0)
      exact ⟨fun e => (by rw [hE m] at e; cases e), fun _ => ⟨g3, g4, by simp [up2]⟩⟩
    · obtain ⟨g1, g2⟩ := h3 P r (R' ++ [(w, c, 0)]) (by rw [hD]; simp)
      obtain ⟨l1, l2⟩ := nit_lt hD
      refine ⟨g1, fun e => ?_⟩
      have := l1 e
      rw [show up2 mi (o + 5) (nit D) (nI (mkc m)) (o + 5) (nit P) = mi (o + 5) (nit P) by unfold up2; rw [if_neg (by omega)]]
      exact g2 e
theorem DA_end {mi : Nat → Nat → Int32} {o : Nat} {D : List Rt} (h : DA mi o D) {w : Nat} {x : Int32} (hE : isE (w, 0, 0) = true) (hx : x = tlI w) : DA (up2 (up2 (up2 mi (o + 1) (nen D) (nI (nit D))) (o + 2) (nen D) x) o 1 (nI (nen D + 1))) o (D ++ [(w, 0, 0)]) := by
  obtain ⟨h1, h2, h3⟩ := h
  refine ⟨?_, ?_, fun P r R hs => ?_⟩
  · rw [(nit_E hE).2]
    simp [up2]
  · rw [(nit_E hE).1, ← h2]
    unfold up2
    rw [if_neg (by omega), if_neg (by omega), if_neg (by omega)]
  · rcases snoc_split hs with ⟨rfl, rfl, rfl⟩ | ⟨R', rfl, hD⟩
    · refine ⟨fun _ => ⟨?_, ?_⟩, fun e => by rw [hE] at e; cases e⟩
      · unfold up2
        rw [if_neg (by omega), if_neg (by omega), if_pos ⟨rfl, rfl⟩]
      · show _ = tlI w
        rw [← hx]
        unfold up2
        rw [if_neg (by omega), if_pos ⟨rfl, rfl⟩]
    · obtain ⟨g1, g2⟩ := h3 P r R' hD
      obtain ⟨l1, l2⟩ := nit_lt hD
      refine ⟨fun e => ?_, fun e => ?_⟩
      · have := l2 e
        unfold up2
        rw [if_neg (by omega), if_neg (by omega), if_neg (by omega), if_neg (by omega), if_neg (by omega), if_neg (by omega)]
        exact g1 e
      · unfold up2
        rw [if_neg (by omega), if_neg (by omega), if_neg (by omega), if_neg (by omega), if_neg (by omega), if_neg (by omega), if_neg (by omega), if_neg (by omega), if_neg (by omega)]
        exact g2 e
/-- what reading a definition into o may change -/
def FD (o : Nat) (mi mi' : Nat → Nat → Int32) : Prop := (∀ a, (a < o ∨ o + 5 < a) → a ≠ 82 → mi' a = mi a) ∧ ∀ j, j ≠ 2 → mi' 82 j = mi 82 j
theorem FD.rf {o : Nat} {mi : Nat → Nat → Int32} : FD o mi mi := ⟨fun _ _ _ => rfl, fun _ _ => rfl⟩
theorem FD.tr {o : Nat} {mi mi' mi'' : Nat → Nat → Int32} (h : FD o mi mi') (h' : FD o mi' mi'') : FD o mi mi'' := ⟨fun a h1 h2 => (h'.1 a h1 h2).trans (h.1 a h1 h2), fun j hj => (h'.2 j hj).trans (h.2 j hj)⟩
theorem FD_at {o : Nat} {mi : Nat → Nat → Int32} {x : Int32} : FD o mi (up2 mi 82 2 x) := ⟨fun a _ h => up2_off _ _ _ h, fun j hj => by unfold up2; rw [if_neg (by omega)]⟩
theorem FD_up {o k j : Nat} {mi : Nat → Nat → Int32} {x : Int32} (hk : o ≤ k ∧ k ≤ o + 5) (ho : o ≤ 39) : FD o mi (up2 mi k j x) := ⟨fun a h1 _ => up2_off _ _ _ (by omega), fun i _ => by rw [up2_off _ _ _ (by omega)]⟩
theorem FD.rd {o : Nat} {mi mi' : Nat → Nat → Int32} {mr : Nat → Nat → Option Nat} {cap : Nat} {T : List Nat} (h : FD o mi mi') (ho : 3 ≤ o) (hr : rd 1 cap T mi mr) : rd 1 cap T mi' mr := by
  obtain ⟨r1, r2, r3, r4, r5, r6, r7⟩ := hr
  refine ⟨r1, r2, r3, r4, by rw [h.2 1 (by decide)]; exact r5, fun i hi => ?_, r7⟩
  rw [h.1 1 (by omega) (by decide)]
  exact r6 i hi
theorem DA_at {o : Nat} {mi : Nat → Nat → Int32} {x : Int32} {D : List Rt} (ho : o ≤ 39) (h : DA mi o D) : DA (up2 mi 82 2 x) o D := by
  unfold DA
  rw [up2_off _ _ _ (show o ≠ 82 by omega), up2_off _ _ _ (show o + 1 ≠ 82 by omega), up2_off _ _ _ (show o + 2 ≠ 82 by omega), up2_off _ _ _ (show o + 3 ≠ 82 by omega), up2_off _ _ _ (show o + 4 ≠ 82 by omega), up2_off _ _ _ (show o + 5 ≠ 82 by omega)]
  exact h
section R3
variable {l : Launch} {d : Nat} {ml : Nat → Nat → Int64} {mr : Nat → Nat → Option Nat} {cap o : Nat} {T : List Nat}
theorem c_R_readLabel (mi : Nat → Nat → Int32) {w : Nat} (hr : rd w cap T mi mr) (i : Nat) (hi : mi 82 2 = nI i) (hl : isLab (T.getD i 0) = true) : am_T l (d + 1) M_R_readLabel 0 [some (.ref 82), none] [] (hm mi ml mr) 0 0 (fun r h' => r = some (.int (nI (T.getD i 0 - 97))) ∧ h' = hm (up2 mi 82 2 (nI (i + 1))) ml mr) := by
  have hc := isLab_r hl
  have hlt : i < T.length := lt_of_getD rfl (by omega)
  have h80 := hr.2.2.1
  have h81 := hr.2.2.2.1
  refine am_aload_n rfl rfl ?_
  refine ho_cv0 rfl (by first | rfl | assumption) rfl (Nat.le_of_ble_eq_true rfl) (Nat.le_of_ble_eq_true rfl) (c_R_look hr i hi (by omega)) ?_
  rintro v h' ⟨rfl, rfl⟩
  rw [show lkI T i = nI (T.getD i 0) by unfold lkI; rw [if_pos hlt]]
  refine am_bipush (v := nI 97) rfl (by decide) ?_
  first | refine ho_subn rfl (by omega) ?_ | refine am_isub rfl ?_
  refine am_istore_n rfl (Nat.le_of_ble_eq_true rfl) ?_
  show am_T _ _ _ _ [_, some _] _ _ _ _ _
  refine am_aload_n rfl rfl ?_
  refine am_dup rfl rfl ?_
  refine ho_getI rfl (by first | rfl | assumption) rfl ?_
  rw [hi]
  refine am_iconst (v := nI 1) rfl (by decide) ?_
  first | refine ho_addn rfl ?_ | refine am_iadd rfl ?_
  refine ho_putI rfl (by first | rfl | assumption) rfl rfl ?_
  refine am_iload_n rfl rfl ?_
  exact am_ireturn rfl rfl ⟨rfl, rfl⟩
theorem c_R_readName (mi : Nat → Nat → Int32) {w : Nat} (hr : rd w cap T mi mr) (i : Nat) (hi : mi 82 2 = nI i) (hl : isNam (T.getD i 0) = true) : am_T l (d + 1) M_R_readName 0 [some (.ref 82), none] [] (hm mi ml mr) 0 0 (fun r h' => r = some (.int (nI (T.getD i 0 - 65))) ∧ h' = hm (up2 mi 82 2 (nI (i + 1))) ml mr) := by
  have hc := isNam_r hl
  have hlt : i < T.length := lt_of_getD rfl (by omega)
  have h80 := hr.2.2.1
  have h81 := hr.2.2.2.1
  refine am_aload_n rfl rfl ?_
  refine ho_cv0 rfl (by first | rfl | assumption) rfl (Nat.le_of_ble_eq_true rfl) (Nat.le_of_ble_eq_true rfl) (c_R_look hr i hi (by omega)) ?_
  rintro v h' ⟨rfl, rfl⟩
  rw [show lkI T i = nI (T.getD i 0) by unfold lkI; rw [if_pos hlt]]
  refine am_bipush (v := nI 65) rfl (by decide) ?_
  first | refine ho_subn rfl (by omega) ?_ | refine am_isub rfl ?_
  refine am_istore_n rfl (Nat.le_of_ble_eq_true rfl) ?_
  show am_T _ _ _ _ [_, some _] _ _ _ _ _
  refine am_aload_n rfl rfl ?_
  refine am_dup rfl rfl ?_
  refine ho_getI rfl (by first | rfl | assumption) rfl ?_
  rw [hi]
  refine am_iconst (v := nI 1) rfl (by decide) ?_
  first | refine ho_addn rfl ?_ | refine am_iadd rfl ?_
  refine ho_putI rfl (by first | rfl | assumption) rfl rfl ?_
  refine am_iload_n rfl rfl ?_
  exact am_ireturn rfl rfl ⟨rfl, rfl⟩
theorem rd_at {w : Nat} {mi : Nat → Nat → Int32} {x : Int32} (hw : w ≠ 82) (hr : rd w cap T mi mr) : rd w cap T (up2 mi 82 2 x) mr := by
  obtain ⟨r1, r2, r3, r4, r5, r6, r7⟩ := hr
  refine ⟨r1, r2, r3, r4, by rw [show up2 mi 82 2 x 82 1 = mi 82 1 by unfold up2; rw [if_neg (by omega)]]; exact r5, fun i hi => ?_, r7⟩
  rw [up2_off _ _ _ hw]
  exact r6 i hi
theorem up2_2 (mi : Nat → Nat → Int32) (x y : Int32) : up2 (up2 mi 82 2 x) 82 2 y = up2 mi 82 2 y := by
  funext a j
  unfold up2
  split
  · rfl
  · rfl
/-- a name in brackets, from place i on -/
theorem c_R_readNameInBrackets (mi : Nat → Nat → Int32) {w : Nat} (hw : w ≠ 82) (hr : rd w cap T mi mr) (i : Nat) (hi : mi 82 2 = nI i) (hi2 : i < 500) : am_T l (d + 2) M_R_readNameInBrackets 0 [some (.ref 82), none] [] (hm mi ml mr) 0 0 (fun r h' => (T.getD i 0 = 91 ∧ isNam (T.getD (i + 1) 0) = true ∧ T.getD (i + 2) 0 = 93 ∧ r = some (.int (nI (T.getD (i + 1) 0 - 65))) ∧ h' = hm (up2 mi 82 2 (nI (i + 3))) ml mr) ∨ ((r = some (.int (-1)) ∧ ((T.getD i 0 ≠ 91 ∧ h' = hm (up2 mi 82 2 (nI i)) ml mr) ∨ (T.getD i 0 = 91 ∧ isNam (T.getD (i + 1) 0) = false ∧ h' = hm (up2 mi 82 2 (nI (i + 1))) ml mr) ∨ (T.getD i 0 = 91 ∧ isNam (T.getD (i + 1) 0) = true ∧ T.getD (i + 2) 0 ≠ 93 ∧ h' = hm (up2 mi 82 2 (nI (i + 2))) ml mr))))) := by
  have hT := hr.2.2.2.2.2.2
  have hsame : up2 mi 82 2 (nI i) = mi := by
    funext a j
    unfold up2
    split
    · next q => rw [q.1, q.2, hi]
    · rfl
  refine am_aload_n rfl rfl ?_
  refine am_bipush (v := nI 91) rfl (by decide) ?_
  refine ho_cv1 rfl (by first | rfl | assumption) rfl (Nat.le_of_ble_eq_true rfl) (Nat.le_of_ble_eq_true rfl) (c_R_pass hr i hi (by omega) 91 (by decide) (by decide)) ?_
  rintro v h' (⟨e1, rfl, rfl⟩ | ⟨e1, rfl, rfl⟩)
  case inr =>
    refine am_if_eq rfl (fun _ => ?_) (fun z => absurd rfl z)
    refine am_iconst (v := -1) rfl (by decide) ?_
    exact am_ireturn rfl rfl (Or.inr ⟨rfl, Or.inl ⟨e1, by rw [hsame]⟩⟩)
  refine am_if_eq rfl (fun z => by cases z) (fun _ => ?_)
  have hr1 := rd_at (x := nI (i + 1)) hw hr
  refine am_aload_n rfl rfl ?_
  refine ho_cv0 rfl (by first | rfl | assumption) rfl (Nat.le_of_ble_eq_true rfl) (Nat.le_of_ble_eq_true rfl) (c_R_look hr1 (i + 1) (by simp [up2]) (by omega)) ?_
  rintro v h' ⟨rfl, rfl⟩
  refine ho_cn1 rfl rfl (Nat.le_of_ble_eq_true rfl) (Nat.le_of_ble_eq_true rfl) (c_X_isNameL hT (i + 1)) ?_
  rintro v h' ⟨rfl, rfl⟩
  refine am_if_ne rfl (fun y => ?_) (fun y => ?_)
  case refine_2 =>
    refine am_iconst (v := -1) rfl (by decide) ?_
    exact am_ireturn rfl rfl (Or.inr ⟨rfl, Or.inr (Or.inl ⟨e1, (bI_eq _).mp y, rfl⟩)⟩)
  have y := (bI_ne _).mp y
  refine am_aload_n rfl rfl ?_
  refine ho_cv0 rfl (by first | rfl | assumption) rfl (Nat.le_of_ble_eq_true rfl) (Nat.le_of_ble_eq_true rfl) (c_R_readName _ hr1 (i + 1) (by simp [up2]) y) ?_
  rintro v h' ⟨rfl, rfl⟩
  rw [up2_2]
  have hr2 := rd_at (x := nI (i + 2)) hw hr
  refine am_istore_n rfl (Nat.le_of_ble_eq_true rfl) ?_
  show am_T _ _ _ _ [_, some _] _ _ _ _ _
  refine am_aload_n rfl rfl ?_
  refine am_bipush (v := nI 93) rfl (by decide) ?_
  refine ho_cv1 rfl (by first | rfl | assumption) rfl (Nat.le_of_ble_eq_true rfl) (Nat.le_of_ble_eq_true rfl) (c_R_pass hr2 (i + 2) (by simp [up2]) (by omega) 93 (by decide) (by decide)) ?_
  rintro v h' (⟨e2, rfl, rfl⟩ | ⟨e2, rfl, rfl⟩)
  · rw [up2_2]
    refine am_if_eq rfl (fun z => by cases z) (fun _ => ?_)
    refine am_iload_n rfl rfl ?_
    refine am_goto rfl ?_
    exact am_ireturn rfl rfl (Or.inl ⟨e1, y, e2, rfl, rfl⟩)
  · refine am_if_eq rfl (fun _ => ?_) (fun z => absurd rfl z)
    refine am_iconst (v := -1) rfl (by decide) ?_
    exact am_ireturn rfl rfl (Or.inr ⟨rfl, Or.inr (Or.inr ⟨e1, y, e2, rfl⟩)⟩)
theorem c_D_addItem (mi : Nat → Nat → Int32) (hDf : isDf mr o) (n : Nat) (hn : mi o 2 = nI n) (hn16 : n < 16) (f x : Int32) : am_T l d M_D_addItem 0 [some (.ref o), some (.int f), some (.int x)] [] (hm mi ml mr) 0 0 (fun r h' => r = none ∧ h' = hm (up2 (up2 (up2 (up2 mi (o + 3) n f) (o + 4) n x) (o + 5) n (nI 32)) o 2 (nI (n + 1))) ml mr) := by
  obtain ⟨o39, k0, k1, k2, k3, k4, k5, r3, r4, r5, r6, r7⟩ := hDf
  have hch : vp_nar .char (nI 32) = nI 32 := by decide
  refine am_aload_n rfl rfl ?_
  refine ho_getI rfl (by first | rfl | assumption) rfl ?_
  rw [hn]
  refine am_bipush (v := nI 16) rfl (by decide) ?_
  refine ho_icmp_ge rfl (by omega) (by omega) (fun z => absurd z (by omega)) (fun _ => ?_)
  refine am_aload_n rfl rfl ?_
  refine ho_getR rfl (by first | rfl | assumption) rfl (by first | assumption | exact hR _ _ _ rfl) ?_
  refine am_aload_n rfl rfl ?_
  refine ho_getI rfl (by first | rfl | assumption) rfl ?_
  rw [hn]
  refine am_iload_n rfl rfl ?_
  refine ho_iastore rfl (by first | rfl | assumption) (by omega) ?_
  refine am_aload_n rfl rfl ?_
  refine ho_getR rfl (by first | rfl | assumption) rfl (by first | assumption | exact hR _ _ _ rfl) ?_
  refine am_aload_n rfl rfl ?_
  refine ho_getI rfl (by first | rfl | assumption) rfl ?_
  rw [up2_off _ _ _ (show o ≠ o + 3 by omega), hn]
  refine am_iload_n rfl rfl ?_
  refine ho_iastore rfl (by first | rfl | assumption) (by omega) ?_
  refine am_aload_n rfl rfl ?_
  refine ho_getR rfl (by first | rfl | assumption) rfl (by first | assumption | exact hR _ _ _ rfl) ?_
  refine am_aload_n rfl rfl ?_
  refine ho_getI rfl (by first | rfl | assumption) rfl ?_
  rw [up2_off _ _ _ (show o ≠ o + 4 by omega), up2_off _ _ _ (show o ≠ o + 3 by omega), hn]
  refine am_bipush (v := nI 32) rfl (by decide) ?_
  refine ho_castore rfl (by first | rfl | assumption) (by omega) (by assumption) ?_
  refine am_aload_n rfl rfl ?_
  refine am_dup rfl rfl ?_
  refine ho_getI rfl (by first | rfl | assumption) rfl ?_
  rw [up2_off _ _ _ (show o ≠ o + 5 by omega), up2_off _ _ _ (show o ≠ o + 4 by omega), up2_off _ _ _ (show o ≠ o + 3 by omega), hn]
  refine am_iconst (v := nI 1) rfl (by decide) ?_
  first | refine ho_addn rfl ?_ | refine am_iadd rfl ?_
  refine ho_putI rfl (by first | rfl | assumption) rfl rfl ?_
  exact am_return rfl rfl ⟨rfl, rfl⟩
theorem c_D_addAlternative (mi : Nat → Nat → Int32) (hDf : isDf mr o) (n k : Nat) (hn : mi o 1 = nI n) (hn8 : n < 8) (hk : mi o 2 = nI k) (x : Int32) : am_T l d M_D_addAlternative 0 [some (.ref o), some (.int x)] [] (hm mi ml mr) 0 0 (fun r h' => r = none ∧ h' = hm (up2 (up2 (up2 mi (o + 1) n (nI k)) (o + 2) n x) o 1 (nI (n + 1))) ml mr) := by
  obtain ⟨o39, k0, k1, k2, k3, k4, k5, r3, r4, r5, r6, r7⟩ := hDf
  refine am_aload_n rfl rfl ?_
  refine ho_getI rfl (by first | rfl | assumption) rfl ?_
  rw [hn]
  refine am_bipush (v := nI 8) rfl (by decide) ?_
  refine ho_icmp_ge rfl (by omega) (by omega) (fun z => absurd z (by omega)) (fun _ => ?_)
  refine am_aload_n rfl rfl ?_
  refine ho_getR rfl (by first | rfl | assumption) rfl (by first | assumption | exact hR _ _ _ rfl) ?_
  refine am_aload_n rfl rfl ?_
  refine ho_getI rfl (by first | rfl | assumption) rfl ?_
  rw [hn]
  refine am_aload_n rfl rfl ?_
  refine ho_getI rfl (by first | rfl | assumption) rfl ?_
  rw [hk]
  refine ho_iastore rfl (by first | rfl | assumption) (by omega) ?_
  refine am_aload_n rfl rfl ?_
  refine ho_getR rfl (by first | rfl | assumption) rfl (by first | assumption | exact hR _ _ _ rfl) ?_
  refine am_aload_n rfl rfl ?_
  refine ho_getI rfl (by first | rfl | assumption) rfl ?_
  rw [up2_off _ _ _ (show o ≠ o + 1 by omega), hn]
  refine am_iload_n rfl rfl ?_
  refine ho_iastore rfl (by first | rfl | assumption) (by omega) ?_
  refine am_aload_n rfl rfl ?_
  refine am_dup rfl rfl ?_
  refine ho_getI rfl (by first | rfl | assumption) rfl ?_
  rw [up2_off _ _ _ (show o ≠ o + 2 by omega), up2_off _ _ _ (show o ≠ o + 1 by omega), hn]
  refine am_iconst (v := nI 1) rfl (by decide) ?_
  first | refine ho_addn rfl ?_ | refine am_iadd rfl ?_
  refine ho_putI rfl (by first | rfl | assumption) rfl rfl ?_
  exact am_return rfl rfl ⟨rfl, rfl⟩
/-- how readItems ends -/
def riP (ml : Nat → Nat → Int64) (mr : Nat → Nat → Option Nat) (o : Nat) (T : List Nat) (mi : Nat → Nat → Int32) (X : Nat ⊕ List Rt) (D : List Rt) (r : Option Value) (h' : am_H) : Prop := ∃ mi', h' = hm mi' ml mr ∧ FD o mi mi' ∧ ((∃ s, r = some (.int (bI false)) ∧ mi' 82 2 = nI s ∧ X = .inl s) ∨ (r = some (.int (bI true)) ∧ mi' o 0 = nI 1 ∧ ∃ g i D' mq, DA mi' o D' ∧ mi' 82 2 = nI i ∧ i ≤ T.length ∧ T.length < i + g ∧ X = dScan T g i D' mq false ∧ nen D' = nen D ∧ nit D' ≤ 16 ∧ (mq = true → T.getD i 0 ≠ 42 ∧ T.getD i 0 ≠ 63) ∧ ((T.getD i 0 ≠ 35 ∧ isLab (T.getD i 0) = false) ∨ 16 ≤ nit D')))
theorem nI_ne_m1 {k : Nat} (h : k < 127) : ¬ nI k = -1 := by
  have : ∀ k, k < 127 → ¬ nI k = -1 := by decide
  exact this k h
theorem c_R_readItems_loop (hDf : isDf mr o) (ho3 : 3 ≤ o) (mi0 : Nat → Nat → Int32) (X : Nat ⊕ List Rt) (D0 : List Rt) : ∀ (n k g i : Nat) (D : List Rt) (mq : Bool) (mi : Nat → Nat → Int32), k + n = 16 → T.length < i + g → i ≤ T.length → rd 1 cap T mi mr → mi 82 2 = nI i → DA mi o D → mi o 0 = nI 1 → FD o mi0 mi → X = dScan T g i D mq false → nen D = nen D0 → nit D ≤ 16 → nen D0 < 8 → k ≤ nit D → (mq = true → T.getD i 0 ≠ 42 ∧ T.getD i 0 ≠ 63) →
    am_T l (d + 3) M_R_readItems 2 [some (.ref 82), some (.ref o), some (.int (nI k)), none, none] [] (hm mi ml mr) 0 0 (riP ml mr o T mi0 X D0) := by
  have hDf' := hDf
  obtain ⟨o39, k0, k1, k2, k3, k4, k5, r3, r4, r5, r6, r7⟩ := hDf'
  intro n
  induction n with
  | zero =>
    intro k g i D mq mi hk hg hi hr hat hA hgv hF hX hen hit hen8 hkn hmk
    refine am_iload_n rfl rfl ?_
    refine am_bipush (v := nI 16) rfl (by decide) ?_
    refine ho_icmp_ge rfl (by omega) (by omega) (fun _ => ?_) (fun z => absurd (by omega) z)
    refine am_iconst (v := nI 1) rfl (by decide) ?_
    exact am_zreturn rfl rfl (Or.inr rfl) ⟨mi, rfl, hF, Or.inr ⟨rfl, hgv, g, i, D, mq, hA, hat, hi, hg, hX, hen, hit, hmk, Or.inr (by omega)⟩⟩
  | succ n ih =>
    intro k g i D mq mi hk hg hi hr hat hA hgv hF hX hen hit hen8 hkn hmk
    have hr' := hr
    obtain ⟨q1, q2, q3, q4, q5, q6, q7⟩ := hr'
    refine am_iload_n rfl rfl ?_
    refine am_bipush (v := nI 16) rfl (by decide) ?_
    refine ho_icmp_ge rfl (by omega) (by omega) (fun z => absurd z (by omega)) (fun _ => ?_)
    -- the mark, and on
    have s82 : ∀ (g' j w c : Nat) (mi' : Nat → Nat → Int32) (x3 x4 : Option Value), 1 ≤ w → w ≤ 5 → i < j → j ≤ T.length → T.length < j + g' → rd 1 cap T mi' mr → mi' 82 2 = nI j → DA mi' o (D ++ [(w, c, 0)]) → mi' o 0 = nI 1 → FD o mi0 mi' → X = dScan T g' j (D ++ [(w, c, 0)]) true false → nit D < 16 →
        am_T l (d + 3) M_R_readItems 82 [some (.ref 82), some (.ref o), some (.int (nI k)), x3, x4] [] (hm mi' ml mr) 0 0 (riP ml mr o T mi0 X D0) := by
      intro g' j w c mi' x3 x4 w1 w5 hij hj hg' hr2 hat2 hA2 hgv2 hF2 hX2 h16
      have hE2 : ∀ m, isE (w, c, m) = false := fun m => by simp only [isE, decide_eq_false_iff_not]; omega
      have s130 : ∀ (g'' j' m : Nat) (mq' : Bool) (mi'' : Nat → Nat → Int32), j' ≤ T.length → T.length < j' + g'' → rd 1 cap T mi'' mr → mi'' 82 2 = nI j' → DA mi'' o (D ++ [(w, c, m)]) → mi'' o 0 = nI 1 → FD o mi0 mi'' → X = dScan T g'' j' (D ++ [(w, c, m)]) mq' false → (mq' = true → T.getD j' 0 ≠ 42 ∧ T.getD j' 0 ≠ 63) →
          am_T l (d + 3) M_R_readItems 130 [some (.ref 82), some (.ref o), some (.int (nI k)), x3, x4] [] (hm mi'' ml mr) 0 0 (riP ml mr o T mi0 X D0) := by
        intro g'' j' m mq' mi'' a1 a2 a3 a4 a5 a6 a7 a8 a9
        refine am_iinc rfl rfl (nI_inc1 _) ?_
        show am_T _ _ _ _ [_, _, some _, _, _] _ _ _ _ _
        refine am_goto rfl ?_
        refine am_drops [3, 4] ?_
        have e1 := (nit_I (D := D) (hE2 m)).1
        have e2 := (nit_I (D := D) (hE2 m)).2
        exact ih (k + 1) g'' j' _ mq' mi'' (by omega) a2 a1 a3 a4 a5 a6 a7 a8 (by omega) (by omega) hen8 (by omega) a9
      refine am_aload_n rfl rfl ?_
      refine ho_cv0 rfl (by first | rfl | assumption) rfl (Nat.le_of_ble_eq_true rfl) (Nat.le_of_ble_eq_true rfl) (c_R_look hr2 j hat2 (by omega)) ?_
      rintro v h' ⟨rfl, rfl⟩
      refine am_bipush (v := nI 42) rfl (by decide) ?_
      have s100 : (T.getD j 0 = 42 ∨ T.getD j 0 = 63) → am_T l (d + 3) M_R_readItems 100 [some (.ref 82), some (.ref o), some (.int (nI k)), x3, x4] [] (hm mi' ml mr) 0 0 (riP ml mr o T mi0 X D0) := by
        intro hor
        have hjl : j < T.length := lt_of_getD rfl (by omega)
        obtain ⟨u1, u2, u3, u4, u5, u6, u7⟩ := hr2
        have hmc : T.getD j 0 = mkc (if T.getD j 0 = 42 then 1 else 2) := by
          rcases hor with e | e <;> rw [e] <;> rfl
        refine am_aload_n rfl rfl ?_
        refine ho_getR rfl (by first | rfl | assumption) rfl (by first | assumption | exact hR _ _ _ rfl) ?_
        refine am_aload_n rfl rfl ?_
        refine ho_getI rfl (by first | rfl | assumption) rfl ?_
        rw [hA2.2.1, (nit_I (hE2 0)).1]
        refine am_iconst (v := nI 1) rfl (by decide) ?_
        first | refine ho_subn rfl (by omega) ?_ | refine am_isub rfl ?_
        refine am_aload_n rfl rfl ?_
        refine ho_getR rfl (by first | rfl | assumption) rfl (by first | assumption | exact hR _ _ _ rfl) ?_
        refine am_aload_n rfl rfl ?_
        refine ho_getI rfl (by first | rfl | assumption) rfl ?_
        rw [hat2, Nat.add_sub_cancel]
        refine ho_caload rfl q2 (by omega) ?_
        rw [u6 j hjl]
        have hch : vp_nar .char (nI (T.getD j 0)) = nI (T.getD j 0) := by
          have := okT_at q7 j
          exact am_char_nar (nI_pos' (by omega)) (by have := nI_le (a := T.getD j 0) (b := 65535) (by omega) (by omega); exact this)
        refine ho_castore rfl k5 (by omega) hch ?_
        refine am_aload_n rfl rfl ?_
        refine am_dup rfl rfl ?_
        refine ho_getI rfl (by first | rfl | assumption) rfl ?_
        rw [up2_off _ _ _ (show (82 : Nat) ≠ o + 5 by omega), hat2]
        refine am_iconst (v := nI 1) rfl (by decide) ?_
        first | refine ho_addn rfl ?_ | refine am_iadd rfl ?_
        refine ho_putI rfl (by first | rfl | assumption) rfl rfl ?_
        have hF3 : FD o mi' (up2 mi' (o + 5) (nit D) (nI (T.getD j 0))) := FD_up (by omega) o39
        obtain ⟨g'', rfl⟩ : ∃ g'', g' = g'' + 1 := ⟨g' - 1, by omega⟩
        refine s130 g'' (j + 1) (if T.getD j 0 = 42 then 1 else 2) false _ (by omega) (by omega) (rd_at (by decide) (hF3.rd ho3 ⟨u1, u2, u3, u4, u5, u6, u7⟩)) (by simp [up2]) ?_ ?_ ((hF2.tr hF3).tr FD_at) ?_ (fun e => by cases e)
        · refine DA_at o39 ?_
          have := DA_mark (m := if T.getD j 0 = 42 then 1 else 2) hE2 hA2
          rw [← hmc] at this
          exact this
        · rw [up2_off _ _ _ (show o ≠ 82 by omega), up2_off _ _ _ (show o ≠ o + 5 by omega)]
          exact hgv2
        · rw [hX2, dScan, if_neg (by omega), if_neg (fun q => by omega), if_neg (by decide), if_pos ⟨rfl, hor⟩, setm_app]
      refine am_icmp_eq rfl (fun z => s100 (Or.inl ((lkI_eq q7 (by decide) (by decide)).mp z))) (fun z => ?_)
      refine am_aload_n rfl rfl ?_
      refine ho_cv0 rfl (by first | rfl | assumption) rfl (Nat.le_of_ble_eq_true rfl) (Nat.le_of_ble_eq_true rfl) (c_R_look hr2 j hat2 (by omega)) ?_
      rintro v h' ⟨rfl, rfl⟩
      refine am_bipush (v := nI 63) rfl (by decide) ?_
      refine am_icmp_ne rfl (fun y => ?_) (fun y => s100 (Or.inr ((lkI_eq q7 (by decide) (by decide)).mp y)))
      exact s130 g' j 0 true mi' hj hg' hr2 hat2 hA2 hgv2 hF2 hX2 (fun _ => ⟨fun q => z ((lkI_eq q7 (by decide) (by decide)).mpr q), fun q => y ((lkI_eq q7 (by decide) (by decide)).mpr q)⟩)
    have s27 : (T.getD i 0 = 35 ∨ isLab (T.getD i 0) = true) → am_T l (d + 3) M_R_readItems 27 [some (.ref 82), some (.ref o), some (.int (nI k)), none, none] [] (hm mi ml mr) 0 0 (riP ml mr o T mi0 X D0) := by
      intro hor
      have hcr : T.getD i 0 = 35 ∨ (97 ≤ T.getD i 0 ∧ T.getD i 0 ≤ 100) := hor.imp id isLab_r
      have hil : i < T.length := lt_of_getD rfl (by omega)
      obtain ⟨g', rfl⟩ : ∃ g', g = g' + 1 := ⟨g - 1, by omega⟩
      have hnam : isNam (T.getD i 0) = false := by
        simp only [isNam, decide_eq_false_iff_not]
        omega
      have hX1 : X = if nit D < 16 ∧ T.getD i 0 = 35 then dScan T g' (i + 1) (D ++ [(1, 0, 0)]) true false
    else if nit D < 16 ∧ isLab (T.getD i 0) = true then (if T.getD (i + 1) 0 ≠ 91 then .inl (i + 1) else if isNam (T.getD (i + 2) 0) = false then .inl (i + 2) else if T.getD (i + 3) 0 ≠ 93 then .inl (i + 3) else
      dScan T g' (i + 4) (D ++ [(T.getD i 0 - 95, T.getD (i + 2) 0 - 65, 0)]) true false)
    else .inl i := by
        rw [hX, dScan, if_neg (by omega), if_neg (fun q => by omega), if_neg (by decide), if_neg (fun q => by omega), if_neg (by rw [hnam]; decide)]
      refine am_aload_n rfl rfl ?_
      refine ho_getI rfl (by first | rfl | assumption) rfl ?_
      rw [hA.2.1]
      refine am_bipush (v := nI 16) rfl (by decide) ?_
      refine ho_icmp_lt rfl (by omega) (by omega) (fun h16 => ?_) (fun h16 => ?_)
      case refine_2 =>
        refine am_iconst (v := nI 0) rfl (by decide) ?_
        rw [if_neg (fun q => h16 q.1), if_neg (fun q => h16 q.1)] at hX1
        exact am_zreturn rfl rfl (Or.inl rfl) ⟨mi, rfl, hF, Or.inl ⟨i, rfl, hat, hX1⟩⟩
      refine am_aload_n rfl rfl ?_
      refine am_bipush (v := nI 35) rfl (by decide) ?_
      refine ho_cv1 rfl (by first | rfl | assumption) rfl (Nat.le_of_ble_eq_true rfl) (Nat.le_of_ble_eq_true rfl) (c_R_pass hr i hat (by omega) 35 (by decide) (by decide)) ?_
      rintro v h' (⟨e1, rfl, rfl⟩ | ⟨e1, rfl, rfl⟩)
      · refine am_if_eq rfl (fun z => by cases z) (fun _ => ?_)
        rw [if_pos ⟨h16, e1⟩] at hX1
        refine am_aload_n rfl rfl ?_
        refine am_iconst (v := nI 4) rfl (by decide) ?_
        refine am_iconst (v := -1) rfl (by decide) ?_
        have hA1 := DA_at (x := nI (i + 1)) o39 hA
        refine ho_cv2 rfl (by first | rfl | assumption) rfl (Nat.le_of_ble_eq_true rfl) (Nat.le_of_ble_eq_true rfl) (c_D_addItem _ hDf (nit D) hA1.2.1 h16 (nI 4) (-1)) ?_
        rintro v h' ⟨rfl, rfl⟩
        refine am_goto rfl ?_
        have hF1 : FD o (up2 mi 82 2 (nI (i + 1))) (up2 (up2 (up2 (up2 (up2 mi 82 2 (nI (i + 1))) (o + 3) (nit D) (nI 4)) (o + 4) (nit D) (-1)) (o + 5) (nit D) (nI 32)) o 2 (nI (nit D + 1))) := (((FD_up (by omega) o39).tr (FD_up (by omega) o39)).tr (FD_up (by omega) o39)).tr (FD_up (by omega) o39)
        refine s82 g' (i + 1) 1 0 _ _ _ (by decide) (by decide) (by omega) (by omega) (by omega) (hF1.rd ho3 (rd_at (by decide) hr)) ?_ (DA_item hA1 rfl rfl (fun q => by omega)) ?_ ((hF.tr FD_at).tr hF1) hX1 h16
        · rw [up2_off _ _ _ (show (82 : Nat) ≠ o by omega), up2_off _ _ _ (show (82 : Nat) ≠ o + 5 by omega), up2_off _ _ _ (show (82 : Nat) ≠ o + 4 by omega), up2_off _ _ _ (show (82 : Nat) ≠ o + 3 by omega)]
          simp [up2]
        · rw [← hgv]
          unfold up2
          rw [if_neg (by omega), if_neg (by omega), if_neg (by omega), if_neg (by omega), if_neg (by omega)]
      · have hlab : isLab (T.getD i 0) = true := hor.resolve_left e1
        have hlr := isLab_r hlab
        refine am_if_eq rfl (fun _ => ?_) (fun z => absurd rfl z)
        rw [if_neg (fun q => e1 q.2), if_pos ⟨h16, hlab⟩] at hX1
        refine am_aload_n rfl rfl ?_
        refine ho_cv0 rfl (by first | rfl | assumption) rfl (Nat.le_of_ble_eq_true rfl) (Nat.le_of_ble_eq_true rfl) (c_R_readLabel mi hr i hat hlab) ?_
        rintro v h' ⟨rfl, rfl⟩
        refine am_istore_n rfl (Nat.le_of_ble_eq_true rfl) ?_
        show am_T _ _ _ _ [_, _, _, some _, _] _ _ _ _ _
        refine am_aload_n rfl rfl ?_
        refine ho_cv0 rfl (by first | rfl | assumption) rfl (Nat.le_of_ble_eq_true rfl) (Nat.le_of_ble_eq_true rfl) (c_R_readNameInBrackets _ (by decide) (rd_at (by decide) hr) (i + 1) (by simp [up2]) (by omega)) ?_
        rintro v h' (⟨b1, b2, b3, rfl, rfl⟩ | ⟨rfl, hb⟩)
        · rw [up2_2]
          have b2r := isNam_r b2
          have hl3 := lt_of_getD b3 (by decide)
          rw [if_neg (fun q => q b1), if_neg (by rw [show i + 2 = i + 1 + 1 from rfl, b2]; decide), if_neg (fun q => q b3)] at hX1
          refine am_istore rfl (Nat.le_of_ble_eq_true rfl) ?_
          show am_T _ _ _ _ [_, _, _, _, some _] _ _ _ _ _
          refine am_iload rfl rfl ?_
          refine am_iconst (v := -1) rfl (by decide) ?_
          refine am_icmp_ne rfl (fun _ => ?_) (fun z => absurd z (nI_ne_m1 (by omega)))
          refine am_aload_n rfl rfl ?_
          refine am_iload_n rfl rfl ?_
          refine am_iload rfl rfl ?_
          have hA1 := DA_at (x := nI (i + 1 + 3)) o39 hA
          refine ho_cv2 rfl (by first | rfl | assumption) rfl (Nat.le_of_ble_eq_true rfl) (Nat.le_of_ble_eq_true rfl) (c_D_addItem _ hDf (nit D) hA1.2.1 h16 (nI (T.getD i 0 - 97)) (nI (T.getD (i + 1 + 1) 0 - 65))) ?_
          rintro v h' ⟨rfl, rfl⟩
          have hF1 : FD o (up2 mi 82 2 (nI (i + 1 + 3))) (up2 (up2 (up2 (up2 (up2 mi 82 2 (nI (i + 1 + 3))) (o + 3) (nit D) (nI (T.getD i 0 - 97))) (o + 4) (nit D) (nI (T.getD (i + 1 + 1) 0 - 65))) (o + 5) (nit D) (nI 32)) o 2 (nI (nit D + 1))) := (((FD_up (by omega) o39).tr (FD_up (by omega) o39)).tr (FD_up (by omega) o39)).tr (FD_up (by omega) o39)
          refine s82 g' (i + 4) (T.getD i 0 - 95) (T.getD (i + 2) 0 - 65) _ _ _ (by omega) (by omega) (by omega) (by omega) (by omega) (hF1.rd ho3 (rd_at (by decide) hr)) ?_ (DA_item hA1 (by simp only [isE, decide_eq_false_iff_not]; omega) ?_ (fun _ => rfl)) ?_ ((hF.tr FD_at).tr hF1) hX1 h16
          · rw [up2_off _ _ _ (show (82 : Nat) ≠ o by omega), up2_off _ _ _ (show (82 : Nat) ≠ o + 5 by omega), up2_off _ _ _ (show (82 : Nat) ≠ o + 4 by omega), up2_off _ _ _ (show (82 : Nat) ≠ o + 3 by omega)]
            simp [up2]
          · unfold fx
            rw [if_neg (by omega)]
            congr 1
          · rw [← hgv]
            unfold up2
            rw [if_neg (by omega), if_neg (by omega), if_neg (by omega), if_neg (by omega), if_neg (by omega)]
        · have hfin : ∃ s, X = .inl s ∧ h' = hm (up2 mi 82 2 (nI s)) ml mr := by
            rcases hb with ⟨b1, rfl⟩ | ⟨b1, b2, rfl⟩ | ⟨b1, b2, b3, rfl⟩
            · rw [if_pos b1] at hX1
              exact ⟨_, hX1, by rw [up2_2]⟩
            · rw [if_neg (fun q => q b1), if_pos b2] at hX1
              exact ⟨_, hX1, by rw [up2_2]⟩
            · rw [if_neg (fun q => q b1), if_neg (by rw [show i + 2 = i + 1 + 1 from rfl, b2]; decide), if_pos b3] at hX1
              exact ⟨_, hX1, by rw [up2_2]⟩
          obtain ⟨s, hs, rfl⟩ := hfin
          refine am_istore rfl (Nat.le_of_ble_eq_true rfl) ?_
          show am_T _ _ _ _ [_, _, _, _, some _] _ _ _ _ _
          refine am_iload rfl rfl ?_
          refine am_iconst (v := -1) rfl (by decide) ?_
          refine am_icmp_ne rfl (fun z => absurd rfl z) (fun _ => ?_)
          refine am_iconst (v := nI 0) rfl (by decide) ?_
          exact am_zreturn rfl rfl (Or.inl rfl) ⟨_, rfl, hF.tr FD_at, Or.inl ⟨s, rfl, by simp [up2], hs⟩⟩
    refine am_aload_n rfl rfl ?_
    refine ho_cv0 rfl (by first | rfl | assumption) rfl (Nat.le_of_ble_eq_true rfl) (Nat.le_of_ble_eq_true rfl) (c_R_look hr i hat (by omega)) ?_
    rintro v h' ⟨rfl, rfl⟩
    refine am_bipush (v := nI 35) rfl (by decide) ?_
    refine am_icmp_eq rfl (fun z => s27 (Or.inl ((lkI_eq q7 (by decide) (by decide)).mp z))) (fun z => ?_)
    refine am_aload_n rfl rfl ?_
    refine ho_cv0 rfl (by first | rfl | assumption) rfl (Nat.le_of_ble_eq_true rfl) (Nat.le_of_ble_eq_true rfl) (c_R_look hr i hat (by omega)) ?_
    rintro v h' ⟨rfl, rfl⟩
    refine ho_cn1 rfl rfl (Nat.le_of_ble_eq_true rfl) (Nat.le_of_ble_eq_true rfl) (c_X_isLabelL q7 i) ?_
    rintro v h' ⟨rfl, rfl⟩
    refine am_if_eq rfl (fun y => ?_) (fun y => s27 (Or.inr ((bI_ne _).mp y)))
    refine am_iconst (v := nI 1) rfl (by decide) ?_
    exact am_zreturn rfl rfl (Or.inr rfl) ⟨mi, rfl, hF, Or.inr ⟨rfl, hgv, g, i, D, mq, hA, hat, hi, hg, hX, hen, hit, hmk, Or.inl ⟨fun q => z ((lkI_eq q7 (by decide) (by decide)).mpr q), (bI_eq _).mp y⟩⟩⟩
end R3
