/-! the class: the reader's look, pass; readHedge -/
/-- the reader reads the text T in the row w -/
def rd (w cap : Nat) (T : List Nat) (mi : Nat → Nat → Int32) (mr : Nat → Nat → Option Nat) : Prop := mr 82 0 = some w ∧ hs_kind w = (true, 2, cap) ∧ T.length ≤ cap ∧ cap ≤ 80 ∧ mi 82 1 = nI T.length ∧ txt mi w T ∧ okT T
def lkI (T : List Nat) (i : Nat) : Int32 := if i < T.length then nI (T.getD i 0) else -1
theorem getD_ge {T : List Nat} {i : Nat} (h : T.length ≤ i) : T.getD i 0 = 0 := by
  rw [List.getD_eq_getElem?_getD, List.getElem?_eq_none h]
  rfl
theorem lkI_eq {T : List Nat} (hT : okT T) {i c : Nat} (hc : c ≠ 0) (hc2 : c < 127) : lkI T i = nI c ↔ T.getD i 0 = c := by
  unfold lkI
  by_cases h : i < T.length
  · rw [if_pos h]
    have := okT_at hT i
    exact nI_eq (by omega) (by omega)
  · rw [if_neg h, getD_ge (by omega)]
    constructor
    · intro z
      have : ∀ c, c < 127 → ¬ (-1 : Int32) = nI c := by decide
      exact absurd z (this c hc2)
    · intro z
      exact absurd z.symm hc
section R1
variable {l : Launch} {d : Nat} {mi : Nat → Nat → Int32} {ml : Nat → Nat → Int64} {mr : Nat → Nat → Option Nat} {w cap : Nat} {T : List Nat}
theorem c_R_look (hr : rd w cap T mi mr) (i : Nat) (hi : mi 82 2 = nI i) (hi2 : i < 1000) : am_T l d M_R_look 0 [some (.ref 82)] [] (hm mi ml mr) 0 0 (fun r h' => r = some (.int (lkI T i)) ∧ h' = hm mi ml mr) := by
  obtain ⟨r1, r2, r3, r4, r5, r6, r7⟩ := hr
  refine am_aload_n rfl rfl ?_
  refine ho_getI rfl (by first | rfl | assumption) rfl ?_
  rw [hi]
  refine am_aload_n rfl rfl ?_
  refine ho_getI rfl (by first | rfl | assumption) rfl ?_
  rw [r5]
  refine ho_icmp_ge rfl (by omega) (by omega) (fun z => ?_) (fun z => ?_)
  · refine am_iconst (v := -1) rfl (by decide) ?_
    exact am_ireturn rfl rfl ⟨by unfold lkI; rw [if_neg (by omega)], rfl⟩
  · refine am_aload_n rfl rfl ?_
    refine ho_getR rfl (by first | rfl | assumption) rfl (by first | assumption | exact hR _ _ _ rfl) ?_
    refine am_aload_n rfl rfl ?_
    refine ho_getI rfl (by first | rfl | assumption) rfl ?_
    rw [hi]
    refine ho_caload rfl r2 (by omega) ?_
    rw [r6 i (by omega)]
    refine am_goto rfl ?_
    exact am_ireturn rfl rfl ⟨by unfold lkI; rw [if_pos (by omega)], rfl⟩
theorem c_R_pass (hr : rd w cap T mi mr) (i : Nat) (hi : mi 82 2 = nI i) (hi2 : i < 1000) (c : Nat) (hc : c ≠ 0) (hc2 : c < 127) : am_T l (d + 1) M_R_pass 0 [some (.ref 82), some (.int (nI c))] [] (hm mi ml mr) 0 0 (fun r h' => (T.getD i 0 = c ∧ r = some (.int (bI true)) ∧ h' = hm (up2 mi 82 2 (nI (i + 1))) ml mr) ∨ (T.getD i 0 ≠ c ∧ r = some (.int (bI false)) ∧ h' = hm mi ml mr)) := by
  have hT := hr.2.2.2.2.2.2
  refine am_aload_n rfl rfl ?_
  refine ho_cv0 rfl (by first | rfl | assumption) rfl (Nat.le_of_ble_eq_true rfl) (Nat.le_of_ble_eq_true rfl) (c_R_look hr i hi hi2) ?_
  rintro v h' ⟨rfl, rfl⟩
  refine am_iload_n rfl rfl ?_
  refine am_icmp_eq rfl (fun z => ?_) (fun z => ?_)
  · refine am_aload_n rfl rfl ?_
    refine am_dup rfl rfl ?_
    refine ho_getI rfl (by first | rfl | assumption) rfl ?_
    rw [hi]
    refine am_iconst (v := nI 1) rfl (by decide) ?_
    first | refine ho_addn rfl ?_ | refine am_iadd rfl ?_
    refine ho_putI rfl (by first | rfl | assumption) rfl rfl ?_
    refine am_iconst (v := nI 1) rfl (by decide) ?_
    exact am_zreturn rfl rfl (Or.inr rfl) (Or.inl ⟨(lkI_eq hT hc hc2).mp z, rfl, rfl⟩)
  · refine am_iconst (v := nI 0) rfl (by decide) ?_
    exact am_zreturn rfl rfl (Or.inl rfl) (Or.inr ⟨fun q => z ((lkI_eq hT hc hc2).mpr q), rfl, rfl⟩)
theorem c_X_isLabelL {h : am_H} (hT : okT T) (i : Nat) : am_T l d M_X_isLabel 0 [some (.int (lkI T i))] [] h 0 0 (fun r h' => r = some (.int (bI (isLab (T.getD i 0)))) ∧ h' = h) := by
  by_cases hi : i < T.length
  · have := okT_at hT i
    rw [show lkI T i = nI (T.getD i 0) by unfold lkI; rw [if_pos hi]]
    exact c_X_isLabel _ (by omega)
  · rw [show lkI T i = -1 by unfold lkI; rw [if_neg hi], getD_ge (by omega)]
    refine am_iload_n rfl rfl ?_
    refine am_bipush (v := nI 97) rfl (by decide) ?_
    refine am_icmp_lt rfl (fun _ => ?_) (fun z => absurd (by decide) z)
    refine am_iconst (v := nI 0) rfl (by decide) ?_
    exact am_zreturn rfl rfl (Or.inl rfl) ⟨rfl, rfl⟩
theorem c_X_isNameL {h : am_H} (hT : okT T) (i : Nat) : am_T l d M_X_isName 0 [some (.int (lkI T i))] [] h 0 0 (fun r h' => r = some (.int (bI (isNam (T.getD i 0)))) ∧ h' = h) := by
  by_cases hi : i < T.length
  · have := okT_at hT i
    rw [show lkI T i = nI (T.getD i 0) by unfold lkI; rw [if_pos hi]]
    exact c_X_isName _ (by omega)
  · rw [show lkI T i = -1 by unfold lkI; rw [if_neg hi], getD_ge (by omega)]
    refine am_iload_n rfl rfl ?_
    refine am_bipush (v := nI 65) rfl (by decide) ?_
    refine am_icmp_lt rfl (fun _ => ?_) (fun z => absurd (by decide) z)
    refine am_iconst (v := nI 0) rfl (by decide) ?_
    exact am_zreturn rfl rfl (Or.inl rfl) ⟨rfl, rfl⟩
theorem c_X_isFunctionL {h : am_H} (hT : okT T) (i : Nat) : am_T l d M_X_isFunction 0 [some (.int (lkI T i))] [] h 0 0 (fun r h' => r = some (.int (bI (isFun (T.getD i 0)))) ∧ h' = h) := by
  by_cases hi : i < T.length
  · have := okT_at hT i
    rw [show lkI T i = nI (T.getD i 0) by unfold lkI; rw [if_pos hi]]
    exact c_X_isFunction _ (by omega)
  · rw [show lkI T i = -1 by unfold lkI; rw [if_neg hi], getD_ge (by omega)]
    refine am_iload_n rfl rfl ?_
    refine am_bipush (v := nI 102) rfl (by decide) ?_
    refine am_icmp_lt rfl (fun _ => ?_) (fun z => absurd (by decide) z)
    refine am_iconst (v := nI 0) rfl (by decide) ?_
    exact am_zreturn rfl rfl (Or.inl rfl) ⟨rfl, rfl⟩
end R1
theorem getD_appN (N : Nd) (x : Nat × Nat) {i : Nat} (h : i < N.length) : (N ++ [x]).getD i (0, 0) = N.getD i (0, 0) := by
  rw [List.getD_eq_getElem?_getD, List.getD_eq_getElem?_getD, List.getElem?_append_left h]
theorem getD_newN (N : Nd) (x : Nat × Nat) : (N ++ [x]).getD N.length (0, 0) = x := by
  rw [List.getD_eq_getElem?_getD, List.getElem?_append_right (Nat.le_refl _), Nat.sub_self]
  rfl
theorem HA_add {mi : Nat → Nat → Int32} {t : Nat} {N : Nd} (h : HA mi t N) {c p : Nat} (hc : c < 127) (hp : p < 1000) : HA (up2 (up2 (up2 mi (t + 1) N.length (nI c)) (t + 2) N.length (nI p)) t 2 (nI (N.length + 1))) t (N ++ [(c, p)]) := by
  refine ⟨by rw [List.length_append]; simp [up2], fun i hi => ?_⟩
  rw [List.length_append, List.length_singleton] at hi
  unfold cd dp
  rcases Nat.lt_succ_iff_lt_or_eq.mp hi with q | q
  · rw [getD_appN _ _ q]
    have := h.2 i q
    unfold cd dp at this
    rw [show up2 (up2 (up2 mi (t + 1) N.length (nI c)) (t + 2) N.length (nI p)) t 2 (nI (N.length + 1)) (t + 1) i = mi (t + 1) i by unfold up2; rw [if_neg (by omega), if_neg (by omega), if_neg (by omega)], show up2 (up2 (up2 mi (t + 1) N.length (nI c)) (t + 2) N.length (nI p)) t 2 (nI (N.length + 1)) (t + 2) i = mi (t + 2) i by unfold up2; rw [if_neg (by omega), if_neg (by omega), if_neg (by omega)]]
    exact this
  · subst q
    rw [getD_newN]
    exact ⟨⟨by simp [up2], by simp [up2]⟩, hc, hp⟩
/-- what reading a hedge into t may change -/
def Fh (t : Nat) (mi mi' : Nat → Nat → Int32) : Prop := (∀ a, a ≠ t → a ≠ t + 1 → a ≠ t + 2 → a ≠ 82 → mi' a = mi a) ∧ ∀ j, j ≠ 2 → mi' 82 j = mi 82 j
theorem Fh.rf {t : Nat} {mi : Nat → Nat → Int32} : Fh t mi mi := ⟨fun _ _ _ _ _ => rfl, fun _ _ => rfl⟩
theorem Fh.tr {t : Nat} {mi mi' mi'' : Nat → Nat → Int32} (h : Fh t mi mi') (h' : Fh t mi' mi'') : Fh t mi mi'' :=
  ⟨fun a h1 h2 h3 h4 => (h'.1 a h1 h2 h3 h4).trans (h.1 a h1 h2 h3 h4), fun j hj => (h'.2 j hj).trans (h.2 j hj)⟩
theorem Fh_add {t n : Nat} {mi : Nat → Nat → Int32} {x y z : Int32} (ht : t + 2 < 82) : Fh t mi (up2 (up2 (up2 mi (t + 1) n x) (t + 2) n y) t 2 z) :=
  ⟨fun a h1 h2 h3 _ => by rw [up2_off _ _ _ h1, up2_off _ _ _ h3, up2_off _ _ _ h2], fun j _ => by rw [up2_off _ _ _ (by omega), up2_off _ _ _ (by omega), up2_off _ _ _ (by omega)]⟩
theorem Fh_at {t : Nat} {mi : Nat → Nat → Int32} {x : Int32} : Fh t mi (up2 mi 82 2 x) := ⟨fun a _ _ _ h4 => up2_off _ _ _ h4, fun j hj => by unfold up2; rw [if_neg (by omega)]⟩
theorem Fh.rd {t : Nat} {mi mi' : Nat → Nat → Int32} {mr : Nat → Nat → Option Nat} {w cap : Nat} {T : List Nat} (h : Fh t mi mi') (hw : w ≠ t ∧ w ≠ t + 1 ∧ w ≠ t + 2 ∧ w ≠ 82) (hr : rd w cap T mi mr) : rd w cap T mi' mr := by
  obtain ⟨r1, r2, r3, r4, r5, r6, r7⟩ := hr
  refine ⟨r1, r2, r3, r4, by rw [h.2 1 (by decide)]; exact r5, fun i hi => ?_, r7⟩
  rw [h.1 w hw.1 hw.2.1 hw.2.2.1 hw.2.2.2]
  exact r6 i hi
theorem HA_at {t : Nat} {mi : Nat → Nat → Int32} {N : Nd} {x : Int32} (ht : t + 2 < 82) (h : HA mi t N) : HA (up2 mi 82 2 x) t N := by
  unfold HA
  rw [up2_off _ _ _ (show t ≠ 82 by omega), up2_off _ _ _ (show t + 1 ≠ 82 by omega), up2_off _ _ _ (show t + 2 ≠ 82 by omega)]
  exact h
def rhP (ml : Nat → Nat → Int64) (mr : Nat → Nat → Option Nat) (t : Nat) (mi : Nat → Nat → Int32) (R : Nat ⊕ Nd) (r : Option Value) (h' : am_H) : Prop := ∃ mi', h' = hm mi' ml mr ∧ Fh t mi mi' ∧ match R with
  | .inl s => r = some (.int (bI false)) ∧ mi' 82 2 = nI s
  | .inr N => r = some (.int (bI true)) ∧ HA mi' t N
section R2
variable {l : Launch} {d : Nat} {ml : Nat → Nat → Int64} {mr : Nat → Nat → Option Nat} {w cap t : Nat} {T : List Nat}
theorem c_R_readHedge_loop (hH : isH mr t 12) (ht : t + 2 < 82) (hw : w ≠ t ∧ w ≠ t + 1 ∧ w ≠ t + 2 ∧ w ≠ 82) (mi0 : Nat → Nat → Int32) : ∀ (g i p : Nat) (N : Nd) (mi : Nat → Nat → Int32), T.length < i + g → i ≤ T.length → p ≤ i → N.length ≤ 12 → rd w cap T mi mr → mi 82 2 = nI i → HA mi t N → Fh t mi0 mi →
    am_T l (d + 1) M_R_readHedge 12 [some (.ref 82), some (.ref t), some (.int (nI p)), none] [] (hm mi ml mr) 0 0 (rhP ml mr t mi0 (hScan T g i p N)) := by
  have hH' := hH
  obtain ⟨k1, k2, k3, q1, q2, hcap⟩ := hH'
  intro g
  induction g with
  | zero =>
    intro i p N mi h1 h2
    omega
  | succ g ih =>
    intro i p N mi hg hi hp hN hr hat hA hF
    have hr' := hr
    obtain ⟨r1, r2, r3, r4, r5, r6, r7⟩ := hr'
    unfold hScan
    refine am_aload_n rfl rfl ?_
    refine ho_getI rfl (by first | rfl | assumption) rfl ?_
    rw [hat]
    refine am_aload_n rfl rfl ?_
    refine ho_getI rfl (by first | rfl | assumption) rfl ?_
    rw [r5]
    refine ho_icmp_ge rfl (by omega) (by omega) (fun z => ?_) (fun z => ?_)
    · rw [if_pos z]
      refine am_iload_n rfl rfl ?_
      refine am_if_ne rfl (fun y => ?_) (fun y => ?_)
      · refine am_iconst (v := nI 0) rfl (by decide) ?_
        have y : ¬ p = 0 := fun e => y (by rw [e]; rfl)
        rw [if_neg y]
        exact am_zreturn rfl rfl (Or.inl rfl) ⟨mi, rfl, hF, rfl, hat⟩
      · refine am_iconst (v := nI 1) rfl (by decide) ?_
        refine am_goto rfl ?_
        have y : p = 0 := (nI_eq (by omega) (by omega)).mp (y.trans (rfl : (0 : Int32) = nI 0))
        rw [if_pos y]
        exact am_zreturn rfl rfl (Or.inr rfl) ⟨mi, rfl, hF, rfl, hA⟩
    rw [if_neg z]
    have hc := okT_at r7 i
    -- the next place
    have s124 : ∀ (j p' : Nat) (N' : Nd) (mi' : Nat → Nat → Int32) (x : Int32), i < j → j ≤ T.length → p' ≤ j → N'.length ≤ 12 → mi' 82 2 = nI (j - 1) → HA mi' t N' → Fh t mi0 mi' → rd w cap T mi' mr → am_T l (d + 1) M_R_readHedge 124 [some (.ref 82), some (.ref t), some (.int (nI p')), some (.int x)] [] (hm mi' ml mr) 0 0 (rhP ml mr t mi0 (hScan T g j p' N')) := by
      intro j p' N' mi' x g1 g2 g3 g4 g5 g6 g7 g8
      refine am_aload_n rfl rfl ?_
      refine am_dup rfl rfl ?_
      refine ho_getI rfl (by first | rfl | assumption) rfl ?_
      rw [g5]
      refine am_iconst (v := nI 1) rfl (by decide) ?_
      first | refine ho_addn rfl ?_ | refine am_iadd rfl ?_
      refine ho_putI rfl (by first | rfl | assumption) rfl rfl ?_
      refine am_goto rfl ?_
      rw [show j - 1 + 1 = j by omega]
      refine am_drops [3] ?_
      exact ih j p' N' _ (by omega) g2 g3 g4 (Fh_at.rd hw g8) (by simp [up2]) (HA_at ht g6) (g7.tr Fh_at)
    refine am_aload_n rfl rfl ?_
    refine ho_getR rfl (by first | rfl | assumption) rfl (by first | assumption | exact hR _ _ _ rfl) ?_
    refine am_aload_n rfl rfl ?_
    refine ho_getI rfl (by first | rfl | assumption) rfl ?_
    rw [hat]
    refine ho_caload rfl r2 (by omega) ?_
    rw [r6 i (by omega)]
    refine am_istore_n rfl (Nat.le_of_ble_eq_true rfl) ?_
    show am_T _ _ _ _ [_, _, _, some _] _ _ _ _ _
    refine am_iload_n rfl rfl ?_
    refine am_bipush (v := nI 93) rfl (by decide) ?_
    have s49 : ¬ (T.getD i 0 = 93 ∧ 0 < p) → am_T l (d + 1) M_R_readHedge 49 [some (.ref 82), some (.ref t), some (.int (nI p)), some (.int (nI (T.getD i 0)))] [] (hm mi ml mr) 0 0 (rhP ml mr t mi0 (if T.getD i 0 = 93 ∧ 0 < p then hScan T g (i + 1) (p - 1) N else if N.length < 12 ∧ isDig (T.getD i 0) = true then hScan T g (i + 1) p (N ++ [(T.getD i 0, p)]) else if N.length < 12 ∧ isLab (T.getD i 0) = true then (if T.getD (i + 1) 0 = 91 then hScan T g (i + 2) (p + 1) (N ++ [(T.getD i 0, p)]) else .inl (i + 1)) else .inl i)) := by
      intro hno
      rw [if_neg hno]
      have s75 : ¬ (N.length < 12 ∧ isDig (T.getD i 0) = true) → am_T l (d + 1) M_R_readHedge 75 [some (.ref 82), some (.ref t), some (.int (nI p)), some (.int (nI (T.getD i 0)))] [] (hm mi ml mr) 0 0 (rhP ml mr t mi0 (if N.length < 12 ∧ isDig (T.getD i 0) = true then hScan T g (i + 1) p (N ++ [(T.getD i 0, p)]) else if N.length < 12 ∧ isLab (T.getD i 0) = true then (if T.getD (i + 1) 0 = 91 then hScan T g (i + 2) (p + 1) (N ++ [(T.getD i 0, p)]) else .inl (i + 1)) else .inl i)) := by
        intro hno2
        rw [if_neg hno2]
        refine am_iload_n rfl rfl ?_
        refine ho_cn1 rfl rfl (Nat.le_of_ble_eq_true rfl) (Nat.le_of_ble_eq_true rfl) (c_X_isLabel _ (by omega)) ?_
        rintro v h' ⟨rfl, rfl⟩
        refine am_if_eq rfl (fun y => ?_) (fun y => ?_)
        · have y := (bI_eq _).mp y
          rw [if_neg (fun q => by rw [y] at q; cases q.2)]
          refine am_iconst (v := nI 0) rfl (by decide) ?_
          exact am_zreturn rfl rfl (Or.inl rfl) ⟨mi, rfl, hF, rfl, hat⟩
        have y := (bI_ne _).mp y
        refine am_aload_n rfl rfl ?_
        refine ho_getI rfl (by first | rfl | assumption) rfl ?_
        rw [hA.1]
        refine am_bipush (v := nI 12) rfl (by decide) ?_
        refine ho_icmp_ge rfl (by omega) (by omega) (fun x => ?_) (fun x => ?_)
        · rw [if_neg (fun q => by omega)]
          refine am_iconst (v := nI 0) rfl (by decide) ?_
          exact am_zreturn rfl rfl (Or.inl rfl) ⟨mi, rfl, hF, rfl, hat⟩
        rw [if_pos ⟨by omega, y⟩]
        refine am_aload_n rfl rfl ?_
        refine am_iload_n rfl rfl ?_
        refine am_iload_n rfl rfl ?_
        refine ho_cv2 rfl (by first | rfl | assumption) rfl (Nat.le_of_ble_eq_true rfl) (Nat.le_of_ble_eq_true rfl) (c_H_add hH N.length hA.1 (by omega) (T.getD i 0) p (by omega)) ?_
        rintro v h' ⟨rfl, rfl⟩
        have hF1 := Fh_add (n := N.length) (mi := mi) (x := nI (T.getD i 0)) (y := nI p) (z := nI (N.length + 1)) ht
        have hr1 := hF1.rd hw hr
        have hA1 := HA_add hA hc (show p < 1000 by omega)
        refine am_pop rfl rfl ?_
        refine am_iinc rfl rfl (nI_inc1 _) ?_
        show am_T _ _ _ _ [_, _, some _, _] _ _ _ _ _
        refine am_aload_n rfl rfl ?_
        refine am_dup rfl rfl ?_
        refine ho_getI rfl (by first | rfl | assumption) rfl ?_
        rw [up2_off _ _ _ (show (82 : Nat) ≠ t by omega), up2_off _ _ _ (show (82 : Nat) ≠ t + 2 by omega), up2_off _ _ _ (show (82 : Nat) ≠ t + 1 by omega), hat]
        refine am_iconst (v := nI 1) rfl (by decide) ?_
        first | refine ho_addn rfl ?_ | refine am_iadd rfl ?_
        refine ho_putI rfl (by first | rfl | assumption) rfl rfl ?_
        refine am_aload_n rfl rfl ?_
        have hr2 := (Fh_at (t := t) (x := nI (i + 1))).rd hw hr1
        refine ho_cv0 rfl (by first | rfl | assumption) rfl (Nat.le_of_ble_eq_true rfl) (Nat.le_of_ble_eq_true rfl) (c_R_look hr2 (i + 1) (by simp [up2]) (by omega)) ?_
        rintro v h' ⟨rfl, rfl⟩
        refine am_bipush (v := nI 91) rfl (by decide) ?_
        refine am_icmp_eq rfl (fun x2 => ?_) (fun x2 => ?_)
        · have x2 := (lkI_eq r7 (by decide) (by decide)).mp x2
          rw [if_pos x2]
          have hl := lt_of_getD x2 (by decide)
          exact s124 (i + 2) (p + 1) _ _ _ (by omega) (by omega) (by omega) (by rw [List.length_append]; show N.length + 1 ≤ 12; omega) (by simp [up2]) (HA_at ht hA1) ((hF.tr hF1).tr Fh_at) hr2
        · rw [if_neg (fun q => x2 ((lkI_eq r7 (by decide) (by decide)).mpr q))]
          refine am_iconst (v := nI 0) rfl (by decide) ?_
          exact am_zreturn rfl rfl (Or.inl rfl) ⟨_, rfl, (hF.tr hF1).tr Fh_at, rfl, by simp [up2]⟩
      refine am_iload_n rfl rfl ?_
      refine ho_cn1 rfl rfl (Nat.le_of_ble_eq_true rfl) (Nat.le_of_ble_eq_true rfl) (c_X_isDigit _ (by omega)) ?_
      rintro v h' ⟨rfl, rfl⟩
      refine am_if_eq rfl (fun y => ?_) (fun y => ?_)
      · have y := (bI_eq _).mp y
        exact s75 (fun q => by rw [y] at q; cases q.2)
      have y := (bI_ne _).mp y
      refine am_aload_n rfl rfl ?_
      refine ho_getI rfl (by first | rfl | assumption) rfl ?_
      rw [hA.1]
      refine am_bipush (v := nI 12) rfl (by decide) ?_
      refine ho_icmp_ge rfl (by omega) (by omega) (fun x => ?_) (fun x => ?_)
      · exact s75 (fun q => by omega)
      rw [if_pos ⟨by omega, y⟩]
      refine am_aload_n rfl rfl ?_
      refine am_iload_n rfl rfl ?_
      refine am_iload_n rfl rfl ?_
      refine ho_cv2 rfl (by first | rfl | assumption) rfl (Nat.le_of_ble_eq_true rfl) (Nat.le_of_ble_eq_true rfl) (c_H_add hH N.length hA.1 (by omega) (T.getD i 0) p (by omega)) ?_
      rintro v h' ⟨rfl, rfl⟩
      refine am_pop rfl rfl ?_
      refine am_goto rfl ?_
      have hF1 := Fh_add (n := N.length) (mi := mi) (x := nI (T.getD i 0)) (y := nI p) (z := nI (N.length + 1)) ht
      refine s124 (i + 1) p _ _ _ (by omega) (by omega) (by omega) (by rw [List.length_append]; show N.length + 1 ≤ 12; omega) ?_ (HA_add hA hc (by omega)) (hF.tr hF1) (hF1.rd hw hr)
      rw [up2_off _ _ _ (show (82 : Nat) ≠ t by omega), up2_off _ _ _ (show (82 : Nat) ≠ t + 2 by omega), up2_off _ _ _ (show (82 : Nat) ≠ t + 1 by omega), hat]
      rfl
    refine ho_icmp_ne rfl (by omega) (by omega) (fun y => s49 (fun q => y q.1)) (fun y => ?_)
    refine am_iload_n rfl rfl ?_
    refine am_if_le rfl (fun x => ?_) (fun x => ?_)
    · have x : nI p ≤ nI 0 := x
      rw [nI_leI (by omega) (by omega)] at x
      exact s49 (fun q => by omega)
    · have x : ¬ nI p ≤ nI 0 := x
      rw [nI_leI (by omega) (by omega)] at x
      obtain ⟨p', rfl⟩ : ∃ p', p = p' + 1 := ⟨p - 1, by omega⟩
      rw [if_pos ⟨y, by omega⟩, Nat.add_sub_cancel]
      refine am_iinc rfl rfl (nI_dec1 _) ?_
      show am_T _ _ _ _ [_, _, some _, _] _ _ _ _ _
      refine am_goto rfl ?_
      exact s124 (i + 1) p' N mi _ (by omega) (by omega) (by omega) hN hat hA hF hr
theorem c_R_readHedge (hH : isH mr t 12) (ht : t + 2 < 82) (hw : w ≠ t ∧ w ≠ t + 1 ∧ w ≠ t + 2 ∧ w ≠ 82) (mi : Nat → Nat → Int32) (hr : rd w cap T mi mr) : am_T l (d + 1) M_R_readHedge 0 [some (.ref 82), some (.ref t), none, none] [] (hm mi ml mr) 0 0 (rhP ml mr t mi (hScan T (T.length + 1) 0 0 [])) := by
  have hH' := hH
  obtain ⟨k1, k2, k3, q1, q2, hcap⟩ := hH'
  refine am_aload_n rfl rfl ?_
  refine am_iconst (v := nI 0) rfl (by decide) ?_
  refine ho_putI rfl (by first | rfl | assumption) rfl rfl ?_
  refine am_iconst (v := nI 0) rfl (by decide) ?_
  refine am_istore_n rfl (Nat.le_of_ble_eq_true rfl) ?_
  show am_T _ _ _ _ [_, _, some _, _] _ _ _ _ _
  refine am_aload_n rfl rfl ?_
  refine am_iconst (v := nI 0) rfl (by decide) ?_
  refine ho_putI rfl (by first | rfl | assumption) rfl rfl ?_
  have hF : Fh t mi (up2 (up2 mi t 2 (nI 0)) 82 2 (nI 0)) := by
    refine ⟨fun a h1 _ _ h4 => by rw [up2_off _ _ _ h4, up2_off _ _ _ h1], fun j hj => ?_⟩
    unfold up2
    rw [if_neg (by omega), if_neg (by omega)]
  refine c_R_readHedge_loop hH ht hw mi (T.length + 1) 0 0 [] _ (by omega) (Nat.zero_le _) (Nat.le_refl _) (by decide) (hF.rd hw hr) (by simp [up2]) ⟨?_, fun i hi => by cases hi⟩ hF
  rw [up2_off _ _ _ (show t ≠ 82 by omega)]
  simp [up2]
end R2
