/-! the class: fitting, joined, ofPart -/
theorem ti_shl1 {r : Nat} (hr : r < 32) (j : Nat) : ti (nI 1 <<< (nI r &&& 31)) j = decide (j = r) := by
  unfold ti
  rw [Int32.toBitVec_shiftLeft, ti_amt r hr, BitVec.shiftLeft_eq', BitVec.toNat_ofNat, Nat.mod_eq_of_lt (by omega), BitVec.getLsbD_shiftLeft]
  show (decide (j < 32) && !decide (j < r) && (1#32 : BitVec 32).getLsbD (j - r)) = _
  rw [BitVec.getLsbD_one]
  by_cases h1 : j = r
  · subst h1
    simp [hr]
  · by_cases h2 : j < r
    · simp [h2, h1]
    · have : ¬ (j - r = 0) := by omega
      simp [h1, this]
theorem ti_ushr (m : Int32) {r : Nat} (hr : r < 32) (j : Nat) : ti (m.toUInt32 >>> ((nI r).toUInt32 &&& Int32.toUInt32 31)).toInt32 j = ti m (r + j) := by
  show (m.toUInt32 >>> ((nI r).toUInt32 &&& Int32.toUInt32 31)).toBitVec.getLsbD j = _
  rw [UInt32.toBitVec_shiftRight, ti_amu r hr, BitVec.ushiftRight_eq', BitVec.toNat_ofNat, Nat.mod_eq_of_lt (by omega), BitVec.getLsbD_ushiftRight]
  rfl
theorem ti_1 (r : Nat) : ti (nI 1) r = decide (r = 0) := by
  show (1#32 : BitVec 32).getLsbD r = _
  simp
theorem ti_low0 {m : Int32} : m &&& nI 1 = 0 ↔ ti m 0 = false := by
  constructor
  · intro h
    have : ti (m &&& nI 1) 0 = false := by rw [h]; decide
    rw [ti_and] at this
    simpa [ti_1] using this
  · intro h
    apply ti_ext
    intro r hr
    rw [ti_and, ti_1, ti_0]
    by_cases h0 : r = 0
    · subst h0
      simp [h]
    · simp [h0]
theorem ti_utest {m : Int32} {r : Nat} (hr : r < 32) : (m.toUInt32 >>> ((nI r).toUInt32 &&& Int32.toUInt32 31)).toInt32 &&& nI 1 = 0 ↔ ti m r = false := by
  rw [ti_low0, ti_ushr m hr, Nat.add_zero]
theorem fx_inj {a b : Nat} (ha : 1 ≤ a) (ha5 : a ≤ 5) (hb : 1 ≤ b) (hb5 : b ≤ 5) : fx a = fx b ↔ a = b := by
  unfold fx
  split <;> split <;> omega
theorem fx_4 {a : Nat} (ha : 1 ≤ a) (ha5 : a ≤ 5) : fx a = 4 ↔ a = 1 := by
  unfold fx
  split <;> omega
theorem fx_le {a : Nat} (ha5 : a ≤ 5) : fx a ≤ 4 := by
  unfold fx
  split <;> omega
section X3
variable {l : Launch} {d : Nat} {mi : Nat → Nat → Int32} {ml : Nat → Nat → Int64} {mr : Nat → Nat → Option Nat} {S : Rs} {ip : Nat → Nat} {n : Nat}
theorem c_S_fitting_loop (hR : SR mr) (hS : okS S) (hX : repX S ip n mi ml) (f : Nat) (hf : 1 ≤ f) (hf5 : f ≤ 5) (c : Int64) : ∀ (k j : Nat), j + k = n → am_T l (d + 1) M_S_fitting 6 [some (.ref 84), some (.int (nI (fx f))), some (.long c), none, some (.int (ofI (fun r => decide (r < j) && fitP S ip n f (tb c) r))), some (.int (nI j))] [] (hm mi ml mr) 0 0 (fun v h' => v = some (.int (ofI (fitP S ip n f (tb c)))) ∧ h' = hm mi ml mr) := by
  have h16 := hX.1.2
  have hfx := fx_le hf5
  intro k
  induction k with
  | zero =>
    intro j hj
    refine am_iload rfl rfl ?_
    refine am_aload_n rfl rfl ?_
    refine ho_getI rfl (by first | rfl | assumption) rfl ?_
    rw [hX.1.1]
    refine ho_icmp_ge rfl (by omega) (by omega) (fun _ => ?_) (fun q => absurd (by omega) q)
    refine am_iload rfl rfl ?_
    refine am_ireturn rfl rfl ⟨?_, rfl⟩
    congr 2
    refine ofI_eq (fun r hr => ?_)
    rw [ti_ofI _ hr]
    unfold fitP
    by_cases h : r < n
    · simp [h, show r < j by omega]
    · simp [h]
  | succ k ih =>
    intro j hj
    obtain ⟨p1, p2, p3, p4, p5, p6, p7, p8⟩ := hX.2.1 j (by omega)
    have hfw := fx_le p3
    have skip : fitP S ip n f (tb c) j = false → am_T l (d + 1) M_S_fitting 55 [some (.ref 84), some (.int (nI (fx f))), some (.long c), none, some (.int (ofI (fun r => decide (r < j) && fitP S ip n f (tb c) r))), some (.int (nI j))] [] (hm mi ml mr) 0 0 (fun v h' => v = some (.int (ofI (fitP S ip n f (tb c)))) ∧ h' = hm mi ml mr) := by
      intro hz
      refine am_iinc rfl rfl (nI_inc1 _) ?_
      show am_T _ _ _ _ [_, _, _, _, _, some _] _ _ _ _ _
      refine am_goto rfl ?_
      have e : ofI (fun r => decide (r < j) && fitP S ip n f (tb c) r) = ofI (fun r => decide (r < j + 1) && fitP S ip n f (tb c) r) := by
        refine ofI_eq (fun r hr => ?_)
        rw [ti_ofI _ hr]
        by_cases h : r = j
        · subst h
          simp [hz]
        · have : decide (r < j) = decide (r < j + 1) := by
            apply decide_eq_decide.mpr
            omega
          rw [this]
      rw [e]
      exact ih (j + 1) (by omega)
    have take : fitP S ip n f (tb c) j = true → am_T l (d + 1) M_S_fitting 46 [some (.ref 84), some (.int (nI (fx f))), some (.long c), none, some (.int (ofI (fun r => decide (r < j) && fitP S ip n f (tb c) r))), some (.int (nI j))] [] (hm mi ml mr) 0 0 (fun v h' => v = some (.int (ofI (fitP S ip n f (tb c)))) ∧ h' = hm mi ml mr) := by
      intro hz
      refine am_iload rfl rfl ?_
      refine am_iconst (v := nI 1) rfl (by decide) ?_
      refine am_iload rfl rfl ?_
      refine am_ishl rfl ?_
      refine am_ior rfl ?_
      refine am_istore rfl (Nat.le_of_ble_eq_true rfl) ?_
      show am_T _ _ _ _ [_, _, _, _, some _, _] _ _ _ _ _
      refine am_iinc rfl rfl (nI_inc1 _) ?_
      show am_T _ _ _ _ [_, _, _, _, _, some _] _ _ _ _ _
      refine am_goto rfl ?_
      have e : ofI (fun r => decide (r < j) && fitP S ip n f (tb c) r) ||| (nI 1 <<< (nI j &&& 31)) = ofI (fun r => decide (r < j + 1) && fitP S ip n f (tb c) r) := by
        refine ofI_eq (fun r hr => ?_)
        rw [ti_or, ti_ofI _ hr, ti_shl1 (by omega)]
        by_cases h : r = j
        · subst h
          simp [hz]
        · have : decide (r < j) = decide (r < j + 1) := by
            apply decide_eq_decide.mpr
            omega
          rw [this]
          simp [h]
      rw [e]
      exact ih (j + 1) (by omega)
    refine am_iload rfl rfl ?_
    refine am_aload_n rfl rfl ?_
    refine ho_getI rfl (by first | rfl | assumption) rfl ?_
    rw [hX.1.1]
    refine ho_icmp_ge rfl (by omega) (by omega) (fun q => absurd q (by omega)) (fun _ => ?_)
    refine am_aload_n rfl rfl ?_
    refine ho_getR rfl (by first | rfl | assumption) rfl (by first | assumption | exact hR _ _ _ rfl) ?_
    refine am_iload rfl rfl ?_
    refine ho_iaload rfl (by first | rfl | assumption) (by omega) ?_
    rw [p4]
    refine am_iload_n rfl rfl ?_
    refine ho_icmp_ne rfl (by omega) (by omega) (fun q => ?_) (fun q => ?_)
    · refine skip ?_
      unfold fitP
      rw [decide_eq_false (fun z => q ((fx_inj p2 p3 hf hf5).mpr z)), Bool.false_and, Bool.and_false]
    have q := (fx_inj p2 p3 hf hf5).mp q
    refine am_iload_n rfl rfl ?_
    refine am_iconst (v := nI 4) rfl (by decide) ?_
    refine ho_icmp_eq rfl (by omega) (by omega) (fun q2 => ?_) (fun q2 => ?_)
    · refine take ?_
      unfold fitP
      rw [decide_eq_true q, decide_eq_true ((fx_4 hf hf5).mp q2), decide_eq_true (show j < n by omega)]
      rfl
    have q2 : ¬ f = 1 := fun z => q2 ((fx_4 hf hf5).mpr z)
    refine am_aload_n rfl rfl ?_
    refine am_lload_n rfl rfl ?_
    refine am_aload_n rfl rfl ?_
    refine ho_getR rfl (by first | rfl | assumption) rfl (by first | assumption | exact hR _ _ _ rfl) ?_
    refine am_iload rfl rfl ?_
    refine ho_iaload rfl (by first | rfl | assumption) (by omega) ?_
    rw [p5 (by omega)]
    refine ho_cv2 rfl (by first | rfl | assumption) rfl (Nat.le_of_ble_eq_true rfl) (Nat.le_of_ble_eq_true rfl) (c_S_belongs hR hS hX c (S.2.2.1 (ip j)) (hS.2 _ p1).2.1) ?_
    rintro v h' ⟨rfl, rfl⟩
    refine am_if_eq rfl (fun q3 => ?_) (fun q3 => ?_)
    · refine skip ?_
      unfold fitP
      rw [(bI_eq _).mp q3, decide_eq_false q2, Bool.or_false, Bool.and_false, Bool.and_false]
    · refine take ?_
      unfold fitP
      rw [(bI_ne _).mp q3, decide_eq_true q, decide_eq_true (show j < n by omega), Bool.or_true]
      rfl
theorem c_S_fitting (hR : SR mr) (hS : okS S) (hX : repX S ip n mi ml) (f : Nat) (hf : 1 ≤ f) (hf5 : f ≤ 5) (c : Int64) : am_T l (d + 1) M_S_fitting 0 [some (.ref 84), some (.int (nI (fx f))), some (.long c), none, none, none] [] (hm mi ml mr) 0 0 (fun v h' => v = some (.int (ofI (fitP S ip n f (tb c)))) ∧ h' = hm mi ml mr) := by
  refine am_iconst (v := nI 0) rfl (by decide) ?_
  refine am_istore rfl (Nat.le_of_ble_eq_true rfl) ?_
  show am_T _ _ _ _ [_, _, _, _, some _, _] _ _ _ _ _
  refine am_iconst (v := nI 0) rfl (by decide) ?_
  refine am_istore rfl (Nat.le_of_ble_eq_true rfl) ?_
  show am_T _ _ _ _ [_, _, _, _, _, some _] _ _ _ _ _
  have k := c_S_fitting_loop (l := l) (d := d) (mr := mr) hR hS hX f hf hf5 c n 0 (by omega)
  have e : ofI (fun r => decide (r < 0) && fitP S ip n f (tb c) r) = nI 0 := by
    refine (ofI_eq (fun r hr => ?_)).symm
    rw [show nI 0 = (0 : Int32) from rfl, ti_0]
    simp
  rw [e] at k
  exact k
theorem c_S_joined_loop (hR : SR mr) (hX : repX S ip n mi ml) (h64 : S.1 ≤ 64) (hok : ∀ j, j < n → ip j + 1 < S.1) (fits : Int32) (t : Int64) {Q : Option Value → am_H → Prop} (hout : ∀ m : Int64, (∀ r, r < 64 → (tb m r = true ↔ ∃ i, i < n ∧ ti fits i = true ∧ goP S (tb t) (ip i) = true ∧ tb (ml 89 i) r = true)) → Q (some (.long m)) (hm mi ml mr)) : ∀ (k j : Nat) (m : Int64), j + k = n → (∀ r, r < 64 → (tb m r = true ↔ ∃ i, i < j ∧ ti fits i = true ∧ goP S (tb t) (ip i) = true ∧ tb (ml 89 i) r = true)) → am_T l d M_S_joined 6 [some (.ref 84), some (.int fits), some (.long t), none, some (.long m), none, some (.int (nI j))] [] (hm mi ml mr) 0 0 Q := by
  have h16 := hX.1.2
  intro k
  induction k with
  | zero =>
    intro j m hj hm'
    refine am_iload rfl rfl ?_
    refine am_aload_n rfl rfl ?_
    refine ho_getI rfl (by first | rfl | assumption) rfl ?_
    rw [hX.1.1]
    refine ho_icmp_ge rfl (by omega) (by omega) (fun _ => ?_) (fun q => absurd (by omega) q)
    refine am_lload rfl rfl ?_
    refine am_lreturn rfl rfl (hout m ?_)
    rw [show n = j by omega]
    exact hm'
  | succ k ih =>
    intro j m hj hm'
    obtain ⟨p1, p2, p3, p4, p5, p6, p7, p8⟩ := hX.2.1 j (by omega)
    have hip := hok j (by omega)
    have skip : ¬ (ti fits j = true ∧ goP S (tb t) (ip j) = true) → am_T l d M_S_joined 58 [some (.ref 84), some (.int fits), some (.long t), none, some (.long m), none, some (.int (nI j))] [] (hm mi ml mr) 0 0 Q := by
      intro hz
      refine am_iinc rfl rfl (nI_inc1 _) ?_
      show am_T _ _ _ _ [_, _, _, _, _, _, some _] _ _ _ _ _
      refine am_goto rfl ?_
      refine ih (j + 1) m (by omega) (fun r hr => ?_)
      rw [hm' r hr]
      constructor
      · rintro ⟨i, a1, a2⟩
        exact ⟨i, by omega, a2⟩
      · rintro ⟨i, a1, a2, a3, a4⟩
        rcases Nat.lt_succ_iff_lt_or_eq.mp a1 with e | e
        · exact ⟨i, e, a2, a3, a4⟩
        · subst e
          exact absurd ⟨a2, a3⟩ hz
    have hgo : lg_cmp (t &&& (ml 88 j ||| ml 87 j)) 0 = 0 ↔ goP S (tb t) (ip j) = false := by
      rw [tb_meet]
      unfold goP
      constructor
      · intro h
        have h1 := h (ip j + 1) (by omega)
        have h2 := h (ip j) (by omega)
        rw [tb_or, p6, p7] at h1 h2
        simp only [one] at h1 h2
        cases c1 : tb t (ip j + 1)
        · cases c2 : tb t (ip j)
          · simp
          · simp [c2] at h2
            simp [h2]
        · simp [c1] at h1
      · intro h r hr hq
        rw [tb_or, p6, p7] at hq
        simp only [one, Bool.or_eq_true, decide_eq_true_eq] at hq
        rw [Bool.or_eq_false_iff, Bool.and_eq_false_iff] at h
        rcases hq.2 with e | e
        · rw [e, h.1] at hq
          cases hq.1
        · rcases h.2 with g | g
          · exact absurd e.2 (of_decide_eq_false g)
          · rw [e.1, g] at hq
            cases hq.1
    refine am_iload rfl rfl ?_
    refine am_aload_n rfl rfl ?_
    refine ho_getI rfl (by first | rfl | assumption) rfl ?_
    rw [hX.1.1]
    refine ho_icmp_ge rfl (by omega) (by omega) (fun q => absurd q (by omega)) (fun _ => ?_)
    refine am_iload_n rfl rfl ?_
    refine am_iload rfl rfl ?_
    refine am_iushr rfl rfl ?_
    refine am_iconst (v := nI 1) rfl (by decide) ?_
    refine am_iand rfl ?_
    refine am_if_eq rfl (fun q => ?_) (fun q => ?_)
    · exact skip (fun z => by rw [(ti_utest (by omega)).mp q] at z; cases z.1)
    have q : ti fits j = true := by
      cases hc : ti fits j
      · exact absurd ((ti_utest (by omega)).mpr hc) q
      · rfl
    refine am_lload_n rfl rfl ?_
    refine am_aload_n rfl rfl ?_
    refine ho_getR rfl (by first | rfl | assumption) rfl (by first | assumption | exact hR _ _ _ rfl) ?_
    refine am_iload rfl rfl ?_
    refine ho_laload rfl (by first | rfl | assumption) (by omega) ?_
    refine am_aload_n rfl rfl ?_
    refine ho_getR rfl (by first | rfl | assumption) rfl (by first | assumption | exact hR _ _ _ rfl) ?_
    refine am_iload rfl rfl ?_
    refine ho_laload rfl (by first | rfl | assumption) (by omega) ?_
    refine am_lor rfl ?_
    refine am_land rfl ?_
    refine am_lconst (v := 0) rfl (by decide) ?_
    refine am_lcmp rfl ?_
    refine am_if_eq rfl (fun q2 => ?_) (fun q2 => ?_)
    · exact skip (fun z => by rw [hgo.mp q2] at z; cases z.2)
    have q2 : goP S (tb t) (ip j) = true := by
      cases hc : goP S (tb t) (ip j)
      · exact absurd (hgo.mpr hc) q2
      · rfl
    refine am_lload rfl rfl ?_
    refine am_aload_n rfl rfl ?_
    refine ho_getR rfl (by first | rfl | assumption) rfl (by first | assumption | exact hR _ _ _ rfl) ?_
    refine am_iload rfl rfl ?_
    refine ho_laload rfl (by first | rfl | assumption) (by omega) ?_
    refine am_lor rfl ?_
    refine am_lstore rfl (Nat.le_of_ble_eq_true rfl) ?_
    show am_T _ _ _ _ [_, _, _, _, some _, none, _] _ _ _ _ _
    refine am_iinc rfl rfl (nI_inc1 _) ?_
    show am_T _ _ _ _ [_, _, _, _, _, _, some _] _ _ _ _ _
    refine am_goto rfl ?_
    refine ih (j + 1) _ (by omega) (fun r hr => ?_)
    rw [tb_or, Bool.or_eq_true, hm' r hr]
    constructor
    · rintro (⟨i, a1, a2⟩ | a)
      · exact ⟨i, by omega, a2⟩
      · exact ⟨j, by omega, q, q2, a⟩
    · rintro ⟨i, a1, a2, a3, a4⟩
      rcases Nat.lt_succ_iff_lt_or_eq.mp a1 with e | e
      · exact Or.inl ⟨i, e, a2, a3, a4⟩
      · subst e
        exact Or.inr a4
/-- joined over what fits: the reference's belongs -/
theorem c_S_joined (hR : SR mr) (hS : okS S) (hX : repX S ip n mi ml) (f : Nat) (hf : 1 ≤ f) (c : Nat → Bool) (t : Int64) : am_T l d M_S_joined 0 [some (.ref 84), some (.int (ofI (fitP S ip n f c))), some (.long t), none, none, none, none] [] (hm mi ml mr) 0 0 (fun v h' => v = some (.long (belF S f c (tb t))) ∧ h' = hm mi ml mr) := by
  have h16 := hX.1.2
  have h64 := hS.1
  have hok : ∀ j, j < n → ip j + 1 < S.1 := fun j hj => by
    obtain ⟨p1, p2, p3, -⟩ := hX.2.1 j hj
    have := (hS.2 _ p1).1
    omega
  refine am_lconst (v := 0) rfl (by decide) ?_
  refine am_lstore rfl (Nat.le_of_ble_eq_true rfl) ?_
  show am_T _ _ _ _ [_, _, _, _, some _, none, _] _ _ _ _ _
  refine am_iconst (v := nI 0) rfl (by decide) ?_
  refine am_istore rfl (Nat.le_of_ble_eq_true rfl) ?_
  show am_T _ _ _ _ [_, _, _, _, _, _, some _] _ _ _ _ _
  refine c_S_joined_loop hR hX hS.1 hok _ t (fun m hm' => ⟨?_, rfl⟩) n 0 0 (by omega) (fun r hr => by rw [tb_0]; simp)
  congr 2
  refine ofB_eq (fun r hr => ?_)
  rw [hm' r hr, Lfp_pos hS hf (fun j hj => ⟨(hX.2.1 j hj).1, (hX.2.1 j hj).2.1, (hX.2.1 j hj).2.2.1⟩) hX.2.2.1]
  constructor
  · rintro ⟨i, a1, a2, a3, a4⟩
    rw [ti_ofI _ (by omega)] at a2
    rw [(hX.2.1 i a1).2.2.2.2.2.2.2] at a4
    exact ⟨i, a2, a3, (tb_ofB _ hr).mp a4⟩
  · rintro ⟨j, a1, a2, a3⟩
    have hj : j < n := by
      unfold fitP at a1
      rw [Bool.and_eq_true] at a1
      exact of_decide_eq_true a1.1
    refine ⟨j, hj, ?_, a2, ?_⟩
    · rw [ti_ofI _ (by omega)]
      exact a1
    · rw [(hX.2.1 j hj).2.2.2.2.2.2.2]
      exact (tb_ofB _ hr).mpr a3
end X3
