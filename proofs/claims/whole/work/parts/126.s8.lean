/-! the reference: texts -/
section S8
variable {l : Launch} {d : Nat} {ml : Nat → Nat → Int64} {mr : Nat → Nat → Option Nat}
/-- a stretch of a row of characters -/
def Str (mi : Nat → Nat → Int32) (a p : Nat) (T : List Nat) : Prop := okT T ∧ ∀ i, i < T.length → mi a (p + i) = nI (T.getD i 0)
theorem c_m_sooner_loop (hR : SR mr) (mi : Nat → Nat → Int32) (ca p cb q na nb : Nat) (A B : List Nat) (ka : hs_kind ca = (true, 2, na)) (kb : hs_kind cb = (true, 2, nb)) (la : p + A.length ≤ na) (lb : q + B.length ≤ nb) (hA : Str mi ca p A) (hB : Str mi cb q B) : ∀ (g i : Nat), (if A.length < B.length then A.length else B.length) < i + g → i ≤ (if A.length < B.length then A.length else B.length) →
    am_T l d M_m_sooner 3 [some (.ref 116), some (.ref ca), some (.int (nI p)), some (.ref cb), some (.int (nI q)), some (.int (nI (if A.length < B.length then A.length else B.length))), some (.int (nI i))] [] (hm mi ml mr) 0 0 (fun r h' => r = some (.int (bI (sn (A.drop i) (B.drop i)))) ∧ h' = hm mi ml mr) := by
  have s0 := hs_small ka
  have s1 := hs_small kb
  have hmA : (if A.length < B.length then A.length else B.length) ≤ A.length := by split <;> omega
  have hmB : (if A.length < B.length then A.length else B.length) ≤ B.length := by split <;> omega
  have hmm : ∀ i, i < (if A.length < B.length then A.length else B.length) ↔ i < A.length ∧ i < B.length := by intro i; split <;> omega
  generalize (if A.length < B.length then A.length else B.length) = m at *
  intro g
  induction g with
  | zero =>
    intro i h1 h2
    omega
  | succ g ih =>
    intro i h1 h2
    refine am_iload rfl rfl ?_
    refine am_iload rfl rfl ?_
    refine ho_icmp_ge rfl (by omega) (by omega) (fun z => ?_) (fun z => ?_)
    · rw [sn_at, if_neg (fun e => absurd ((hmm i).mpr e) (by omega))]
      refine am_iconst (v := nI 0) rfl (by decide) ?_
      exact am_zreturn rfl rfl (Or.inl rfl) ⟨rfl, rfl⟩
    · have hi := (hmm i).mp (by omega)
      have a1 := okT_at hA.1 i
      have a2 := okT_at hB.1 i
      rw [sn_at, if_pos hi]
      refine am_aload_n rfl rfl ?_
      refine am_iload_n rfl rfl ?_
      refine am_iload rfl rfl ?_
      first | refine ho_addn rfl ?_ | refine am_iadd rfl ?_
      refine ho_caload rfl ka (by omega) ?_
      rw [hA.2 i hi.1]
      refine am_aload_n rfl rfl ?_
      refine am_iload rfl rfl ?_
      refine am_iload rfl rfl ?_
      first | refine ho_addn rfl ?_ | refine am_iadd rfl ?_
      refine ho_caload rfl kb (by omega) ?_
      rw [hB.2 i hi.2]
      refine ho_icmp_eq rfl (by omega) (by omega) (fun e => ?_) (fun e => ?_)
      · rw [if_pos e]
        refine am_iinc rfl rfl (nI_inc1 _) ?_
        show am_T _ _ _ _ [_, _, _, _, _, _, some _] _ _ _ _ _
        refine am_goto rfl ?_
        exact ih (i + 1) (by omega) (by omega)
      · rw [if_neg e]
        refine am_aload_n rfl rfl ?_
        refine am_iload_n rfl rfl ?_
        refine am_iload rfl rfl ?_
        first | refine ho_addn rfl ?_ | refine am_iadd rfl ?_
        refine ho_caload rfl ka (by omega) ?_
        rw [hA.2 i hi.1]
        refine am_aload_n rfl rfl ?_
        refine am_iload rfl rfl ?_
        refine am_iload rfl rfl ?_
        first | refine ho_addn rfl ?_ | refine am_iadd rfl ?_
        refine ho_caload rfl kb (by omega) ?_
        rw [hB.2 i hi.2]
        refine ho_icmp_ge rfl (by omega) (by omega) (fun y => ?_) (fun y => ?_)
        · refine am_iconst (v := nI 0) rfl (by decide) ?_
          exact am_zreturn rfl rfl (Or.inl rfl) ⟨by rw [decide_eq_false (by omega)]; rfl, rfl⟩
        · refine am_iconst (v := nI 1) rfl (by decide) ?_
          refine am_goto rfl ?_
          exact am_zreturn rfl rfl (Or.inr rfl) ⟨by rw [decide_eq_true (by omega)]; rfl, rfl⟩
theorem c_m_sooner (hR : SR mr) (mi : Nat → Nat → Int32) (ca p cb q na nb : Nat) (A B : List Nat) (ka : hs_kind ca = (true, 2, na)) (kb : hs_kind cb = (true, 2, nb)) (la : p + A.length ≤ na) (lb : q + B.length ≤ nb) (hA : Str mi ca p A) (hB : Str mi cb q B) : am_T l d M_m_sooner 0 [some (.ref 116), some (.ref ca), some (.int (nI p)), some (.ref cb), some (.int (nI q)), some (.int (nI (if A.length < B.length then A.length else B.length))), none] [] (hm mi ml mr) 0 0 (fun r h' => r = some (.int (bI (sn A B))) ∧ h' = hm mi ml mr) := by
  refine am_iconst (v := nI 0) rfl (by decide) ?_
  refine am_istore rfl (Nat.le_of_ble_eq_true rfl) ?_
  show am_T _ _ _ _ [_, _, _, _, _, _, some _] _ _ _ _ _
  have := c_m_sooner_loop (l := l) (d := d) (ml := ml) hR mi ca p cb q na nb A B ka kb la lb hA hB ((if A.length < B.length then A.length else B.length) + 1) 0 (by omega) (by omega)
  exact this
/-- the reference's trial -/
def TQ (mi : Nat → Nat → Int32) (u : List Nat) : Prop := txt mi 132 u ∧ okT u
theorem TQ_put {mi : Nat → Nat → Int32} {u : List Nat} (h : TQ mi u) {c : Nat} (hc : c < 127) : TQ (up2 mi 132 u.length (nI c)) (u ++ [c]) := by
  refine ⟨txt_snoc h.1 (fun i hi => ?_) (by simp [up2]), okT_snoc h.2 hc⟩
  unfold up2
  rw [if_neg (by omega)]
theorem TQ_cp {mi : Nat → Nat → Int32} {u t : List Nat} {k : Nat} (h : TQ mi u) (hT : TR (mi 130) (mi 131) k (some t)) : TQ (cpN mi 132 u.length 130 (36 * k) t.length) (u ++ t) := by
  obtain ⟨t1, t2, t3, t4⟩ := hT
  refine ⟨fun i hi => ?_, fun c hc => ?_⟩
  · rw [List.length_append] at hi
    rcases Nat.lt_or_ge i u.length with q | q
    · rw [getD_app1 _ _ q, ← h.1 i q]
      unfold cpN
      rw [if_neg (by omega)]
    · obtain ⟨j, rfl⟩ : ∃ j, i = u.length + j := ⟨i - u.length, by omega⟩
      rw [getD_app2, cpN_in _ (by omega) (by omega), show u.length + j - u.length = j by omega]
      exact t4 j (by omega)
  · rcases List.mem_append.mp hc with q | q
    · exact h.2 c q
    · exact t2 c q
def F132 (mi mi' : Nat → Nat → Int32) : Prop := ∀ a, a ≠ 132 → mi' a = mi a
theorem F132.tr {mi mi' mi'' : Nat → Nat → Int32} (h : F132 mi mi') (h' : F132 mi' mi'') : F132 mi mi'' := fun a ha => (h' a ha).trans (h a ha)
theorem F132.up {mi : Nat → Nat → Int32} {j : Nat} {x : Int32} : F132 mi (up2 mi 132 j x) := fun a ha => up2_off _ _ _ ha
theorem F132.cp {mi : Nat → Nat → Int32} {j b ob n : Nat} : F132 mi (cpN mi 132 j b ob n) := fun a ha => cpN_off _ ha
theorem c_m_compose_113 (hR : SR mr) (mi : Nat → Nat → Int32) (u t : List Nat) (w : Nat) (hw : w < 41) (x1 x2 : Value) (hu : TQ mi u) (hT : TR (mi 130) (mi 131) w (some t)) (hlen : u.length + t.length ≤ 36) : ∀ (j i : Nat), i + j = t.length →
    am_T l d M_m_compose 113 [some (.ref 116), some x1, some x2, some (.int (nI w)), some (.int (nI u.length)), some (.int (nI i))] [] (hm (cpN mi 132 u.length 130 (36 * w) i) ml mr) 0 0 (fun r h' => r = some (.int (nI (u ++ t).length)) ∧ ∃ mi', h' = hm mi' ml mr ∧ TQ mi' (u ++ t) ∧ F132 mi mi') := by
  obtain ⟨t1, t2, t3, t4⟩ := id hT
  intro j
  induction j with
  | zero =>
    intro i hi
    refine am_iload rfl rfl ?_
    refine am_aload_n rfl rfl ?_
    refine ho_getR rfl (by first | rfl | assumption) rfl (by first | assumption | exact hR _ _ _ rfl) ?_
    refine am_iload_n rfl rfl ?_
    refine ho_iaload rfl (by first | rfl | assumption) (by omega) ?_
    rw [cpN_off _ (by decide), t3]
    refine ho_icmp_ge rfl (by omega) (by omega) (fun _ => ?_) (fun z => absurd (by omega) z)
    refine am_iload rfl rfl ?_
    refine am_aload_n rfl rfl ?_
    refine ho_getR rfl (by first | rfl | assumption) rfl (by first | assumption | exact hR _ _ _ rfl) ?_
    refine am_iload_n rfl rfl ?_
    refine ho_iaload rfl (by first | rfl | assumption) (by omega) ?_
    rw [cpN_off _ (by decide), t3]
    first | refine ho_addn rfl ?_ | refine am_iadd rfl ?_
    have e : i = t.length := by omega
    subst e
    exact am_ireturn rfl rfl ⟨by rw [List.length_append], _, rfl, TQ_cp hu hT, F132.cp⟩
  | succ j ih =>
    intro i hi
    refine am_iload rfl rfl ?_
    refine am_aload_n rfl rfl ?_
    refine ho_getR rfl (by first | rfl | assumption) rfl (by first | assumption | exact hR _ _ _ rfl) ?_
    refine am_iload_n rfl rfl ?_
    refine ho_iaload rfl (by first | rfl | assumption) (by omega) ?_
    rw [cpN_off _ (by decide), t3]
    refine ho_icmp_ge rfl (by omega) (by omega) (fun z => absurd z (by omega)) (fun _ => ?_)
    refine am_aload_n rfl rfl ?_
    refine ho_getR rfl (by first | rfl | assumption) rfl (by first | assumption | exact hR _ _ _ rfl) ?_
    refine am_iload rfl rfl ?_
    refine am_iload rfl rfl ?_
    first | refine ho_addn rfl ?_ | refine am_iadd rfl ?_
    refine am_aload_n rfl rfl ?_
    refine ho_getR rfl (by first | rfl | assumption) rfl (by first | assumption | exact hR _ _ _ rfl) ?_
    refine am_bipush (v := nI 36) rfl (by decide) ?_
    refine am_iload_n rfl rfl ?_
    first | refine ho_muln rfl ?_ | refine am_imul rfl ?_
    refine am_iload rfl rfl ?_
    first | refine ho_addn rfl ?_ | refine am_iadd rfl ?_
    refine ho_caload rfl rfl (by omega) ?_
    rw [cpN_off _ (show (130 : Nat) ≠ 132 by decide)]
    refine ho_castore rfl rfl (by omega) (by rw [t4 i (by omega)]; exact nar_c (okT_at t2 i)) ?_
    rw [cpN_s]
    refine am_iinc rfl rfl (nI_inc1 _) ?_
    show am_T _ _ _ _ [_, _, _, _, _, some _] _ _ _ _ _
    refine am_goto rfl ?_
    exact ih (i + 1) (by omega)
theorem c_m_compose_48 (hR : SR mr) (mi : Nat → Nat → Int32) (u t : List Nat) (c : Nat) (hc : c < 41) (x1 x2 : Int32) {Q : Option Value → am_H → Prop} (hu : TQ mi u) (hT : TR (mi 130) (mi 131) c (some t)) (hlen : u.length + t.length < 36)
    (out : ∀ mi', TQ mi' (u ++ t ++ [93]) → F132 mi mi' → am_T l d M_m_compose 110 [some (.ref 116), some (.int x1), some (.int (nI c)), some (.int x2), some (.int (nI (u ++ t ++ [93]).length)), none] [] (hm mi' ml mr) 0 0 Q) : ∀ (j i : Nat), i + j = t.length →
    am_T l d M_m_compose 48 [some (.ref 116), some (.int x1), some (.int (nI c)), some (.int x2), some (.int (nI u.length)), some (.int (nI i))] [] (hm (cpN mi 132 u.length 130 (36 * c) i) ml mr) 0 0 Q := by
  obtain ⟨t1, t2, t3, t4⟩ := id hT
  intro j
  induction j with
  | zero =>
    intro i hi
    refine am_iload rfl rfl ?_
    refine am_aload_n rfl rfl ?_
    refine ho_getR rfl (by first | rfl | assumption) rfl (by first | assumption | exact hR _ _ _ rfl) ?_
    refine am_iload_n rfl rfl ?_
    refine ho_iaload rfl (by first | rfl | assumption) (by omega) ?_
    rw [cpN_off _ (by decide), t3]
    refine ho_icmp_ge rfl (by omega) (by omega) (fun _ => ?_) (fun z => absurd (by omega) z)
    refine am_iload rfl rfl ?_
    refine am_aload_n rfl rfl ?_
    refine ho_getR rfl (by first | rfl | assumption) rfl (by first | assumption | exact hR _ _ _ rfl) ?_
    refine am_iload_n rfl rfl ?_
    refine ho_iaload rfl (by first | rfl | assumption) (by omega) ?_
    rw [cpN_off _ (by decide), t3]
    first | refine ho_addn rfl ?_ | refine am_iadd rfl ?_
    refine am_istore rfl (Nat.le_of_ble_eq_true rfl) ?_
    show am_T _ _ _ _ [_, _, _, _, some _, _] _ _ _ _ _
    refine am_aload_n rfl rfl ?_
    refine ho_getR rfl (by first | rfl | assumption) rfl (by first | assumption | exact hR _ _ _ rfl) ?_
    refine am_iload rfl rfl ?_
    refine am_bipush (v := nI 93) rfl (by decide) ?_
    refine ho_castore rfl rfl (by omega) (nar_c (by decide)) ?_
    refine am_iinc rfl rfl (nI_inc1 _) ?_
    show am_T _ _ _ _ [_, _, _, _, some _, _] _ _ _ _ _
    have e : i = t.length := by omega
    subst e
    have h1 := TQ_put (TQ_cp hu hT) (c := 93) (by decide)
    rw [List.length_append] at h1
    have h2 : (u ++ t ++ [93]).length = u.length + t.length + 1 := by simp; omega
    refine am_drops [5] ?_
    have := out _ h1 (F132.cp.tr F132.up)
    rw [h2] at this
    exact this
  | succ j ih =>
    intro i hi
    refine am_iload rfl rfl ?_
    refine am_aload_n rfl rfl ?_
    refine ho_getR rfl (by first | rfl | assumption) rfl (by first | assumption | exact hR _ _ _ rfl) ?_
    refine am_iload_n rfl rfl ?_
    refine ho_iaload rfl (by first | rfl | assumption) (by omega) ?_
    rw [cpN_off _ (by decide), t3]
    refine ho_icmp_ge rfl (by omega) (by omega) (fun z => absurd z (by omega)) (fun _ => ?_)
    refine am_aload_n rfl rfl ?_
    refine ho_getR rfl (by first | rfl | assumption) rfl (by first | assumption | exact hR _ _ _ rfl) ?_
    refine am_iload rfl rfl ?_
    refine am_iload rfl rfl ?_
    first | refine ho_addn rfl ?_ | refine am_iadd rfl ?_
    refine am_aload_n rfl rfl ?_
    refine ho_getR rfl (by first | rfl | assumption) rfl (by first | assumption | exact hR _ _ _ rfl) ?_
    refine am_bipush (v := nI 36) rfl (by decide) ?_
    refine am_iload_n rfl rfl ?_
    first | refine ho_muln rfl ?_ | refine am_imul rfl ?_
    refine am_iload rfl rfl ?_
    first | refine ho_addn rfl ?_ | refine am_iadd rfl ?_
    refine ho_caload rfl rfl (by omega) ?_
    rw [cpN_off _ (show (130 : Nat) ≠ 132 by decide)]
    refine ho_castore rfl rfl (by omega) (by rw [t4 i (by omega)]; exact nar_c (okT_at t2 i)) ?_
    rw [cpN_s]
    refine am_iinc rfl rfl (nI_inc1 _) ?_
    show am_T _ _ _ _ [_, _, _, _, _, some _] _ _ _ _ _
    refine am_goto rfl ?_
    exact ih (i + 1) (by omega)
theorem cmp_nar : ∀ q, q < 5 → 1 ≤ q → ((nI (97 + q - 1)).toUInt32 % 65536).toInt32 = nI (q + 1 + 95) := by decide +kernel
theorem c_m_compose (hR : SR mr) (mi : Nat → Nat → Int32) (o : Nat → Option (List Nat)) (q c w : Nat) (hq : q ≤ 4) (hc : c < 41) (hw : w < 41) (hTw : TR (mi 130) (mi 131) w (some ((o w).getD []))) (hTc : 1 ≤ q → TR (mi 130) (mi 131) c (some ((o c).getD []))) (hlen : (cutT o (q + 1) c w).length ≤ 36) :
    am_T l d M_m_compose 0 [some (.ref 116), some (.int (nI q)), some (.int (nI c)), some (.int (nI w)), none, none] [] (hm mi ml mr) 0 0 (fun r h' => r = some (.int (nI (cutT o (q + 1) c w).length)) ∧ ∃ mi', h' = hm mi' ml mr ∧ TQ mi' (cutT o (q + 1) c w) ∧ F132 mi mi') := by
  have t0 : TQ mi [] := ⟨fun i hi => (by cases hi), fun c hc => (by cases hc)⟩
  have rt : ∀ {mi' : Nat → Nat → Int32} {k : Nat} {o : Option (List Nat)}, F132 mi mi' → TR (mi 130) (mi 131) k o → TR (mi' 130) (mi' 131) k o := fun hF h => TR_to h (hF 130 (by decide)) (hF 131 (by decide))
  refine am_iconst (v := nI 0) rfl (by decide) ?_
  refine am_istore rfl (Nat.le_of_ble_eq_true rfl) ?_
  show am_T _ _ _ _ [_, _, _, _, some _, _] _ _ _ _ _
  refine am_aload_n rfl rfl ?_
  refine ho_getR rfl (by first | rfl | assumption) rfl (by first | assumption | exact hR _ _ _ rfl) ?_
  refine am_iload rfl rfl ?_
  refine am_iload_n rfl rfl ?_
  by_cases e : q = 0
  · subst e
    refine am_if_ne rfl (fun z => absurd rfl z) (fun _ => ?_)
    refine am_bipush (v := nI 48) rfl (by decide) ?_
    refine am_goto rfl ?_
    refine ho_castore rfl rfl (by omega) (nar_c (by decide)) ?_
    refine am_iinc rfl rfl (nI_inc1 _) ?_
    show am_T _ _ _ _ [_, _, _, _, some _, _] _ _ _ _ _
    refine am_iload_n rfl rfl ?_
    refine am_if_le rfl (fun _ => ?_) (fun z => absurd (by decide) z)
    refine am_iconst (v := nI 0) rfl (by decide) ?_
    refine am_istore rfl (Nat.le_of_ble_eq_true rfl) ?_
    show am_T _ _ _ _ [_, _, _, _, _, some _] _ _ _ _ _
    have h1 : TQ (up2 mi 132 0 (nI 48)) [48] := TQ_put t0 (by decide)
    have e1 : cutT o (0 + 1) c w = [48] ++ (o w).getD [] := rfl
    have := c_m_compose_113 (l := l) (d := d) (ml := ml) hR _ [48] _ w hw (.int (nI 0)) (.int (nI c)) h1 (rt F132.up hTw) (by rw [e1, List.length_append] at hlen; exact hlen) ((o w).getD []).length 0 (by omega)
    rw [cpN_0] at this
    rw [e1]
    refine am_T.to this ?_
    rintro r h' ⟨rfl, mi', rfl, g1, g2⟩
    exact ⟨rfl, mi', rfl, g1, F132.up.tr g2⟩
  · have hTc := hTc (by omega)
    have e1 : cutT o (q + 1) c w = [q + 1 + 95] ++ [91] ++ (o c).getD [] ++ [93] ++ (o w).getD [] := by
      unfold cutT ftx2
      rw [if_neg (by omega)]
      simp
    have hl : (cutT o (q + 1) c w).length = 3 + ((o c).getD []).length + ((o w).getD []).length := by
      rw [e1]
      simp
      omega
    refine am_if_ne rfl (fun _ => ?_) (fun z => absurd ((nI_eq (a := q) (b := 0) (by omega) (by omega)).mp (z.trans (rfl : (0 : Int32) = nI 0))) e)
    refine am_bipush (v := nI 97) rfl (by decide) ?_
    refine am_iload_n rfl rfl ?_
    first | refine ho_addn rfl ?_ | refine am_iadd rfl ?_
    refine am_iconst (v := nI 1) rfl (by decide) ?_
    first | refine ho_subn rfl (by omega) ?_ | refine am_isub rfl ?_
    refine am_i2c rfl (cmp_nar q (by omega) (by omega)) ?_
    refine ho_castore rfl rfl (by omega) (nar_c (by omega)) ?_
    refine am_iinc rfl rfl (nI_inc1 _) ?_
    show am_T _ _ _ _ [_, _, _, _, some _, _] _ _ _ _ _
    refine am_iload_n rfl rfl ?_
    refine am_if_le rfl (fun z => ?_) (fun _ => ?_)
    · exfalso
      have := Int32.le_iff_toInt_le.mp z
      rw [nI_toInt (by omega), Int32.toInt_zero] at this
      omega
    refine am_aload_n rfl rfl ?_
    refine ho_getR rfl (by first | rfl | assumption) rfl (by first | assumption | exact hR _ _ _ rfl) ?_
    refine am_iload rfl rfl ?_
    refine am_bipush (v := nI 91) rfl (by decide) ?_
    refine ho_castore rfl rfl (by omega) (nar_c (by decide)) ?_
    refine am_iinc rfl rfl (nI_inc1 _) ?_
    show am_T _ _ _ _ [_, _, _, _, some _, _] _ _ _ _ _
    refine am_iconst (v := nI 0) rfl (by decide) ?_
    refine am_istore rfl (Nat.le_of_ble_eq_true rfl) ?_
    show am_T _ _ _ _ [_, _, _, _, _, some _] _ _ _ _ _
    have h1 : TQ (up2 mi 132 0 (nI (q + 1 + 95))) [q + 1 + 95] := TQ_put t0 (by omega)
    have h2 : TQ (up2 (up2 mi 132 0 (nI (q + 1 + 95))) 132 1 (nI 91)) ([q + 1 + 95] ++ [91]) := TQ_put h1 (by decide)
    have F2 : F132 mi (up2 (up2 mi 132 0 (nI (q + 1 + 95))) 132 1 (nI 91)) := F132.up.tr F132.up
    have := c_m_compose_48 (l := l) (d := d) (ml := ml) (Q := (fun r h' => r = some (.int (nI (cutT o (q + 1) c w).length)) ∧ ∃ mi', h' = hm mi' ml mr ∧ TQ mi' (cutT o (q + 1) c w) ∧ F132 mi mi')) hR _ _ _ c hc (nI q) (nI w) h2 (rt F2 hTc) (by show 2 + _ < 36; omega) (fun mi3 g1 g2 => ?_) ((o c).getD []).length 0 (by omega)
    · rw [cpN_0] at this
      exact this
    · have F3 := F2.tr g2
      refine am_iconst (v := nI 0) rfl (by decide) ?_
      refine am_istore rfl (Nat.le_of_ble_eq_true rfl) ?_
      show am_T _ _ _ _ [_, _, _, _, _, some _] _ _ _ _ _
      have h3 := c_m_compose_113 (l := l) (d := d) (ml := ml) hR _ _ _ w hw (.int (nI q)) (.int (nI c)) g1 (rt F3 hTw) (by rw [e1, List.length_append] at hlen; exact hlen) ((o w).getD []).length 0 (by omega)
      rw [cpN_0] at h3
      rw [e1]
      refine am_T.to h3 ?_
      rintro r h' ⟨rfl, mi', rfl, g3, g4⟩
      exact ⟨rfl, mi', rfl, g3, F3.tr g4⟩
end S8
