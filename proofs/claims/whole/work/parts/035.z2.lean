/-! the reference: sizes -/
def FARm : Nat := 1000000000000000000
def sumV (v : Nat → Nat) (n : Nat) : Nat := ((List.range n).map v).sum
theorem sumV_s (v : Nat → Nat) (n : Nat) : sumV v (n + 1) = sumV v n + v n := by
  unfold sumV
  rw [List.range_succ, List.map_append, List.sum_append]
  simp
theorem sumV_lt (v v' : Nat → Nat) : ∀ (n k : Nat), k < n → v' k < v k → (∀ j, j ≠ k → v' j = v j) → sumV v' n < sumV v n
  | 0, k, h, _, _ => by omega
  | n + 1, k, h, h1, h2 => by
    rw [sumV_s, sumV_s]
    by_cases e : k = n
    · subst e
      have : ∀ m, m ≤ k → sumV v' m = sumV v m := by
        intro m
        induction m with
        | zero => intro _; rfl
        | succ m ih =>
          intro hm
          rw [sumV_s, sumV_s, ih (by omega), h2 m (by omega)]
      rw [this k (Nat.le_refl _)]
      omega
    · have := sumV_lt v v' n k (by omega) h1 h2
      rw [h2 n (Ne.symm e)]
      omega
/-- sizes that some hedges have, or FAR -/
def VI (S : Rs) (cnt : Nat) (v : Nat → Nat) (ml : Nat → Nat → Int64) : Prop := (∀ k, k < cnt → ml 128 k = lJ (v k)) ∧ v 0 = 0 ∧ (∀ k, v k ≤ FARm) ∧ ∀ k, 1 ≤ k → k < cnt → v k = FARm ∨ HSz S (ml 127 k) (v k)
/-- nothing can be made smaller at the step i -/
def Rlx (cnt : Nat) (mi : Nat → Nat → Int32) (v : Nat → Nat) (i : Nat) : Prop := ∀ k, k < cnt → mi 129 (tix (i / (cnt * cnt)) (i / cnt % cnt) (i % cnt)) = nI k → v k ≤ 1 + v (i % cnt) + (if i / (cnt * cnt) = 0 then 0 else v (i / cnt % cnt))
section Z2
variable {l : Launch} {d : Nat} {mi : Nat → Nat → Int32} {mr : Nat → Nat → Option Nat} {S : Rs}
theorem c_m_sizes_pass (hR : SR mr) (cnt : Nat) (h40 : cnt ≤ 40) (hc : mi 116 18 = nI cnt) (ml0 : Nat → Nat → Int64) (hK : KI S cnt mi ml0) (hA : All S cnt cnt mi ml0) (v0 : Nat → Nat) {Q : Option Value → am_H → Prop}
    (hout : ∀ (v : Nat → Nat) (ml : Nat → Nat → Int64) (more : Bool), (∀ a, a ≠ 128 → ml a = ml0 a) → VI S cnt v ml → sumV v cnt ≤ sumV v0 cnt → (more = true → sumV v cnt < sumV v0 cnt) → (more = false → ∀ i, i < 5 * cnt * cnt → Rlx cnt mi v i) → am_T l (d + 1) M_m_sizes 35 [some (.ref 116), some (.int (bI more)), none, none, none, none, none, none, none] [] (hm mi ml mr) 0 0 Q) :
    ∀ (j i : Nat) (v : Nat → Nat) (ml : Nat → Nat → Int64) (more : Bool), i + j = 5 * cnt * cnt → (∀ a, a ≠ 128 → ml a = ml0 a) → VI S cnt v ml → sumV v cnt ≤ sumV v0 cnt → (more = true → sumV v cnt < sumV v0 cnt) → (more = false → ∀ i', i' < i → Rlx cnt mi v i') →
      am_T l (d + 1) M_m_sizes 43 [some (.ref 116), some (.int (bI more)), some (.int (nI i)), none, none, none, none, none, none] [] (hm mi ml mr) 0 0 Q := by
  have hc1 := hK.1.1
  have hsq : cnt * cnt ≤ 1600 := Nat.mul_le_mul h40 h40
  have h5 : 5 * cnt * cnt = 5 * (cnt * cnt) := Nat.mul_assoc 5 cnt cnt
  have hpos : 0 < cnt * cnt := Nat.mul_pos hc1 hc1
  intro j
  induction j with
  | zero =>
    intro i v ml more hj ho hV hs hm1 hm2
    refine am_iload_n rfl rfl ?_
    refine am_iconst (v := nI 5) rfl (by decide) ?_
    refine am_aload_n rfl rfl ?_
    refine ho_getI rfl (by first | rfl | assumption) rfl ?_
    rw [hc]
    first | refine ho_muln rfl ?_ | refine am_imul rfl ?_
    refine am_aload_n rfl rfl ?_
    refine ho_getI rfl (by first | rfl | assumption) rfl ?_
    rw [hc]
    first | refine ho_muln rfl ?_ | refine am_imul rfl ?_
    refine ho_icmp_ge rfl (by omega) (by omega) (fun _ => ?_) (fun z => absurd (by omega) z)
    refine am_goto rfl ?_
    refine am_drops [2] ?_
    exact hout v ml more ho hV hs hm1 (fun e i' hi' => hm2 e i' (by omega))
  | succ j ih =>
    intro i v ml more hj ho hV hs hm1 hm2
    have hq : i / (cnt * cnt) ≤ 4 := by
      have : i / (cnt * cnt) < 5 := (Nat.div_lt_iff_lt_mul hpos).mpr (by omega)
      omega
    have hcc : i / cnt % cnt < cnt := Nat.mod_lt _ hc1
    have hww : i % cnt < cnt := Nat.mod_lt _ hc1
    obtain ⟨k, k1, k2, k3, k4⟩ := hA _ hq _ _ hcc hww
    refine am_iload_n rfl rfl ?_
    refine am_iconst (v := nI 5) rfl (by decide) ?_
    refine am_aload_n rfl rfl ?_
    refine ho_getI rfl (by first | rfl | assumption) rfl ?_
    rw [hc]
    first | refine ho_muln rfl ?_ | refine am_imul rfl ?_
    refine am_aload_n rfl rfl ?_
    refine ho_getI rfl (by first | rfl | assumption) rfl ?_
    rw [hc]
    first | refine ho_muln rfl ?_ | refine am_imul rfl ?_
    refine ho_icmp_ge rfl (by omega) (by omega) (fun z => absurd z (by omega)) (fun _ => ?_)
    refine am_iload_n rfl rfl ?_
    refine am_aload_n rfl rfl ?_
    refine ho_getI rfl (by first | rfl | assumption) rfl ?_
    rw [hc]
    refine am_aload_n rfl rfl ?_
    refine ho_getI rfl (by first | rfl | assumption) rfl ?_
    rw [hc]
    first | refine ho_muln rfl ?_ | refine am_imul rfl ?_
    refine am_idiv rfl (nI_nz hpos (by omega)) ?_
    rw [nI_div (by omega) (by omega)]
    refine am_istore_n rfl (Nat.le_of_ble_eq_true rfl) ?_
    show am_T _ _ _ _ [_, _, _, some _, _, _, _, _, _] _ _ _ _ _
    refine am_iload_n rfl rfl ?_
    refine am_aload_n rfl rfl ?_
    refine ho_getI rfl (by first | rfl | assumption) rfl ?_
    rw [hc]
    refine am_idiv rfl (nI_nz hc1 (by omega)) ?_
    rw [nI_div (by omega) (by omega)]
    refine am_aload_n rfl rfl ?_
    refine ho_getI rfl (by first | rfl | assumption) rfl ?_
    rw [hc]
    refine am_irem rfl (nI_nz hc1 (by omega)) ?_
    rw [nI_mod (Nat.lt_of_le_of_lt (Nat.div_le_self i cnt) (by omega)) (by omega)]
    refine am_istore rfl (Nat.le_of_ble_eq_true rfl) ?_
    show am_T _ _ _ _ [_, _, _, _, some _, _, _, _, _] _ _ _ _ _
    refine am_iload_n rfl rfl ?_
    refine am_aload_n rfl rfl ?_
    refine ho_getI rfl (by first | rfl | assumption) rfl ?_
    rw [hc]
    refine am_irem rfl (nI_nz hc1 (by omega)) ?_
    rw [nI_mod (by omega) (by omega)]
    refine am_istore rfl (Nat.le_of_ble_eq_true rfl) ?_
    show am_T _ _ _ _ [_, _, _, _, _, some _, _, _, _] _ _ _ _ _
    refine am_aload_n rfl rfl ?_
    refine am_iload_n rfl rfl ?_
    refine am_iload rfl rfl ?_
    refine am_iload rfl rfl ?_
    refine ho_cv3 rfl (by first | rfl | assumption) rfl (Nat.le_of_ble_eq_true rfl) (Nat.le_of_ble_eq_true rfl) (c_m_joined hR _ _ _ hq (by omega) (by omega)) ?_
    rintro r h' ⟨rfl, rfl⟩
    show am_T _ _ _ _ _ (_ :: []) _ _ _ _
    rw [k3]
    refine am_istore rfl (Nat.le_of_ble_eq_true rfl) ?_
    show am_T _ _ _ _ [_, _, _, _, _, _, some _, _, _] _ _ _ _ _
    refine am_aload_n rfl rfl ?_
    refine am_iload_n rfl rfl ?_
    refine am_iload rfl rfl ?_
    refine am_iload rfl rfl ?_
    refine ho_cv3 rfl (by first | rfl | assumption) rfl (Nat.le_of_ble_eq_true rfl) (Nat.le_of_ble_eq_true rfl) (c_m_weight hR v _ _ _ (by omega) (by omega) (hV.1 _ hcc) (hV.1 _ hww) (by omega)) ?_
    rintro r h' ⟨rfl, rfl⟩
    show am_T _ _ _ _ _ (_ :: []) _ _ _ _
    generalize hwt : 1 + v (i % cnt) + (if i / (cnt * cnt) = 0 then 0 else v (i / cnt % cnt)) = wt
    have hv1 := hV.2.2.1 (i % cnt)
    have hv2 := hV.2.2.1 (i / cnt % cnt)
    have hv3 := hV.2.2.1 k
    have hF : FARm = 1000000000000000000 := rfl
    have hwt2 : wt ≤ 2 * FARm + 1 := by
      rw [← hwt]
      split <;> omega
    refine am_lstore rfl (Nat.le_of_ble_eq_true rfl) ?_
    show am_T _ _ _ _ [_, _, _, _, _, _, _, some _, none] _ _ _ _ _
    refine am_lload rfl rfl ?_
    refine am_aload_n rfl rfl ?_
    refine ho_getR rfl (by first | rfl | assumption) rfl (by first | assumption | exact hR _ _ _ rfl) ?_
    refine am_iload rfl rfl ?_
    refine ho_laload rfl (by first | rfl | assumption) (by omega) ?_
    rw [hV.1 k k2]
    refine am_lcmp rfl ?_
    have tail : ∀ (v' : Nat → Nat) (ml' : Nat → Nat → Int64) (more' : Bool), (∀ a, a ≠ 128 → ml' a = ml0 a) → VI S cnt v' ml' → sumV v' cnt ≤ sumV v0 cnt → (more' = true → sumV v' cnt < sumV v0 cnt) → (more' = false → ∀ i', i' < i + 1 → Rlx cnt mi v' i') → am_T l (d + 1) M_m_sizes 137 [some (.ref 116), some (.int (bI more')), some (.int (nI i)), some (.int (nI (i / (cnt * cnt)))), some (.int (nI (i / cnt % cnt))), some (.int (nI (i % cnt))), some (.int (nI k)), some (.long (lJ wt)), none] [] (hm mi ml' mr) 0 0 Q := by
      intro v' ml' more' g1 g2 g3 g4 g5
      refine am_iinc rfl rfl (nI_inc1 _) ?_
      show am_T _ _ _ _ [_, _, some _, _, _, _, _, _, _] _ _ _ _ _
      refine am_goto rfl ?_
      refine am_drops [3, 4, 5, 6, 7] ?_
      exact ih (i + 1) v' ml' more' (by omega) g1 g2 g3 g4 g5
    refine am_if_ge rfl (fun z => ?_) (fun z => ?_)
    · have hle : v k ≤ wt := by
        have := lg_ge.mp z
        have h2 := Int64.le_iff_toInt_le.mp this
        rw [lJ_toInt (by omega), lJ_toInt (by omega)] at h2
        omega
      refine tail v ml more ho hV hs hm1 (fun e i' hi' => ?_)
      rcases Nat.lt_succ_iff_lt_or_eq.mp hi' with e2 | e2
      · exact hm2 e i' e2
      · subst e2
        intro k' hk' hkm
        have : k' = k := (nI_eq (by omega) (by omega)).mp (hkm.symm.trans k3)
        subst this
        rw [hwt]
        exact hle
    · have hlt : wt < v k := by
        rcases Nat.lt_or_ge wt (v k) with q | q
        · exact q
        · refine absurd (lg_ge.mpr (Int64.le_iff_toInt_le.mpr ?_)) z
          rw [lJ_toInt (by omega), lJ_toInt (by omega)]
          omega
      refine am_aload_n rfl rfl ?_
      refine ho_getR rfl (by first | rfl | assumption) rfl (by first | assumption | exact hR _ _ _ rfl) ?_
      refine am_iload rfl rfl ?_
      refine am_lload rfl rfl ?_
      refine ho_lastore rfl (by first | rfl | assumption) (by omega) ?_
      refine am_iconst (v := nI 1) rfl (by decide) ?_
      refine am_istore_n rfl (Nat.le_of_ble_eq_true rfl) ?_
      show am_T _ _ _ _ [_, some _, _, _, _, _, _, _, _] _ _ _ _ _
      have hsum := sumV_lt v (fun j => if j = k then wt else v j) cnt k k2 (by simp; exact hlt) (fun j hj => by simp [hj])
      refine tail (fun j => if j = k then wt else v j) (up2 ml 128 k (lJ wt)) true (fun a ha => by rw [up2_off _ _ _ ha]; exact ho a ha) ⟨fun j hj => ?_, ?_, fun j => ?_, fun j h1 h2 => ?_⟩ (by omega) (fun _ => by omega) (fun e => by cases e)
      · unfold up2
        by_cases e : j = k
        · simp [e]
        · simp [e, hV.1 j hj]
      · simp [show ¬ 0 = k by omega, hV.2.1]
      · by_cases e : j = k
        · simp [e]; omega
        · simp [e, hV.2.2.1 j]
      · rw [up2_off _ _ _ (show (127 : Nat) ≠ 128 by decide)]
        by_cases e : j = k
        · subst e
          right
          simp only [if_true]
          have hb : ∀ x, x < cnt → v x < FARm → (ml0 127 x = K0 S ∧ v x = 0) ∨ HSz S (ml0 127 x) (v x) := by
            intro x hx hlt2
            rcases Nat.eq_zero_or_pos x with e0 | e0
            · subst e0
              exact Or.inl ⟨hK.2.2.1, hV.2.1⟩
            · rcases hV.2.2.2 x e0 hx with g | g
              · omega
              · rw [ho 127 (by decide)] at g
                exact Or.inr g
          rw [ho 127 (by decide), k4, ← hwt]
          have hw1 : v (i % cnt) < FARm := by
            rw [← hwt] at hlt
            omega
          by_cases eq0 : i / (cnt * cnt) = 0
          · rw [if_pos eq0, eq0]
            have hcx : ∃ sc, (ml0 127 (i / cnt % cnt) = K0 S ∧ sc = 0) ∨ HSz S (ml0 127 (i / cnt % cnt)) sc := by
              rcases hK.re hcc with e0 | e0
              · exact ⟨0, Or.inl ⟨e0, rfl⟩⟩
              · obtain ⟨sc, hsc⟩ := e0.hsz
                exact ⟨sc, Or.inr hsc⟩
            obtain ⟨sc, hsc⟩ := hcx
            have := HSz.step (S := S) (f := 1) (by omega) (by omega) hsc (hb _ hww hw1)
            rw [if_pos rfl] at this
            exact this
          · rw [if_neg eq0]
            have hw2 : v (i / cnt % cnt) < FARm := by
              rw [← hwt, if_neg eq0] at hlt
              omega
            have := HSz.step (S := S) (f := i / (cnt * cnt) + 1) (Nat.le_add_left 1 _) (Nat.succ_le_succ hq) (hb _ hcc hw2) (hb _ hww hw1)
            rw [if_neg (show ¬ i / (cnt * cnt) + 1 = 1 from fun z => eq0 (Nat.succ.inj z))] at this
            exact this
        · simp only [e, if_false]
          exact hV.2.2.2 j h1 h2
theorem c_m_sizes_loop (hR : SR mr) (cnt : Nat) (h40 : cnt ≤ 40) (hc : mi 116 18 = nI cnt) (ml0 : Nat → Nat → Int64) (hK : KI S cnt mi ml0) (hA : All S cnt cnt mi ml0) {Q : Option Value → am_H → Prop}
    (hout : ∀ (v : Nat → Nat) (ml : Nat → Nat → Int64), (∀ a, a ≠ 128 → ml a = ml0 a) → VI S cnt v ml → (∀ i, i < 5 * cnt * cnt → Rlx cnt mi v i) → Q none (hm mi ml mr)) :
    ∀ (n : Nat) (v : Nat → Nat) (ml : Nat → Nat → Int64) (more : Bool), sumV v cnt + (if more then 1 else 0) ≤ n → (∀ a, a ≠ 128 → ml a = ml0 a) → VI S cnt v ml → (more = false → ∀ i, i < 5 * cnt * cnt → Rlx cnt mi v i) →
      am_T l (d + 1) M_m_sizes 35 [some (.ref 116), some (.int (bI more)), none, none, none, none, none, none, none] [] (hm mi ml mr) 0 0 Q := by
  intro n
  induction n with
  | zero =>
    intro v ml more hn ho hV hr
    have hmo : more = false := by cases more <;> simp at hn <;> rfl
    subst hmo
    refine am_iload_n rfl rfl ?_
    refine am_if_eq rfl (fun _ => ?_) (fun q => absurd rfl q)
    exact am_return rfl rfl (hout v ml ho hV (hr rfl))
  | succ n ih =>
    intro v ml more hn ho hV hr
    refine am_iload_n rfl rfl ?_
    refine am_if_eq rfl (fun q => ?_) (fun q => ?_)
    · exact am_return rfl rfl (hout v ml ho hV (hr ((bI_eq _).mp q)))
    have hmo := (bI_ne _).mp q
    subst hmo
    simp only [if_true] at hn
    refine am_iconst (v := nI 0) rfl (by decide) ?_
    refine am_istore_n rfl (Nat.le_of_ble_eq_true rfl) ?_
    show am_T _ _ _ _ [_, some _, _, _, _, _, _, _, _] _ _ _ _ _
    refine am_iconst (v := nI 0) rfl (by decide) ?_
    refine am_istore_n rfl (Nat.le_of_ble_eq_true rfl) ?_
    show am_T _ _ _ _ [_, _, some _, _, _, _, _, _, _] _ _ _ _ _
    refine c_m_sizes_pass hR cnt h40 hc ml0 hK hA v (fun v' ml' more' g1 g2 g0 g3 g4 => ih v' ml' more' ?_ g1 g2 g4) (5 * cnt * cnt) 0 v ml false (by omega) ho hV (Nat.le_refl _) (fun e => by cases e) (fun _ i' hi' => by omega)
    cases more' with
    | false => simp; omega
    | true => have := g3 rfl; simp; omega
theorem c_m_sizes_init (hR : SR mr) (cnt : Nat) (h40 : cnt ≤ 40) (hc : mi 116 18 = nI cnt) {Q : Option Value → am_H → Prop} (ml0 : Nat → Nat → Int64)
    (hout : ∀ ml, (∀ a, a ≠ 128 → ml a = ml0 a) → (∀ k, k < cnt → ml 128 k = lJ (if k = 0 then 0 else FARm)) → am_T l d M_m_sizes 33 [some (.ref 116), none, none, none, none, none, none, none, none] [] (hm mi ml mr) 0 0 Q) :
    ∀ (j k : Nat) (ml : Nat → Nat → Int64), k + j = cnt → (∀ a, a ≠ 128 → ml a = ml0 a) → (∀ i, i < k → ml 128 i = lJ (if i = 0 then 0 else FARm)) → am_T l d M_m_sizes 2 [some (.ref 116), some (.int (nI k)), none, none, none, none, none, none, none] [] (hm mi ml mr) 0 0 Q := by
  intro j
  induction j with
  | zero =>
    intro k ml hj ho hv
    refine am_iload_n rfl rfl ?_
    refine am_aload_n rfl rfl ?_
    refine ho_getI rfl (by first | rfl | assumption) rfl ?_
    rw [hc]
    refine ho_icmp_ge rfl (by omega) (by omega) (fun _ => ?_) (fun z => absurd (by omega) z)
    refine am_drops [1] ?_
    exact hout ml ho (fun i hi => hv i (by omega))
  | succ j ih =>
    intro k ml hj ho hv
    have next : ∀ x : Int64, x = lJ (if k = 0 then 0 else FARm) → am_T l d M_m_sizes 26 [some (.ref 116), some (.int (nI k)), none, none, none, none, none, none, none] [.long x, .int (nI k), .ref 128] (hm mi ml mr) 0 0 Q := by
      intro x hx
      refine ho_lastore rfl rfl (by omega) ?_
      refine am_iinc rfl rfl (nI_inc1 _) ?_
      show am_T _ _ _ _ [_, some _, _, _, _, _, _, _, _] _ _ _ _ _
      refine am_goto rfl ?_
      refine ih (k + 1) _ (by omega) (fun a ha => by rw [up2_off _ _ _ ha]; exact ho a ha) (fun i hi => ?_)
      unfold up2
      by_cases e : i = k
      · simp [e, hx]
      · simp only [e, and_false, if_false]
        exact hv i (by omega)
    refine am_iload_n rfl rfl ?_
    refine am_aload_n rfl rfl ?_
    refine ho_getI rfl (by first | rfl | assumption) rfl ?_
    rw [hc]
    refine ho_icmp_ge rfl (by omega) (by omega) (fun z => absurd z (by omega)) (fun _ => ?_)
    refine am_aload_n rfl rfl ?_
    refine ho_getR rfl (by first | rfl | assumption) rfl (by first | assumption | exact hR _ _ _ rfl) ?_
    refine am_iload_n rfl rfl ?_
    refine am_iload_n rfl rfl ?_
    refine am_if_ne rfl (fun z => ?_) (fun z => ?_)
    · have hz : ¬ k = 0 := fun e => z (by rw [e]; rfl)
      refine am_ldc2 rfl rfl ?_
      exact next _ (by rw [if_neg hz]; rfl)
    · have hz : k = 0 := (nI_eq (by omega) (by omega)).mp (z.trans (rfl : (0 : Int32) = nI 0))
      refine am_lconst (v := 0) rfl (by decide) ?_
      refine am_goto rfl ?_
      exact next _ (by rw [if_pos hz]; rfl)
/-- sizes(): a fixed point, of sizes that hedges have -/
theorem c_m_sizes (hR : SR mr) (cnt : Nat) (h40 : cnt ≤ 40) (ml : Nat → Nat → Int64) (hK : KI S cnt mi ml) (hA : All S cnt cnt mi ml) : am_T l (d + 1) M_m_sizes 0 [some (.ref 116), none, none, none, none, none, none, none, none] [] (hm mi ml mr) 0 0 (fun r h' => r = none ∧ ∃ v ml', h' = hm mi ml' mr ∧ (∀ a, a ≠ 128 → ml' a = ml a) ∧ VI S cnt v ml' ∧ ∀ i, i < 5 * cnt * cnt → Rlx cnt mi v i) := by
  refine am_iconst (v := nI 0) rfl (by decide) ?_
  refine am_istore_n rfl (Nat.le_of_ble_eq_true rfl) ?_
  show am_T _ _ _ _ [_, some _, _, _, _, _, _, _, _] _ _ _ _ _
  refine c_m_sizes_init hR cnt h40 hK.2.1 ml (fun ml1 g1 g2 => ?_) cnt 0 ml (by omega) (fun _ _ => rfl) (fun i hi => by omega)
  refine am_iconst (v := nI 1) rfl (by decide) ?_
  refine am_istore_n rfl (Nat.le_of_ble_eq_true rfl) ?_
  show am_T _ _ _ _ [_, some _, _, _, _, _, _, _, _] _ _ _ _ _
  refine c_m_sizes_loop hR cnt h40 hK.2.1 ml hK hA (fun v ml' h1 h2 h3 => ⟨rfl, v, ml', rfl, h1, h2, h3⟩) _ (fun k => if k = 0 then 0 else FARm) ml1 true (Nat.le_refl _) g1 ⟨g2, rfl, fun k => ?_, fun k h1 h2 => Or.inl (if_neg (by omega))⟩ (fun e => by cases e)
  show (if k = 0 then 0 else FARm) ≤ FARm
  split <;> omega
/-- at such a fixed point no hedge is smaller -/
theorem Rlx_least {cnt : Nat} {ml0 : Nat → Nat → Int64} (hK : KI S cnt mi ml0) (hA : All S cnt cnt mi ml0) {v : Nat → Nat} (hv0 : v 0 = 0) (hr : ∀ i, i < 5 * cnt * cnt → Rlx cnt mi v i) {m : Int64} {s : Nat} (h : HSz S m s) : ∃ k, 1 ≤ k ∧ k < cnt ∧ ml0 127 k = m ∧ v k ≤ s := by
  have hc1 := hK.1.1
  have hc41 := hK.1.2
  refine h (fun m s => ∃ k, 1 ≤ k ∧ k < cnt ∧ ml0 127 k = m ∧ v k ≤ s) ?_
  intro f f1 f5 c t sc st hc ht
  have pick : ∀ c sc, ((c = K0 S ∧ sc = 0) ∨ ∃ k, 1 ≤ k ∧ k < cnt ∧ ml0 127 k = c ∧ v k ≤ sc) → ∃ k, k < cnt ∧ ml0 127 k = c ∧ v k ≤ sc := by
    rintro c sc (⟨e1, e2⟩ | ⟨k, k1, k2, k3, k4⟩)
    · exact ⟨0, by omega, by rw [e1]; exact hK.2.2.1, by omega⟩
    · exact ⟨k, k2, k3, k4⟩
  obtain ⟨a, a1, rfl, a3⟩ := pick c sc hc
  obtain ⟨b, b1, rfl, b3⟩ := pick t st ht
  obtain ⟨k, k1, k2, k3, k4⟩ := hA (f - 1) (by omega) a b a1 b1
  rw [show f - 1 + 1 = f by omega] at k4
  refine ⟨k, k1, k2, k4, ?_⟩
  have e1 : (((f - 1) * cnt + a) * cnt + b) % cnt = b := by
    rw [Nat.mul_comm, Nat.mul_add_mod, Nat.mod_eq_of_lt b1]
  have e2 : (((f - 1) * cnt + a) * cnt + b) / cnt = (f - 1) * cnt + a := by
    rw [Nat.mul_comm, Nat.mul_add_div hc1, Nat.div_eq_of_lt b1, Nat.add_zero]
  have e3 : ((f - 1) * cnt + a) % cnt = a := by
    rw [Nat.mul_comm, Nat.mul_add_mod, Nat.mod_eq_of_lt a1]
  have e4 : ((f - 1) * cnt + a) / cnt = f - 1 := by
    rw [Nat.mul_comm, Nat.mul_add_div hc1, Nat.div_eq_of_lt a1, Nat.add_zero]
  have e5 : (((f - 1) * cnt + a) * cnt + b) / (cnt * cnt) = f - 1 := by
    rw [← Nat.div_div_eq_div_mul, e2, e4]
  have hi : ((f - 1) * cnt + a) * cnt + b < 5 * cnt * cnt := by
    have h1 : (f - 1) * cnt + a + 1 ≤ 5 * cnt := by
      have : (f - 1) * cnt ≤ 4 * cnt := Nat.mul_le_mul_right _ (by omega)
      omega
    have h2 := Nat.mul_le_mul_right cnt h1
    rw [Nat.add_mul, Nat.one_mul] at h2
    omega
  have := hr _ hi k k2 (by rw [e5, e2, e3, e1]; exact k3)
  rw [e5, e2, e3, e1] at this
  by_cases ef : f = 1
  · rw [if_pos (by omega)] at this
    rw [if_pos ef]
    omega
  · rw [if_neg (by omega)] at this
    rw [if_neg ef]
    omega
end Z2
