/-! the class: spread, a least closed set -/
def SpC (sk : Nat → Bool) (W T : Nat → Nat → Bool) (X : Nat → Bool) : Prop := (∀ r, r < 64 → sk r = true → r + 1 < 64 → X (r + 1) = true → X r = true) ∧ ∀ n, n < 6 → (∃ q, q < 64 ∧ W n q = true ∧ X q = true) → ∀ r, r < 64 → T n r = true → X r = true
def Sp (sk : Nat → Bool) (W T : Nat → Nat → Bool) (G : Nat → Bool) (r : Nat) : Prop := r < 64 ∧ ∀ X : Nat → Bool, (∀ q, q < 64 → G q = true → X q = true) → SpC sk W T X → X r = true
noncomputable def spF (sk : Nat → Bool) (W T : Nat → Nat → Bool) (G : Nat → Bool) : Int64 := ofB (Sp sk W T G)
def cnt64 (m : Int64) : Nat := ((List.range 64).filter (tb m)).length
theorem cnt64_le (m : Int64) : cnt64 m ≤ 64 := by
  have := List.length_filter_le (tb m) (List.range 64)
  rw [List.length_range] at this
  exact this
theorem cnt64_lt {a b : Int64} (h : ∀ r, r < 64 → tb a r = true → tb b r = true) (hne : ¬ b = a) : cnt64 a < cnt64 b := by
  refine filter_lt _ _ _ (fun x hx => h x (List.mem_range.mp hx)) ?_
  rcases Classical.em (∃ x, x ∈ List.range 64 ∧ tb b x = true ∧ tb a x = false) with q | q
  · exact q
  · refine absurd (tb_ext fun r hr => ?_) hne
    cases h1 : tb b r
    · cases h2 : tb a r
      · rfl
      · rw [h r hr h2] at h1
        cases h1
    · cases h2 : tb a r
      · exact absurd ⟨r, List.mem_range.mpr hr, h1, h2⟩ q
      · rfl
theorem cnt64_all {m : Int64} (h : 64 ≤ cnt64 m) {r : Nat} (hr : r < 64) : tb m r = true := by
  cases ht : tb m r
  · have : ((List.range 64).filter (tb m)).length < ((List.range 64).filter (fun _ => true)).length := filter_lt _ _ _ (fun _ _ _ => rfl) ⟨r, List.mem_range.mpr hr, rfl, ht⟩
    rw [show (List.range 64).filter (fun _ => true) = List.range 64 from by decide, List.length_range] at this
    exact absurd h (by unfold cnt64; omega)
  · rfl
theorem tb_lt {m : Int64} {r : Nat} (h : tb m r = true) : r < 64 := by
  rcases Nat.lt_or_ge r 64 with y | y
  · exact y
  · rw [tb_ge y] at h
    cases h
section X1
variable {l : Launch} {d : Nat} {mi : Nat → Nat → Int32} {ml : Nat → Nat → Int64} {mr : Nat → Nat → Option Nat}
theorem c_S_spread_in (hR : SR mr) (g f1 be : Int64) (hg : ∀ r, tb f1 r = true → Sp (tb (ml 84 8)) (fun n => tb (ml 90 n)) (fun n => tb (ml 91 n)) (tb g) r) (hb : ∀ r, r < 64 → tb be r = true → tb f1 r = true) {Q : Option Value → am_H → Prop} (w : Nat)
    (hout : ∀ m : Int64, (∀ r, tb m r = true → Sp (tb (ml 84 8)) (fun n => tb (ml 90 n)) (fun n => tb (ml 91 n)) (tb g) r) → (∀ r, r < 64 → tb f1 r = true → tb m r = true) → (∀ n, n < 6 → (∃ q, q < 64 ∧ tb (ml 90 n) q = true ∧ tb be q = true) → ∀ r, r < 64 → tb (ml 91 n) r = true → tb m r = true) → am_T l d M_S_spread 70 [some (.ref 84), some (.long g), none, some (.long m), none, some (.int (nI w)), some (.long be), none, none] [] (hm mi ml mr) 0 0 Q) :
    ∀ (k n : Nat) (m : Int64), n + k = 6 → (∀ r, tb m r = true → Sp (tb (ml 84 8)) (fun n => tb (ml 90 n)) (fun n => tb (ml 91 n)) (tb g) r) → (∀ r, r < 64 → tb f1 r = true → tb m r = true) → (∀ j, j < n → (∃ q, q < 64 ∧ tb (ml 90 j) q = true ∧ tb be q = true) → ∀ r, r < 64 → tb (ml 91 j) r = true → tb m r = true) →
      am_T l d M_S_spread 29 [some (.ref 84), some (.long g), none, some (.long m), none, some (.int (nI w)), some (.long be), none, some (.int (nI n))] [] (hm mi ml mr) 0 0 Q := by
  intro k
  induction k with
  | zero =>
    intro n m hk h1 h2 h3
    refine am_iload rfl rfl ?_
    refine am_bipush (v := nI 6) rfl (by decide) ?_
    refine ho_icmp_ge rfl (by omega) (by omega) (fun _ => ?_) (fun q => absurd (by omega) q)
    refine am_drops [8] ?_
    exact hout m h1 h2 (fun j hj => h3 j (by omega))
  | succ k ih =>
    intro n m hk h1 h2 h3
    refine am_iload rfl rfl ?_
    refine am_bipush (v := nI 6) rfl (by decide) ?_
    refine ho_icmp_ge rfl (by omega) (by omega) (fun q => absurd q (by omega)) (fun _ => ?_)
    refine am_lload_n rfl rfl ?_
    refine am_lload_n rfl rfl ?_
    refine am_aload_n rfl rfl ?_
    refine ho_getR rfl (by first | rfl | assumption) rfl (by first | assumption | exact hR _ _ _ rfl) ?_
    refine am_iload rfl rfl ?_
    refine ho_laload rfl (by first | rfl | assumption) (by omega) ?_
    refine am_land rfl ?_
    refine am_lconst (v := 0) rfl (by decide) ?_
    refine am_lcmp rfl ?_
    refine am_if_eq rfl (fun q => ?_) (fun q => ?_)
    · have q := tb_meet.mp q
      refine am_lconst (v := 0) rfl (by decide) ?_
      refine am_lor rfl ?_
      rw [Int64.or_zero]
      refine am_lstore_n rfl (Nat.le_of_ble_eq_true rfl) ?_
      show am_T _ _ _ _ [_, _, _, some _, none, _, _, _, _] _ _ _ _ _
      refine am_iinc rfl rfl (nI_inc1 _) ?_
      show am_T _ _ _ _ [_, _, _, _, _, _, _, _, some _] _ _ _ _ _
      refine am_goto rfl ?_
      refine ih (n + 1) m (by omega) h1 h2 (fun j hj hex => ?_)
      rcases Nat.lt_succ_iff_lt_or_eq.mp hj with e | e
      · exact h3 j e hex
      · subst e
        obtain ⟨x, x1, x2, x3⟩ := hex
        exact absurd ⟨h2 x x1 (hb x x1 x3), x2⟩ (q x x1)
    · have hex : ∃ x, x < 64 ∧ tb m x = true ∧ tb (ml 90 n) x = true := by
        rcases Classical.em (∃ x, x < 64 ∧ tb m x = true ∧ tb (ml 90 n) x = true) with z | z
        · exact z
        · exact absurd (tb_meet.mpr (fun r hr hq => z ⟨r, hr, hq⟩)) q
      refine am_aload_n rfl rfl ?_
      refine ho_getR rfl (by first | rfl | assumption) rfl (by first | assumption | exact hR _ _ _ rfl) ?_
      refine am_iload rfl rfl ?_
      refine ho_laload rfl (by first | rfl | assumption) (by omega) ?_
      refine am_goto rfl ?_
      refine am_lor rfl ?_
      refine am_lstore_n rfl (Nat.le_of_ble_eq_true rfl) ?_
      show am_T _ _ _ _ [_, _, _, some _, none, _, _, _, _] _ _ _ _ _
      refine am_iinc rfl rfl (nI_inc1 _) ?_
      show am_T _ _ _ _ [_, _, _, _, _, _, _, _, some _] _ _ _ _ _
      refine am_goto rfl ?_
      refine ih (n + 1) _ (by omega) (fun r hr => ?_) (fun r hr hq => by rw [tb_or, h2 r hr hq]; rfl) (fun j hj hx r hr hq => ?_)
      · rw [tb_or, Bool.or_eq_true] at hr
        rcases hr with z | z
        · exact h1 r z
        · have hr64 : r < 64 := by
            rcases Nat.lt_or_ge r 64 with y | y
            · exact y
            · rw [tb_ge y] at z
              cases z
          obtain ⟨x, x1, x2, x3⟩ := hex
          exact ⟨hr64, fun X hX hC => hC.2 n (by omega) ⟨x, x1, x3, (h1 x x2).2 X hX hC⟩ r hr64 z⟩
      · rw [tb_or]
        rcases Nat.lt_succ_iff_lt_or_eq.mp hj with e | e
        · rw [h3 j e hx r hr hq]
          rfl
        · subst e
          rw [hq, Bool.or_true]
theorem c_S_spread_loop (hR : SR mr) (g : Int64) : ∀ (k w : Nat) (m : Int64), w + k = 64 → w ≤ cnt64 m → (∀ r, tb m r = true → Sp (tb (ml 84 8)) (fun n => tb (ml 90 n)) (fun n => tb (ml 91 n)) (tb g) r) → (∀ r, r < 64 → tb g r = true → tb m r = true) →
    am_T l d M_S_spread 5 [some (.ref 84), some (.long g), none, some (.long m), none, some (.int (nI w)), none, none, none] [] (hm mi ml mr) 0 0 (fun v h' => v = some (.long (spF (tb (ml 84 8)) (fun n => tb (ml 90 n)) (fun n => tb (ml 91 n)) (tb g))) ∧ h' = hm mi ml mr) := by
  have done : ∀ m : Int64, (∀ r, tb m r = true → Sp (tb (ml 84 8)) (fun n => tb (ml 90 n)) (fun n => tb (ml 91 n)) (tb g) r) → (∀ r, r < 64 → tb g r = true → tb m r = true) → SpC (tb (ml 84 8)) (fun n => tb (ml 90 n)) (fun n => tb (ml 91 n)) (tb m) → m = spF (tb (ml 84 8)) (fun n => tb (ml 90 n)) (fun n => tb (ml 91 n)) (tb g) :=
    fun m h1 h2 h3 => ofB_eq (fun r hr => ⟨h1 r, fun hp => hp.2 (tb m) h2 h3⟩)
  intro k
  induction k with
  | zero =>
    intro w m hk hw h1 h2
    refine am_iload rfl rfl ?_
    refine am_bipush (v := nI 64) rfl (by decide) ?_
    refine ho_icmp_ge rfl (by omega) (by omega) (fun _ => ?_) (fun q => absurd (by omega) q)
    refine am_lload_n rfl rfl ?_
    refine am_lreturn rfl rfl ⟨by rw [done m h1 h2 ⟨fun r hr _ _ _ => cnt64_all (by omega) hr, fun n _ _ r hr _ => cnt64_all (by omega) hr⟩], rfl⟩
  | succ k ih =>
    intro w m hk hw h1 h2
    refine am_iload rfl rfl ?_
    refine am_bipush (v := nI 64) rfl (by decide) ?_
    refine ho_icmp_ge rfl (by omega) (by omega) (fun q => absurd q (by omega)) (fun _ => ?_)
    refine am_lload_n rfl rfl ?_
    refine am_lstore rfl (Nat.le_of_ble_eq_true rfl) ?_
    show am_T _ _ _ _ [_, _, _, _, _, _, some _, none, _] _ _ _ _ _
    refine am_lload_n rfl rfl ?_
    refine am_lload_n rfl rfl ?_
    refine am_iconst (v := nI 1) rfl (by decide) ?_
    refine am_lushr rfl rfl ?_
    refine am_aload_n rfl rfl ?_
    refine ho_getL rfl (by first | rfl | assumption) rfl ?_
    refine am_land rfl ?_
    refine am_lor rfl ?_
    refine am_lstore_n rfl (Nat.le_of_ble_eq_true rfl) ?_
    show am_T _ _ _ _ [_, _, _, some _, none, _, _, _, _] _ _ _ _ _
    refine am_iconst (v := nI 0) rfl (by decide) ?_
    refine am_istore rfl (Nat.le_of_ble_eq_true rfl) ?_
    show am_T _ _ _ _ [_, _, _, _, _, _, _, _, some _] _ _ _ _ _
    refine c_S_spread_in hR g (m ||| ((m.toUInt64 >>> ((nI 1).toInt64.toUInt64 &&& Int64.toUInt64 63)).toInt64 &&& ml 84 8)) m (fun r hr => ?_) (fun r _ hr => by rw [tb_or, hr]; rfl) w (fun m' g1 g2 g3 => ?_) 6 0 _ rfl (fun r hr => ?_) (fun _ _ z => z) (fun j hj => by omega)
    case refine_2 =>
      have hsub : ∀ r, r < 64 → tb m r = true → tb m' r = true := fun r hr hq => g2 r hr (by rw [tb_or, hq]; rfl)
      refine am_lload_n rfl rfl ?_
      refine am_lload rfl rfl ?_
      refine am_lcmp rfl ?_
      refine am_if_ne rfl (fun q => ?_) (fun q => ?_)
      · refine am_iinc rfl rfl (nI_inc1 _) ?_
        show am_T _ _ _ _ [_, _, _, _, _, some _, _, _, _] _ _ _ _ _
        refine am_goto rfl ?_
        refine am_drops [6] ?_
        refine ih (w + 1) m' (by omega) ?_ g1 (fun r hr hq => hsub r hr (h2 r hr hq))
        have := cnt64_lt hsub (fun e => q (lg_cmp_0.mpr e))
        omega
      · have e := lg_cmp_0.mp q
        subst e
        refine am_goto rfl ?_
        refine am_lload_n rfl rfl ?_
        have hc : SpC (tb (ml 84 8)) (fun n => tb (ml 90 n)) (fun n => tb (ml 91 n)) (tb m') := by
          refine ⟨fun r hr hs hr1 hx => g2 r hr ?_, fun n hn hex r hr hT => g3 n hn hex r hr hT⟩
          rw [tb_or, tb_and, tb_ushr m' (by omega), Nat.add_comm 1 r, hx, hs, Bool.or_eq_true]
          exact Or.inr rfl
        exact am_lreturn rfl rfl ⟨by rw [done m' h1 h2 hc], rfl⟩
    all_goals
      rw [tb_or, Bool.or_eq_true] at hr
      rcases hr with z | z
      · exact h1 r z
      · rw [tb_and, tb_ushr m (by omega), Bool.and_eq_true] at z
        have hr64 : r < 64 := by
          rcases Nat.lt_or_ge r 64 with y | y
          · exact y
          · rw [tb_ge y] at z
            cases z.2
        have h1r : 1 + r < 64 := (h1 _ z.1).1
        refine ⟨hr64, fun X hX hC => hC.1 r hr64 z.2 (by omega) ?_⟩
        have := (h1 _ z.1).2 X hX hC
        rw [Nat.add_comm] at this
        exact this
theorem c_S_spread (hR : SR mr) (g : Int64) : am_T l d M_S_spread 0 [some (.ref 84), some (.long g), none, none, none, none, none, none, none] [] (hm mi ml mr) 0 0 (fun v h' => v = some (.long (spF (tb (ml 84 8)) (fun n => tb (ml 90 n)) (fun n => tb (ml 91 n)) (tb g))) ∧ h' = hm mi ml mr) := by
  refine am_lload_n rfl rfl ?_
  refine am_lstore_n rfl (Nat.le_of_ble_eq_true rfl) ?_
  show am_T _ _ _ _ [_, _, _, some _, none, _, _, _, _] _ _ _ _ _
  refine am_iconst (v := nI 0) rfl (by decide) ?_
  refine am_istore rfl (Nat.le_of_ble_eq_true rfl) ?_
  show am_T _ _ _ _ [_, _, _, _, _, some _, _, _, _] _ _ _ _ _
  exact c_S_spread_loop hR g 64 0 g rfl (Nat.zero_le _) (fun r hr => ⟨tb_lt hr, fun X hX _ => hX r (tb_lt hr) hr⟩) (fun _ _ z => z)
end X1
