/-! the reference: uncovered -/
theorem Lsf_stay {p : Nat → Bool} {k r : Nat} {u : Nat → Nat} (h : Lsf p k u r) (hF : u k < FARm) (hle : p k = true → r ≤ u k) : Lsf p (k + 1) u r := by
  rcases h with ⟨h1, h2⟩ | ⟨x, x1, x2, x3, x4⟩
  · refine Or.inl ⟨h1, fun k' hk' => ?_⟩
    by_cases e : k' = k
    · rw [e]
      cases e2 : p k with
      | false => rfl
      | true =>
        have := hle e2
        omega
    · exact h2 k' (by omega)
  · refine Or.inr ⟨x, by omega, x2, x3, fun k' hk' hp' => ?_⟩
    by_cases e : k' = k
    · rw [e] at hp' ⊢
      have := hle hp'
      omega
    · exact x4 k' (by omega) hp'
theorem Lsf_take {p : Nat → Bool} {k r : Nat} {u : Nat → Nat} (h : Lsf p k u r) (hlt : u k < r) (hp : p k = true) : Lsf p (k + 1) u (u k) := by
  refine Or.inr ⟨k, by omega, hp, rfl, fun k' hk' hp' => ?_⟩
  by_cases e : k' = k
  · rw [e]; exact Nat.le_refl _
  · rcases h with ⟨h1, h2⟩ | ⟨x, x1, x2, x3, x4⟩
    · rw [h2 k' (by omega)] at hp'; cases hp'
    · have := x4 k' (by omega) hp'
      omega
noncomputable def unM (S : Rs) (F : Fn) (cnt : Nat) (km : Nat → Int64) (i : Nat) : Bool := unP S F (wF cnt i) (km (wC cnt i)) (km (wW cnt i))
def utM (v : Nat → Nat) (cnt i : Nat) : Nat := wt v (wF cnt i) (wC cnt i) (wW cnt i)
section G4
variable {l : Launch} {d : Nat} {mi : Nat → Nat → Int32} {ml : Nat → Nat → Int64} {mr : Nat → Nat → Option Nat} {S : Rs} {cnt : Nat} {v : Nat → Nat} {F : Fn}
theorem c_m_unc_loop (hR : SR mr) (hS : okS S) (hr : repS S mi) (hM : MKn S cnt mi ml) (h40 : cnt ≤ 40) (hv : ∀ k, k < cnt → ml 128 k = lJ (v k)) (hvF : ∀ k, k < cnt → v k < 2 ^ 40) (f : Nat) (hf : f < 3) (hF : okF F) (hE : EN mi (6 + f) (ftx (102 + f) F)) : ∀ (j k r : Nat), k + j = 1 + 5 * cnt * cnt → Lsf (unM S F cnt (ml 127)) k (utM v cnt) r → am_T l (d + 5) M_m_uncovered 30 [some (.ref 116), some (.int (nI f)), some (.long (lJ r)), none, some (.int (nI k)), none, none] [] (hm mi ml mr) 0 0 (fun r h' => ∃ z, r = some (.long z) ∧ h' = hm mi ml mr ∧ Lst (unM S F cnt (ml 127)) (1 + 5 * cnt * cnt) (utM v cnt) z) := by
  obtain ⟨⟨c1, c2⟩, hc, c3, c4, c5⟩ := id hM.1
  have hs := sq_le h40
  have hFF : FARm = 1000000000000000000 := rfl
  have hM5 : 1 + 5 * cnt * cnt ≤ 10000 := by
    rw [Nat.mul_assoc]
    omega
  have hu : ∀ i, i < 1 + 5 * cnt * cnt → utM v cnt i < 2 ^ 42 := fun i hi => by
    obtain ⟨w1, w2, w3⟩ := w_in c1 hi
    have g1 := hvF _ w2
    have g2 := hvF _ w3
    unfold utM wt
    split
    · decide
    · split <;> omega
  intro j
  induction j with
  | zero =>
    intro k r hj hL
    refine am_iload rfl rfl ?_
    refine am_aload_n rfl rfl ?_
    refine ho_cv0 rfl (by first | rfl | assumption) rfl (Nat.le_of_ble_eq_true rfl) (Nat.le_of_ble_eq_true rfl) (c_m_ways hc h40) ?_
    rintro x h' ⟨rfl, rfl⟩
    refine ho_icmp_ge rfl (by omega) (by omega) (fun _ => ?_) (fun z => absurd (by omega) z)
    have hk : k = 1 + 5 * cnt * cnt := hj
    rw [hk] at hL
    refine am_lload_n rfl rfl ?_
    refine am_ldc2 rfl rfl ?_
    refine am_lcmp rfl ?_
    refine am_if_ne rfl (fun q => ?_) (fun q => ?_)
    · refine am_lload_n rfl rfl ?_
      refine am_lreturn rfl rfl ⟨_, rfl, rfl, ?_⟩
      rcases hL with ⟨h1, h2⟩ | ⟨x, x1, x2, x3, x4⟩
      · exact absurd (lg_cmp_0.mpr (by rw [h1]; rfl)) q
      · exact Or.inr ⟨x, x1, x2, by rw [x3], x4⟩
    · refine am_ldc2m rfl rfl ?_
      refine am_goto rfl ?_
      have e : lJ r = lJ FARm := lg_cmp_0.mp q
      refine am_lreturn rfl rfl ⟨_, rfl, rfl, ?_⟩
      rcases hL with ⟨h1, h2⟩ | ⟨x, x1, x2, x3, x4⟩
      · exact Or.inl ⟨rfl, h2⟩
      · have := hu x x1
        have := (lJ_eq (by omega) (by omega)).mp e
        omega
  | succ j ih =>
    intro k r hj hL
    have hk : k < 1 + 5 * cnt * cnt := by omega
    obtain ⟨w1, w2, w3⟩ := w_in c1 hk
    have huk := hu k hk
    have hrF : r ≤ FARm := by
      rcases hL with ⟨h1, h2⟩ | ⟨x, x1, x2, x3, x4⟩
      · omega
      · have := hu x (by omega)
        omega
    have next : ∀ r', Lsf (unM S F cnt (ml 127)) (k + 1) (utM v cnt) r' → am_T l (d + 5) M_m_uncovered 92 [some (.ref 116), some (.int (nI f)), some (.long (lJ r')), none, some (.int (nI k)), some (.long (lJ (utM v cnt k))), none] [] (hm mi ml mr) 0 0 (fun r h' => ∃ z, r = some (.long z) ∧ h' = hm mi ml mr ∧ Lst (unM S F cnt (ml 127)) (1 + 5 * cnt * cnt) (utM v cnt) z) := by
      intro r' h
      refine am_iinc rfl rfl (nI_inc1 _) ?_
      show am_T _ _ _ _ [_, _, _, _, some _, _, _] _ _ _ _ _
      refine am_goto rfl ?_
      refine am_drops [5] ?_
      exact ih (k + 1) r' (by omega) h
    have s70 : am_T l (d + 5) M_m_uncovered 70 [some (.ref 116), some (.int (nI f)), some (.long (lJ r)), none, some (.int (nI k)), none, none] [.long (lJ (utM v cnt k))] (hm mi ml mr) 0 0 (fun r h' => ∃ z, r = some (.long z) ∧ h' = hm mi ml mr ∧ Lst (unM S F cnt (ml 127)) (1 + 5 * cnt * cnt) (utM v cnt) z) := by
      refine am_lstore rfl (Nat.le_of_ble_eq_true rfl) ?_
      show am_T _ _ _ _ [_, _, _, _, _, some _, none] _ _ _ _ _
      refine am_lload rfl rfl ?_
      refine am_lload_n rfl rfl ?_
      refine am_lcmp rfl ?_
      refine am_if_ge rfl (fun q => ?_) (fun q => ?_)
      · refine next r (Lsf_stay hL (by omega) (fun _ => ?_))
        have h2 := Int64.le_iff_toInt_le.mp (lg_ge.mp q)
        rw [lJ_toInt (by omega), lJ_toInt (by omega)] at h2
        omega
      have hlt : utM v cnt k < r := by
        rcases Nat.lt_or_ge (utM v cnt k) r with g | g
        · exact g
        · refine absurd (lg_ge.mpr (Int64.le_iff_toInt_le.mpr ?_)) q
          rw [lJ_toInt (by omega), lJ_toInt (by omega)]
          omega
      refine am_aload_n rfl rfl ?_
      refine am_iload_n rfl rfl ?_
      refine am_iload rfl rfl ?_
      refine ho_cv2 rfl (by first | rfl | assumption) rfl (Nat.le_of_ble_eq_true rfl) (Nat.le_of_ble_eq_true rfl) (c_m_wayChoice hR hS hr hM h40 f hf F hF hE k hk) ?_
      rintro x h' ⟨rfl, rfl⟩
      cases hw : wch S F (wF cnt k) (ml 127 (wC cnt k)) (ml 127 (wW cnt k)) with
      | none =>
        refine am_if_ne rfl (fun _ => ?_) (fun z => absurd z (by decide))
        refine next r (Lsf_stay hL (by omega) (fun hp => ?_))
        unfold unM unP at hp
        rw [hw] at hp
        cases hp
      | some q =>
        cases q with
        | none =>
          refine am_if_ne rfl (fun z => absurd rfl z) (fun _ => ?_)
          refine am_lload rfl rfl ?_
          refine am_lstore_n rfl (Nat.le_of_ble_eq_true rfl) ?_
          show am_T _ _ _ _ [_, _, some _, none, _, _, _] _ _ _ _ _
          refine next _ (Lsf_take hL hlt ?_)
          unfold unM unP
          rw [hw]
        | some j' =>
          have hj' : j' < F.2.2.length := by
            unfold wch at hw
            split at hw
            · exact chs_lt (Option.some.inj hw)
            · cases hw
          have h6 := hF.2.2.2.2
          refine am_if_ne rfl (fun _ => ?_) (fun z => ?_)
          · refine next r (Lsf_stay hL (by omega) (fun hp => ?_))
            unfold unM unP at hp
            rw [hw] at hp
            cases hp
          · have : j' + 1 = 0 := (nI_eq (a := j' + 1) (b := 0) (by omega) (by omega)).mp z
            omega
    refine am_iload rfl rfl ?_
    refine am_aload_n rfl rfl ?_
    refine ho_cv0 rfl (by first | rfl | assumption) rfl (Nat.le_of_ble_eq_true rfl) (Nat.le_of_ble_eq_true rfl) (c_m_ways hc h40) ?_
    rintro x h' ⟨rfl, rfl⟩
    refine ho_icmp_ge rfl (by omega) (by omega) (fun z => absurd z (by omega)) (fun _ => ?_)
    refine am_iload rfl rfl ?_
    refine am_if_ne rfl (fun z => ?_) (fun z => ?_)
    · have hk0 : k ≠ 0 := fun q => z (by rw [q]; rfl)
      have hwF : wF cnt k = (wF cnt k - 1) + 1 := by
        unfold wF
        rw [if_neg hk0]
        rfl
      refine am_aload_n rfl rfl ?_
      refine am_aload_n rfl rfl ?_
      refine am_iload rfl rfl ?_
      refine ho_cv1 rfl (by first | rfl | assumption) rfl (Nat.le_of_ble_eq_true rfl) (Nat.le_of_ble_eq_true rfl) (c_m_wayFirst hc c1 h40 k (by omega)) ?_
      rintro x h' ⟨rfl, rfl⟩
      refine am_aload_n rfl rfl ?_
      refine am_iload rfl rfl ?_
      refine ho_cv1 rfl (by first | rfl | assumption) rfl (Nat.le_of_ble_eq_true rfl) (Nat.le_of_ble_eq_true rfl) (c_m_wayInside hc c1 h40 k (by omega)) ?_
      rintro x h' ⟨rfl, rfl⟩
      refine am_aload_n rfl rfl ?_
      refine am_iload rfl rfl ?_
      refine ho_cv1 rfl (by first | rfl | assumption) rfl (Nat.le_of_ble_eq_true rfl) (Nat.le_of_ble_eq_true rfl) (c_m_wayAfter hc c1 h40 k (by omega)) ?_
      rintro x h' ⟨rfl, rfl⟩
      rw [show fI (wF cnt k) = nI (wF cnt k - 1) by unfold fI; rw [if_neg (by omega)]]
      refine ho_cv3 rfl (by first | rfl | assumption) rfl (Nat.le_of_ble_eq_true rfl) (Nat.le_of_ble_eq_true rfl) (c_m_weight hR v (wF cnt k - 1) (wC cnt k) (wW cnt k) (by omega) (by omega) (hv _ w2) (hv _ w3) (by omega)) ?_
      rintro x h' ⟨rfl, rfl⟩
      have e : 1 + v (wW cnt k) + (if wF cnt k - 1 = 0 then 0 else v (wC cnt k)) = utM v cnt k := by
        unfold utM wt
        rw [if_neg (show ¬ wF cnt k = 0 by omega)]
        by_cases g : wF cnt k = 1
        · rw [if_pos g, if_pos (show wF cnt k - 1 = 0 by omega)]
        · rw [if_neg g, if_neg (show ¬ wF cnt k - 1 = 0 by omega)]
      rw [e]
      exact s70
    · have hk0 : k = 0 := (nI_eq (a := k) (b := 0) (by omega) (by omega)).mp z
      refine am_lconst (v := 0) rfl (by decide) ?_
      refine am_goto rfl ?_
      have e : utM v cnt k = 0 := by
        unfold utM wt wF
        rw [if_pos hk0, if_pos rfl]
      rw [e] at s70
      exact s70
end G4
