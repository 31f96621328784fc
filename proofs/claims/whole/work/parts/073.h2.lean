/-! the class: Hedge characterAt, copyFrom -/
def chI (M : Nd) (L : Nat) : Int32 := if L < (tx M 0).length then nI ((tx M 0).getD L 0) else -1
theorem drop_cons (N : Nd) {j : Nat} (h : j < N.length) : N.drop j = (cd N j, dp N j) :: N.drop (j + 1) := by
  rw [List.drop_eq_getElem_cons h]
  have : (cd N j, dp N j) = N[j] := by
    show ((N.getD j (0, 0)).1, (N.getD j (0, 0)).2) = _
    rw [List.getD_eq_getElem?_getD, List.getElem?_eq_getElem h]
    rfl
  rw [this]
theorem chI_far {A B : List Nat} {L : Nat} (h : A.length ≤ L) : (A ++ B).getD L 0 = B.getD (L - A.length) 0 := by
  have := getD_app2 A B (L - A.length)
  rw [show A.length + (L - A.length) = L by omega] at this
  exact this
section H3
variable {l : Launch} {d : Nat} {mi : Nat → Nat → Int32} {ml : Nat → Nat → Int64} {mr : Nat → Nat → Option Nat} {t cap : Nat} {N : Nd}
theorem c_H_characterAt_loop (hH : isH mr t cap) (hN : HA mi t N) (hl : N.length ≤ cap) (hok : okN 0 N) (x0 : Int32) : ∀ (k j L : Nat), j + k = N.length → L < 2 ^ 31 → am_T l (d + 1) M_H_characterAt 4 [some (.ref t), some (.int x0), some (.int (nI L)), some (.int (nI j)), none, none] [] (hm mi ml mr) 0 0 (fun r h' => r = some (.int (chI (N.drop j) L)) ∧ h' = hm mi ml mr) := by
  have hH' := hH
  obtain ⟨k1, k2, k3, r1, r2, hcap⟩ := hH'
  intro k
  induction k with
  | zero =>
    intro j L hj hL
    refine am_iload_n rfl rfl ?_
    refine am_aload_n rfl rfl ?_
    refine ho_getI rfl (by first | rfl | assumption) rfl ?_
    rw [hN.1]
    refine ho_icmp_ge rfl (by omega) (by omega) (fun _ => ?_) (fun z => absurd (by omega) z)
    refine am_iconst (v := -1) rfl (by decide) ?_
    refine am_ireturn rfl rfl ⟨?_, rfl⟩
    rw [List.drop_eq_nil_of_le (by omega)]
    unfold chI
    rw [if_neg (by simp [tx])]
  | succ k ih =>
    intro j L hj hL
    have hjN : j < N.length := by omega
    obtain ⟨⟨a1, a2⟩, a3, a4⟩ := hN.2 j hjN
    have hd := drop_cons N hjN
    have hnx : nxd (N.drop (j + 1)) 0 ≤ dp N j + lb (cd N j) := by
      rcases Nat.lt_or_ge (j + 1) N.length with q | q
      · rw [nxd_at N q]
        exact dp_step N 0 j hok q
      · rw [nxd_end N q]
        exact Nat.zero_le _
    have htx : tx (N.drop j) 0 = nt (cd N j, dp N j) (nxd (N.drop (j + 1)) 0) ++ tx (N.drop (j + 1)) 0 := by
      rw [hd]
      rfl
    have hln := len_nt (cd N j, dp N j) (nxd (N.drop (j + 1)) 0)
    have hln : (nt (cd N j, dp N j) (nxd (N.drop (j + 1)) 0)).length = 1 + lb (cd N j) + (dp N j + lb (cd N j) - nxd (N.drop (j + 1)) 0) := hln
    have hlb : lb (cd N j) ≤ 1 := by unfold lb; split <;> omega
    refine am_iload_n rfl rfl ?_
    refine am_aload_n rfl rfl ?_
    refine ho_getI rfl (by first | rfl | assumption) rfl ?_
    rw [hN.1]
    refine ho_icmp_ge rfl (by omega) (by omega) (fun z => absurd z (by omega)) (fun _ => ?_)
    refine am_iload_n rfl rfl ?_
    refine am_if_lt rfl (fun z => absurd z (nI_pos hL)) (fun _ => ?_)
    refine am_aload_n rfl rfl ?_
    refine ho_getR rfl (by first | rfl | assumption) rfl (by first | assumption | exact hR _ _ _ rfl) ?_
    refine am_iload_n rfl rfl ?_
    refine ho_caload rfl (by first | rfl | assumption) (by omega) ?_
    rw [a1]
    refine ho_cn1 rfl rfl (Nat.le_of_ble_eq_true rfl) (Nat.le_of_ble_eq_true rfl) (c_X_isLabel _ (by omega)) ?_
    rintro v h' ⟨rfl, rfl⟩
    refine am_istore rfl (Nat.le_of_ble_eq_true rfl) ?_
    show am_T _ _ _ _ [_, _, _, _, some _, _] _ _ _ _ _
    refine am_iload_n rfl rfl ?_
    refine am_if_ne rfl (fun z => ?_) (fun z => ?_)
    case refine_2 =>
      have e : L = 0 := (nI_eq hL (by omega)).mp (z.trans (rfl : (0 : Int32) = nI 0))
      subst e
      refine am_aload_n rfl rfl ?_
      refine ho_getR rfl (by first | rfl | assumption) rfl (by first | assumption | exact hR _ _ _ rfl) ?_
      refine am_iload_n rfl rfl ?_
      refine ho_caload rfl (by first | rfl | assumption) (by omega) ?_
      rw [a1]
      refine am_ireturn rfl rfl ⟨?_, rfl⟩
      unfold chI
      rw [htx, if_pos (by rw [List.length_append]; omega)]
      rfl
    have hL0 : ¬ L = 0 := fun e => z (by rw [e]; rfl)
    -- behind the node's own characters
    have s64 : ∀ L' : Nat, L = L' + 1 + lb (cd N j) → am_T l (d + 1) M_H_characterAt 64 [some (.ref t), some (.int x0), some (.int (nI L')), some (.int (nI j)), some (.int (bI (isLab (cd N j)))), none] [] (hm mi ml mr) 0 0 (fun r h' => r = some (.int (chI (N.drop j) L)) ∧ h' = hm mi ml mr) := by
      intro L' hL'
      have s103 : am_T l (d + 1) M_H_characterAt 103 [some (.ref t), some (.int x0), some (.int (nI L')), some (.int (nI j)), some (.int (bI (isLab (cd N j)))), none] [.int (nI (nxd (N.drop (j + 1)) 0)), .int (nI (dp N j + lb (cd N j)))] (hm mi ml mr) 0 0 (fun r h' => r = some (.int (chI (N.drop j) L)) ∧ h' = hm mi ml mr) := by
        first | refine ho_subn rfl (by omega) ?_ | refine am_isub rfl ?_
        refine am_istore rfl (Nat.le_of_ble_eq_true rfl) ?_
        show am_T _ _ _ _ [_, _, _, _, _, some _] _ _ _ _ _
        refine am_iload_n rfl rfl ?_
        refine am_iload rfl rfl ?_
        refine ho_icmp_ge rfl (by omega) (by omega) (fun y => ?_) (fun y => ?_)
        · refine am_iload_n rfl rfl ?_
          refine am_iload rfl rfl ?_
          first | refine ho_subn rfl (by omega) ?_ | refine am_isub rfl ?_
          refine am_istore_n rfl (Nat.le_of_ble_eq_true rfl) ?_
          show am_T _ _ _ _ [_, _, some _, _, _, _] _ _ _ _ _
          refine am_iinc rfl rfl (nI_inc1 _) ?_
          show am_T _ _ _ _ [_, _, _, some _, _, _] _ _ _ _ _
          refine am_goto rfl ?_
          refine am_drops [4, 5] ?_
          have := ih (j + 1) (L' - (dp N j + lb (cd N j) - nxd (N.drop (j + 1)) 0)) (by omega) (by omega)
          have e : chI (N.drop (j + 1)) (L' - (dp N j + lb (cd N j) - nxd (N.drop (j + 1)) 0)) = chI (N.drop j) L := by
            unfold chI
            rw [htx, List.length_append, hln, chI_far (by omega), hln, show L - (1 + lb (cd N j) + (dp N j + lb (cd N j) - nxd (N.drop (j + 1)) 0)) = L' - (dp N j + lb (cd N j) - nxd (N.drop (j + 1)) 0) by omega]
            by_cases q : L' - (dp N j + lb (cd N j) - nxd (N.drop (j + 1)) 0) < (tx (N.drop (j + 1)) 0).length
            · rw [if_pos q, if_pos (by omega)]
            · rw [if_neg q, if_neg (by omega)]
          rw [e] at this
          exact this
        · refine am_bipush (v := nI 93) rfl (by decide) ?_
          refine am_ireturn rfl rfl ⟨?_, rfl⟩
          unfold chI
          rw [htx, if_pos (by rw [List.length_append]; omega), getD_app1 _ _ (by omega)]
          unfold nt
          by_cases q : isLab (cd N j) = true
          · have e1 : lb (cd N j) = 1 := by unfold lb; rw [if_pos q]
            rw [if_pos q, hL', e1]
            show _ = some (Value.int (nI ((List.replicate _ 93).getD L' 0)))
            rw [List.getD_eq_getElem?_getD, List.getElem?_replicate, if_pos (by first | (show L' < dp N j + lb (cd N j) - _; omega) | (show L' < dp N j + 1 - _; omega) | (show L' < dp N j + 0 - _; omega))]
            rfl
          · have e1 : lb (cd N j) = 0 := by unfold lb; rw [if_neg q]
            rw [if_neg q, hL', e1]
            show _ = some (Value.int (nI ((List.replicate _ 93).getD L' 0)))
            rw [List.getD_eq_getElem?_getD, List.getElem?_replicate, if_pos (by first | (show L' < dp N j + lb (cd N j) - _; omega) | (show L' < dp N j + 1 - _; omega) | (show L' < dp N j + 0 - _; omega))]
            rfl
      have s80 : am_T l (d + 1) M_H_characterAt 80 [some (.ref t), some (.int x0), some (.int (nI L')), some (.int (nI j)), some (.int (bI (isLab (cd N j)))), none] [.int (nI (lb (cd N j))), .int (nI (dp N j))] (hm mi ml mr) 0 0 (fun r h' => r = some (.int (chI (N.drop j) L)) ∧ h' = hm mi ml mr) := by
        first | refine ho_addn rfl ?_ | refine am_iadd rfl ?_
        refine am_iload_n rfl rfl ?_
        refine am_iconst (v := nI 1) rfl (by decide) ?_
        first | refine ho_addn rfl ?_ | refine am_iadd rfl ?_
        refine am_aload_n rfl rfl ?_
        refine ho_getI rfl (by first | rfl | assumption) rfl ?_
        rw [hN.1]
        refine ho_icmp_ge rfl (by omega) (by omega) (fun y => ?_) (fun y => ?_)
        · refine am_iconst (v := nI 0) rfl (by decide) ?_
          rw [nxd_end N y] at s103
          exact s103
        · obtain ⟨⟨-, b2⟩, -, b4⟩ := hN.2 (j + 1) (by omega)
          refine am_aload_n rfl rfl ?_
          refine ho_getR rfl (by first | rfl | assumption) rfl (by first | assumption | exact hR _ _ _ rfl) ?_
          refine am_iload_n rfl rfl ?_
          refine am_iconst (v := nI 1) rfl (by decide) ?_
          first | refine ho_addn rfl ?_ | refine am_iadd rfl ?_
          refine ho_iaload rfl k3 (by omega) ?_
          rw [b2]
          refine am_goto rfl ?_
          rw [nxd_at N (by omega)] at s103
          exact s103
      refine am_aload_n rfl rfl ?_
      refine ho_getR rfl (by first | rfl | assumption) rfl (by first | assumption | exact hR _ _ _ rfl) ?_
      refine am_iload_n rfl rfl ?_
      refine ho_iaload rfl (by first | rfl | assumption) (by omega) ?_
      rw [a2]
      refine am_iload rfl rfl ?_
      refine am_if_eq rfl (fun y => ?_) (fun y => ?_)
      · refine am_iconst (v := nI 0) rfl (by decide) ?_
        rw [show lb (cd N j) = 0 by unfold lb; rw [(bI_eq _).mp y]; rfl] at s80
        exact s80
      · refine am_iconst (v := nI 1) rfl (by decide) ?_
        refine am_goto rfl ?_
        rw [show lb (cd N j) = 1 by unfold lb; rw [(bI_ne _).mp y]; rfl] at s80
        exact s80
    have s51 : 1 + lb (cd N j) ≤ L → am_T l (d + 1) M_H_characterAt 51 [some (.ref t), some (.int x0), some (.int (nI L)), some (.int (nI j)), some (.int (bI (isLab (cd N j)))), none] [] (hm mi ml mr) 0 0 (fun r h' => r = some (.int (chI (N.drop j) L)) ∧ h' = hm mi ml mr) := by
      intro hle
      refine am_iload_n rfl rfl ?_
      refine am_iload rfl rfl ?_
      refine am_if_eq rfl (fun y => ?_) (fun y => ?_)
      · have e1 : lb (cd N j) = 0 := by unfold lb; rw [(bI_eq _).mp y]; rfl
        refine am_iconst (v := nI 1) rfl (by decide) ?_
        first | refine ho_subn rfl (by omega) ?_ | refine am_isub rfl ?_
        refine am_istore_n rfl (Nat.le_of_ble_eq_true rfl) ?_
        show am_T _ _ _ _ [_, _, some _, _, _, _] _ _ _ _ _
        exact s64 (L - 1) (by omega)
      · have e1 : lb (cd N j) = 1 := by unfold lb; rw [(bI_ne _).mp y]; rfl
        refine am_iconst (v := nI 2) rfl (by decide) ?_
        refine am_goto rfl ?_
        first | refine ho_subn rfl (by omega) ?_ | refine am_isub rfl ?_
        refine am_istore_n rfl (Nat.le_of_ble_eq_true rfl) ?_
        show am_T _ _ _ _ [_, _, some _, _, _, _] _ _ _ _ _
        exact s64 (L - 2) (by omega)
    refine am_iload rfl rfl ?_
    refine am_if_eq rfl (fun y => ?_) (fun y => ?_)
    · have e1 : lb (cd N j) = 0 := by unfold lb; rw [(bI_eq _).mp y]; rfl
      exact s51 (by omega)
    · have y := (bI_ne _).mp y
      have e1 : lb (cd N j) = 1 := by unfold lb; rw [y]; rfl
      refine am_iload_n rfl rfl ?_
      refine am_iconst (v := nI 1) rfl (by decide) ?_
      refine ho_icmp_ne rfl hL (by omega) (fun x => s51 (by omega)) (fun x => ?_)
      refine am_bipush (v := nI 91) rfl (by decide) ?_
      refine am_ireturn rfl rfl ⟨?_, rfl⟩
      unfold chI
      rw [htx, if_pos (by rw [List.length_append]; omega), getD_app1 _ _ (by omega)]
      unfold nt
      rw [if_pos y, x]
      rfl
theorem c_H_characterAt (hH : isH mr t cap) (hN : HA mi t N) (hl : N.length ≤ cap) (hok : okN 0 N) (k : Int32) : am_T l (d + 1) M_H_characterAt 0 [some (.ref t), some (.int k), none, none, none, none] [] (hm mi ml mr) 0 0 (fun r h' => r = some (.int (at1 (tx N 0) k)) ∧ h' = hm mi ml mr) := by
  have hH' := hH
  obtain ⟨k1, k2, k3, r1, r2, hcap⟩ := hH'
  have h60 := len_tx0 hok
  refine am_iload_n rfl rfl ?_
  refine am_istore_n rfl (Nat.le_of_ble_eq_true rfl) ?_
  show am_T _ _ _ _ [_, _, some _, _, _, _] _ _ _ _ _
  refine am_iconst (v := nI 0) rfl (by decide) ?_
  refine am_istore_n rfl (Nat.le_of_ble_eq_true rfl) ?_
  show am_T _ _ _ _ [_, _, _, some _, _, _] _ _ _ _ _
  by_cases hk : k < 0
  · refine am_iload_n rfl rfl ?_
    refine am_aload_n rfl rfl ?_
    refine ho_getI rfl (by first | rfl | assumption) rfl ?_
    rw [hN.1, at1_neg hk]
    refine ho_icmp_ge rfl (by omega) (by omega) (fun _ => ?_) (fun _ => ?_)
    · refine am_iconst (v := -1) rfl (by decide) ?_
      exact am_ireturn rfl rfl ⟨rfl, rfl⟩
    · refine am_iload_n rfl rfl ?_
      refine am_if_lt rfl (fun _ => ?_) (fun z => absurd hk z)
      refine am_iconst (v := -1) rfl (by decide) ?_
      exact am_ireturn rfl rfl ⟨rfl, rfl⟩
  · obtain ⟨K, hK, rfl⟩ := nI_of_nn hk
    have := c_H_characterAt_loop (l := l) (d := d) (ml := ml) hH hN hl hok (nI K) N.length 0 K (by omega) hK
    refine am_T.to this ?_
    rintro r h' ⟨rfl, rfl⟩
    refine ⟨?_, rfl⟩
    rw [List.drop_zero]
    unfold chI at1
    rw [nI_toInt hK]
    by_cases q : K < (tx N 0).length
    · rw [if_pos q, if_pos ⟨by omega, by omega⟩]
      rfl
    · rw [if_neg q, if_neg (by omega)]
theorem c_H_copyFrom {u ucap : Nat} (hH : isH mr t cap) (hU : isH mr u ucap) (hne : u ≠ t ∧ u ≠ t + 1 ∧ u ≠ t + 2 ∧ u + 1 ≠ t ∧ u + 2 ≠ t ∧ u + 2 ≠ t + 1 ∧ u + 1 ≠ t + 2) (hN : HA mi u N) (hl : N.length ≤ cap) (hlu : N.length ≤ ucap) : am_T l (d + 1) M_H_copyFrom 0 [some (.ref t), some (.ref u), none] [] (hm mi ml mr) 0 0 (fun r h' => r = none ∧ ∃ mi', h' = hm mi' ml mr ∧ HA mi' t N ∧ ∀ a, a ≠ t → a ≠ t + 1 → a ≠ t + 2 → mi' a = mi a) := by
  have hH' := hH
  obtain ⟨k1, k2, k3, r1, r2, hcap⟩ := hH'
  have hU' := hU
  obtain ⟨j1, j2, j3, s1, s2, hucap⟩ := hU'
  have loop : ∀ (n i : Nat) (mi' : Nat → Nat → Int32), i + n = N.length → HA mi' t (N.take i) → (∀ a, a ≠ t → a ≠ t + 1 → a ≠ t + 2 → mi' a = mi a) → am_T l (d + 1) M_H_copyFrom 7 [some (.ref t), some (.ref u), some (.int (nI i))] [] (hm mi' ml mr) 0 0 (fun r h' => r = none ∧ ∃ mi', h' = hm mi' ml mr ∧ HA mi' t N ∧ ∀ a, a ≠ t → a ≠ t + 1 → a ≠ t + 2 → mi' a = mi a) := by
    intro n
    induction n with
    | zero =>
      intro i mi' hi hA hF
      have hu := hF u (by omega) (by omega) (by omega)
      refine am_iload_n rfl rfl ?_
      refine am_aload_n rfl rfl ?_
      refine ho_getI rfl (by first | rfl | assumption) rfl ?_
      rw [hu, hN.1]
      refine ho_icmp_ge rfl (by omega) (by omega) (fun _ => ?_) (fun z => absurd (by omega) z)
      rw [List.take_of_length_le (by omega)] at hA
      exact am_return rfl rfl ⟨rfl, mi', rfl, hA, hF⟩
    | succ n ih =>
      intro i mi' hi hA hF
      have hu := hF u (by omega) (by omega) (by omega)
      have hu1 := hF (u + 1) (by omega) (by omega) (by omega)
      have hu2 := hF (u + 2) (by omega) (by omega) (by omega)
      obtain ⟨⟨a1, a2⟩, a3, a4⟩ := hN.2 i (by omega)
      have hlen : (N.take i).length = i := by rw [List.length_take]; omega
      refine am_iload_n rfl rfl ?_
      refine am_aload_n rfl rfl ?_
      refine ho_getI rfl (by first | rfl | assumption) rfl ?_
      rw [hu, hN.1]
      refine ho_icmp_ge rfl (by omega) (by omega) (fun z => absurd z (by omega)) (fun _ => ?_)
      refine am_aload_n rfl rfl ?_
      refine am_aload_n rfl rfl ?_
      refine ho_getR rfl (by first | rfl | assumption) rfl (by first | assumption | exact hR _ _ _ rfl) ?_
      refine am_iload_n rfl rfl ?_
      refine ho_caload rfl (by first | rfl | assumption) (by omega) ?_
      rw [hu1, a1]
      refine am_aload_n rfl rfl ?_
      refine ho_getR rfl (by first | rfl | assumption) rfl (by first | assumption | exact hR _ _ _ rfl) ?_
      refine am_iload_n rfl rfl ?_
      refine ho_iaload rfl (by first | rfl | assumption) (by omega) ?_
      rw [hu2, a2]
      refine ho_cv2 rfl (by first | rfl | assumption) rfl (Nat.le_of_ble_eq_true rfl) (Nat.le_of_ble_eq_true rfl) (c_H_add hH (N.take i).length hA.1 (by omega) (cd N i) (dp N i) (by omega)) ?_
      rintro v h' ⟨rfl, rfl⟩
      refine am_pop rfl rfl ?_
      refine am_iinc rfl rfl (nI_inc1 _) ?_
      show am_T _ _ _ _ [_, _, some _] _ _ _ _ _
      refine am_goto rfl ?_
      refine ih (i + 1) _ (by omega) ?_ (fun a h1 h2 h3 => ?_)
      · rw [take_sN N (by omega)]
        exact HA_add hA a3 a4
      · rw [up2_off _ _ _ h1, up2_off _ _ _ h3, up2_off _ _ _ h2]
        exact hF a h1 h2 h3
  refine am_aload_n rfl rfl ?_
  refine am_iconst (v := nI 0) rfl (by decide) ?_
  refine ho_putI rfl (by first | rfl | assumption) rfl rfl ?_
  refine am_iconst (v := nI 0) rfl (by decide) ?_
  refine am_istore_n rfl (Nat.le_of_ble_eq_true rfl) ?_
  show am_T _ _ _ _ [_, _, some _] _ _ _ _ _
  refine loop N.length 0 _ (by omega) ⟨by simp [up2], fun i hi => by cases hi⟩ (fun a h1 _ _ => up2_off _ _ _ h1)
end H3
