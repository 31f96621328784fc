/-! the reference: resultKinds -/
theorem MKn.ke {S : Rs} {cnt : Nat} {mi : Nat → Nat → Int32} {ml : Nat → Nat → Int64} (h : MKn S cnt mi ml) (h40 : cnt ≤ 40) : KE S (ml 127) cnt :=
  ⟨h.1.1.1, h40, h.1.2.2.1, h.1.2.2.2.2, fun _ hm => m_all h.1 (h.2.1 h40).1 hm, h.1.2.2.2.1⟩
theorem dec_3 (a : Nat) : nI (a + 3) + Int32.ofInt (-3) = nI a := by
  have h : nI (a + 3) - nI 3 = nI a := by rw [nI_subn (by omega), Nat.add_sub_cancel]
  rw [← h, Int32.sub_eq_add_neg]
  rfl
section V7
variable {l : Launch} {d : Nat} {mi : Nat → Nat → Int32} {mr : Nat → Nat → Option Nat} {S : Rs} {cnt : Nat} {F : Nat → Fn}
theorem c_m_resultKinds (hR : SR mr) (hS : okS S) (ml0 : Nat → Nat → Int64) (hr : repS S mi) (hM0 : MKn S cnt mi ml0) (h40 : cnt ≤ 40) (hMF : MF F mi) (hF : ∀ φ, (F φ).2.2 = [] ∨ okF (F φ)) (φ : Nat) (hφ : φ < 3) (hz : (F φ).2.2.length ≠ 0) (j : Nat) (hj : j < (F φ).2.2.length) (c w : Nat) (hc : c < cnt) (hw : w < cnt) (hcall : ∀ k ∈ (clA (F φ).2.2 j).2, 256 ≤ k → (F ((k - 256) / 2)).2.2.length ≠ 0) :
    am_T l (d + 4) M_m_resultKinds 0 [some (.ref 116), some (.int (nI φ)), some (.int (nI (rpos (F φ).2.2 j))), some (.int (nI (cpos (F φ).2.2 (j + 1)))), some (.int (nI c)), some (.int (nI w)), none, none, none, none, none] [] (hm mi ml0 mr) 0 0 (fun r h' => ∃ z ml', r = some (.long z) ∧ h' = hm mi ml' mr ∧ (∀ a, a ≠ 142 → ml' a = ml0 a) ∧ Rp (ml0 127) cnt z (evl S F (kdX (ml0 127) c) (kdX (ml0 127) w) (clA (F φ).2.2 j).2).1) := by
  have hokf : ∀ φ, (F φ).2.2.length ≠ 0 → okF (F φ) := fun φ hq => (hF φ).resolve_left (fun q => hq (by rw [q]; rfl))
  have hok := hokf φ hz
  have hokc := clA_ok hok hj
  have hE := hMF φ hφ
  rw [fTx_def hz] at hE
  have hb80 := cpos_bound hE hj
  have hre := rpos_end (F φ).2.2 hj
  have hKE := hM0.ke h40
  have hkd := hokc.2.2.2.2.1
  have hnpa := hokc.2.2.2.2.2.1
  have loop : ∀ (x : Nat) (K1 K2 : List Nat) (z : Int64) (ml : Nat → Nat → Int64), K1.length = x → (clA (F φ).2.2 j).2 = K1 ++ K2 → (∀ a, a ≠ 142 → ml a = ml0 a) → Rp (ml0 127) cnt z (evl S F (kdX (ml0 127) c) (kdX (ml0 127) w) K2).1 → WS (ml0 127) cnt (ml 142) (evl S F (kdX (ml0 127) c) (kdX (ml0 127) w) K2).2 → am_T l (d + 4) M_m_resultKinds 11 [some (.ref 116), some (.int (nI φ)), some (.int (nI (rpos (F φ).2.2 j))), some (.int (nI (cpos (F φ).2.2 (j + 1)))), some (.int (nI c)), some (.int (nI w)), some (.long z), none, some (.int (nI (evl S F (kdX (ml0 127) c) (kdX (ml0 127) w) K2).2.length)), some (.int (nI (rpos (F φ).2.2 j + (ktx K1).length) - nI 1)), none] [] (hm mi ml mr) 0 0 (fun r h' => ∃ z ml', r = some (.long z) ∧ h' = hm mi ml' mr ∧ (∀ a, a ≠ 142 → ml' a = ml0 a) ∧ Rp (ml0 127) cnt z (evl S F (kdX (ml0 127) c) (kdX (ml0 127) w) (clA (F φ).2.2 j).2).1) := by
    intro x
    induction x with
    | zero =>
      intro K1 K2 z ml hx hK hml hz2 hWS
      have e1 : K1 = [] := List.length_eq_zero_iff.mp hx
      subst e1
      have e2 : (clA (F φ).2.2 j).2 = K2 := hK
      rw [← e2] at hz2
      refine am_iload rfl rfl ?_
      refine am_iload_n rfl rfl ?_
      refine am_icmp_lt rfl (fun _ => ?_) (fun g => absurd (pred_lt (a := rpos (F φ).2.2 j) (by omega)) g)
      refine am_lload rfl rfl ?_
      exact am_lreturn rfl rfl ⟨z, ml, rfl, rfl, hml, hz2⟩
    | succ x ih =>
      intro K1 K2 z ml hx hK hml hz2 hWS
      obtain ⟨K1', k, rfl⟩ : ∃ K1' k, K1 = K1' ++ [k] := ⟨K1.dropLast, K1.getLast (fun q => by rw [q] at hx; cases hx), (List.dropLast_concat_getLast _).symm⟩
      have hx' : K1'.length = x := by
        rw [List.length_append] at hx
        have : K1'.length + 1 = x + 1 := hx
        omega
      have hK' : (clA (F φ).2.2 j).2 = K1' ++ k :: K2 := by rw [hK]; simp
      have hkK : k ∈ (clA (F φ).2.2 j).2 := by rw [hK']; simp
      have hk := hokc.2.2.2.1 k hkK
      have hk262 := ti_sm hk
      have hkt1 : (ktx (K1' ++ [k])).length = (ktx K1').length + (ttx k).length := by rw [ktx_app, ktx_one, List.length_append]
      have hall : (ktx (clA (F φ).2.2 j).2).length = (ktx K1').length + ((ttx k).length + (ktx K2).length) := by
        rw [hK', ktx_app, List.length_append, show k :: K2 = [k] ++ K2 from rfl, ktx_app, ktx_one, List.length_append]
      have hs := fun y (hy : y < (ttx k).length) => sgn_tk (102 + φ) (F φ) (x := y) hj hK' hy
      have hM : MKn S cnt mi ml := hM0.to rfl rfl (hml 127 (by decide)) (hml 128 (by decide)) (by rw [hml 116 (by decide)])
      have h127 : ml 127 = ml0 127 := hml 127 (by decide)
      have httx := ttx_len k
      obtain ⟨e, he⟩ : ∃ e, kd 0 K1' = some e := by
        rw [hK', kd_app] at hkd
        cases he : kd 0 K1' with
        | none =>
          rw [he] at hkd
          cases hkd
        | some e => exact ⟨e, rfl⟩
      have hkd3 : kd e (k :: K2) = some 0 := by
        rw [hK', kd_app, he] at hkd
        exact hkd
      have hne : e + npa [k] ≤ 12 := by
        have h1 := kd_npa K1' 0 e he
        rw [hK', npa_app, show k :: K2 = [k] ++ K2 from rfl, npa_app] at hnpa
        omega
      unfold kd at hkd3
      have next : ∀ (z' : Int64) (ml' : Nat → Nat → Int64) (op ch : Nat), (∀ a, a ≠ 142 → ml' a = ml0 a) → op = (stp S F (kdX (ml0 127) c) (kdX (ml0 127) w) k (evl S F (kdX (ml0 127) c) (kdX (ml0 127) w) K2)).2.length → Rp (ml0 127) cnt z' (stp S F (kdX (ml0 127) c) (kdX (ml0 127) w) k (evl S F (kdX (ml0 127) c) (kdX (ml0 127) w) K2)).1 → WS (ml0 127) cnt (ml' 142) (stp S F (kdX (ml0 127) c) (kdX (ml0 127) w) k (evl S F (kdX (ml0 127) c) (kdX (ml0 127) w) K2)).2 → am_T l (d + 4) M_m_resultKinds 171 [some (.ref 116), some (.int (nI φ)), some (.int (nI (rpos (F φ).2.2 j))), some (.int (nI (cpos (F φ).2.2 (j + 1)))), some (.int (nI c)), some (.int (nI w)), some (.long z'), none, some (.int (nI op)), some (.int (nI (rpos (F φ).2.2 j + (ktx K1').length))), some (.int (nI ch))] [] (hm mi ml' mr) 0 0 (fun r h' => ∃ z ml', r = some (.long z) ∧ h' = hm mi ml' mr ∧ (∀ a, a ≠ 142 → ml' a = ml0 a) ∧ Rp (ml0 127) cnt z (evl S F (kdX (ml0 127) c) (kdX (ml0 127) w) (clA (F φ).2.2 j).2).1) := by
        intro z' ml' op ch b3 b4 b5 b6
        refine am_iinc rfl rfl (dec_1 _) ?_
        show am_T _ _ _ _ [_, _, _, _, _, _, _, _, _, some _, _] _ _ _ _ _
        refine am_goto rfl ?_
        refine am_drops [10] ?_
        rw [b4]
        exact ih K1' (k :: K2) z' ml' hx' hK' b3 b5 b6
      generalize hev : evl S F (kdX (ml0 127) c) (kdX (ml0 127) w) K2 = ev at hz2 hWS next ⊢
      have hlen : ∀ e', kd e' K2 = some 0 → ev.2.length = e' := fun e' h => by rw [← hev]; exact evl_len K2 e' h
      have hJS : ∀ {q : Nat} {A B z' : Int64}, (∀ y, tb z' y = true ↔ JS S (ml 127) cnt q (tb A) (tb B) (fun _ _ => True) y) → ∀ y, tb z' y = true ↔ JS S (ml0 127) cnt q (tb A) (tb B) (fun _ _ => True) y := by
        intro q A B z' h
        rw [← h127]
        exact h
      rw [hkt1]
      refine am_iload rfl rfl ?_
      refine am_iload_n rfl rfl ?_
      rw [nI_subn (by omega)]
      refine ho_icmp_lt rfl (by omega) (by omega) (fun g => absurd g (by omega)) (fun _ => ?_)
      refine am_aload_n rfl rfl ?_
      refine am_iload_n rfl rfl ?_
      refine am_iload rfl rfl ?_
      refine ho_cv2 rfl (by first | rfl | assumption) rfl (Nat.le_of_ble_eq_true rfl) (Nat.le_of_ble_eq_true rfl) (c_m_sign hR φ hφ _ hE _ (by omega)) ?_
      rintro v h' ⟨rfl, rfl⟩
      by_cases h256 : 256 ≤ k
      · have httk : ttx k = [102 + (k - 256) / 2, 40, 120 + k % 2, 41] := by
          unfold ttx
          rw [if_pos h256]
        have hlen4 : (ttx k).length = 4 := by rw [httk]; rfl
        have s0 := hs 0 (by omega)
        have s3 := hs 3 (by omega)
        rw [httk] at s0 s3
        rw [Nat.add_zero] at s0
        have s0 : sgn (ftx (102 + φ) (F φ)) (rpos (F φ).2.2 j + (ktx K1').length) = 102 + (k - 256) / 2 := s0
        have s3 : sgn (ftx (102 + φ) (F φ)) (rpos (F φ).2.2 j + (ktx K1').length + 3) = 41 := s3
        have hg3 : (k - 256) / 2 < 3 := by omega
        have hlab : isLab k = false := by simp only [isLab, decide_eq_false_iff_not]; omega
        have hst : stp S F (kdX (ml0 127) c) (kdX (ml0 127) w) k ev = (Gin S (F ((k - 256) / 2)).2.1, ev.2) := by
          unfold stp
          rw [if_neg (by omega), if_neg (by rw [hlab]; decide), if_pos h256]
        rw [hst] at next
        have hd := hcall k hkK h256
        have hEg := hMF _ hg3
        rw [fTx_def hd] at hEg
        have hokg := hokf _ hd
        rw [hlen4, show rpos (F φ).2.2 j + ((ktx K1').length + 4) - 1 = rpos (F φ).2.2 j + (ktx K1').length + 3 by omega, s3]
        refine am_istore rfl (Nat.le_of_ble_eq_true rfl) ?_
        show am_T _ _ _ _ [_, _, _, _, _, _, _, _, _, _, some _] _ _ _ _ _
        refine am_iload rfl rfl ?_
        refine am_bipush (v := nI 41) rfl (by decide) ?_
        refine ho_icmp_ne rfl (by omega) (by omega) (fun g => absurd rfl g) (fun _ => ?_)
        refine am_aload_n rfl rfl ?_
        refine am_aload_n rfl rfl ?_
        refine am_aload_n rfl rfl ?_
        refine am_iload_n rfl rfl ?_
        refine am_iload rfl rfl ?_
        refine am_iconst (v := nI 3) rfl (by decide) ?_
        first | refine ho_subn rfl (by omega) ?_ | refine am_isub rfl ?_
        rw [Nat.add_sub_cancel]
        refine ho_cv2 rfl (by first | rfl | assumption) rfl (Nat.le_of_ble_eq_true rfl) (Nat.le_of_ble_eq_true rfl) (c_m_sign hR φ hφ _ hE _ (by omega)) ?_
        rintro v h' ⟨rfl, rfl⟩
        rw [s0]
        refine am_bipush (v := nI 102) rfl (by decide) ?_
        first | refine ho_subn rfl (by omega) ?_ | refine am_isub rfl ?_
        rw [show 102 + (k - 256) / 2 - 102 = (k - 256) / 2 by omega]
        refine ho_cv1 rfl (by first | rfl | assumption) rfl (Nat.le_of_ble_eq_true rfl) (Nat.le_of_ble_eq_true rfl) (c_m_output hR _ hg3 _ hokg hEg) ?_
        rintro v h' ⟨rfl, rfl⟩
        refine ho_cv1 rfl (by first | rfl | assumption) rfl (Nat.le_of_ble_eq_true rfl) (Nat.le_of_ble_eq_true rfl) (c_m_kindsIn hR hS hr hM h40 _ hokg.2.1) ?_
        rintro v h' ⟨z', rfl, rfl, hMB⟩
        rw [h127] at hMB
        refine am_lstore rfl (Nat.le_of_ble_eq_true rfl) ?_
        show am_T _ _ _ _ [_, _, _, _, _, _, some _, none, _, _, _] _ _ _ _ _
        refine am_iinc rfl rfl (dec_3 _) ?_
        show am_T _ _ _ _ [_, _, _, _, _, _, _, _, _, some _, _] _ _ _ _ _
        refine am_goto rfl ?_
        exact next z' ml ev.2.length 41 hml rfl (Rp_in hMB) hWS
      have hsm : k < 127 ∧ k ≠ 41 ∧ k ≠ 91 := by
        rcases hk with q | q | q | q | q | q | q
        · have := isDig_r q
          omega
        · omega
        · have := isLab_r q
          omega
        all_goals omega
      cases hlab : isLab k with
      | true =>
        have hlr := isLab_r hlab
        rw [if_neg (by omega), if_pos hlab] at hkd3
        have hl := hlen _ hkd3
        have httk : ttx k = [k, 91] := by
          unfold ttx
          rw [if_neg h256, if_pos hlab]
        have hlen2 : (ttx k).length = 2 := by rw [httk]; rfl
        have s0 := hs 0 (by omega)
        have s1 := hs 1 (by omega)
        rw [httk] at s0 s1
        rw [Nat.add_zero] at s0
        have s0 : sgn (ftx (102 + φ) (F φ)) (rpos (F φ).2.2 j + (ktx K1').length) = k := s0
        have s1 : sgn (ftx (102 + φ) (F φ)) (rpos (F φ).2.2 j + (ktx K1').length + 1) = 91 := s1
        have hnp : npa [k] = 1 := by
          unfold npa
          rw [List.filter_cons_of_pos (by unfold isPa; rw [hlab]; simp)]
          rfl
        rw [hlen2, show rpos (F φ).2.2 j + ((ktx K1').length + 2) - 1 = rpos (F φ).2.2 j + (ktx K1').length + 1 by omega, s1]
        cases hss : ev.2 with
        | nil =>
          rw [hss] at hl
          cases hl
        | cons a r =>
          rw [hss] at hl hWS
          have hl : r.length + 1 = e + 1 := hl
          have hst : stp S F (kdX (ml0 127) c) (kdX (ml0 127) w) k ev = (jnG S (kn k) ev.1 a, r) := by
            unfold stp
            rw [if_neg (by omega), if_pos hlab, hss]
          rw [hst] at next
          show am_T l (d + 4) M_m_resultKinds _ [_, _, _, _, _, _, _, _, some (.int (nI (r.length + 1))), _, _] _ _ _ _ _
          refine am_istore rfl (Nat.le_of_ble_eq_true rfl) ?_
          show am_T _ _ _ _ [_, _, _, _, _, _, _, _, _, _, some _] _ _ _ _ _
          refine am_iload rfl rfl ?_
          refine am_bipush (v := nI 41) rfl (by decide) ?_
          refine ho_icmp_ne rfl (by omega) (by omega) (fun _ => ?_) (fun g => absurd g (by decide))
          refine am_iload rfl rfl ?_
          refine am_bipush (v := nI 120) rfl (by decide) ?_
          refine ho_icmp_ne rfl (by omega) (by omega) (fun _ => ?_) (fun g => absurd g (by decide))
          refine am_iload rfl rfl ?_
          refine am_bipush (v := nI 121) rfl (by decide) ?_
          refine ho_icmp_ne rfl (by omega) (by omega) (fun _ => ?_) (fun g => absurd g (by decide))
          refine am_iload rfl rfl ?_
          refine am_bipush (v := nI 93) rfl (by decide) ?_
          refine ho_icmp_ne rfl (by omega) (by omega) (fun _ => ?_) (fun g => absurd g (by decide))
          refine am_iload rfl rfl ?_
          refine am_bipush (v := nI 91) rfl (by decide) ?_
          refine ho_icmp_ne rfl (by omega) (by omega) (fun g => absurd rfl g) (fun _ => ?_)
          refine am_iinc rfl rfl (nI_dec1 _) ?_
          show am_T _ _ _ _ [_, _, _, _, _, _, _, _, _, some _, _] _ _ _ _ _
          refine am_iinc rfl rfl (nI_dec1 _) ?_
          show am_T _ _ _ _ [_, _, _, _, _, _, _, _, some _, _, _] _ _ _ _ _
          refine am_aload_n rfl rfl ?_
          refine am_aload_n rfl rfl ?_
          refine am_iload_n rfl rfl ?_
          refine am_iload rfl rfl ?_
          refine ho_cv2 rfl (by first | rfl | assumption) rfl (Nat.le_of_ble_eq_true rfl) (Nat.le_of_ble_eq_true rfl) (c_m_sign hR φ hφ _ hE _ (by omega)) ?_
          rintro v h' ⟨rfl, rfl⟩
          rw [s0]
          refine am_bipush (v := nI 97) rfl (by decide) ?_
          first | refine ho_subn rfl (by omega) ?_ | refine am_isub rfl ?_
          refine am_iconst (v := nI 1) rfl (by decide) ?_
          first | refine ho_addn rfl ?_ | refine am_iadd rfl ?_
          refine am_lload rfl rfl ?_
          refine am_aload_n rfl rfl ?_
          refine ho_getR rfl (by first | rfl | assumption) rfl (by first | assumption | exact hR _ _ _ rfl) ?_
          refine am_iload rfl rfl ?_
          refine ho_laload rfl rfl (by omega) ?_
          refine ho_cv3 rfl (by first | rfl | assumption) rfl (Nat.le_of_ble_eq_true rfl) (Nat.le_of_ble_eq_true rfl) (c_m_joinSets hR hM h40 (k - 97 + 1) (by omega) z (ml 142 r.length)) ?_
          rintro v h' ⟨z', rfl, rfl, g3⟩
          rw [show k - 97 + 1 + 1 = kn k by unfold kn; rw [if_pos hlab]; omega] at g3
          refine am_lstore rfl (Nat.le_of_ble_eq_true rfl) ?_
          show am_T _ _ _ _ [_, _, _, _, _, _, some _, none, _, _, _] _ _ _ _ _
          refine am_goto rfl ?_
          exact next z' ml r.length 91 hml rfl (Rp_join hKE hz2 hWS.1 (hJS g3)) hWS.2
      | false =>
        have httk : ttx k = [k] := ttx_sm (by omega) hlab
        have hlen1 : (ttx k).length = 1 := by rw [httk]; rfl
        have s0 := hs 0 (by omega)
        rw [httk] at s0
        rw [Nat.add_zero] at s0
        have s0 : sgn (ftx (102 + φ) (F φ)) (rpos (F φ).2.2 j + (ktx K1').length) = k := s0
        rw [hlen1, show rpos (F φ).2.2 j + ((ktx K1').length + 1) - 1 = rpos (F φ).2.2 j + (ktx K1').length by omega, s0]
        refine am_istore rfl (Nat.le_of_ble_eq_true rfl) ?_
        show am_T _ _ _ _ [_, _, _, _, _, _, _, _, _, _, some _] _ _ _ _ _
        refine am_iload rfl rfl ?_
        refine am_bipush (v := nI 41) rfl (by decide) ?_
        refine ho_icmp_ne rfl (by omega) (by omega) (fun _ => ?_) (fun g => absurd g hsm.2.1)
        refine am_iload rfl rfl ?_
        refine am_bipush (v := nI 120) rfl (by decide) ?_
        by_cases h120 : k = 120
        · have hst : stp S F (kdX (ml0 127) c) (kdX (ml0 127) w) k ev = (Gk (kdX (ml0 127) c), ev.2) := by
            unfold stp
            rw [if_neg (by omega), if_neg (by rw [hlab]; decide), if_neg h256, if_pos h120]
          rw [hst] at next
          refine ho_icmp_ne rfl (by omega) (by omega) (fun g => absurd h120 g) (fun _ => ?_)
          refine am_lconst (v := 1) rfl (by decide) ?_
          refine am_iload rfl rfl ?_
          refine am_lshl rfl rfl ?_
          refine am_lstore rfl (Nat.le_of_ble_eq_true rfl) ?_
          show am_T _ _ _ _ [_, _, _, _, _, _, some _, none, _, _, _] _ _ _ _ _
          refine am_goto rfl ?_
          exact next _ ml ev.2.length k hml rfl (Rp_k hKE hc) hWS
        refine ho_icmp_ne rfl (by omega) (by omega) (fun _ => ?_) (fun g => absurd g h120)
        refine am_iload rfl rfl ?_
        refine am_bipush (v := nI 121) rfl (by decide) ?_
        by_cases h121 : k = 121
        · have hst : stp S F (kdX (ml0 127) c) (kdX (ml0 127) w) k ev = (Gk (kdX (ml0 127) w), ev.2) := by
            unfold stp
            rw [if_neg (by omega), if_neg (by rw [hlab]; decide), if_neg h256, if_neg h120, if_pos h121]
          rw [hst] at next
          refine ho_icmp_ne rfl (by omega) (by omega) (fun g => absurd h121 g) (fun _ => ?_)
          refine am_lconst (v := 1) rfl (by decide) ?_
          refine am_iload rfl rfl ?_
          refine am_lshl rfl rfl ?_
          refine am_lstore rfl (Nat.le_of_ble_eq_true rfl) ?_
          show am_T _ _ _ _ [_, _, _, _, _, _, some _, none, _, _, _] _ _ _ _ _
          refine am_goto rfl ?_
          exact next _ ml ev.2.length k hml rfl (Rp_k hKE hw) hWS
        refine ho_icmp_ne rfl (by omega) (by omega) (fun _ => ?_) (fun g => absurd g h121)
        refine am_iload rfl rfl ?_
        refine am_bipush (v := nI 93) rfl (by decide) ?_
        by_cases h93 : k = 93
        · rw [if_pos h93] at hkd3
          by_cases h0 : e = 0
          · rw [if_pos h0] at hkd3
            cases hkd3
          rw [if_neg h0] at hkd3
          have hl := hlen _ hkd3
          have hst : stp S F (kdX (ml0 127) c) (kdX (ml0 127) w) k ev = (G0, ev.1 :: ev.2) := by
            unfold stp
            rw [if_pos h93]
          rw [hst] at next
          refine ho_icmp_ne rfl (by omega) (by omega) (fun g => absurd h93 g) (fun _ => ?_)
          refine am_aload_n rfl rfl ?_
          refine ho_getR rfl (by first | rfl | assumption) rfl (by first | assumption | exact hR _ _ _ rfl) ?_
          refine am_iload rfl rfl ?_
          refine am_lload rfl rfl ?_
          refine ho_lastore rfl rfl (by omega) ?_
          refine am_iinc rfl rfl (nI_inc1 _) ?_
          show am_T _ _ _ _ [_, _, _, _, _, _, _, _, some _, _, _] _ _ _ _ _
          refine am_lconst (v := 1) rfl (by decide) ?_
          refine am_lstore rfl (Nat.le_of_ble_eq_true rfl) ?_
          show am_T _ _ _ _ [_, _, _, _, _, _, some _, none, _, _, _] _ _ _ _ _
          refine am_goto rfl ?_
          refine next 1 (up2 ml 142 ev.2.length z) (ev.2.length + 1) k (fun a ha => by rw [up2_off _ _ _ ha]; exact hml a ha) rfl (Rp_0 hKE) ⟨?_, WS_to hWS (fun i hi => ?_)⟩
          · rw [show up2 ml 142 ev.2.length z 142 ev.2.length = z by simp [up2]]
            exact hz2
          · unfold up2
            rw [if_neg (fun q => by omega)]
        refine ho_icmp_ne rfl (by omega) (by omega) (fun _ => ?_) (fun g => absurd g h93)
        refine am_iload rfl rfl ?_
        refine am_bipush (v := nI 91) rfl (by decide) ?_
        refine ho_icmp_ne rfl (by omega) (by omega) (fun _ => ?_) (fun g => absurd g hsm.2.2)
        have hst : stp S F (kdX (ml0 127) c) (kdX (ml0 127) w) k ev = (jnG S 1 G0 ev.1, ev.2) := by
          unfold stp
          rw [if_neg h93, if_neg (by rw [hlab]; decide), if_neg h256, if_neg h120, if_neg h121]
        rw [hst] at next
        refine am_aload_n rfl rfl ?_
        refine am_iconst (v := nI 0) rfl (by decide) ?_
        refine am_lconst (v := 1) rfl (by decide) ?_
        refine am_lload rfl rfl ?_
        refine ho_cv3 rfl (by first | rfl | assumption) rfl (Nat.le_of_ble_eq_true rfl) (Nat.le_of_ble_eq_true rfl) (c_m_joinSets hR hM h40 0 (by decide) 1 z) ?_
        rintro v h' ⟨z', rfl, rfl, g3⟩
        refine am_lstore rfl (Nat.le_of_ble_eq_true rfl) ?_
        show am_T _ _ _ _ [_, _, _, _, _, _, some _, none, _, _, _] _ _ _ _ _
        exact next z' ml ev.2.length k hml rfl (Rp_join hKE (Rp_0 hKE) hz2 (hJS g3)) hWS
  refine am_lconst (v := 1) rfl (by decide) ?_
  refine am_lstore rfl (Nat.le_of_ble_eq_true rfl) ?_
  show am_T _ _ _ _ [_, _, _, _, _, _, some _, none, _, _, _] _ _ _ _ _
  refine am_iconst (v := nI 0) rfl (by decide) ?_
  refine am_istore rfl (Nat.le_of_ble_eq_true rfl) ?_
  show am_T _ _ _ _ [_, _, _, _, _, _, _, _, some _, _, _] _ _ _ _ _
  refine am_iload_n rfl rfl ?_
  refine am_iconst (v := nI 1) rfl (by decide) ?_
  refine am_isub rfl ?_
  refine am_istore rfl (Nat.le_of_ble_eq_true rfl) ?_
  show am_T _ _ _ _ [_, _, _, _, _, _, _, _, _, some _, _] _ _ _ _ _
  have := loop (clA (F φ).2.2 j).2.length (clA (F φ).2.2 j).2 [] 1 ml0 rfl (List.append_nil _).symm (fun _ _ => rfl) (Rp_0 hKE) trivial
  rw [hre] at this
  exact this
end V7
