/-! the reference: badCall -/
theorem sub1_neg {a b : Nat} (h : a < b) (hb : b < 10000) : nI a - nI b < 0 := by
  have hin : ((a : Int) - (b : Int)).bmod (2 ^ 32) = (a : Int) - (b : Int) := Int.bmod_eq_of_le (by omega) (by omega)
  rw [Int32.lt_iff_toInt_lt, Int32.toInt_sub, nI_toInt (by omega), nI_toInt (by omega), hin]
  show _ < (0 : Int)
  omega
section V6
variable {l : Launch} {d : Nat} {mi : Nat → Nat → Int32} {ml : Nat → Nat → Int64} {mr : Nat → Nat → Option Nat} {S : Rs} {cnt : Nat} {F : Nat → Fn}
/-- a sign that is no function's -/
theorem c_m_bad_skip (hR : SR mr) (φ : Nat) (hφ : φ < 3) (T : List Nat) (hE : EN mi (6 + φ) T) (q en : Nat) (hq : q < en) (hen : en ≤ 80) (ch : Nat) (hch : sgn T q = ch) (hc : ch < 127) (hn : ¬ (102 ≤ ch ∧ ch ≤ 104)) (x2 x4 x5 : Int32) (b : Bool) {Q : Option Value → am_H → Prop} (k : am_T l (d + 4) M_m_badCall 6 [some (.ref 116), some (.int (nI φ)), some (.int x2), some (.int (nI en)), some (.int x4), some (.int x5), some (.int (bI b)), some (.int (nI (q + 1))), none] [] (hm mi ml mr) 0 0 Q) : am_T l (d + 4) M_m_badCall 6 [some (.ref 116), some (.int (nI φ)), some (.int x2), some (.int (nI en)), some (.int x4), some (.int x5), some (.int (bI b)), some (.int (nI q)), none] [] (hm mi ml mr) 0 0 Q := by
  refine am_iload rfl rfl ?_
  refine am_iload_n rfl rfl ?_
  refine ho_icmp_ge rfl (by omega) (by omega) (fun g => absurd g (by omega)) (fun _ => ?_)
  refine am_aload_n rfl rfl ?_
  refine am_iload_n rfl rfl ?_
  refine am_iload rfl rfl ?_
  refine ho_cv2 rfl (by first | rfl | assumption) rfl (Nat.le_of_ble_eq_true rfl) (Nat.le_of_ble_eq_true rfl) (c_m_sign hR φ hφ T hE q (by omega)) ?_
  rintro v h' ⟨rfl, rfl⟩
  rw [hch]
  refine am_bipush (v := nI 102) rfl (by decide) ?_
  have s95 : ∀ y : Int32, am_T l (d + 4) M_m_badCall 95 [some (.ref 116), some (.int (nI φ)), some (.int x2), some (.int (nI en)), some (.int x4), some (.int x5), some (.int (bI b)), some (.int (nI q)), some (.int y)] [] (hm mi ml mr) 0 0 Q := by
    intro y
    refine am_drops [8] ?_
    refine am_iinc rfl rfl (nI_inc1 _) ?_
    show am_T _ _ _ _ [_, _, _, _, _, _, _, some _, _] _ _ _ _ _
    refine am_goto rfl ?_
    exact k
  by_cases h102 : ch < 102
  · refine am_isub rfl ?_
    have hneg := sub1_neg h102 (by omega)
    generalize nI ch - nI 102 = y at hneg ⊢
    refine am_istore rfl (Nat.le_of_ble_eq_true rfl) ?_
    show am_T _ _ _ _ [_, _, _, _, _, _, _, _, some _] _ _ _ _ _
    refine am_iload rfl rfl ?_
    refine am_if_lt rfl (fun _ => s95 y) (fun g => absurd hneg g)
  · refine ho_subn rfl (by omega) ?_
    refine am_istore rfl (Nat.le_of_ble_eq_true rfl) ?_
    show am_T _ _ _ _ [_, _, _, _, _, _, _, _, some _] _ _ _ _ _
    refine am_iload rfl rfl ?_
    refine am_if_lt rfl (fun g => absurd g (nI_pos (by omega))) (fun _ => ?_)
    refine am_iload rfl rfl ?_
    refine am_iconst (v := nI 2) rfl (by decide) ?_
    refine ho_icmp_gt rfl (by omega) (by omega) (fun _ => s95 _) (fun g => absurd (by omega) g)
theorem c_m_badCall (hR : SR mr) (hS : okS S) (hr : repS S mi) (hM : MKn S cnt mi ml) (h40 : cnt ≤ 40) (hMF : MF F mi) (hF : ∀ φ, (F φ).2.2 = [] ∨ okF (F φ)) (φ : Nat) (hφ : φ < 3) (hz : (F φ).2.2.length ≠ 0) (j : Nat) (hj : j < (F φ).2.2.length) (c w : Nat) (hc : c < cnt) (hw : w < cnt) :
    am_T l (d + 4) M_m_badCall 0 [some (.ref 116), some (.int (nI φ)), some (.int (nI (rpos (F φ).2.2 j))), some (.int (nI (cpos (F φ).2.2 (j + 1)))), some (.int (nI c)), some (.int (nI w)), none, none, none] [] (hm mi ml mr) 0 0 (fun r h' => r = some (.int (bI (bcl S F (ml 127 c) (ml 127 w) (clA (F φ).2.2 j).2))) ∧ h' = hm mi ml mr) := by
  have hokf : ∀ φ, (F φ).2.2.length ≠ 0 → okF (F φ) := fun φ hq => (hF φ).resolve_left (fun q => hq (by rw [q]; rfl))
  have hok := hokf φ hz
  have hokc := clA_ok hok hj
  have hE := hMF φ hφ
  rw [fTx_def hz] at hE
  have hb80 := cpos_bound hE hj
  have hre := rpos_end (F φ).2.2 hj
  have loop : ∀ (K2 K1 : List Nat) (b : Bool), (clA (F φ).2.2 j).2 = K1 ++ K2 → am_T l (d + 4) M_m_badCall 6 [some (.ref 116), some (.int (nI φ)), some (.int (nI (rpos (F φ).2.2 j))), some (.int (nI (cpos (F φ).2.2 (j + 1)))), some (.int (nI c)), some (.int (nI w)), some (.int (bI b)), some (.int (nI (rpos (F φ).2.2 j + (ktx K1).length))), none] [] (hm mi ml mr) 0 0 (fun r h' => r = some (.int (bI (b || bcl S F (ml 127 c) (ml 127 w) K2))) ∧ h' = hm mi ml mr) := by
    intro K2
    induction K2 with
    | nil =>
      intro K1 b hK
      rw [List.append_nil] at hK
      rw [← hK, hre]
      refine am_iload rfl rfl ?_
      refine am_iload_n rfl rfl ?_
      refine ho_icmp_ge rfl (by omega) (by omega) (fun _ => ?_) (fun g => absurd (Nat.le_refl _) g)
      refine am_iload rfl rfl ?_
      exact am_zreturn rfl rfl (bI_01 _) ⟨by rw [show bcl S F (ml 127 c) (ml 127 w) [] = false from rfl, Bool.or_false], rfl⟩
    | cons k K2 ih =>
      intro K1 b hK
      have hk := hokc.2.2.2.1 k (by rw [hK]; simp)
      have hk262 := ti_sm hk
      have hktx : (ktx (k :: K2)).length = (ttx k).length + (ktx K2).length := by
        rw [show k :: K2 = [k] ++ K2 from rfl, ktx_app, ktx_one, List.length_append]
      have hall : (ktx (clA (F φ).2.2 j).2).length = (ktx K1).length + ((ttx k).length + (ktx K2).length) := by
        rw [hK, ktx_app, List.length_append, hktx]
      have hkt1 : (ktx (K1 ++ [k])).length = (ktx K1).length + (ttx k).length := by rw [ktx_app, ktx_one, List.length_append]
      have hs := fun x (hx : x < (ttx k).length) => sgn_tk (102 + φ) (F φ) (x := x) hj hK hx
      have nxt : ∀ b' : Bool, (b' || bcl S F (ml 127 c) (ml 127 w) K2) = (b || bcl S F (ml 127 c) (ml 127 w) (k :: K2)) → am_T l (d + 4) M_m_badCall 6 [some (.ref 116), some (.int (nI φ)), some (.int (nI (rpos (F φ).2.2 j))), some (.int (nI (cpos (F φ).2.2 (j + 1)))), some (.int (nI c)), some (.int (nI w)), some (.int (bI b')), some (.int (nI (rpos (F φ).2.2 j + (ktx K1).length + (ttx k).length))), none] [] (hm mi ml mr) 0 0 (fun r h' => r = some (.int (bI (b || bcl S F (ml 127 c) (ml 127 w) (k :: K2)))) ∧ h' = hm mi ml mr) := by
        intro b' hb'
        have := ih (K1 ++ [k]) b' (by rw [hK]; simp)
        rw [hkt1, ← Nat.add_assoc, hb'] at this
        exact this
      have hcons : bcl S F (ml 127 c) (ml 127 w) (k :: K2) = (bad1 S F (ml 127 c) (ml 127 w) k || bcl S F (ml 127 c) (ml 127 w) K2) := by
        unfold bcl
        rw [List.any_cons]
      by_cases h256 : 256 ≤ k
      · have httk : ttx k = [102 + (k - 256) / 2, 40, 120 + k % 2, 41] := by
          unfold ttx
          rw [if_pos h256]
        have hlen4 : (ttx k).length = 4 := by rw [httk]; rfl
        rw [hlen4] at nxt hall
        have s0 := hs 0 (by omega)
        have s1 := hs 1 (by omega)
        have s2 := hs 2 (by omega)
        have s3 := hs 3 (by omega)
        rw [httk] at s0 s1 s2 s3
        rw [Nat.add_zero] at s0
        have s0 : sgn (ftx (102 + φ) (F φ)) (rpos (F φ).2.2 j + (ktx K1).length) = 102 + (k - 256) / 2 := s0
        have s2 : sgn (ftx (102 + φ) (F φ)) (rpos (F φ).2.2 j + (ktx K1).length + 2) = 120 + k % 2 := s2
        have hg3 : (k - 256) / 2 < 3 := by omega
        have hX : isX k = decide (k % 2 = 0) := by
          unfold isX
          exact decide_eq_decide.mpr ⟨fun q => by omega, fun q => Or.inr ⟨h256, q⟩⟩
        -- behind the letter
        have rest : ∀ b' : Bool, b' = (b || bad1 S F (ml 127 c) (ml 127 w) k) → am_T l (d + 4) M_m_badCall 6 [some (.ref 116), some (.int (nI φ)), some (.int (nI (rpos (F φ).2.2 j))), some (.int (nI (cpos (F φ).2.2 (j + 1)))), some (.int (nI c)), some (.int (nI w)), some (.int (bI b')), some (.int (nI (rpos (F φ).2.2 j + (ktx K1).length + 1))), none] [] (hm mi ml mr) 0 0 (fun r h' => r = some (.int (bI (b || bcl S F (ml 127 c) (ml 127 w) (k :: K2)))) ∧ h' = hm mi ml mr) := by
          intro b' hb'
          refine c_m_bad_skip hR φ hφ _ hE _ _ (by omega) hb80 40 s1 (by omega) (by omega) _ _ _ b' ?_
          refine c_m_bad_skip hR φ hφ _ hE _ _ (by omega) hb80 (120 + k % 2) s2 (by omega) (by omega) _ _ _ b' ?_
          refine c_m_bad_skip hR φ hφ _ hE _ _ (by omega) hb80 41 s3 (by omega) (by omega) _ _ _ b' ?_
          exact nxt b' (by rw [hb', hcons, Bool.or_assoc])
        have s93 : ∀ (b' : Bool), b' = (b || bad1 S F (ml 127 c) (ml 127 w) k) → am_T l (d + 4) M_m_badCall 93 [some (.ref 116), some (.int (nI φ)), some (.int (nI (rpos (F φ).2.2 j))), some (.int (nI (cpos (F φ).2.2 (j + 1)))), some (.int (nI c)), some (.int (nI w)), some (.int (bI b)), some (.int (nI (rpos (F φ).2.2 j + (ktx K1).length))), some (.int (nI ((k - 256) / 2)))] [.int (bI b')] (hm mi ml mr) 0 0 (fun r h' => r = some (.int (bI (b || bcl S F (ml 127 c) (ml 127 w) (k :: K2)))) ∧ h' = hm mi ml mr) := by
          intro b' hb'
          refine am_istore rfl (Nat.le_of_ble_eq_true rfl) ?_
          show am_T _ _ _ _ [_, _, _, _, _, _, some _, _, _] _ _ _ _ _
          refine am_iinc rfl rfl (nI_inc1 _) ?_
          show am_T _ _ _ _ [_, _, _, _, _, _, _, some _, _] _ _ _ _ _
          refine am_goto rfl ?_
          refine am_drops [8] ?_
          exact rest b' hb'
        have s88 : (b || bad1 S F (ml 127 c) (ml 127 w) k) = true → am_T l (d + 4) M_m_badCall 88 [some (.ref 116), some (.int (nI φ)), some (.int (nI (rpos (F φ).2.2 j))), some (.int (nI (cpos (F φ).2.2 (j + 1)))), some (.int (nI c)), some (.int (nI w)), some (.int (bI b)), some (.int (nI (rpos (F φ).2.2 j + (ktx K1).length))), some (.int (nI ((k - 256) / 2)))] [] (hm mi ml mr) 0 0 (fun r h' => r = some (.int (bI (b || bcl S F (ml 127 c) (ml 127 w) (k :: K2)))) ∧ h' = hm mi ml mr) := by
          intro hb'
          refine am_iconst (v := nI 1) rfl (by decide) ?_
          refine am_goto rfl ?_
          exact s93 true hb'.symm
        refine am_iload rfl rfl ?_
        refine am_iload_n rfl rfl ?_
        refine ho_icmp_ge rfl (by omega) (by omega) (fun g => absurd g (by omega)) (fun _ => ?_)
        refine am_aload_n rfl rfl ?_
        refine am_iload_n rfl rfl ?_
        refine am_iload rfl rfl ?_
        refine ho_cv2 rfl (by first | rfl | assumption) rfl (Nat.le_of_ble_eq_true rfl) (Nat.le_of_ble_eq_true rfl) (c_m_sign hR φ hφ _ hE _ (by omega)) ?_
        rintro v h' ⟨rfl, rfl⟩
        rw [s0]
        refine am_bipush (v := nI 102) rfl (by decide) ?_
        first | refine ho_subn rfl (by omega) ?_ | refine am_isub rfl ?_
        rw [show 102 + (k - 256) / 2 - 102 = (k - 256) / 2 by omega]
        refine am_istore rfl (Nat.le_of_ble_eq_true rfl) ?_
        show am_T _ _ _ _ [_, _, _, _, _, _, _, _, some _] _ _ _ _ _
        refine am_iload rfl rfl ?_
        refine am_if_lt rfl (fun g => absurd g (nI_pos (by omega))) (fun _ => ?_)
        refine am_iload rfl rfl ?_
        refine am_iconst (v := nI 2) rfl (by decide) ?_
        refine ho_icmp_gt rfl (by omega) (by omega) (fun g => absurd g (by omega)) (fun _ => ?_)
        refine am_iload rfl rfl ?_
        refine am_if_ne rfl (fun g => s88 (by rw [(bI_ne _).mp g, Bool.true_or])) (fun g => ?_)
        have hb0 := (bI_eq _).mp g
        refine am_aload_n rfl rfl ?_
        refine am_iload rfl rfl ?_
        refine ho_cv1 rfl (by first | rfl | assumption) rfl (Nat.le_of_ble_eq_true rfl) (Nat.le_of_ble_eq_true rfl) (c_m_definedN (F := F) hR _ hg3 (hMF _ hg3)) ?_
        rintro v h' ⟨rfl, rfl⟩
        refine am_if_eq rfl (fun g => ?_) (fun g => ?_)
        · have g : (F ((k - 256) / 2)).2.2.length = 0 := Classical.not_not.mp (of_decide_eq_false ((bI_eq _).mp g))
          refine s88 ?_
          unfold bad1
          rw [decide_eq_true h256, decide_eq_true g]
          simp
        have hd : (F ((k - 256) / 2)).2.2.length ≠ 0 := of_decide_eq_true ((bI_ne _).mp g)
        have hEg := hMF _ hg3
        rw [fTx_def hd] at hEg
        have hokg := hokf _ hd
        refine am_aload_n rfl rfl ?_
        refine am_aload_n rfl rfl ?_
        refine ho_getR rfl (by first | rfl | assumption) rfl (by first | assumption | exact hR _ _ _ rfl) ?_
        refine am_aload_n rfl rfl ?_
        refine am_iload_n rfl rfl ?_
        refine am_iload rfl rfl ?_
        refine am_iconst (v := nI 2) rfl (by decide) ?_
        first | refine ho_addn rfl ?_ | refine am_iadd rfl ?_
        refine ho_cv2 rfl (by first | rfl | assumption) rfl (Nat.le_of_ble_eq_true rfl) (Nat.le_of_ble_eq_true rfl) (c_m_sign hR φ hφ _ hE _ (by omega)) ?_
        rintro v h' ⟨rfl, rfl⟩
        rw [s2]
        refine am_bipush (v := nI 120) rfl (by decide) ?_
        have s75 : ∀ q : Nat, q < cnt → ml 127 q = (if isX k then ml 127 c else ml 127 w) → am_T l (d + 4) M_m_badCall 75 [some (.ref 116), some (.int (nI φ)), some (.int (nI (rpos (F φ).2.2 j))), some (.int (nI (cpos (F φ).2.2 (j + 1)))), some (.int (nI c)), some (.int (nI w)), some (.int (bI b)), some (.int (nI (rpos (F φ).2.2 j + (ktx K1).length))), some (.int (nI ((k - 256) / 2)))] [.int (nI q), .ref 127, .ref 116] (hm mi ml mr) 0 0 (fun r h' => r = some (.int (bI (b || bcl S F (ml 127 c) (ml 127 w) (k :: K2)))) ∧ h' = hm mi ml mr) := by
          intro q hq hqk
          refine ho_laload rfl rfl (by omega) ?_
          refine am_aload_n rfl rfl ?_
          refine am_iload rfl rfl ?_
          refine ho_cv1 rfl (by first | rfl | assumption) rfl (Nat.le_of_ble_eq_true rfl) (Nat.le_of_ble_eq_true rfl) (c_m_input hR _ hg3 _ hokg hEg) ?_
          rintro v h' ⟨rfl, rfl⟩
          refine ho_cv2 rfl (by first | rfl | assumption) rfl (Nat.le_of_ble_eq_true rfl) (Nat.le_of_ble_eq_true rfl) (c_m_inName hR hS hr _ _ hokg.1) ?_
          rintro v h' ⟨rfl, rfl⟩
          rw [hqk]
          refine am_if_ne rfl (fun g => ?_) (fun g => ?_)
          · have g := (bI_ne _).mp g
            refine am_iconst (v := nI 0) rfl (by decide) ?_
            refine s93 false ?_
            unfold bad1
            rw [hb0, g, decide_eq_false hd]
            simp
          · have g := (bI_eq _).mp g
            refine s88 ?_
            unfold bad1
            rw [g, decide_eq_true h256]
            simp
        by_cases h2 : k % 2 = 0
        · refine ho_icmp_ne rfl (by omega) (by omega) (fun g => absurd g (by omega)) (fun _ => ?_)
          refine am_iload rfl rfl ?_
          refine am_goto rfl ?_
          exact s75 c hc (by rw [hX, decide_eq_true h2]; rfl)
        · refine ho_icmp_ne rfl (by omega) (by omega) (fun _ => ?_) (fun g => absurd g (by omega))
          refine am_iload rfl rfl ?_
          exact s75 w hw (by rw [hX, decide_eq_false h2]; rfl)
      have hbad : bad1 S F (ml 127 c) (ml 127 w) k = false := by
        unfold bad1
        rw [decide_eq_false h256]
        rfl
      have hsm : k < 127 ∧ ¬ (102 ≤ k ∧ k ≤ 104) := by
        rcases hk with q | q | q | q | q | q | q
        · have := isDig_r q
          omega
        · omega
        · have := isLab_r q
          omega
        all_goals omega
      have fin := nxt b (by rw [hcons, hbad, Bool.false_or])
      cases hl : isLab k with
      | true =>
        have httk : ttx k = [k, 91] := by
          unfold ttx
          rw [if_neg h256, if_pos hl]
        rw [httk] at fin hall
        have s0 := hs 0 (by rw [httk]; exact Nat.zero_lt_two)
        have s1 := hs 1 (by rw [httk]; exact Nat.one_lt_two)
        rw [httk] at s0 s1
        rw [Nat.add_zero] at s0
        have hall : (ktx (clA (F φ).2.2 j).2).length = (ktx K1).length + (2 + (ktx K2).length) := hall
        refine c_m_bad_skip hR φ hφ _ hE _ _ (by omega) hb80 k s0 hsm.1 hsm.2 _ _ _ b ?_
        refine c_m_bad_skip hR φ hφ _ hE _ _ (by omega) hb80 91 s1 (by omega) (by omega) _ _ _ b ?_
        exact fin
      | false =>
        have httk : ttx k = [k] := ttx_sm (by omega) hl
        rw [httk] at fin hall
        have s0 := hs 0 (by rw [httk]; exact Nat.zero_lt_one)
        rw [httk] at s0
        rw [Nat.add_zero] at s0
        have hall : (ktx (clA (F φ).2.2 j).2).length = (ktx K1).length + (1 + (ktx K2).length) := hall
        refine c_m_bad_skip hR φ hφ _ hE _ _ (by omega) hb80 k s0 hsm.1 hsm.2 _ _ _ b ?_
        exact fin
  refine am_iconst (v := nI 0) rfl (by decide) ?_
  refine am_istore rfl (Nat.le_of_ble_eq_true rfl) ?_
  show am_T _ _ _ _ [_, _, _, _, _, _, some _, _, _] _ _ _ _ _
  refine am_iload_n rfl rfl ?_
  refine am_istore rfl (Nat.le_of_ble_eq_true rfl) ?_
  show am_T _ _ _ _ [_, _, _, _, _, _, _, some _, _] _ _ _ _ _
  exact loop _ [] false rfl
end V6
