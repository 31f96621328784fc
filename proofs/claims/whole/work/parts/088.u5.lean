/-! the reference: the running, as the class writes -/
section U5
variable {l : Launch} {d : Nat} {ml : Nat → Nat → Int64} {mr : Nat → Nat → Option Nat} {S : Rs} {N : Nd} {F : Nat → Fn}
theorem m_wr (hR : SR mr) (hS : okS S) (hl : N.length ≤ 12) (hNo : okN 0 N) (h17 : ml 116 17 = K0 S) (hF : ∀ φ, ((F φ).2.2 = [] ∨ okF (F φ)) ∧ ntk (F φ).2.2 ≤ 80) (x1 : Int32) (mi0 : Nat → Nat → Int32) (Q : Option Value → am_H → Prop) : ∀ (n : Nat) (K2 K1 : List Nat) (φ j : Nat) (o : Option Nat) (p e : Nat) (out : Nd) (a L : Nat) (mi : Nat → Nat → Int32), φ < 3 → j < (F φ).2.2.length → (clA (F φ).2.2 j).2 = K1 ++ K2 → (o = none ↔ (clA (F φ).2.2 j).1.1 = 0) → (∀ i, o = some i → i < N.length ∧ (clA (F φ).2.2 j).1.1 = kn (cd N i) ∧ 12 ≤ n + i) → n + L = 12 → kd e K2 = some 0 → okN 0 out → out.length ≤ 20 → p + e ≤ edp out → OTx mi (tx out (p + e)) out.length → frm mi L φ (rpos (F φ).2.2 j + (ktx K1).length) o → RC S N F mi → Fp mi0 mi →
    (wr N (ap S N (ml 137) F n) o K2 (p + e) out a = .inr true → ∀ mi' : Nat → Nat → Int32, Fp mi0 mi' → Q (some (.int (-4))) (hm mi' ml mr)) →
    (wr N (ap S N (ml 137) F n) o K2 (p + e) out a = .inr false → ∀ mi' : Nat → Nat → Int32, Fp mi0 mi' → Q (some (.int (-5))) (hm mi' ml mr)) →
    (∀ (out' : Nd) (a' : Nat) (mi' : Nat → Nat → Int32), wr N (ap S N (ml 137) F n) o K2 (p + e) out a = .inl (out', a') → okN 0 out' → out'.length ≤ 20 → p ≤ edp out' → OTx mi' (tx out' p) out'.length → frm mi' L φ (cpos (F φ).2.2 (j + 1)) o → (∀ i, i < L → mi' 139 i = mi 139 i ∧ mi' 140 i = mi 140 i ∧ mi' 141 i = mi 141 i) → RC S N F mi' → Fp mi0 mi' → am_T l (d + 8) M_m_run 93 [some (.ref 116), some (.int x1), some (.int (nI a')), none, some (.int (nI L)), none, none, none, none] [] (hm mi' ml mr) 0 0 Q) →
    am_T l (d + 8) M_m_run 93 [some (.ref 116), some (.int x1), some (.int (nI a)), none, some (.int (nI L)), none, none, none, none] [] (hm mi ml mr) 0 0 Q := by
  have step : ∀ (n : Nat), (∀ (n' : Nat), n = n' + 1 → ∀ (K2 : List Nat) (φ j : Nat) (o : Option Nat) (p : Nat) (out : Nd) (a L : Nat) (mi : Nat → Nat → Int32), φ < 3 → j < (F φ).2.2.length → (clA (F φ).2.2 j).2 = K2 → (o = none ↔ (clA (F φ).2.2 j).1.1 = 0) → (∀ i, o = some i → i < N.length ∧ (clA (F φ).2.2 j).1.1 = kn (cd N i) ∧ 12 ≤ n' + i) → n' + L = 12 → kd 0 K2 = some 0 → okN 0 out → out.length ≤ 20 → p ≤ edp out → OTx mi (tx out p) out.length → frm mi L φ (rpos (F φ).2.2 j) o → RC S N F mi → Fp mi0 mi →
      (wr N (ap S N (ml 137) F n') o K2 p out a = .inr true → ∀ mi' : Nat → Nat → Int32, Fp mi0 mi' → Q (some (.int (-4))) (hm mi' ml mr)) →
      (wr N (ap S N (ml 137) F n') o K2 p out a = .inr false → ∀ mi' : Nat → Nat → Int32, Fp mi0 mi' → Q (some (.int (-5))) (hm mi' ml mr)) →
      (∀ (out' : Nd) (a' : Nat) (mi' : Nat → Nat → Int32), wr N (ap S N (ml 137) F n') o K2 p out a = .inl (out', a') → okN 0 out' → out'.length ≤ 20 → p ≤ edp out' → OTx mi' (tx out' p) out'.length → frm mi' L φ (cpos (F φ).2.2 (j + 1)) o → (∀ i, i < L → mi' 139 i = mi 139 i ∧ mi' 140 i = mi 140 i ∧ mi' 141 i = mi 141 i) → RC S N F mi' → Fp mi0 mi' → am_T l (d + 8) M_m_run 93 [some (.ref 116), some (.int x1), some (.int (nI a')), none, some (.int (nI L)), none, none, none, none] [] (hm mi' ml mr) 0 0 Q) →
      am_T l (d + 8) M_m_run 93 [some (.ref 116), some (.int x1), some (.int (nI a)), none, some (.int (nI L)), none, none, none, none] [] (hm mi ml mr) 0 0 Q) →
    ∀ (K2 K1 : List Nat) (φ j : Nat) (o : Option Nat) (p e : Nat) (out : Nd) (a L : Nat) (mi : Nat → Nat → Int32), φ < 3 → j < (F φ).2.2.length → (clA (F φ).2.2 j).2 = K1 ++ K2 → (o = none ↔ (clA (F φ).2.2 j).1.1 = 0) → (∀ i, o = some i → i < N.length ∧ (clA (F φ).2.2 j).1.1 = kn (cd N i) ∧ 12 ≤ n + i) → n + L = 12 → kd e K2 = some 0 → okN 0 out → out.length ≤ 20 → p + e ≤ edp out → OTx mi (tx out (p + e)) out.length → frm mi L φ (rpos (F φ).2.2 j + (ktx K1).length) o → RC S N F mi → Fp mi0 mi →
      (wr N (ap S N (ml 137) F n) o K2 (p + e) out a = .inr true → ∀ mi' : Nat → Nat → Int32, Fp mi0 mi' → Q (some (.int (-4))) (hm mi' ml mr)) →
      (wr N (ap S N (ml 137) F n) o K2 (p + e) out a = .inr false → ∀ mi' : Nat → Nat → Int32, Fp mi0 mi' → Q (some (.int (-5))) (hm mi' ml mr)) →
      (∀ (out' : Nd) (a' : Nat) (mi' : Nat → Nat → Int32), wr N (ap S N (ml 137) F n) o K2 (p + e) out a = .inl (out', a') → okN 0 out' → out'.length ≤ 20 → p ≤ edp out' → OTx mi' (tx out' p) out'.length → frm mi' L φ (cpos (F φ).2.2 (j + 1)) o → (∀ i, i < L → mi' 139 i = mi 139 i ∧ mi' 140 i = mi 140 i ∧ mi' 141 i = mi 141 i) → RC S N F mi' → Fp mi0 mi' → am_T l (d + 8) M_m_run 93 [some (.ref 116), some (.int x1), some (.int (nI a')), none, some (.int (nI L)), none, none, none, none] [] (hm mi' ml mr) 0 0 Q) →
      am_T l (d + 8) M_m_run 93 [some (.ref 116), some (.int x1), some (.int (nI a)), none, some (.int (nI L)), none, none, none, none] [] (hm mi ml mr) 0 0 Q := by
    intro n hcall K2
    induction K2 with
    | nil =>
      intro K1 φ j o p e out a L mi hφ hj hK hon ho hnL hkd hout h20 hpe hO hfr hRC hFp hst hfu hok
      have he : e = 0 := by
        have : some e = some 0 := hkd
        exact Option.some.inj this
      subst he
      rw [List.append_nil] at hK
      have hre := rpos_end (F φ).2.2 hj
      rw [hK] at hre
      rw [hre] at hfr
      exact hok out a mi rfl hout h20 hpe hO hfr (fun i hi => ⟨rfl, rfl, rfl⟩) hRC hFp
    | cons k K2 ih2 =>
      intro K1 φ j o p e out a L mi hφ hj hK hon ho hnL hkd hout h20 hpe hO hfr hRC hFp hst hfu hok
      have hz : (F φ).2.2.length ≠ 0 := by omega
      have hokF : okF (F φ) := (hF φ).1.resolve_left (fun q => hz (by rw [q]; rfl))
      have hokc := clA_ok hokF hj
      have hk : okTk (clA (F φ).2.2 j).1.1 k := hokc.2.2.2.1 k (by rw [hK]; simp)
      have hk262 := ti_sm hk
      have hE := hRC.2.2.2.2 φ hφ
      rw [fTx_def hz] at hE
      have hplace := tk_place (102 + φ) (F φ) hj hK
      have h80 := hE.2.1
      have hktx : (ktx (k :: K2)).length = (ttx k).length + (ktx K2).length := by
        rw [show k :: K2 = [k] ++ K2 from rfl, ktx_app, ktx_one, List.length_append]
      have httx := ttx_len k
      have hK' : (clA (F φ).2.2 j).2 = (K1 ++ [k]) ++ K2 := by rw [hK]; simp
      have hkt1 : (ktx (K1 ++ [k])).length = (ktx K1).length + (ttx k).length := by rw [ktx_app, ktx_one, List.length_append]
      have h60 := len_tx60 hout h20 hpe
      -- the rest of the tokens
      have rest : ∀ (e' : Nat) (out2 : Nd) (a2 : Nat) (mi2 : Nat → Nat → Int32), wr N (ap S N (ml 137) F n) o (k :: K2) (p + e) out a = wr N (ap S N (ml 137) F n) o K2 (p + e') out2 a2 → kd e' K2 = some 0 → okN 0 out2 → out2.length ≤ 20 → p + e' ≤ edp out2 → OTx mi2 (tx out2 (p + e')) out2.length → frm mi2 L φ (rpos (F φ).2.2 j + ((ktx K1).length + (ttx k).length)) o → (∀ i, i < L → mi2 139 i = mi 139 i ∧ mi2 140 i = mi 140 i ∧ mi2 141 i = mi 141 i) → RC S N F mi2 → Fp mi0 mi2 → am_T l (d + 8) M_m_run 93 [some (.ref 116), some (.int x1), some (.int (nI a2)), none, some (.int (nI L)), none, none, none, none] [] (hm mi2 ml mr) 0 0 Q := by
        intro e' out2 a2 mi2 b1 b2 b3 b4 b5 b6 b7 b8 b9 b10
        refine ih2 (K1 ++ [k]) φ j o p e' out2 a2 L mi2 hφ hj hK' hon ho hnL b2 b3 b4 b5 b6 (by rw [hkt1]; exact b7) b9 b10 (fun q => hst (by rw [b1]; exact q)) (fun q => hfu (by rw [b1]; exact q)) (fun out' a' mi' q c1 c2 c3 c4 c5 c6 c7 c8 => hok out' a' mi' (by rw [b1]; exact q) c1 c2 c3 c4 c5 (fun i hi => ?_) c7 c8)
        obtain ⟨x1, x2, x3⟩ := c6 i hi
        obtain ⟨y1, y2, y3⟩ := b8 i hi
        exact ⟨x1.trans y1, x2.trans y2, x3.trans y3⟩
      have hs0 := sgn_tk (102 + φ) (F φ) (x := 0) hj hK (by omega)
      rw [Nat.add_zero] at hs0
      refine c_m_run_head hR mi hRC φ hφ hz L _ (by omega) (by omega) o hfr x1 a ?_
      rw [hs0]
      have hkd' := hkd
      unfold kd at hkd'
      by_cases h93 : k = 93
      · -- a bracket
        subst h93
        rw [if_pos rfl] at hkd'
        by_cases h0 : e = 0
        · rw [if_pos h0] at hkd'
          cases hkd'
        rw [if_neg h0] at hkd'
        obtain ⟨e', rfl⟩ : ∃ e', e = e' + 1 := ⟨e - 1, by omega⟩
        refine c_m_run_put hR mi L φ _ (by omega) o hfr x1 a 93 93 (by decide) (by decide) (by decide) (by decide) (by decide) (by decide) _ _ h20 hO (Or.inl (by omega)) (Or.inl ⟨by decide, rfl⟩) (fun q => absurd q (by decide)) (fun _ mi2 b1 b2 b3 b4 => ?_)
        have etx : tx out (p + (e' + 1)) ++ [93] = tx out (p + e') := by
          rw [tx_close out (p + e') (by omega)]
          rfl
        rw [etx] at b2
        exact rest e' out a mi2 (by rw [wr, if_pos rfl]; rfl) hkd' hout h20 (by omega) b2 b3 (fun i hi => b4 i (by omega)) (hRC.to b1) (hFp.tr b1)
      rw [if_neg h93] at hkd'
      by_cases h256 : 256 ≤ k
      · -- a call
        rw [show isLab k = false by simp only [isLab, decide_eq_false_iff_not]; omega] at hkd'
        have hkd2 : kd e K2 = some 0 := hkd'
        have httk : ttx k = [102 + (k - 256) / 2, 40, 120 + k % 2, 41] := by
          unfold ttx
          rw [if_pos h256]
        have hlen4 : (ttx k).length = 4 := by rw [httk]; rfl
        have hcall1 : 1 ≤ (clA (F φ).2.2 j).1.1 ∧ (k % 2 = 1 ∨ 2 ≤ (clA (F φ).2.2 j).1.1) := by
          rcases hk with q | q | q | q | q | q | q
          · have := isDig_r q
            omega
          · omega
          · have := isLab_r q
            omega
          · omega
          · omega
          · omega
          · exact q.2.2
        obtain ⟨i, hoi⟩ : ∃ i, o = some i := by
          cases o with
          | none =>
            have := hon.mp rfl
            omega
          | some i => exact ⟨i, rfl⟩
        obtain ⟨hi1, hi2, hi3⟩ := ho i hoi
        subst hoi
        obtain ⟨n', rfl⟩ : ∃ n', n = n' + 1 := ⟨n - 1, by omega⟩
        obtain ⟨t1, t2, t3, t4⟩ := hRC.1.2 i hi1
        obtain ⟨f1, f2, f3⟩ := id hfr
        rw [httk]
        show am_T l (d + 8) M_m_run 131 [_, _, _, _, _, _, some (.int (nI i)), some (.int (nI (102 + (k - 256) / 2))), _] _ _ _ _ _
        refine am_iload rfl rfl ?_
        refine am_bipush (v := nI 47) rfl (by decide) ?_
        refine ho_icmp_ne rfl (by omega) (by omega) (fun _ => ?_) (fun z => by omega)
        refine am_iload rfl rfl ?_
        refine ho_cs1 rfl rfl (Nat.le_of_ble_eq_true rfl) (Nat.le_of_ble_eq_true rfl) (c_m_letter _ (by omega)) ?_
        rintro v h' ⟨rfl, rfl⟩
        rw [show isFun (102 + (k - 256) / 2) = true by simp only [isFun, decide_eq_true_eq]; omega]
        refine am_if_eq rfl (fun z => by cases z) (fun _ => ?_)
        refine am_aload_n rfl rfl ?_
        refine am_iload rfl rfl ?_
        refine am_aload_n rfl rfl ?_
        refine ho_getR rfl (by first | rfl | assumption) rfl (by first | assumption | exact hR _ _ _ rfl) ?_
        refine am_iload rfl rfl ?_
        refine ho_iaload rfl (by first | rfl | assumption) (by omega) ?_
        rw [f2]
        refine am_iconst (v := nI 2) rfl (by decide) ?_
        first | refine ho_addn rfl ?_ | refine am_iadd rfl ?_
        refine ho_cv2 rfl (by first | rfl | assumption) rfl (Nat.le_of_ble_eq_true rfl) (Nat.le_of_ble_eq_true rfl) (c_m_sign hR φ hφ _ hE (rpos (F φ).2.2 j + (ktx K1).length + 2) (by omega)) ?_
        rintro v h' ⟨rfl, rfl⟩
        rw [sgn_tk (102 + φ) (F φ) hj hK (show 2 < (ttx k).length by omega), httk]
        show am_T _ _ _ _ _ (.int (nI (120 + k % 2)) :: _) _ _ _ _
        refine am_bipush (v := nI 120) rfl (by decide) ?_
        have hprt := prt_lt (N := N) (o := some i) (k := k)
        have s189 : am_T l (d + 8) M_m_run 189 [some (.ref 116), some (.int x1), some (.int (nI a)), none, some (.int (nI L)), some (.int (nI φ)), some (.int (nI i)), some (.int (nI (102 + (k - 256) / 2))), none] [.int (noI (prt N (some i) k))] (hm mi ml mr) 0 0 Q := by
          refine am_istore rfl (Nat.le_of_ble_eq_true rfl) ?_
          show am_T _ _ _ _ [_, _, _, _, _, _, _, _, some _] _ _ _ _ _
          refine am_aload_n rfl rfl ?_
          refine ho_getR rfl (by first | rfl | assumption) rfl (by first | assumption | exact hR _ _ _ rfl) ?_
          refine am_iload rfl rfl ?_
          first | refine am_dup2 rfl rfl rfl ?_ | refine am_dup2l rfl rfl ?_
          refine ho_iaload rfl (by first | rfl | assumption) (by omega) ?_
          rw [f2]
          refine am_iconst (v := nI 4) rfl (by decide) ?_
          first | refine ho_addn rfl ?_ | refine am_iadd rfl ?_
          refine ho_iastore rfl (by first | rfl | assumption) (by omega) ?_
          refine am_iinc rfl rfl (nI_inc1 _) ?_
          show am_T _ _ _ _ [_, _, some _, _, _, _, _, _, _] _ _ _ _ _
          refine am_aload_n rfl rfl ?_
          refine am_iload rfl rfl ?_
          refine am_bipush (v := nI 102) rfl (by decide) ?_
          first | refine ho_subn rfl (by omega) ?_ | refine am_isub rfl ?_
          have eg : 102 + (k - 256) / 2 - 102 = (k - 256) / 2 := by omega
          rw [eg]
          have hF1 : Fp mi (up2 mi 140 L (nI (rpos (F φ).2.2 j + (ktx K1).length + 4))) := ⟨fun a _ _ _ h4 _ => up2_off _ _ _ h4, fun j _ _ => by rw [up2_off _ _ _ (by decide)]⟩
          have hg3 : (k - 256) / 2 < 3 := by omega
          refine am_iload rfl rfl ?_
          refine ho_cv2 rfl (by first | rfl | assumption) rfl (Nat.le_of_ble_eq_true rfl) (Nat.le_of_ble_eq_true rfl) (c_m_chosen hR hS hl _ (hRC.to hF1) h17 ((k - 256) / 2) hg3 (hF _).1 (prt N (some i) k) (fun x hx => (hprt x hx).1)) ?_
          rintro v h' ⟨rfl, rfl⟩
          refine am_istore_n rfl (Nat.le_of_ble_eq_true rfl) ?_
          show am_T _ _ _ _ [_, _, _, some _, _, _, _, _, _] _ _ _ _ _
          refine am_iload_n rfl rfl ?_
          cases hch : choF S N (ml 137) (F ((k - 256) / 2)).2.2 (prt N (some i) k) with
          | none =>
            refine am_if_ne rfl (fun z => absurd rfl z) (fun _ => ?_)
            refine am_bipush (v := -4) rfl (by decide) ?_
            refine am_ireturn rfl rfl (hst ?_ _ (hFp.tr hF1))
            rw [wr, if_neg h93, if_pos h256]
            unfold ap
            rw [hch]
          | some j' =>
            obtain ⟨c1, c2, c3⟩ := choF_p hch
            have hz' : (F ((k - 256) / 2)).2.2.length ≠ 0 := by omega
            have hokF' : okF (F ((k - 256) / 2)) := (hF _).1.resolve_left (fun q => hz' (by rw [q]; rfl))
            have h6' := hokF'.2.2.2.2
            have hE' := (hRC.to hF1).2.2.2.2 ((k - 256) / 2) hg3
            rw [fTx_def hz'] at hE'
            have hb' := cpos_bound hE' c1
            have hre' := rpos_end (F ((k - 256) / 2)).2.2 c1
            show am_T l (d + 8) M_m_run 218 [_, _, _, some (.int (nI (j' + 1))), _, _, _, _, _] (.int (nI (j' + 1)) :: _) _ _ _ _
            refine am_if_ne rfl (fun _ => ?_) (fun z => ?_)
            case refine_2 =>
              have : j' + 1 = 0 := (nI_eq (a := j' + 1) (b := 0) (by omega) (by omega)).mp z
              omega
            refine am_iinc rfl rfl (nI_inc1 _) ?_
            show am_T _ _ _ _ [_, _, _, _, some _, _, _, _, _] _ _ _ _ _
            refine am_aload_n rfl rfl ?_
            refine ho_getR rfl (by first | rfl | assumption) rfl (by first | assumption | exact hR _ _ _ rfl) ?_
            refine am_iload rfl rfl ?_
            refine am_iload rfl rfl ?_
            refine am_bipush (v := nI 102) rfl (by decide) ?_
            first | refine ho_subn rfl (by omega) ?_ | refine am_isub rfl ?_
            refine ho_iastore rfl rfl (by omega) ?_
            refine am_aload_n rfl rfl ?_
            refine ho_getR rfl (by first | rfl | assumption) rfl (by first | assumption | exact hR _ _ _ rfl) ?_
            refine am_iload rfl rfl ?_
            refine am_aload_n rfl rfl ?_
            refine am_iload rfl rfl ?_
            refine am_bipush (v := nI 102) rfl (by decide) ?_
            first | refine ho_subn rfl (by omega) ?_ | refine am_isub rfl ?_
            refine am_iload_n rfl rfl ?_
            have eg2 : 102 + (k - 256) / 2 - 102 = (k - 256) / 2 := by omega
            rw [eg2]
            have hF2 : Fp mi (up2 (up2 mi 140 L (nI (rpos (F φ).2.2 j + (ktx K1).length + 4))) 139 (L + 1) (nI ((k - 256) / 2))) := hF1.tr ⟨fun a _ _ h3 _ _ => up2_off _ _ _ h3, fun j _ _ => by rw [up2_off _ _ _ (by decide)]⟩
            have hE2 := (hRC.to hF2).2.2.2.2 ((k - 256) / 2) hg3
            rw [fTx_def hz'] at hE2
            refine ho_cv2 rfl (by first | rfl | assumption) rfl (Nat.le_of_ble_eq_true rfl) (Nat.le_of_ble_eq_true rfl) (c_m_result hR ((k - 256) / 2) hg3 _ hokF' hE2 j' c1) ?_
            rintro v h' ⟨rfl, rfl⟩
            refine ho_iastore rfl rfl (by omega) ?_
            refine am_aload_n rfl rfl ?_
            refine ho_getR rfl (by first | rfl | assumption) rfl (by first | assumption | exact hR _ _ _ rfl) ?_
            refine am_iload rfl rfl ?_
            refine am_iload rfl rfl ?_
            refine ho_iastore rfl rfl (by omega) ?_
            refine am_goto rfl ?_
            refine am_goto rfl ?_
            refine am_drops [3, 5, 6, 7, 8] ?_
            have hF3 : Fp mi (up2 (up2 (up2 (up2 mi 140 L (nI (rpos (F φ).2.2 j + (ktx K1).length + 4))) 139 (L + 1) (nI ((k - 256) / 2))) 140 (L + 1) (nI (rpos (F ((k - 256) / 2)).2.2 j'))) 141 (L + 1) (noI (prt N (some i) k))) := hF2.tr ⟨fun a _ _ _ h4 h5 => by rw [up2_off _ _ _ h5, up2_off _ _ _ h4], fun j _ _ => by rw [up2_off _ _ _ (by decide), up2_off _ _ _ (by decide)]⟩
            have hO3 : OTx (up2 (up2 (up2 (up2 mi 140 L (nI (rpos (F φ).2.2 j + (ktx K1).length + 4))) 139 (L + 1) (nI ((k - 256) / 2))) 140 (L + 1) (nI (rpos (F ((k - 256) / 2)).2.2 j'))) 141 (L + 1) (noI (prt N (some i) k))) (tx out (p + e)) out.length := by
              unfold OTx txt at hO ⊢
              rw [up2_off _ _ _ (show (116 : Nat) ≠ 141 by decide), up2_off _ _ _ (show (116 : Nat) ≠ 140 by decide), up2_off _ _ _ (show (116 : Nat) ≠ 139 by decide), up2_off _ _ _ (show (116 : Nat) ≠ 140 by decide), up2_off _ _ _ (show (122 : Nat) ≠ 141 by decide), up2_off _ _ _ (show (122 : Nat) ≠ 140 by decide), up2_off _ _ _ (show (122 : Nat) ≠ 139 by decide), up2_off _ _ _ (show (122 : Nat) ≠ 140 by decide)]
              exact hO
            have hfr3 : frm (up2 (up2 (up2 (up2 mi 140 L (nI (rpos (F φ).2.2 j + (ktx K1).length + 4))) 139 (L + 1) (nI ((k - 256) / 2))) 140 (L + 1) (nI (rpos (F ((k - 256) / 2)).2.2 j'))) 141 (L + 1) (noI (prt N (some i) k))) (L + 1) ((k - 256) / 2) (rpos (F ((k - 256) / 2)).2.2 j') (prt N (some i) k) := ⟨by simp [up2], by simp [up2], by simp [up2]⟩
            have hold : ∀ x, x < L + 1 → (up2 (up2 (up2 (up2 mi 140 L (nI (rpos (F φ).2.2 j + (ktx K1).length + 4))) 139 (L + 1) (nI ((k - 256) / 2))) 140 (L + 1) (nI (rpos (F ((k - 256) / 2)).2.2 j'))) 141 (L + 1) (noI (prt N (some i) k))) 139 x = mi 139 x ∧ (x ≠ L → (up2 (up2 (up2 (up2 mi 140 L (nI (rpos (F φ).2.2 j + (ktx K1).length + 4))) 139 (L + 1) (nI ((k - 256) / 2))) 140 (L + 1) (nI (rpos (F ((k - 256) / 2)).2.2 j'))) 141 (L + 1) (noI (prt N (some i) k))) 140 x = mi 140 x) ∧ (up2 (up2 (up2 (up2 mi 140 L (nI (rpos (F φ).2.2 j + (ktx K1).length + 4))) 139 (L + 1) (nI ((k - 256) / 2))) 140 (L + 1) (nI (rpos (F ((k - 256) / 2)).2.2 j'))) 141 (L + 1) (noI (prt N (some i) k))) 141 x = mi 141 x := by
              intro x hx
              refine ⟨?_, fun hxL => ?_, ?_⟩
              · unfold up2
                rw [if_neg (by omega), if_neg (by omega), if_neg (by omega), if_neg (by omega)]
              · unfold up2
                rw [if_neg (by omega), if_neg (by omega), if_neg (by omega), if_neg (by omega)]
              · unfold up2
                rw [if_neg (by omega), if_neg (by omega), if_neg (by omega), if_neg (by omega)]
            have hL140 : (up2 (up2 (up2 (up2 mi 140 L (nI (rpos (F φ).2.2 j + (ktx K1).length + 4))) 139 (L + 1) (nI ((k - 256) / 2))) 140 (L + 1) (nI (rpos (F ((k - 256) / 2)).2.2 j'))) 141 (L + 1) (noI (prt N (some i) k))) 140 L = nI (rpos (F φ).2.2 j + (ktx K1).length + 4) := by
              unfold up2
              rw [if_neg (by omega), if_neg (by omega), if_neg (by omega), if_pos ⟨rfl, rfl⟩]
            generalize (up2 (up2 (up2 (up2 mi 140 L (nI (rpos (F φ).2.2 j + (ktx K1).length + 4))) 139 (L + 1) (nI ((k - 256) / 2))) 140 (L + 1) (nI (rpos (F ((k - 256) / 2)).2.2 j'))) 141 (L + 1) (noI (prt N (some i) k))) = mi3 at hF3 hO3 hfr3 hold hL140 ⊢
            have hokc' := clA_ok hokF' c1
            have hap : ap S N (ml 137) F (n' + 1) ((k - 256) / 2) (prt N (some i) k) (p + e) out a = wr N (ap S N (ml 137) F n') (prt N (some i) k) (clA (F ((k - 256) / 2)).2.2 j').2 (p + e) out (a + 1) := by
              rw [ap, hch]
            have hwr : wr N (ap S N (ml 137) F (n' + 1)) (some i) (k :: K2) (p + e) out a = match wr N (ap S N (ml 137) F n') (prt N (some i) k) (clA (F ((k - 256) / 2)).2.2 j').2 (p + e) out (a + 1) with
              | .inl (out', a') => wr N (ap S N (ml 137) F (n' + 1)) (some i) K2 (p + e) out' a'
              | .inr true => .inr true
              | .inr false => .inr false := by
              rw [wr, if_neg h93, if_pos h256, hap]
              cases wr N (ap S N (ml 137) F n') (prt N (some i) k) (clA (F ((k - 256) / 2)).2.2 j').2 (p + e) out (a + 1) <;> rfl
            refine hcall n' rfl (clA (F ((k - 256) / 2)).2.2 j').2 ((k - 256) / 2) j' (prt N (some i) k) (p + e) out (a + 1) (L + 1) mi3 hg3 c1 rfl c2 (fun x hx => ⟨(hprt x hx).1, c3 x hx, by have := (hprt x hx).2 i rfl; omega⟩) (by omega) hokc'.2.2.2.2.1 hout h20 hpe hO3 hfr3 (hRC.to hF3) (hFp.tr hF3) (fun q => hst (by rw [hwr, q])) (fun q => hfu (by rw [hwr, q])) (fun out' a' mi' q y1 y2 y3 y4 y5 y6 y7 y8 => ?_)
            -- back from the call
            refine c_m_run_head hR mi' y7 ((k - 256) / 2) hg3 hz' (L + 1) _ (by omega) (by omega) _ y5 x1 a' ?_
            rw [sgn_cpos _ _ (by omega)]
            refine am_iload rfl rfl ?_
            refine am_bipush (v := nI 47) rfl (by decide) ?_
            refine ho_icmp_ne rfl (by omega) (by omega) (fun z => absurd rfl z) (fun _ => ?_)
            refine am_iinc rfl rfl (nI_dec1 _) ?_
            show am_T _ _ _ _ [_, _, _, _, some _, _, _, _, _] _ _ _ _ _
            refine am_goto rfl ?_
            refine am_goto rfl ?_
            refine am_drops [5, 6, 7] ?_
            obtain ⟨z1, z2, z3⟩ := y6 L (by omega)
            obtain ⟨v1, -, v3⟩ := hold L (by omega)
            refine rest e out' a' mi' (by rw [hwr]; simp only [q]) hkd2 y1 y2 y3 y4 ⟨z1.trans (v1.trans f1), ?_, z3.trans (v3.trans f3)⟩ (fun x hx => ?_) y7 y8
            · rw [z2, hL140, hlen4, Nat.add_assoc]
            · obtain ⟨u1, u2, u3⟩ := y6 x (by omega)
              obtain ⟨s1, s2, s3⟩ := hold x (by omega)
              exact ⟨u1.trans s1, u2.trans (s2 (by omega)), u3.trans s3⟩
        refine ho_icmp_ne rfl (by omega) (by omega) (fun z => ?_) (fun z => ?_)
        · refine am_aload_n rfl rfl ?_
          refine ho_getR rfl (by first | rfl | assumption) rfl (by first | assumption | exact hR _ _ _ rfl) ?_
          refine am_iload rfl rfl ?_
          refine ho_iaload rfl (by first | rfl | assumption) (by omega) ?_
          rw [t4]
          have : prt N (some i) k = behN N i := by
            rw [prt_y (show isX k = false from decide_eq_false (fun q => by omega))]
            rfl
          rw [this] at s189
          exact s189
        · refine am_aload_n rfl rfl ?_
          refine ho_getR rfl (by first | rfl | assumption) rfl (by first | assumption | exact hR _ _ _ rfl) ?_
          refine am_iload rfl rfl ?_
          refine ho_iaload rfl (by first | rfl | assumption) (by omega) ?_
          refine am_goto rfl ?_
          rw [t3]
          have : prt N (some i) k = contN N i := by
            rw [prt_x (show isX k = true from decide_eq_true (Or.inr ⟨h256, by omega⟩))]
            rfl
          rw [this] at s189
          exact s189
      have hsm : k < 127 := by
        rcases hk with q | q | q | q | q | q | q
        · have := isDig_r q
          omega
        · omega
        · have := isLab_r q
          omega
        all_goals omega
      have hnfun : isFun k = false := by
        simp only [isFun, decide_eq_false_iff_not]
        rcases hk with q | q | q | q | q | q | q
        · have := isDig_r q
          omega
        · omega
        · have := isLab_r q
          omega
        all_goals omega
      have h47 : k ≠ 47 := by
        rcases hk with q | q | q | q | q | q | q
        · have := isDig_r q
          omega
        · omega
        · have := isLab_r q
          omega
        all_goals omega
      by_cases hxy : k = 120 ∨ k = 121
      · -- a hedge
        have hnl : isLab k = false := by simp only [isLab, decide_eq_false_iff_not]; omega
        rw [hnl] at hkd'
        have hkd2 : kd e K2 = some 0 := hkd'
        have httk : ttx k = [k] := ttx_sm (by omega) hnl
        have hlen1 : (ttx k).length = 1 := by rw [httk]; rfl
        rw [httk]
        show am_T l (d + 8) M_m_run 131 [_, _, _, _, _, _, _, some (.int (nI k)), _] _ _ _ _ _
        obtain ⟨f1, f2, f3⟩ := id hfr
        obtain ⟨i, hoi⟩ : ∃ i, o = some i := by
          cases o with
          | none =>
            exfalso
            have := hon.mp rfl
            rcases hk with q | q | q | q | q | q | q
            · have := isDig_r q
              omega
            · omega
            · have := isLab_r q
              omega
            all_goals omega
          | some i => exact ⟨i, rfl⟩
        obtain ⟨hi1, hi2, hi3⟩ := ho i hoi
        subst hoi
        obtain ⟨t1, t2, t3, t4⟩ := hRC.1.2 i hi1
        have hF1 : Fp mi (up2 mi 140 L (nI (rpos (F φ).2.2 j + (ktx K1).length + 1))) := ⟨fun a _ _ _ h4 _ => up2_off _ _ _ h4, fun j _ _ => by rw [up2_off _ _ _ (by decide)]⟩
        have hfr1 : frm (up2 mi 140 L (nI (rpos (F φ).2.2 j + (ktx K1).length + 1))) L φ (rpos (F φ).2.2 j + (ktx K1).length + 1) (some i) := ⟨by rw [up2_off _ _ _ (by decide)]; exact f1, by simp [up2], by rw [up2_off _ _ _ (by decide)]; exact f3⟩
        have hO1 : OTx (up2 mi 140 L (nI (rpos (F φ).2.2 j + (ktx K1).length + 1))) (tx out (p + e)) out.length := ⟨by rw [up2_off _ _ _ (by decide)]; exact hO.1, by rw [up2_off _ _ _ (by decide)]; exact hO.2.1, txt_to hO.2.2 (up2_off _ _ _ (by decide))⟩
        have hoth : ∀ x, x ≠ L → up2 mi 140 L (nI (rpos (F φ).2.2 j + (ktx K1).length + 1)) 139 x = mi 139 x ∧ up2 mi 140 L (nI (rpos (F φ).2.2 j + (ktx K1).length + 1)) 140 x = mi 140 x ∧ up2 mi 140 L (nI (rpos (F φ).2.2 j + (ktx K1).length + 1)) 141 x = mi 141 x := fun x hx => ⟨by rw [up2_off _ _ _ (by decide)], by unfold up2; rw [if_neg (by omega)], by rw [up2_off _ _ _ (by decide)]⟩
        have h135 : up2 mi 140 L (nI (rpos (F φ).2.2 j + (ktx K1).length + 1)) 135 = mi 135 := up2_off _ _ _ (by decide)
        have h136 : up2 mi 140 L (nI (rpos (F φ).2.2 j + (ktx K1).length + 1)) 136 = mi 136 := up2_off _ _ _ (by decide)
        have hprt := prt_lt (N := N) (o := some i) (k := k)
        refine am_iload rfl rfl ?_
        refine am_bipush (v := nI 47) rfl (by decide) ?_
        refine ho_icmp_ne rfl (by omega) (by omega) (fun _ => ?_) (fun z => absurd z h47)
        refine am_iload rfl rfl ?_
        refine ho_cs1 rfl rfl (Nat.le_of_ble_eq_true rfl) (Nat.le_of_ble_eq_true rfl) (c_m_letter k (by omega)) ?_
        rintro v h' ⟨rfl, rfl⟩
        rw [hnfun]
        refine am_if_eq rfl (fun _ => ?_) (fun z => absurd rfl z)
        refine am_aload_n rfl rfl ?_
        refine ho_getR rfl (by first | rfl | assumption) rfl (by first | assumption | exact hR _ _ _ rfl) ?_
        refine am_iload rfl rfl ?_
        first | refine am_dup2 rfl rfl rfl ?_ | refine am_dup2l rfl rfl ?_
        refine ho_iaload rfl (by first | rfl | assumption) (by omega) ?_
        rw [f2]
        refine am_iconst (v := nI 1) rfl (by decide) ?_
        first | refine ho_addn rfl ?_ | refine am_iadd rfl ?_
        refine ho_iastore rfl (by first | rfl | assumption) (by omega) ?_
        refine am_iload rfl rfl ?_
        refine am_bipush (v := nI 120) rfl (by decide) ?_
        generalize up2 mi 140 L (nI (rpos (F φ).2.2 j + (ktx K1).length + 1)) = mi1 at hF1 hfr1 hO1 hoth h135 h136 ⊢
        have hRC1 := hRC.to hF1
        have after : ∀ (v : Option Value) (h' : am_H), (∃ mi', h' = hm mi' ml mr ∧ Fq mi1 mi' ∧ match wL out (seg N (prt N (some i) k) (p + e)) with
            | some out' => v = some (.int (bI true)) ∧ OTx mi' (tx out' (p + e)) out'.length
            | none => v = some (.int (bI false))) → am_T l (d + 8) M_m_run 349 [some (.ref 116), some (.int x1), some (.int (nI a)), none, some (.int (nI L)), some (.int (nI φ)), some (.int (nI i)), some (.int (nI k)), none] (v.toList ++ []) h' 0 0 Q := by
          rintro v h' ⟨mi', rfl, g1, g2⟩
          cases hw : wL out (seg N (prt N (some i) k) (p + e)) with
          | none =>
            rw [hw] at g2
            subst g2
            refine am_istore rfl (Nat.le_of_ble_eq_true rfl) ?_
            show am_T _ _ _ _ [_, _, _, _, _, _, _, _, some _] _ _ _ _ _
            refine am_iload rfl rfl ?_
            refine am_if_ne rfl (fun z => absurd rfl z) (fun _ => ?_)
            refine am_bipush (v := -5) rfl (by decide) ?_
            refine am_ireturn rfl rfl (hfu ?_ mi' ((hFp.tr hF1).tr g1.p))
            rw [wr, if_neg h93, if_neg h256, if_pos hxy, hw]
          | some out2 =>
            rw [hw] at g2
            obtain ⟨rfl, g2⟩ := g2
            obtain ⟨w1, w2⟩ := seg_ok hNo (fun x hx => (hprt x hx).1) hout hpe hw
            refine am_istore rfl (Nat.le_of_ble_eq_true rfl) ?_
            show am_T _ _ _ _ [_, _, _, _, _, _, _, _, some _] _ _ _ _ _
            refine am_iload rfl rfl ?_
            refine am_if_ne rfl (fun _ => ?_) (fun z => by cases z)
            refine am_goto rfl ?_
            refine am_drops [5, 6, 7, 8] ?_
            refine rest e out2 a mi' (by rw [wr, if_neg h93, if_neg h256, if_pos hxy, hw]) hkd2 w1 ((wL_len _ _ _ hw).2 h20) w2 g2 ?_ (fun x hx => ?_) (hRC1.to g1.p) ((hFp.tr hF1).tr g1.p)
            · rw [hlen1, ← Nat.add_assoc]
              exact frm_put hfr1 g1
            · rw [g1.1 139 (by decide) (by decide), g1.1 140 (by decide) (by decide), g1.1 141 (by decide) (by decide)]
              exact hoth x (by omega)
        rcases hxy with h120 | h121
        · refine ho_icmp_ne rfl (by omega) (by omega) (fun z => absurd h120 z) (fun _ => ?_)
          have hprt1 : prt N (some i) k = contN N i := by
            rw [prt_x (show isX k = true from decide_eq_true (Or.inl h120))]
            rfl
          refine am_aload_n rfl rfl ?_
          refine am_aload_n rfl rfl ?_
          refine ho_getR rfl (by first | rfl | assumption) rfl (by first | assumption | exact hR _ _ _ rfl) ?_
          refine am_iload rfl rfl ?_
          refine ho_iaload rfl (by first | rfl | assumption) (by omega) ?_
          rw [h135, t3, ← hprt1]
          refine ho_cv1 rfl (by first | rfl | assumption) rfl (Nat.le_of_ble_eq_true rfl) (Nat.le_of_ble_eq_true rfl) (c_m_putHedge hR hNo hl mi1 hRC1.1 hRC1.2.1 hRC1.2.2.1 (prt N (some i) k) (fun x hx => (hprt x hx).1) out (p + e) hout h20 hpe hO1) ?_
          intro v h' hv
          have := after v h' hv
          obtain ⟨mi', rfl, -, g2⟩ := hv
          have hv2 : ∃ b, v = some (.int (bI b)) := by
            cases hw : wL out (seg N (prt N (some i) k) (p + e)) with
            | none =>
              rw [hw] at g2
              exact ⟨_, g2⟩
            | some out2 =>
              rw [hw] at g2
              exact ⟨_, g2.1⟩
          obtain ⟨b, rfl⟩ := hv2
          refine am_goto rfl ?_
          exact this
        · refine ho_icmp_ne rfl (by omega) (by omega) (fun _ => ?_) (fun z => by omega)
          have hprt1 : prt N (some i) k = behN N i := by
            rw [prt_y (show isX k = false from decide_eq_false (fun q => by omega))]
            rfl
          refine am_iload rfl rfl ?_
          refine am_bipush (v := nI 121) rfl (by decide) ?_
          refine ho_icmp_ne rfl (by omega) (by omega) (fun z => absurd h121 z) (fun _ => ?_)
          refine am_aload_n rfl rfl ?_
          refine am_aload_n rfl rfl ?_
          refine ho_getR rfl (by first | rfl | assumption) rfl (by first | assumption | exact hR _ _ _ rfl) ?_
          refine am_iload rfl rfl ?_
          refine ho_iaload rfl (by first | rfl | assumption) (by omega) ?_
          rw [h136, t4, ← hprt1]
          refine ho_cv1 rfl (by first | rfl | assumption) rfl (Nat.le_of_ble_eq_true rfl) (Nat.le_of_ble_eq_true rfl) (c_m_putHedge hR hNo hl mi1 hRC1.1 hRC1.2.1 hRC1.2.2.1 (prt N (some i) k) (fun x hx => (hprt x hx).1) out (p + e) hout h20 hpe hO1) ?_
          intro v h' hv
          have := after v h' hv
          obtain ⟨mi', rfl, -, g2⟩ := hv
          have hv2 : ∃ b, v = some (.int (bI b)) := by
            cases hw : wL out (seg N (prt N (some i) k) (p + e)) with
            | none =>
              rw [hw] at g2
              exact ⟨_, g2⟩
            | some out2 =>
              rw [hw] at g2
              exact ⟨_, g2.1⟩
          obtain ⟨b, rfl⟩ := hv2
          refine am_goto rfl ?_
          exact this
      -- a node
      obtain ⟨c, hc0, hc127, hcn, hclb, hcsc⟩ : ∃ c, c = (if k = 35 then cd N (o.getD 0) else k) ∧ c < 127 ∧ isNod c = true ∧ lb c = lb k ∧ ((k ≠ 35 ∧ c = k) ∨ (k = 35 ∧ ∃ i y, o = some i ∧ i < 20 ∧ mi 134 i = nI y ∧ y < 36 ∧ mi 120 y = nI c)) := by
        refine ⟨_, rfl, ?_⟩
        by_cases h35 : k = 35
        · rw [if_pos h35]
          have hp11 : (clA (F φ).2.2 j).1.1 = 1 := by
            rcases hk with q | q | q | q | q | q | q
            · have := isDig_r q
              omega
            · exact q.2
            · have := isLab_r q
              omega
            all_goals omega
          cases hoq : o with
          | none =>
            have := hon.mp hoq
            omega
          | some i =>
            obtain ⟨hi1, hc3, -⟩ := ho i hoq
            have hn := cd_nod N 0 i hNo hi1
            have hpn := pl_node N hNo hi1
            have h36 := len_tx0 hNo
            refine ⟨(nod_br hn).2.2.1, hn, ?_, Or.inr ⟨h35, i, pl N i (dp N i), rfl, by omega, (hRC.1.2 i hi1).2.1, by omega, ?_⟩⟩
            · show lb (cd N i) = lb k
              have : isLab (cd N i) = false := by
                cases hq : isLab (cd N i) with
                | false => rfl
                | true =>
                  unfold kn at hc3
                  rw [if_pos hq] at hc3
                  have := isLab_r hq
                  omega
              rw [h35]
              unfold lb
              rw [this]
              rfl
            · rw [hRC.2.1 _ (by omega), hpn.1]
              rfl
        · rw [if_neg h35]
          have hn : isNod k = true := by
            unfold isNod
            rcases hk with q | q | q | q | q | q | q
            · rw [q]
              rfl
            · omega
            · rw [q, Bool.or_true]
            all_goals omega
          exact ⟨(nod_br hn).2.2.1, hn, rfl, Or.inl ⟨h35, rfl⟩⟩
      have hwr : wr N (ap S N (ml 137) F n) o (k :: K2) (p + e) out a = match wL out [(c, p + e)] with
        | some out' => wr N (ap S N (ml 137) F n) o K2 (p + e + lb k) out' a
        | none => .inr false := by
        rw [wr, if_neg h93, if_neg h256, if_neg hxy, ← hc0]
        cases wL out [(c, p + e)] <;> rfl
      have hroom : (tx out (p + e)).length < 60 ∨ (isNod c = true ∧ out.length = 20) := by
        by_cases e20 : out.length = 20
        · exact Or.inr ⟨hcn, e20⟩
        · left
          have hok3 : okN 0 (out ++ [(c, p + e)]) := okN_snoc0.mpr ⟨hout, hpe, hcn⟩
          have := len_tx60 hok3 (by rw [List.length_append]; show out.length + 1 ≤ 20; omega) (p := p + e + lb c) (by rw [edp_app]; exact Nat.le_refl _)
          rw [tx_snoc, List.length_append, len_nt] at this
          have : (tx out (p + e)).length + (1 + lb c + (p + e + lb c - (p + e + lb c))) + (p + e + lb c) ≤ 60 := this
          omega
      have hfirst : (ttx k).getD 0 0 = k := by
        unfold ttx
        rw [if_neg h256]
        split <;> rfl
      rw [hfirst]
      refine c_m_run_put hR mi L φ _ (by omega) o hfr x1 a k c hsm h47 hnfun (by omega) (by omega) hc127 _ _ h20 hO hroom hcsc (fun _ q mi' b1 => hfu ?_ mi' (hFp.tr b1)) (fun hno mi2 b1 b2 b3 b4 => ?_)
      · rw [hwr]
        unfold wL
        rw [if_neg (by omega)]
      have h20' : out.length < 20 := by
        have : ¬ out.length = 20 := fun q => hno ⟨hcn, q⟩
        omega
      rw [if_pos hcn] at b2
      have hok3 : okN 0 (out ++ [(c, p + e)]) := okN_snoc0.mpr ⟨hout, hpe, hcn⟩
      have hl3 : (out ++ [(c, p + e)]).length = out.length + 1 := by rw [List.length_append]; rfl
      have hwr2 : wr N (ap S N (ml 137) F n) o (k :: K2) (p + e) out a = wr N (ap S N (ml 137) F n) o K2 (p + (e + lb k)) (out ++ [(c, p + e)]) a := by
        rw [hwr]
        unfold wL
        rw [if_pos h20']
        unfold wL
        rw [Nat.add_assoc]
      by_cases hlab : isLab k = true
      · have hlb1 : lb k = 1 := by unfold lb; rw [if_pos hlab]
        have hclab : isLab c = true := by
          cases hq : isLab c with
          | true => rfl
          | false =>
            unfold lb at hclb
            rw [hq, hlab] at hclb
            cases hclb
        rw [if_pos hlab] at hkd'
        have httk : ttx k = [k, 91] := ttx_lab hlab
        have hlen2 : (ttx k).length = 2 := by rw [httk]; rfl
        have hRC2 := hRC.to b1
        refine c_m_run_head hR mi2 hRC2 φ hφ hz L _ (by omega) (by omega) o b3 x1 a ?_
        have hs1 := sgn_tk (102 + φ) (F φ) (x := 1) hj hK (by omega)
        rw [httk] at hs1
        rw [hs1]
        show am_T l (d + 8) M_m_run 131 [_, _, _, _, _, _, _, some (.int (nI 91)), _] _ _ _ _ _
        have hU2 : (tx out (p + e) ++ [c]).length < 60 := by
          have := len_tx60 hok3 (by omega) (p := p + e + lb c) (by rw [edp_app]; exact Nat.le_refl _)
          rw [tx_snoc, List.length_append, len_nt] at this
          have : (tx out (p + e)).length + (1 + lb c + (p + e + lb c - (p + e + lb c))) + (p + e + lb c) ≤ 60 := this
          rw [List.length_append]
          show _ + 1 < 60
          omega
        refine c_m_run_put hR mi2 L φ _ (by omega) o b3 x1 a 91 91 (by decide) (by decide) (by decide) (by decide) (by decide) (by decide) _ _ (by omega) b2 (Or.inl hU2) (Or.inl ⟨by decide, rfl⟩) (fun q => absurd q (by decide)) (fun _ mi3 y1 y2 y3 y4 => ?_)
        have etx : tx out (p + e) ++ [c] ++ [91] = tx (out ++ [(c, p + e)]) (p + (e + lb k)) := by
          rw [tx_snoc]
          unfold nt
          show _ = tx out (p + e) ++ (c :: ((if isLab c then [91] else []) ++ List.replicate (p + e + lb c - (p + (e + lb k))) 93))
          rw [if_pos hclab, hclb, show p + e + lb k - (p + (e + lb k)) = 0 by omega]
          simp
        rw [etx] at y2
        refine rest (e + lb k) (out ++ [(c, p + e)]) a mi3 hwr2 (by rw [hlb1]; exact hkd') hok3 (by omega) (by rw [edp_app]; show _ ≤ p + e + lb c; omega) (by rw [hl3]; exact y2) ?_ (fun x hx => ?_) (hRC2.to y1) ((hFp.tr b1).tr y1)
        · rw [hlen2]
          exact y3
        · obtain ⟨u1, u2, u3⟩ := y4 x (by omega)
          obtain ⟨v1, v2, v3⟩ := b4 x (by omega)
          exact ⟨u1.trans v1, u2.trans v2, u3.trans v3⟩
      · have hlb0 : lb k = 0 := by unfold lb; rw [if_neg hlab]
        have hclab : ¬ isLab c = true := by
          intro hq
          unfold lb at hclb
          rw [if_pos hq, if_neg hlab] at hclb
          cases hclb
        rw [if_neg hlab] at hkd'
        have httk : ttx k = [k] := ttx_sm (by omega) (by simpa using hlab)
        have hlen1 : (ttx k).length = 1 := by rw [httk]; rfl
        have etx : tx out (p + e) ++ [c] = tx (out ++ [(c, p + e)]) (p + (e + lb k)) := by
          rw [tx_snoc]
          unfold nt
          show _ = tx out (p + e) ++ (c :: ((if isLab c then [91] else []) ++ List.replicate (p + e + lb c - (p + (e + lb k))) 93))
          rw [if_neg hclab, hclb, show p + e + lb k - (p + (e + lb k)) = 0 by omega]
          simp
        rw [etx] at b2
        refine rest (e + lb k) (out ++ [(c, p + e)]) a mi2 hwr2 (by rw [hlb0]; exact hkd') hok3 (by omega) (by rw [edp_app]; show _ ≤ p + e + lb c; omega) (by rw [hl3]; exact b2) ?_ (fun x hx => b4 x (by omega)) (hRC.to b1) (hFp.tr b1)
        rw [hlen1]
        exact b3
  intro n
  induction n with
  | zero => exact step 0 (fun n' q => by omega)
  | succ n ihn =>
    refine step (n + 1) (fun n' q K2 φ j o p out a L mi h1 h2 h3 h4 h5 h6 h7 h8 h9 h10 h11 h12 h13 h14 h15 h16 h17' => ?_)
    have e : n' = n := by omega
    subst e
    exact ihn K2 [] φ j o p 0 out a L mi h1 h2 h3 h4 h5 h6 h7 h8 h9 h10 h11 h12 h13 h14 h15 h16 h17'
end U5
