/-! the class: resultKinds -/
def WS (km : Nat → Int64) (cnt : Nat) (m : Nat → Int64) : List Gs → Prop
  | [] => True
  | a :: r => Rp km cnt (m r.length) a ∧ WS km cnt m r
theorem WS_to {km : Nat → Int64} {cnt : Nat} {m m' : Nat → Int64} : ∀ {st : List Gs}, WS km cnt m st → (∀ i, i < st.length → m' i = m i) → WS km cnt m' st
  | [], _, _ => trivial
  | a :: r, h, hi => ⟨by rw [hi r.length (Nat.lt_succ_self _)]; exact h.1, WS_to h.2 (fun i q => hi i (Nat.lt_succ_of_lt q))⟩
def Fml (ml ml' : Nat → Nat → Int64) : Prop := ∀ a, a ≠ 107 → a ≠ 108 → ml' a = ml a
theorem Fml.rf {ml : Nat → Nat → Int64} : Fml ml ml := fun _ _ _ => rfl
theorem Fml.tr {ml ml' ml'' : Nat → Nat → Int64} (h : Fml ml ml') (h' : Fml ml' ml'') : Fml ml ml'' := fun a h1 h2 => (h' a h1 h2).trans (h a h1 h2)
theorem KF.fr {S : Rs} {ip : Nat → Nat} {n cnt L : Nat} {v : Nat → Nat} {mi mi' : Nat → Nat → Int32} {ml ml' : Nat → Nat → Int64} (h : KF S ip n cnt L v mi ml) (hF : Fch mi mi') (hl : Fml ml ml') : KF S ip n cnt L v mi' ml' := by
  have h' := h.tod hF
  obtain ⟨h1, h2, h3, h4, h5, h6⟩ := h'
  refine ⟨repX_to h1 rfl rfl rfl (fun a _ _ => hl a (by omega) (by omega)), ?_, ?_, ?_, ?_, ?_⟩
  · unfold XK at h2 ⊢
    rw [hl 94 (by decide) (by decide)]
    exact h2
  · unfold XAll LL XJ at h3 ⊢
    rw [hl 94 (by decide) (by decide)]
    exact h3
  · rw [hl 94 (by decide) (by decide), hl 101 (by decide) (by decide)]
    exact h4
  · unfold XV at h5 ⊢
    rw [hl 94 (by decide) (by decide), hl 95 (by decide) (by decide)]
    exact h5
  · rw [hl 94 (by decide) (by decide)]
    exact h6
theorem KF.ke {S : Rs} (hS : okS S) {ip : Nat → Nat} {n cnt L : Nat} {v : Nat → Nat} {mi : Nat → Nat → Int32} {ml : Nat → Nat → Int64} (h : KF S ip n cnt L v mi ml) : KE S (ml 94) cnt :=
  ⟨h.2.1.1.1.1, h.2.1.1.1.2, h.2.1.2.2.1, h.2.1.2.2.2.2.1, fun _ hm => x_reach hS h.1 h.2.1 h.2.2.1 hm, h.2.1.2.2.2.1⟩
theorem dec_1 (a : Nat) : nI a + Int32.ofInt (-1) = nI a - nI 1 := by
  rw [Int32.sub_eq_add_neg]
  rfl
theorem pred_lt {a : Nat} (h : a < 10000) : nI a - nI 1 < nI a := by
  have hin : ((a : Int) - ((1 : Nat) : Int)).bmod (2 ^ 32) = (a : Int) - ((1 : Nat) : Int) := Int.bmod_eq_of_le (by omega) (by omega)
  rw [Int32.lt_iff_toInt_lt, Int32.toInt_sub, nI_toInt (by omega), nI_toInt (by omega), hin]
  omega
/-- where a clause of a function lies -/
def CLP (mi : Nat → Nat → Int32) (o j st : Nat) (K : List Nat) : Prop := mi (o + 4) j = nI st ∧ mi (o + 4) (j + 1) = nI (st + K.length) ∧ ∀ x, x < K.length → mi (o + 5) (st + x) = nI (K.getD x 0)
theorem FA_clp {mi : Nat → Nat → Int32} {o : Nat} {F : Fn} (h : FA mi o F) {j : Nat} (hj : j < F.2.2.length) : CLP mi o j (ntk (F.2.2.take j)) (clA F.2.2 j).2 ∧ ntk (F.2.2.take j) + (clA F.2.2 j).2.length ≤ ntk F.2.2 := by
  have hsp : F.2.2 = F.2.2.take j ++ clA F.2.2 j :: F.2.2.drop (j + 1) := by rw [← drop_sC _ hj, List.take_append_drop]
  have htl : (F.2.2.take j).length = j := by rw [List.length_take]; omega
  obtain ⟨-, -, -, e4, e5, e6⟩ := h.2.2.2.2 _ _ _ hsp
  rw [htl] at e4 e5
  exact ⟨⟨e4, e5, e6⟩, (CA_le hsp).2⟩
theorem CLP.to {mi mi' : Nat → Nat → Int32} {o j st : Nat} {K : List Nat} (h : CLP mi o j st K) (e4 : mi' (o + 4) = mi (o + 4)) (e5 : mi' (o + 5) = mi (o + 5)) : CLP mi' o j st K := by
  unfold CLP at h ⊢
  rw [e4, e5]
  exact h
section V2
variable {l : Launch} {d : Nat} {mr : Nat → Nat → Option Nat} {S : Rs} {ip : Nat → Nat} {n cnt L : Nat} {v : Nat → Nat} {F : Nat → Fn} {oF : Nat → Nat}
theorem c_C_resultKinds (hR : SR mr) (hS : okS S) (hoF : ∀ n, n < 4 → oF n ∈ fOb) (hrF : ∀ n, n < 3 → mr 45 n = some (oF n)) (mi0 : Nat → Nat → Int32) (ml0 : Nat → Nat → Int64) (hK0 : KF S ip n cnt L v mi0 ml0) (hZ : Z100 mi0) (hFA : ∀ φ, φ < 3 → (F φ).2.2.length ≠ 0 → FA mi0 (oF φ) (F φ)) (hokF : ∀ φ, (F φ).2.2.length ≠ 0 → okF (F φ)) (f c w : Nat) (hT : CT mi0 f c w) (hc : c < cnt) (hw : w < cnt) (φ : Nat) (hφ : φ < 3) (j : Nat) (hj6 : j < 6) (st : Nat) (K : List Nat) (hP : CLP mi0 (oF φ) j st K) (h80 : st + K.length ≤ 80) (p : Nat) (hTk : ∀ k ∈ K, okTk p k) (hkd : kd 0 K = some 0) (hnpa : npa K ≤ 12) (hcall : ∀ k ∈ K, 256 ≤ k → (F ((k - 256) / 2)).2.2.length ≠ 0) :
    am_T l (d + 2) M_C_resultKinds 0 [some (.ref 106), some (.ref (oF φ)), some (.int (nI j)), none, none, none, none, none] [] (hm mi0 ml0 mr) 0 0 (fun r h' => ∃ z mi' ml', r = some (.long z) ∧ h' = hm mi' ml' mr ∧ F1h mi0 mi' ∧ Z100 mi' ∧ (∀ a, a ≠ 107 → ml' a = ml0 a) ∧ Rp (ml0 94) cnt z (evl S F (decide (c = 0), ml0 94 c) (decide (w = 0), ml0 94 w) K).1) := by
  have hFn := isFn_of hR (hoF φ (by omega))
  have hob := fOb_r (hoF φ (by omega))
  have hkF := hFn.2.1
  obtain ⟨-, -, -, -, -, k4, k5, -, -, -, r7, r8⟩ := id hFn
  have hE := hK0.ke hS
  have h40 := hE.2.1
  have loop : ∀ (x : Nat) (K1 K2 : List Nat) (z : Int64) (mi : Nat → Nat → Int32) (ml : Nat → Nat → Int64), K1.length = x → K = K1 ++ K2 → F1h mi0 mi → Z100 mi → (∀ a, a ≠ 107 → ml a = ml0 a) → Rp (ml0 94) cnt z (evl S F (decide (c = 0), ml0 94 c) (decide (w = 0), ml0 94 w) K2).1 → WS (ml0 94) cnt (ml 107) (evl S F (decide (c = 0), ml0 94 c) (decide (w = 0), ml0 94 w) K2).2 → am_T l (d + 2) M_C_resultKinds 17 [some (.ref 106), some (.ref (oF φ)), some (.int (nI j)), some (.long z), none, some (.int (nI (evl S F (decide (c = 0), ml0 94 c) (decide (w = 0), ml0 94 w) K2).2.length)), some (.int (nI (st + x) - nI 1)), none] [] (hm mi ml mr) 0 0 (fun r h' => ∃ z mi' ml', r = some (.long z) ∧ h' = hm mi' ml' mr ∧ F1h mi0 mi' ∧ Z100 mi' ∧ (∀ a, a ≠ 107 → ml' a = ml0 a) ∧ Rp (ml0 94) cnt z (evl S F (decide (c = 0), ml0 94 c) (decide (w = 0), ml0 94 w) K).1) := by
    intro x
    induction x with
    | zero =>
      intro K1 K2 z mi ml hx hK hF hZ1 hml hz hWS
      have hP1 := hP.to (hF (oF φ + 4) (by omega)) (hF (oF φ + 5) (by omega))
      have e1 : K1 = [] := List.length_eq_zero_iff.mp hx
      subst e1
      have e2 : K = K2 := hK
      subst e2
      refine am_iload rfl rfl ?_
      refine am_aload_n rfl rfl ?_
      refine ho_getR rfl (by first | rfl | assumption) rfl (by first | assumption | exact hR _ _ _ rfl) ?_
      refine am_iload_n rfl rfl ?_
      refine ho_iaload rfl (by first | rfl | assumption) (by omega) ?_
      rw [hP1.1]
      refine am_icmp_lt rfl (fun _ => ?_) (fun g => absurd (pred_lt (by omega)) g)
      refine am_lload_n rfl rfl ?_
      exact am_lreturn rfl rfl ⟨z, mi, ml, rfl, rfl, hF, hZ1, hml, hz⟩
    | succ x ih =>
      intro K1 K2 z mi ml hx hK hF hZ1 hml hz hWS
      obtain ⟨K1', k, rfl⟩ : ∃ K1' k, K1 = K1' ++ [k] := ⟨K1.dropLast, K1.getLast (fun q => by rw [q] at hx; cases hx), (List.dropLast_concat_getLast _).symm⟩
      have hx' : K1'.length = x := by
        rw [List.length_append] at hx
        have : K1'.length + 1 = x + 1 := hx
        omega
      have hK' : K = K1' ++ k :: K2 := by rw [hK]; simp
      have hKl : K.length = x + 1 + K2.length := by rw [hK', List.length_append, List.length_cons]; omega
      have hkK : k ∈ K := by rw [hK']; simp
      have hk := hTk k hkK
      have hk262 := ti_sm hk
      have hP1 := hP.to (hF (oF φ + 4) (by omega)) (hF (oF φ + 5) (by omega))
      have hK1 : KF S ip n cnt L v mi ml := hK0.fr (fun a _ h2 => hF a h2) (fun a h1 _ => hml a h1)
      have hml94 : ml 94 = ml0 94 := hml 94 (by decide)
      have hgk : K.getD x 0 = k := by
        rw [hK', List.getD_eq_getElem?_getD, List.getElem?_append_right (by omega), hx', Nat.sub_self]
        rfl
      obtain ⟨e, he⟩ : ∃ e, kd 0 K1' = some e := by
        rw [hK', kd_app] at hkd
        cases he : kd 0 K1' with
        | none =>
          rw [he] at hkd
          cases hkd
        | some e => exact ⟨e, rfl⟩
      have hkd2 : kd e (k :: K2) = some 0 := by
        rw [hK', kd_app, he] at hkd
        exact hkd
      have he12 : e ≤ 12 := by
        have h1 := kd_npa K1' 0 e he
        rw [hK', npa_app] at hnpa
        omega
      have hkd3 := hkd2
      unfold kd at hkd3
      refine am_iload rfl rfl ?_
      refine am_aload_n rfl rfl ?_
      refine ho_getR rfl (by first | rfl | assumption) rfl (by first | assumption | exact hR _ _ _ rfl) ?_
      refine am_iload_n rfl rfl ?_
      refine ho_iaload rfl (by first | rfl | assumption) (by omega) ?_
      rw [hP1.1, nI_subn (by omega)]
      refine ho_icmp_lt rfl (by omega) (by omega) (fun g => absurd g (by omega)) (fun _ => ?_)
      rw [show st + (x + 1) - 1 = st + x by omega]
      refine am_aload_n rfl rfl ?_
      refine ho_getR rfl (by first | rfl | assumption) rfl (by first | assumption | exact hR _ _ _ rfl) ?_
      refine am_iload rfl rfl ?_
      refine ho_iaload rfl (by first | rfl | assumption) (by omega) ?_
      rw [hP1.2.2 x (by omega), hgk]
      have next : ∀ (z' : Int64) (mi' : Nat → Nat → Int32) (ml' : Nat → Nat → Int64) (op : Nat), F1h mi0 mi' → Z100 mi' → (∀ a, a ≠ 107 → ml' a = ml0 a) → op = (stp S F (decide (c = 0), ml0 94 c) (decide (w = 0), ml0 94 w) k (evl S F (decide (c = 0), ml0 94 c) (decide (w = 0), ml0 94 w) K2)).2.length → Rp (ml0 94) cnt z' (stp S F (decide (c = 0), ml0 94 c) (decide (w = 0), ml0 94 w) k (evl S F (decide (c = 0), ml0 94 c) (decide (w = 0), ml0 94 w) K2)).1 → WS (ml0 94) cnt (ml' 107) (stp S F (decide (c = 0), ml0 94 c) (decide (w = 0), ml0 94 w) k (evl S F (decide (c = 0), ml0 94 c) (decide (w = 0), ml0 94 w) K2)).2 → am_T l (d + 2) M_C_resultKinds 189 [some (.ref 106), some (.ref (oF φ)), some (.int (nI j)), some (.long z'), none, some (.int (nI op)), some (.int (nI (st + x))), some (.int (nI k))] [] (hm mi' ml' mr) 0 0 (fun r h' => ∃ z mi' ml', r = some (.long z) ∧ h' = hm mi' ml' mr ∧ F1h mi0 mi' ∧ Z100 mi' ∧ (∀ a, a ≠ 107 → ml' a = ml0 a) ∧ Rp (ml0 94) cnt z (evl S F (decide (c = 0), ml0 94 c) (decide (w = 0), ml0 94 w) K).1) := by
        intro z' mi' ml' op b1 b2 b3 b4 b5 b6
        refine am_iinc rfl rfl (dec_1 _) ?_
        show am_T _ _ _ _ [_, _, _, _, _, _, some _, _] _ _ _ _ _
        refine am_goto rfl ?_
        refine am_drops [7] ?_
        rw [b4]
        exact ih K1' (k :: K2) z' mi' ml' hx' hK' b1 b2 b3 b5 b6
      generalize hev : evl S F (decide (c = 0), ml0 94 c) (decide (w = 0), ml0 94 w) K2 = ev at hz hWS next ⊢
      have hlen : ∀ e', kd e' K2 = some 0 → ev.2.length = e' := fun e' h => by rw [← hev]; exact evl_len K2 e' h
      have hTm : CT mi f c w := by
        unfold CT at hT ⊢
        rw [hF 106 (by decide)]
        exact hT
      obtain ⟨t1, t2, t3⟩ := hTm
      have hJS : ∀ {q : Nat} {A B z' : Int64}, (∀ y, tb z' y = true ↔ JS S (ml 94) cnt q (tb A) (tb B) (fun _ _ => True) y) → ∀ y, tb z' y = true ↔ JS S (ml0 94) cnt q (tb A) (tb B) (fun _ _ => True) y := by
        intro q A B z' h
        rw [← hml94]
        exact h
      refine am_istore rfl (Nat.le_of_ble_eq_true rfl) ?_
      show am_T _ _ _ _ [_, _, _, _, _, _, _, some _] _ _ _ _ _
      refine am_iload rfl rfl ?_
      refine am_bipush (v := nI 93) rfl (by decide) ?_
      by_cases h93 : k = 93
      · subst h93
        rw [if_pos rfl] at hkd3
        by_cases h0 : e = 0
        · rw [if_pos h0] at hkd3
          cases hkd3
        rw [if_neg h0] at hkd3
        have hl := hlen _ hkd3
        refine ho_icmp_ne rfl (by omega) (by omega) (fun g => absurd rfl g) (fun _ => ?_)
        refine am_iload rfl rfl ?_
        refine am_bipush (v := nI 12) rfl (by decide) ?_
        refine ho_icmp_ge rfl (by omega) (by omega) (fun g => absurd g (by omega)) (fun _ => ?_)
        refine am_aload_n rfl rfl ?_
        refine ho_getR rfl (by first | rfl | assumption) rfl (by first | assumption | exact hR _ _ _ rfl) ?_
        refine am_iload rfl rfl ?_
        refine am_lload_n rfl rfl ?_
        refine ho_lastore rfl rfl (by omega) ?_
        refine am_iinc rfl rfl (nI_inc1 _) ?_
        show am_T _ _ _ _ [_, _, _, _, _, some _, _, _] _ _ _ _ _
        refine am_lconst (v := 1) rfl (by decide) ?_
        refine am_lstore_n rfl (Nat.le_of_ble_eq_true rfl) ?_
        show am_T _ _ _ _ [_, _, _, some _, none, _, _, _] _ _ _ _ _
        refine am_goto rfl ?_
        refine next 1 mi (up2 ml 107 ev.2.length z) (ev.2.length + 1) hF hZ1 (fun a ha => by rw [up2_off _ _ _ ha]; exact hml a ha) rfl (Rp_0 hE) ⟨?_, WS_to hWS (fun i hi => ?_)⟩
        · rw [show up2 ml 107 ev.2.length z 107 ev.2.length = z by simp [up2]]
          exact hz
        · unfold up2
          rw [if_neg (fun q => by omega)]
      rw [if_neg h93] at hkd3
      refine ho_icmp_ne rfl (by omega) (by omega) (fun _ => ?_) (fun g => absurd g h93)
      refine am_iload rfl rfl ?_
      refine ho_cn1 rfl rfl (Nat.le_of_ble_eq_true rfl) (Nat.le_of_ble_eq_true rfl) (c_X_isLabel k (by omega)) ?_
      rintro r h' ⟨rfl, rfl⟩
      cases hlab : isLab k with
      | true =>
        rw [if_pos hlab] at hkd3
        have hl := hlen _ hkd3
        have hlr := isLab_r hlab
        cases hs : ev.2 with
        | nil =>
          rw [hs] at hl
          cases hl
        | cons a r =>
          rw [hs] at hl hWS
          have hl : r.length + 1 = e + 1 := hl
          have he11 : e + 1 ≤ 12 := by
            have h1 := kd_npa K1' 0 e he
            have h2 : npa [k] = 1 := by
              unfold npa
              rw [List.filter_cons_of_pos (by unfold isPa; rw [hlab]; simp)]
              rfl
            rw [hK', npa_app, show k :: K2 = [k] ++ K2 from rfl, npa_app] at hnpa
            omega
          have hst : stp S F (decide (c = 0), ml0 94 c) (decide (w = 0), ml0 94 w) k ev = (jnG S (kn k) ev.1 a, r) := by
            unfold stp
            rw [if_neg h93, if_pos hlab, hs]
          rw [hst] at next
          refine am_if_eq rfl (fun z => by cases z) (fun _ => ?_)
          refine am_iload rfl rfl ?_
          refine am_if_le rfl (fun g => ?_) (fun _ => ?_)
          · have g : nI (r.length + 1) ≤ nI 0 := g
            rw [nI_leI (by omega) (by omega)] at g
            omega
          show am_T _ _ _ _ [_, _, _, _, _, some (.int (nI (r.length + 1))), _, _] _ _ _ _ _
          have hfp : fp (kn k) = k - 97 := by
            unfold fp fx kn
            rw [if_pos hlab, if_neg (by omega), if_neg (by omega)]
            omega
          have hkn : 1 ≤ kn k ∧ kn k ≤ 5 := kn_range
          refine am_iinc rfl rfl (nI_dec1 _) ?_
          show am_T _ _ _ _ [_, _, _, _, _, some _, _, _] _ _ _ _ _
          refine am_aload_n rfl rfl ?_
          refine ho_getR rfl (by first | rfl | assumption) rfl (by first | assumption | exact hR _ _ _ rfl) ?_
          refine am_iload rfl rfl ?_
          refine am_bipush (v := nI 97) rfl (by decide) ?_
          first | refine ho_subn rfl (by omega) ?_ | refine am_isub rfl ?_
          refine am_lload_n rfl rfl ?_
          refine am_aload_n rfl rfl ?_
          refine ho_getR rfl (by first | rfl | assumption) rfl (by first | assumption | exact hR _ _ _ rfl) ?_
          refine am_iload rfl rfl ?_
          refine ho_laload rfl rfl (by omega) ?_
          rw [← hfp]
          refine ho_cv3 rfl (by first | rfl | assumption) rfl (Nat.le_of_ble_eq_true rfl) (Nat.le_of_ble_eq_true rfl) (c_K_followAll hR hS mi hK1 hZ1 (kn k) hkn.1 hkn.2 z (ml 107 r.length)) ?_
          rintro x2 h' ⟨z', mi', rfl, rfl, g1, g2, g3⟩
          refine am_lstore_n rfl (Nat.le_of_ble_eq_true rfl) ?_
          show am_T _ _ _ _ [_, _, _, some _, none, _, _, _] _ _ _ _ _
          refine am_goto rfl ?_
          exact next z' mi' ml r.length (fun b hb => (g1 b hb).trans (hF b hb)) g2 hml rfl (Rp_join hE hz hWS.1 (hJS g3)) hWS.2
      | false =>
        rw [hlab, if_neg (by decide)] at hkd3
        refine am_if_eq rfl (fun _ => ?_) (fun z => absurd rfl z)
        refine am_iload rfl rfl ?_
        refine am_sipush (v := nI 256) rfl (by decide) ?_
        by_cases h256 : 256 ≤ k
        · have hst : stp S F (decide (c = 0), ml0 94 c) (decide (w = 0), ml0 94 w) k ev = (Gin S (F ((k - 256) / 2)).2.1, ev.2) := by
            unfold stp
            rw [if_neg h93, if_neg (by rw [hlab]; decide), if_pos h256]
          rw [hst] at next
          have hd := hcall k hkK h256
          have hg3 : (k - 256) / 2 < 3 := by omega
          have hrg := hrF _ hg3
          have hFg := isFn_of hR (hoF _ (show (k - 256) / 2 < 4 by omega))
          have hkg := hFg.2.1
          have hobg := fOb_r (hoF _ (show (k - 256) / 2 < 4 by omega))
          have hFA1 : FA mi (oF ((k - 256) / 2)) (F ((k - 256) / 2)) := FA_to (hFA _ hg3 hd) (fun a _ _ => hF a (by omega))
          have hb := (hokF _ hd).2.1
          refine ho_icmp_lt rfl (by omega) (by omega) (fun g => absurd g (by omega)) (fun _ => ?_)
          refine am_aload_n rfl rfl ?_
          refine ho_getR rfl (by first | rfl | assumption) rfl (by first | assumption | exact hR _ _ _ rfl) ?_
          refine ho_getR rfl (by first | rfl | assumption) rfl (by first | assumption | exact hR _ _ _ rfl) ?_
          refine am_aload_n rfl rfl ?_
          refine ho_getR rfl (by first | rfl | assumption) rfl (by first | assumption | exact hR _ _ _ rfl) ?_
          refine am_iload rfl rfl ?_
          refine ho_cs1 rfl rfl (Nat.le_of_ble_eq_true rfl) (Nat.le_of_ble_eq_true rfl) (c_F_calledBy k h256 hk262) ?_
          rintro r h' ⟨rfl, rfl⟩
          refine ho_aaload rfl (by first | rfl | assumption) ⟨by decide, rfl⟩ (by omega) (by first | assumption | exact hR _ _ _ rfl) ?_
          refine ho_getI rfl (by first | rfl | assumption) rfl ?_
          rw [hFA1.2.1]
          refine ho_laload rfl rfl (by omega) ?_
          refine am_lstore_n rfl (Nat.le_of_ble_eq_true rfl) ?_
          show am_T _ _ _ _ [_, _, _, some _, none, _, _, _] _ _ _ _ _
          refine am_goto rfl ?_
          have hMB := hK1.2.2.2.1 _ hb
          rw [hml94] at hMB
          exact next _ mi ml ev.2.length hF hZ1 hml rfl (Rp_in hMB) hWS
        refine ho_icmp_lt rfl (by omega) (by omega) (fun _ => ?_) (fun g => absurd (by omega) g)
        refine am_iload rfl rfl ?_
        refine am_bipush (v := nI 120) rfl (by decide) ?_
        by_cases h120 : k = 120
        · have hst : stp S F (decide (c = 0), ml0 94 c) (decide (w = 0), ml0 94 w) k ev = (Gk (decide (c = 0), ml0 94 c), ev.2) := by
            unfold stp
            rw [if_neg h93, if_neg (by rw [hlab]; decide), if_neg h256, if_pos h120]
          rw [hst] at next
          refine ho_icmp_eq rfl (by omega) (by omega) (fun _ => ?_) (fun g => absurd h120 g)
          refine am_lconst (v := 1) rfl (by decide) ?_
          refine am_iload rfl rfl ?_
          refine am_bipush (v := nI 120) rfl (by decide) ?_
          refine ho_icmp_ne rfl (by omega) (by omega) (fun g => absurd h120 g) (fun _ => ?_)
          refine am_aload_n rfl rfl ?_
          refine ho_getI rfl (by first | rfl | assumption) rfl ?_
          rw [t2]
          refine am_goto rfl ?_
          refine am_lshl rfl rfl ?_
          refine am_lstore_n rfl (Nat.le_of_ble_eq_true rfl) ?_
          show am_T _ _ _ _ [_, _, _, some _, none, _, _, _] _ _ _ _ _
          refine am_goto rfl ?_
          exact next _ mi ml ev.2.length hF hZ1 hml rfl (Rp_k hE hc) hWS
        refine ho_icmp_eq rfl (by omega) (by omega) (fun g => absurd g h120) (fun _ => ?_)
        refine am_iload rfl rfl ?_
        refine am_bipush (v := nI 121) rfl (by decide) ?_
        by_cases h121 : k = 121
        · have hst : stp S F (decide (c = 0), ml0 94 c) (decide (w = 0), ml0 94 w) k ev = (Gk (decide (w = 0), ml0 94 w), ev.2) := by
            unfold stp
            rw [if_neg h93, if_neg (by rw [hlab]; decide), if_neg h256, if_neg h120, if_pos h121]
          rw [hst] at next
          refine ho_icmp_ne rfl (by omega) (by omega) (fun g => absurd h121 g) (fun _ => ?_)
          refine am_lconst (v := 1) rfl (by decide) ?_
          refine am_iload rfl rfl ?_
          refine am_bipush (v := nI 120) rfl (by decide) ?_
          refine ho_icmp_ne rfl (by omega) (by omega) (fun _ => ?_) (fun g => absurd g h120)
          refine am_aload_n rfl rfl ?_
          refine ho_getI rfl (by first | rfl | assumption) rfl ?_
          rw [t3]
          refine am_lshl rfl rfl ?_
          refine am_lstore_n rfl (Nat.le_of_ble_eq_true rfl) ?_
          show am_T _ _ _ _ [_, _, _, some _, none, _, _, _] _ _ _ _ _
          refine am_goto rfl ?_
          exact next _ mi ml ev.2.length hF hZ1 hml rfl (Rp_k hE hw) hWS
        have hst : stp S F (decide (c = 0), ml0 94 c) (decide (w = 0), ml0 94 w) k ev = (jnG S 1 G0 ev.1, ev.2) := by
          unfold stp
          rw [if_neg h93, if_neg (by rw [hlab]; decide), if_neg h256, if_neg h120, if_neg h121]
        rw [hst] at next
        refine ho_icmp_ne rfl (by omega) (by omega) (fun _ => ?_) (fun g => absurd g h121)
        refine am_aload_n rfl rfl ?_
        refine ho_getR rfl (by first | rfl | assumption) rfl (by first | assumption | exact hR _ _ _ rfl) ?_
        refine am_iconst (v := nI 4) rfl (by decide) ?_
        refine am_lconst (v := 1) rfl (by decide) ?_
        refine am_lload_n rfl rfl ?_
        refine ho_cv3 rfl (by first | rfl | assumption) rfl (Nat.le_of_ble_eq_true rfl) (Nat.le_of_ble_eq_true rfl) (c_K_followAll hR hS mi hK1 hZ1 1 (by decide) (by decide) 1 z) ?_
        rintro x2 h' ⟨z', mi', rfl, rfl, g1, g2, g3⟩
        refine am_lstore_n rfl (Nat.le_of_ble_eq_true rfl) ?_
        show am_T _ _ _ _ [_, _, _, some _, none, _, _, _] _ _ _ _ _
        exact next z' mi' ml ev.2.length (fun b hb => (g1 b hb).trans (hF b hb)) g2 hml rfl (Rp_join hE (Rp_0 hE) hz (hJS g3)) hWS
  refine am_lconst (v := 1) rfl (by decide) ?_
  refine am_lstore_n rfl (Nat.le_of_ble_eq_true rfl) ?_
  show am_T _ _ _ _ [_, _, _, some _, none, _, _, _] _ _ _ _ _
  refine am_iconst (v := nI 0) rfl (by decide) ?_
  refine am_istore rfl (Nat.le_of_ble_eq_true rfl) ?_
  show am_T _ _ _ _ [_, _, _, _, _, some _, _, _] _ _ _ _ _
  refine am_aload_n rfl rfl ?_
  refine ho_getR rfl (by first | rfl | assumption) rfl (by first | assumption | exact hR _ _ _ rfl) ?_
  refine am_iload_n rfl rfl ?_
  refine am_iconst (v := nI 1) rfl (by decide) ?_
  first | refine ho_addn rfl ?_ | refine am_iadd rfl ?_
  refine ho_iaload rfl (by first | rfl | assumption) (by omega) ?_
  rw [hP.2.1]
  refine am_iconst (v := nI 1) rfl (by decide) ?_
  refine am_isub rfl ?_
  refine am_istore rfl (Nat.le_of_ble_eq_true rfl) ?_
  show am_T _ _ _ _ [_, _, _, _, _, _, some _, _] _ _ _ _ _
  exact loop K.length K [] 1 mi0 ml0 rfl (List.append_nil _).symm (fun _ _ => rfl) hZ (fun _ _ => rfl) (Rp_0 hE) trivial
end V2
