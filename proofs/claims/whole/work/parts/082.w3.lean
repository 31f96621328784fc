/-! operations: enter, valid, valueValid -/
theorem sumN_congr {f g : Nat → Nat} : ∀ {k : Nat}, (∀ j, j < k → f j = g j) → sumN f k = sumN g k
  | 0, _ => rfl
  | k + 1, h => by
    rw [sumN_s, sumN_s, sumN_congr (fun j hj => h j (by omega)), h k (by omega)]
theorem DT_nIt {n : Nat} {D : List Rt} {U : List Nat} (h : DT n D U) (hn : n < 6) : nIt U = nit D := by
  rcases h with ⟨rfl, rfl⟩ | ⟨h1, h2⟩
  · rfl
  · exact nIt_text h2 (by simp only [isNam, decide_eq_true_eq]; omega) h1
theorem ntk_ctx : ∀ (C : List Cl), ntk C ≤ (ctx C).length
  | [] => Nat.le_refl _
  | c :: C => by
    rw [show ctx (c :: C) = cltx c ++ ctx C from List.flatMap_cons, List.length_append, show c :: C = [c] ++ C from rfl, ntk_app, ntk_one]
    have h1 := ntk_ctx C
    have h2 := ktx_len c.2
    have h3 : (cltx c).length = 1 + ((patx c.1).length + (1 + (ktx c.2).length)) := by
      unfold cltx
      rw [List.length_cons, List.length_append, List.length_cons]
      omega
    omega
section W3
variable {l : Launch} {d : Nat} {K : Option Value → Prop} {mr : Nat → Nat → Option Nat} {s : Sta} {mi : Nat → Nat → Int32} {ml : Nat → Nat → Int64}
theorem EN_ent {n k L : Nat} {kb : Bool} {U : List Nat} (h : EN mi k U) (hne : k ≠ n) (hL : L ≤ 80) : EN (entU mi n L kb) k U := by
  obtain ⟨h1, h2, h3, h4⟩ := h
  refine ⟨?_, h2, h3, fun i hi => ?_⟩
  · unfold entU
    rw [up2_off _ _ _ (show (119 : Nat) ≠ 116 by decide), show up2 (cpN mi 118 (80 * n) 117 0 L) 119 n (nI L) 119 k = cpN mi 118 (80 * n) 117 0 L 119 k by unfold up2; rw [if_neg (by omega)], cpN_off _ (by decide)]
    exact h1
  · unfold entU
    rw [up2_off _ _ _ (show (118 : Nat) ≠ 116 by decide), up2_off _ _ _ (show (118 : Nat) ≠ 119 by decide), ← h4 i hi]
    unfold cpN
    rw [if_neg (by omega)]
theorem EN_new {n : Nat} {kb : Bool} {T : List Nat} (h : PM T mi) : EN (entU mi n T.length kb) n T := by
  obtain ⟨h1, h2, h3, h4⟩ := h
  refine ⟨?_, h3, h4, fun i hi => ?_⟩
  · unfold entU
    rw [up2_off _ _ _ (show (119 : Nat) ≠ 116 by decide)]
    simp [up2]
  · unfold entU
    rw [up2_off _ _ _ (show (118 : Nat) ≠ 116 by decide), up2_off _ _ _ (show (118 : Nat) ≠ 119 by decide), cpN_in _ (by omega) (by omega), Nat.zero_add, show 80 * n + i - 80 * n = i by omega]
    exact h1 i hi
theorem ent_off {n L a : Nat} {kb : Bool} (h1 : a ≠ 116) (h2 : a ≠ 118) (h3 : a ≠ 119) : entU mi n L kb a = mi a := by
  unfold entU
  rw [up2_off _ _ _ h1, up2_off _ _ _ h3, cpN_off _ h2]
theorem ent_116 {n L j : Nat} {kb : Bool} (h : j ≠ 11) : entU mi n L kb 116 j = mi 116 j := by
  unfold entU
  rw [show up2 (up2 (cpN mi 118 (80 * n) 117 0 L) 119 n (nI L)) 116 11 (bI kb) 116 j = up2 (cpN mi 118 (80 * n) 117 0 L) 119 n (nI L) 116 j by unfold up2; rw [if_neg (by omega)], up2_off _ _ _ (by decide), cpN_off _ (by decide)]
theorem ent_11 {n L : Nat} {kb : Bool} : entU mi n L kb 116 11 = bI kb := by
  unfold entU
  simp [up2]
theorem w_enter (hK : ∀ v, K (some (.int v))) : lw2 l K 12 123 [] := by
  refine lw_mk (fun mi ml mr s hR hs hX => ⟨fun r s' => entR s r s', ?_, ?_⟩)
  · show am_T l 60 M_X_enter 0 [some (.ref 0)] [] _ 0 0 _
    refine am_T.to (c_X_enter hR mi ml hs hX) ?_
    rintro r h ⟨mi', ml', mr', s', rfl, g1, g2, g3, g4, g5⟩
    refine ⟨?_, mi', ml', mr', s', rfl, g1, g2, g3, g4, g5⟩
    obtain ⟨c1, c2, c3⟩ := g3
    cases hn : isNam (s.T.getD 0 0) with
    | true =>
      have := c1 hn
      cases hd : dRead s.T with
      | inl t =>
        rw [hd] at this
        rw [this.1]
        exact hK _
      | inr D' =>
        rw [hd] at this
        by_cases q : 16 < totD s.D (s.T.getD 0 0 - 65) D' 6
        · rw [(this.1 q).1]
          exact hK _
        · rw [(this.2 (by omega)).1]
          exact hK _
    | false =>
      cases hf : isFun (s.T.getD 0 0) with
      | true =>
        have := c2 hf
        cases hd : fScan s.T with
        | inl t =>
          rw [hd] at this
          rw [this.1]
          exact hK _
        | inr F' =>
          rw [hd] at this
          rw [this.1]
          exact hK _
      | false =>
        rw [(c3 hn hf).1]
        exact hK _
  · rintro r s' mi ml mr hR hM - ⟨c1, c2, c3⟩
    obtain ⟨hP, ⟨U, hU⟩, hMF, ⟨kb, hkb, hkb2⟩, ⟨a5, a6⟩, a7, a8⟩ := id hM
    have hT80 := hP.2.2.1
    have hok := hP.2.2.2
    have hc := okT_at hok 0
    show am_T l 60 M_m_enter 0 [some (.ref 116), none, none, none, none, none] [] _ 0 0 _
    refine am_T.to (c_m_enter hR hP U (fun n hn => (hU n hn).1) kb hkb) ?_
    rintro r2 h ⟨g1, g2, g3⟩
    cases hn : isNam (s.T.getD 0 0) with
    | true =>
      have nr := isNam_r hn
      have k1 := g1 hn
      have k2 := c1 hn
      have hl : 0 < s.T.length := lt_of_getD rfl (by omega)
      cases hd : dRead s.T with
      | inl t =>
        rw [hd] at k1 k2
        obtain ⟨rfl, rfl⟩ := k1
        obtain ⟨rfl, rfl⟩ := k2
        exact ⟨rfl, _, _, rfl, hs, hM, fun _ _ => rfl, fun _ _ => rfl⟩
      | inr D' =>
        rw [hd] at k1 k2
        obtain ⟨hTD, hokD⟩ := dRead_okD hd hl
        have htot : totI s.T U (s.T.getD 0 0 - 65) 6 = totD s.D (s.T.getD 0 0 - 65) D' 6 := by
          unfold totI totD
          rw [nIt_text hTD hn hokD, sumN_congr (g := fun j => if j = s.T.getD 0 0 - 65 then 0 else nit (s.D j))]
          intro j hj
          show (if j = s.T.getD 0 0 - 65 then 0 else nIt (U j)) = if j = s.T.getD 0 0 - 65 then 0 else nit (s.D j)
          rw [DT_nIt (hU j hj).2 hj]
        rw [htot] at k1
        by_cases q : 16 < totD s.D (s.T.getD 0 0 - 65) D' 6
        · obtain ⟨rfl, rfl⟩ := k1.1 q
          obtain ⟨rfl, rfl⟩ := k2.1 q
          exact ⟨rfl, _, _, rfl, hs, hM, fun _ _ => rfl, fun _ _ => rfl⟩
        · obtain ⟨rfl, rfl⟩ := k1.2 (by omega)
          obtain ⟨rfl, rfl⟩ := k2.2 (by omega)
          have hn6 : s.T.getD 0 0 - 65 < 6 := by omega
          refine ⟨rfl, _, _, rfl, ⟨hs.1, ⟨fun k hk => ?_, by rw [totD_up hn6]; omega⟩, hs.2.2⟩, ⟨⟨txt_to hP.1 (ent_off (by decide) (by decide) (by decide)), by rw [ent_116 (by decide)]; exact hP.2.1, hP.2.2⟩, ⟨upD U (s.T.getD 0 0 - 65) s.T, fun k hk => ?_⟩, fun f hf => EN_ent (hMF f hf) (by omega) hT80, ⟨false, ent_11, fun q => (by cases q)⟩, ⟨txt_to a5 (ent_off (by decide) (by decide) (by decide)), by rw [ent_116 (by decide)]; exact a6⟩, txt_to a7 (ent_off (by decide) (by decide) (by decide)), by rw [ent_116 (by decide)]; exact a8⟩, fun a ha => ent_off (by omega) (by omega) (by omega), fun _ _ => rfl⟩
          · show upD s.D (s.T.getD 0 0 - 65) D' k = [] ∨ okD (upD s.D (s.T.getD 0 0 - 65) D' k)
            unfold upD
            split
            · exact Or.inr hokD
            · exact hs.2.1.1 k hk
          · show EN _ k (upD U (s.T.getD 0 0 - 65) s.T k) ∧ DT k (upD s.D (s.T.getD 0 0 - 65) D' k) (upD U (s.T.getD 0 0 - 65) s.T k)
            unfold upD
            by_cases e : k = s.T.getD 0 0 - 65
            · subst e
              rw [if_pos rfl, if_pos rfl]
              refine ⟨EN_new hP, Or.inr ⟨hokD, ?_⟩⟩
              rw [hTD, show 65 + (s.T.getD 0 0 - 65) = s.T.getD 0 0 by omega]
            · rw [if_neg e, if_neg e]
              exact ⟨EN_ent (hU k hk).1 e hT80, (hU k hk).2⟩
    | false =>
      cases hf : isFun (s.T.getD 0 0) with
      | true =>
        have fr := isFun_r hf
        have k1 := g2 hf
        have k2 := c2 hf
        cases hd : fScan s.T with
        | inl t =>
          rw [hd] at k1 k2
          obtain ⟨rfl, rfl⟩ := k1
          obtain ⟨rfl, rfl⟩ := k2
          exact ⟨rfl, _, _, rfl, hs, hM, fun _ _ => rfl, fun _ _ => rfl⟩
        | inr F' =>
          rw [hd] at k1 k2
          obtain ⟨rfl, rfl⟩ := k1
          obtain ⟨rfl, rfl⟩ := k2
          obtain ⟨hTF, hokF⟩ := fScan_ok hd
          have hne : F'.2.2.length ≠ 0 := fun q => hokF.2.2.2.1 (List.length_eq_zero_iff.mp q)
          refine ⟨rfl, _, _, rfl, ⟨hs.1, hs.2.1, fun f => ?_, hs.2.2.2⟩, ⟨⟨txt_to hP.1 (ent_off (by decide) (by decide) (by decide)), by rw [ent_116 (by decide)]; exact hP.2.1, hP.2.2⟩, ⟨U, fun k hk => ⟨EN_ent (hU k hk).1 (by omega) hT80, (hU k hk).2⟩⟩, fun f hf3 => ?_, MC_to ⟨kb, hkb, hkb2⟩ (fun a h1 _ => ent_off (by omega) (by omega) (by omega)) (by rw [ent_11, hkb]) (ent_116 (by decide)) (ent_116 (by decide)) rfl rfl rfl, ⟨txt_to a5 (ent_off (by decide) (by decide) (by decide)), by rw [ent_116 (by decide)]; exact a6⟩, txt_to a7 (ent_off (by decide) (by decide) (by decide)), by rw [ent_116 (by decide)]; exact a8⟩, fun a ha => ent_off (by omega) (by omega) (by omega), fun _ _ => rfl⟩
          · show ((upD s.F (s.T.getD 0 0 - 102) F' f).2.2 = [] ∨ okF (upD s.F (s.T.getD 0 0 - 102) F' f)) ∧ ntk (upD s.F (s.T.getD 0 0 - 102) F' f).2.2 ≤ 80
            unfold upD
            split
            · refine ⟨Or.inr hokF, ?_⟩
              have h1 := ntk_ctx F'.2.2
              have h2 := congrArg List.length hTF
              unfold ftx at h2
              rw [List.length_append] at h2
              omega
            · exact hs.2.2.1 f
          · show EN _ (6 + f) (fTx f (upD s.F (s.T.getD 0 0 - 102) F' f))
            unfold upD
            by_cases e : f = s.T.getD 0 0 - 102
            · subst e
              rw [if_pos rfl]
              have : fTx (s.T.getD 0 0 - 102) F' = s.T := by
                unfold fTx
                rw [if_neg hne, show 102 + (s.T.getD 0 0 - 102) = s.T.getD 0 0 by omega]
                exact hTF.symm
              rw [this]
              exact EN_new hP
            · rw [if_neg e]
              exact EN_ent (hMF f hf3) (by omega) hT80
      | false =>
        obtain ⟨rfl, rfl⟩ := g3 hn hf
        obtain ⟨rfl, rfl⟩ := c3 hn hf
        exact ⟨rfl, _, _, rfl, hs, hM, fun _ _ => rfl, fun _ _ => rfl⟩
/-- the reference's knowledge, and its scratch -/
theorem MI_know {mi' : Nat → Nat → Int32} {ml' : Nat → Nat → Int64} (h : MI s mi ml) {cnt : Nat} (hr : repS (SD s.D) mi') (hk : MKn (SD s.D) cnt mi' ml') (hkn : mi' 116 11 = bI true) (hi : ∀ a, 116 < a → a < 122 → mi' a = mi a) (h116 : ∀ j, j = 1 ∨ j = 5 ∨ j = 7 → mi' 116 j = mi 116 j) : MI s mi' ml' := by
  obtain ⟨⟨p1, p2, p3, p4⟩, a2, a3, -, ⟨a5, a6⟩, a7, a8⟩ := h
  exact ⟨⟨txt_to p1 (hi 117 (by omega) (by omega)), by rw [h116 1 (by omega)]; exact p2, p3, p4⟩, MD_to a2 (hi 118 (by omega) (by omega)) (hi 119 (by omega) (by omega)), fun f hf => EN_to (a3 f hf) (hi 118 (by omega) (by omega)) (hi 119 (by omega) (by omega)), ⟨true, hkn, fun _ => ⟨hr, cnt, hk⟩⟩, ⟨txt_to a5 (hi 120 (by omega) (by omega)), by rw [h116 5 (by omega)]; exact a6⟩, txt_to a7 (hi 121 (by omega) (by omega)), by rw [h116 7 (by omega)]; exact a8⟩
def vldR (S : Rs) (N : Nd) (x : Int32) (r : Option Value) : Prop := (isNm x = false ∧ r = some (.int (bI false))) ∨ (isNm x = true ∧ ∃ a f, a < 6 ∧ x = nI a ∧ (∀ j, j < N.length → NM S N f j) ∧ r = some (.int (bI (inN S (tb (if N.length = 0 then K0 S else f 0)) a))))
theorem vld_same {S : Rs} {N : Nd} {f g : Nat → Int64} (hf : ∀ k, k < N.length → NM S N f k) (hg : ∀ k, k < N.length → NM S N g k) : (if N.length = 0 then K0 S else f 0) = if N.length = 0 then K0 S else g 0 := by
  by_cases e : N.length = 0
  · rw [if_pos e, if_pos e]
  · rw [if_neg e, if_neg e]
    exact NM_uniq hf hg N.length 0 (by omega) 0 (Nat.zero_le _) (by omega)
theorem w_valid (hK : ∀ v, K (some (.int v))) (x : Int32) : lw2 l K 49 186 [.int x] := by
  refine lw_mk (fun mi ml mr s hR hs hX => ⟨fun r s' => vldR (SD s.D) s.N x r ∧ s' = s, ?_, ?_⟩)
  · obtain ⟨td, tw, b1, b2, b3, b4, b5, b6, b7, b8⟩ := id hX.2.2.2.1
    obtain ⟨ip, n, hrep, -⟩ := id hX.2.2.2.2.1
    show am_T l 60 M_X_valid 0 [some (.ref 0), some (.int x)] [] _ 0 0 _
    refine am_T.to (c_X_valid hR (okS_SD hs.2.1) hrep b3 (isH_of hR b1) b7 hs.2.2.2.1.2 x) ?_
    rintro r h (⟨g1, rfl, rfl⟩ | ⟨g1, a, ml', ha, rfl, rfl, g2, g3, rfl⟩)
    · exact ⟨hK _, _, _, _, s, rfl, hR, hX, ⟨Or.inl ⟨g1, rfl⟩, rfl⟩, fun _ _ => rfl, fun _ _ => rfl⟩
    · exact ⟨hK _, _, _, _, s, rfl, hR, XI_hed (N' := s.N) (V' := s.V) hX (fun _ _ _ _ _ => rfl) (fun a _ h => g2 a h) rfl rfl rfl rfl ⟨td, tw, b1, b2, b3, b4, b5, b6, b7, b8⟩, ⟨Or.inr ⟨g1, a, _, ha, rfl, g3, rfl⟩, rfl⟩, fun _ _ => rfl, fun a ha => g2 a (by omega)⟩
  · rintro r s' mi ml mr hR hM - ⟨hv, rfl⟩
    obtain ⟨hP, hMD, hMF, hMC, ⟨a5, a6⟩, a7, a8⟩ := id hM
    show am_T l 60 M_m_valid 0 [some (.ref 116), some (.int x)] [] _ 0 0 _
    refine am_aload_n rfl rfl ?_
    refine am_iconst (v := nI 0) rfl (by decide) ?_
    refine am_iload_n rfl rfl ?_
    refine ho_cv2 rfl (by first | rfl | assumption) rfl (Nat.le_of_ble_eq_true rfl) (Nat.le_of_ble_eq_true rfl) (c_m_validText hR hs.2.1 false s'.N hs.2.2.2.1.1 (by have := hs.2.2.2.1.2; omega) (tx_len36 hs.2.2.2.1) mi ml hMD hMC a5 a6 x) ?_
    rintro r2 h (⟨g1, rfl, rfl⟩ | ⟨g1, a, cnt, mi', ml', ha, rfl, rfl, q1, q2, q3, q4, q5, rfl⟩)
    · refine am_zreturn rfl rfl (bI_01 _) ⟨?_, _, _, rfl, hs, hM, fun _ _ => rfl, fun _ _ => rfl⟩
      rcases hv with ⟨k1, rfl⟩ | ⟨k1, -⟩
      · rfl
      · rw [g1] at k1
        cases k1
    · refine am_zreturn rfl rfl (bI_01 _) ⟨?_, _, _, rfl, hs, MI_know hM q1 q2 q3 (fun a h1 h2 => q5.1 a (by omega) (by omega) (by omega) (by omega) (by omega) (by omega) (by omega) (by omega) (by omega) (by omega) (by omega)) (fun j hj => q5.2.1 j (by omega) (by omega) (by omega) (by omega)), fun a ha => q5.1 a (by omega) (by omega) (by omega) (by omega) (by omega) (by omega) (by omega) (by omega) (by omega) (by omega) (by omega), fun a ha => q5.2.2 a (by omega) (by omega) (by omega) (by omega)⟩
      rcases hv with ⟨k1, rfl⟩ | ⟨k1, b, f, hb, e, hf, rfl⟩
      · rw [g1] at k1
        cases k1
      · have := (nI_eq (by omega) (by omega)).mp e
        subst this
        rw [vld_same hf q4]
theorem w_valueValid (hK : ∀ v, K (some (.int v))) (x : Int32) : lw2 l K 117 191 [.int x] := by
  refine lw_mk (fun mi ml mr s hR hs hX => ⟨fun r s' => vldR (SD s.D) s.V x r ∧ s' = s, ?_, ?_⟩)
  · obtain ⟨td, tw, b1, b2, b3, b4, b5, b6, b7, b8⟩ := id hX.2.2.2.1
    obtain ⟨ip, n, hrep, -⟩ := id hX.2.2.2.2.1
    show am_T l 60 M_X_valueValid 0 [some (.ref 0), some (.int x)] [] _ 0 0 _
    refine am_T.to (c_X_valueValid hR (okS_SD hs.2.1) hrep b5 (isH_of2 hR b2) b8 hs.2.2.2.2.2 x) ?_
    rintro r h (⟨g1, rfl, rfl⟩ | ⟨g1, a, ml', ha, rfl, rfl, g2, g3, rfl⟩)
    · exact ⟨hK _, _, _, _, s, rfl, hR, hX, ⟨Or.inl ⟨g1, rfl⟩, rfl⟩, fun _ _ => rfl, fun _ _ => rfl⟩
    · exact ⟨hK _, _, _, _, s, rfl, hR, XI_hed (N' := s.N) (V' := s.V) hX (fun _ _ _ _ _ => rfl) (fun a _ h => g2 a h) rfl rfl rfl rfl ⟨td, tw, b1, b2, b3, b4, b5, b6, b7, b8⟩, ⟨Or.inr ⟨g1, a, _, ha, rfl, g3, rfl⟩, rfl⟩, fun _ _ => rfl, fun a ha => g2 a (by omega)⟩
  · rintro r s' mi ml mr hR hM - ⟨hv, rfl⟩
    obtain ⟨hP, hMD, hMF, hMC, ⟨a5, a6⟩, a7, a8⟩ := id hM
    show am_T l 60 M_m_valueValid 0 [some (.ref 116), some (.int x)] [] _ 0 0 _
    refine am_aload_n rfl rfl ?_
    refine am_iconst (v := nI 1) rfl (by decide) ?_
    refine am_iload_n rfl rfl ?_
    refine ho_cv2 rfl (by first | rfl | assumption) rfl (Nat.le_of_ble_eq_true rfl) (Nat.le_of_ble_eq_true rfl) (c_m_validText hR hs.2.1 true s'.V hs.2.2.2.2.1 hs.2.2.2.2.2 (tx_len60 hs.2.2.2.2) mi ml hMD hMC a7 a8 x) ?_
    rintro r2 h (⟨g1, rfl, rfl⟩ | ⟨g1, a, cnt, mi', ml', ha, rfl, rfl, q1, q2, q3, q4, q5, rfl⟩)
    · refine am_zreturn rfl rfl (bI_01 _) ⟨?_, _, _, rfl, hs, hM, fun _ _ => rfl, fun _ _ => rfl⟩
      rcases hv with ⟨k1, rfl⟩ | ⟨k1, -⟩
      · rfl
      · rw [g1] at k1
        cases k1
    · refine am_zreturn rfl rfl (bI_01 _) ⟨?_, _, _, rfl, hs, MI_know hM q1 q2 q3 (fun a h1 h2 => q5.1 a (by omega) (by omega) (by omega) (by omega) (by omega) (by omega) (by omega) (by omega) (by omega) (by omega) (by omega)) (fun j hj => q5.2.1 j (by omega) (by omega) (by omega) (by omega)), fun a ha => q5.1 a (by omega) (by omega) (by omega) (by omega) (by omega) (by omega) (by omega) (by omega) (by omega) (by omega) (by omega), fun a ha => q5.2.2 a (by omega) (by omega) (by omega) (by omega)⟩
      rcases hv with ⟨k1, rfl⟩ | ⟨k1, b, f, hb, e, hf, rfl⟩
      · rw [g1] at k1
        cases k1
      · have := (nI_eq (by omega) (by omega)).mp e
        subst this
        rw [vld_same hf q4]
end W3
