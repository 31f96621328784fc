/-! the class: layOut, rebuild -/
theorem split_E : ∀ (R : List Rt), (∃ x ∈ R, isE x = true) → ∃ A e B, R = A ++ e :: B ∧ (∀ a ∈ A, isE a = false) ∧ isE e = true
  | [], h => by
    obtain ⟨x, hx, -⟩ := h
    cases hx
  | r :: R, h => by
    cases hr : isE r with
    | true => exact ⟨[], r, R, rfl, fun a ha => (by cases ha), hr⟩
    | false =>
      obtain ⟨x, hx, h2⟩ := h
      rcases List.mem_cons.mp hx with e | e
      · subst e
        rw [hr] at h2
        cases h2
      · obtain ⟨A, e, B, h3, h4, h5⟩ := split_E R ⟨x, e, h2⟩
        refine ⟨r :: A, e, B, by rw [h3]; rfl, fun a ha => ?_, h5⟩
        rcases List.mem_cons.mp ha with z | z
        · rw [z]
          exact hr
        · exact h4 a z
theorem nit_items {A : List Rt} (h : ∀ a ∈ A, isE a = false) : nit A = A.length ∧ nen A = 0 := by
  unfold nit nen
  constructor
  · rw [List.filter_eq_self.mpr (fun a ha => by rw [h a ha]; rfl)]
  · rw [List.filter_eq_nil_iff.mpr (fun a ha => by rw [h a ha]; decide)]
    rfl
theorem tg_map (n : Nat) : ∀ (b : Bool) (D : List Rt), (tg n b D).map (fun e => e.1) = D
  | b, [] => rfl
  | b, r :: D => by
    show r :: (tg n (isE r) D).map _ = _
    rw [tg_map]
theorem ips_tg (L : List (Rt × Nat)) (n : Nat) (D : List Rt) : (ips (L ++ tg n true D)).length = (ips L).length + nit D := by
  unfold ips
  rw [ipsF_len, ipsF_len, List.map_append, nit_app, tg_map]
theorem tlI_m1 {w : Nat} (h : w = 0 ∨ (10 ≤ w ∧ w < 16)) : tlI w = -1 ↔ w = 0 := by
  unfold tlI
  rcases h with e | e
  · rw [if_pos e]
    simp [e]
  · rw [if_neg (by omega)]
    have : ∀ k, k < 6 → ¬ nI k = -1 := by decide
    constructor
    · intro z
      exact absurd z (this (w - 10) (by omega))
    · omega
theorem mkc_r (m : Nat) : mkc m < 127 ∧ (mkc m = 42 ↔ m = 1) := by
  unfold mkc
  by_cases h1 : m = 1
  · simp [h1]
  · rw [if_neg h1]
    by_cases h2 : m = 2
    · simp [h2]
    · simp [h1, h2]
theorem mkc_32 {m : Nat} (h : m ≤ 2) : mkc m ≠ 32 ↔ 0 < m := by
  have : m = 0 ∨ m = 1 ∨ m = 2 := by omega
  rcases this with e | e | e <;> subst e <;> decide
theorem spF_congr {sk : Nat → Bool} {W W' T T' : Nat → Nat → Bool} {G : Nat → Bool} (hW : ∀ n, n < 6 → W n = W' n) (hT : ∀ n, n < 6 → T n = T' n) : spF sk W T G = spF sk W' T' G := by
  refine ofB_eq (fun r hr => ?_)
  unfold spF
  rw [tb_ofB _ hr]
  have hC : ∀ X, SpC sk W T X ↔ SpC sk W' T' X := by
    intro X
    unfold SpC
    constructor
    · rintro ⟨a, b⟩
      exact ⟨a, fun n hn => by rw [← hW n hn, ← hT n hn]; exact b n hn⟩
    · rintro ⟨a, b⟩
      exact ⟨a, fun n hn => by rw [hW n hn, hT n hn]; exact b n hn⟩
  unfold Sp
  constructor
  · rintro ⟨a, b⟩
    exact ⟨a, fun X h1 h2 => b X h1 ((hC X).mpr h2)⟩
  · rintro ⟨a, b⟩
    exact ⟨a, fun X h1 h2 => b X h1 ((hC X).mp h2)⟩
theorem st_true {n : Nat} {P : List Rt} {x : Rt} (h : isE x = true) : st true (P ++ [x]) = true := by rw [st_snoc, h]
section X9
variable {l : Launch} {d : Nat} {mr : Nat → Nat → Option Nat} {o : Nat}
theorem c_S_layOut (hR : SR mr) (hDf : isDf mr o) (D : List Rt) (hD : okD D) (L : List (Rt × Nat)) (n : Nat) (hn : n < 6) (mi0 : Nat → Nat → Int32) (ml0 : Nat → Nat → Int64) (h16 : (ips L).length + nit D ≤ 16) (h64 : L.length + D.length ≤ 64) (hDA : DA mi0 o D) (hp : pX L none mi0 ml0) :
    am_T l (d + 1) M_S_layOut 0 [some (.ref 84), some (.ref o), some (.int (nI n)), some (.int (nI L.length)), none, none, none, none] [] (hm mi0 ml0 mr) 0 0 (fun r h' => r = some (.int (nI (L.length + D.length))) ∧ ∃ mi ml, h' = hm mi ml mr ∧ pX (L ++ tg n true D) none mi ml ∧ Fb mi0 mi ml0 ml) := by
  have hDf' := hDf
  obtain ⟨o39, k0, k1, k2, k3, k4, k5, r3, r4, r5, r6, r7⟩ := hDf'
  obtain ⟨hok, hit, hen, P0, x0, hlast, hx0⟩ := hD
  have hsuf : ∀ P R, D = P ++ R → R ≠ [] → ∃ x ∈ R, isE x = true := by
    intro P R hP hne
    obtain ⟨R', y, rfl⟩ : ∃ R' y, R = R' ++ [y] := ⟨R.dropLast, R.getLast hne, (List.dropLast_concat_getLast hne).symm⟩
    rw [hlast, ← List.append_assoc] at hP
    have := List.append_inj_right' hP rfl
    have : x0 = y := by simpa using this
    exact ⟨y, by simp, this ▸ hx0⟩
  have head : ∀ (P R : List Rt) (mi : Nat → Nat → Int32) (ml : Nat → Nat → Int64), D = P ++ R → st true P = true → pX (L ++ tg n true P) none mi ml → Fb mi0 mi ml0 ml →
      (R ≠ [] → ∀ (mi : Nat → Nat → Int32) (ml : Nat → Nat → Int64), pX (L ++ tg n true P) (if st true P then some n else none) mi ml → Fb mi0 mi ml0 ml → am_T l (d + 1) M_S_layOut 31 [some (.ref 84), some (.ref o), some (.int (nI n)), none, some (.int (nI (L.length + P.length))), some (.int (nI (nit P))), some (.int (nI (nen P))), none] [] (hm mi ml mr) 0 0 (fun r h' => r = some (.int (nI (L.length + D.length))) ∧ ∃ mi ml, h' = hm mi ml mr ∧ pX (L ++ tg n true D) none mi ml ∧ Fb mi0 mi ml0 ml)) →
      am_T l (d + 1) M_S_layOut 9 [some (.ref 84), some (.ref o), some (.int (nI n)), none, some (.int (nI (L.length + P.length))), some (.int (nI (nit P))), some (.int (nI (nen P))), none] [] (hm mi ml mr) 0 0 (fun r h' => r = some (.int (nI (L.length + D.length))) ∧ ∃ mi ml, h' = hm mi ml mr ∧ pX (L ++ tg n true D) none mi ml ∧ Fb mi0 mi ml0 ml) := by
    intro P R mi ml hP hst hpx hF k
    have hA := hF.keep o39 hDA
    have hle : nen P + nen R = nen D := by rw [hP, nen_app]
    have hlen : P.length + R.length = D.length := by rw [hP, List.length_append]
    refine am_iload rfl rfl ?_
    refine am_aload_n rfl rfl ?_
    refine ho_getI rfl (by first | rfl | assumption) rfl ?_
    rw [hA.1]
    by_cases hR0 : R = []
    · have e : nen R = 0 := by rw [hR0]; rfl
      refine ho_icmp_ge rfl (by omega) (by omega) (fun _ => ?_) (fun z => absurd (by omega) z)
      refine am_iload rfl rfl ?_
      rw [hR0, List.append_nil] at hP
      subst hP
      exact am_ireturn rfl rfl ⟨rfl, mi, ml, rfl, hpx, hF⟩
    · have hx := hsuf P R hP hR0
      obtain ⟨x, hx1, hx2⟩ := hx
      have e : 0 < nen R := List.length_pos_of_mem (List.mem_filter.mpr ⟨hx1, hx2⟩)
      have hRl : 0 < R.length := List.length_pos_iff.mpr hR0
      refine ho_icmp_ge rfl (by omega) (by omega) (fun z => absurd z (by omega)) (fun _ => ?_)
      refine am_aload_n rfl rfl ?_
      refine ho_getR rfl (by first | rfl | assumption) rfl (by first | assumption | exact hR _ _ _ rfl) ?_
      refine am_iload_n rfl rfl ?_
      first | refine am_dup2 rfl rfl rfl ?_ | refine am_dup2l rfl rfl ?_
      refine ho_laload rfl (by first | rfl | assumption) (by omega) ?_
      refine am_lconst (v := 1) rfl (by decide) ?_
      refine am_iload rfl rfl ?_
      refine am_lshl rfl rfl ?_
      refine am_lor rfl ?_
      refine ho_lastore rfl (by first | rfl | assumption) (by omega) ?_
      refine k hR0 _ _ ?_ (hF.tr ⟨fun _ _ _ _ => rfl, fun a _ _ _ _ h5 _ => up2_off _ _ _ h5⟩)
      rw [hst]
      refine pX_pend hpx (fun r => ?_) hn
      rw [tb_or, tb_bit (by omega), List.length_append, tg_len]
  have main : ∀ (R P : List Rt) (mi : Nat → Nat → Int32) (ml : Nat → Nat → Int64), D = P ++ R → R ≠ [] → pX (L ++ tg n true P) (if st true P then some n else none) mi ml → Fb mi0 mi ml0 ml → am_T l (d + 1) M_S_layOut 31 [some (.ref 84), some (.ref o), some (.int (nI n)), none, some (.int (nI (L.length + P.length))), some (.int (nI (nit P))), some (.int (nI (nen P))), none] [] (hm mi ml mr) 0 0 (fun r h' => r = some (.int (nI (L.length + D.length))) ∧ ∃ mi ml, h' = hm mi ml mr ∧ pX (L ++ tg n true D) none mi ml ∧ Fb mi0 mi ml0 ml) := by
    intro R
    induction R with
    | nil =>
      intro P mi ml hP h0
      exact absurd rfl h0
    | cons r R ih =>
      intro P mi ml hP _ hpx hF
      have hA := hF.keep o39 hDA
      obtain ⟨A, e, B, hA1, hA2, hA3⟩ := split_E (r :: R) (hsuf P _ hP (by simp))
      have hlim := ((hA.2.2 (P ++ A) e B (by rw [hP, hA1, List.append_assoc])).1 hA3).1
      have hAi := nit_items hA2
      have hnA : nen (P ++ A) = nen P := by rw [nen_app, hAi.2]; omega
      have hiA : nit (P ++ A) = nit P + A.length := by rw [nit_app, hAi.1]
      rw [hnA, hiA] at hlim
      have hlen : P.length + (R.length + 1) = D.length := by rw [hP, List.length_append]; rfl
      have hD1 : nen P + nen (r :: R) = nen D := by rw [hP, nen_app]
      have hD2 : nit P + nit (r :: R) = nit D := by rw [hP, nit_app]
      have hr1 : nen (r :: R) = nen [r] + nen R := by rw [show r :: R = [r] ++ R from rfl, nen_app]
      have hr2 : nit (r :: R) = nit [r] + nit R := by rw [show r :: R = [r] ++ R from rfl, nit_app]
      have hpos : 0 < nen (r :: R) := by
        obtain ⟨x, a, b⟩ := hsuf P _ hP (by simp)
        exact List.length_pos_of_mem (List.mem_filter.mpr ⟨a, b⟩)
      have hokr : okR r := hok r (by rw [hP]; simp)
      have hAl : nit P + A.length ≤ nit D := by
        have : nit (r :: R) = nit (A ++ e :: B) := by rw [hA1]
        rw [nit_app, hAi.1] at this
        omega
      refine am_iload rfl rfl ?_
      refine am_aload_n rfl rfl ?_
      refine ho_getR rfl (by first | rfl | assumption) rfl (by first | assumption | exact hR _ _ _ rfl) ?_
      refine am_iload rfl rfl ?_
      refine ho_iaload rfl (by first | rfl | assumption) (by omega) ?_
      rw [hlim]
      cases hrE : isE r with
      | false =>
        have hne : A ≠ [] := by
          rintro rfl
          have : r = e := by
            have := hA1
            simp at this
            exact this.1
          rw [← this, hrE] at hA3
          cases hA3
        have hAp : 0 < A.length := List.length_pos_iff.mpr hne
        have hRne : R ≠ [] := by
          rintro rfl
          rw [hr1, (nen_I hrE).1] at hpos
          exact absurd hpos (by decide)
        have hRl : 0 < R.length := List.length_pos_iff.mpr hRne
        have hI := (nen_I hrE)
        refine ho_icmp_ge rfl (by omega) (by omega) (fun z => absurd z (by omega)) (fun _ => ?_)
        refine am_aload_n rfl rfl ?_
        refine am_aload_n rfl rfl ?_
        refine am_iload rfl rfl ?_
        refine am_iload rfl rfl ?_
        obtain ⟨f1, f2, f3⟩ := (hA.2.2 P r R hP).2 hrE
        have hipl := ips_tg L n P
        refine ho_cv3 rfl (by first | rfl | assumption) rfl (Nat.le_of_ble_eq_true rfl) (Nat.le_of_ble_eq_true rfl) (c_S_addItem hR hDf mi ml (ips (L ++ tg n true P)).length (nit P) (L.length + P.length) (mkc r.2.2) hpx.1 (by omega) (by omega) (by omega) f3 (mkc_r _).1) ?_
        rintro v h' ⟨rfl, b2, b3, b4, g2, g3, g4, rfl⟩
        refine am_iinc rfl rfl (nI_inc1 _) ?_
        show am_T _ _ _ _ [_, _, _, _, some _, _, _, _] _ _ _ _ _
        refine am_iinc rfl rfl (nI_inc1 _) ?_
        show am_T _ _ _ _ [_, _, _, _, _, some _, _, _] _ _ _ _ _
        refine am_goto rfl ?_
        have := ih (P ++ [r]) (up2 (up2 (up2 mi 85 (ips (L ++ tg n true P)).length (mi (o + 3) (nit P))) 86 (ips (L ++ tg n true P)).length (mi (o + 4) (nit P))) 84 0 (nI ((ips (L ++ tg n true P)).length + 1))) (up2 (up2 (up2 ml 87 (ips (L ++ tg n true P)).length b2) 88 (ips (L ++ tg n true P)).length b3) 84 8 b4) (by rw [hP]; simp) hRne ?_ (hF.tr ?_)
        · rw [List.length_append, nit_app, nen_app, hI.1, hI.2] at this
          exact this
        · rw [st_snoc, hrE, tg_snoc, ← List.append_assoc]
          have hPl : (L ++ tg n true P).length = L.length + P.length := by rw [List.length_append, tg_len]
          refine pX_item hpx hokr hrE (by simp [up2]) (fun j hj => ⟨?_, ?_⟩) ?_ (fun h2 => ?_) (fun j hj => ⟨?_, ?_⟩) ?_ ?_ ?_ ?_ ?_ (fun q => ?_)
          · unfold up2
            rw [if_neg (by omega), if_neg (by omega), if_neg (by omega)]
          · unfold up2
            rw [if_neg (by omega), if_neg (by omega), if_neg (by omega)]
          · rw [← f1]
            simp [up2]
          · rw [← f2 h2]
            simp [up2]
          · unfold up2
            rw [if_neg (by omega), if_neg (by omega), if_neg (by omega)]
          · unfold up2
            rw [if_neg (by omega), if_neg (by omega), if_neg (by omega)]
          · rw [show up2 (up2 (up2 ml 87 (ips (L ++ tg n true P)).length b2) 88 (ips (L ++ tg n true P)).length b3) 84 8 b4 87 (ips (L ++ tg n true P)).length = b2 by simp [up2], g2, hPl]
            funext q
            rw [decide_eq_decide, (mkc_r _).2]
          · rw [show up2 (up2 (up2 ml 87 (ips (L ++ tg n true P)).length b2) 88 (ips (L ++ tg n true P)).length b3) 84 8 b4 88 (ips (L ++ tg n true P)).length = b3 by simp [up2], g3, hPl]
          · rw [up2_off _ _ _ (show (90 : Nat) ≠ 84 by decide), up2_off _ _ _ (show (90 : Nat) ≠ 88 by decide), up2_off _ _ _ (show (90 : Nat) ≠ 87 by decide)]
          · rw [up2_off _ _ _ (show (91 : Nat) ≠ 84 by decide), up2_off _ _ _ (show (91 : Nat) ≠ 88 by decide), up2_off _ _ _ (show (91 : Nat) ≠ 87 by decide)]
          · simp [up2]
          · rw [show up2 (up2 (up2 ml 87 (ips (L ++ tg n true P)).length b2) 88 (ips (L ++ tg n true P)).length b3) 84 8 b4 84 8 = b4 by simp [up2], g4, hPl]
            congr 1
            rw [decide_eq_decide, mkc_32 hokr.2.2.1]
        · exact ⟨fun a h1 h2 h3 => by rw [up2_off _ _ _ h1, up2_off _ _ _ h3, up2_off _ _ _ h2], fun a h1 h2 h3 _ _ _ => by rw [up2_off _ _ _ h1, up2_off _ _ _ h3, up2_off _ _ _ h2]⟩
      | true =>
        have hA0 : A = [] := by
          cases A with
          | nil => rfl
          | cons a A =>
            have : r = a := by
              have := hA1
              simp at this
              exact this.1
            have := hA2 a (by simp)
            rw [← ‹r = a›, hrE] at this
            cases this
        have hAl0 : A.length = 0 := by rw [hA0]; rfl
        have hE := nen_E hrE
        refine ho_icmp_ge rfl (by omega) (by omega) (fun _ => ?_) (fun z => absurd (by omega) z)
        refine am_aload_n rfl rfl ?_
        refine ho_getR rfl (by first | rfl | assumption) rfl (by first | assumption | exact hR _ _ _ rfl) ?_
        refine am_iload rfl rfl ?_
        refine ho_iaload rfl (by first | rfl | assumption) (by omega) ?_
        have htl := ((hA.2.2 P r R hP).1 hrE).2
        rw [htl]
        have hPl : (L ++ tg n true P).length = L.length + P.length := by rw [List.length_append, tg_len]
        have hw : r.1 = 0 ∨ (10 ≤ r.1 ∧ r.1 < 16) := by
          have h0 : r.1 = 0 ∨ 10 ≤ r.1 := of_decide_eq_true hrE
          rcases hokr.1 with q | q | q
          · exact Or.inl q
          · omega
          · exact Or.inr q
        have s106 : ∀ ml' : Nat → Nat → Int64, pX (L ++ tg n true (P ++ [r])) none mi ml' → Fb mi0 mi ml0 ml' → am_T l (d + 1) M_S_layOut 106 [some (.ref 84), some (.ref o), some (.int (nI n)), none, some (.int (nI (L.length + P.length))), some (.int (nI (nit P))), some (.int (nI (nen P))), some (.int (tlI r.1))] [] (hm mi ml' mr) 0 0 (fun r h' => r = some (.int (nI (L.length + D.length))) ∧ ∃ mi ml, h' = hm mi ml mr ∧ pX (L ++ tg n true D) none mi ml ∧ Fb mi0 mi ml0 ml) := by
          intro ml' hpx' hF'
          refine am_iinc rfl rfl (nI_inc1 _) ?_
          show am_T _ _ _ _ [_, _, _, _, some _, _, _, _] _ _ _ _ _
          refine am_iinc rfl rfl (nI_inc1 _) ?_
          show am_T _ _ _ _ [_, _, _, _, _, _, some _, _] _ _ _ _ _
          refine am_goto rfl ?_
          refine am_drops [7] ?_
          have := head (P ++ [r]) R mi ml' (by rw [hP]; simp) (by rw [st_snoc, hrE]) hpx' hF' (fun hne mi ml q1 q2 => ih (P ++ [r]) mi ml (by rw [hP]; simp) hne q1 q2)
          rw [List.length_append, nit_app, nen_app, hE.1, hE.2] at this
          exact this
        refine am_istore rfl (Nat.le_of_ble_eq_true rfl) ?_
        show am_T _ _ _ _ [_, _, _, _, _, _, _, some _] _ _ _ _ _
        refine am_iload rfl rfl ?_
        refine am_iconst (v := -1) rfl (by decide) ?_
        refine am_icmp_ne rfl (fun z => ?_) (fun z => ?_)
        · have hw2 : 10 ≤ r.1 ∧ r.1 < 16 := hw.resolve_left (fun q => z ((tlI_m1 hw).mpr q))
          have etl : tlI r.1 = nI (r.1 - 10) := by
            unfold tlI
            rw [if_neg (by omega)]
          rw [etl] at s106 ⊢
          refine am_aload_n rfl rfl ?_
          refine ho_getR rfl (by first | rfl | assumption) rfl (by first | assumption | exact hR _ _ _ rfl) ?_
          refine am_iload rfl rfl ?_
          first | refine am_dup2 rfl rfl rfl ?_ | refine am_dup2l rfl rfl ?_
          refine ho_laload rfl (by first | rfl | assumption) (by omega) ?_
          refine am_lconst (v := 1) rfl (by decide) ?_
          refine am_iload rfl rfl ?_
          refine am_lshl rfl rfl ?_
          refine am_lor rfl ?_
          refine ho_lastore rfl (by first | rfl | assumption) (by omega) ?_
          refine s106 _ ?_ (hF.tr ⟨fun _ _ _ _ => rfl, fun a _ _ _ _ _ h6 => up2_off _ _ _ h6⟩)
          rw [tg_snoc, ← List.append_assoc]
          refine pX_end hpx hrE ?_ ?_ ?_ (fun k hk q => ?_) (fun q => ?_) ?_
          · rw [up2_off _ _ _ (by decide)]
          · rw [up2_off _ _ _ (by decide)]
          · rw [up2_off _ _ _ (by decide)]
          · by_cases e2 : k = r.1 - 10
            · subst e2
              rw [show up2 ml 91 (r.1 - 10) (ml 91 (r.1 - 10) ||| 1 <<< ((nI (L.length + P.length)).toInt64 &&& 63)) 91 (r.1 - 10) = (ml 91 (r.1 - 10) ||| 1 <<< ((nI (L.length + P.length)).toInt64 &&& 63)) by simp [up2], tb_or, tb_bit (by omega), hPl]
              congr 1
              rw [decide_eq_decide]
              omega
            · rw [show up2 ml 91 (r.1 - 10) (ml 91 (r.1 - 10) ||| 1 <<< ((nI (L.length + P.length)).toInt64 &&& 63)) 91 k = ml 91 k by unfold up2; rw [if_neg (by omega)], decide_eq_false (fun z => by omega), Bool.or_false]
          · rw [up2_off _ _ _ (by decide), decide_eq_false (fun z => by omega), Bool.or_false]
          · rw [up2_off _ _ _ (by decide)]
        · have hw2 : r.1 = 0 := (tlI_m1 hw).mp z
          refine am_aload_n rfl rfl ?_
          refine am_dup rfl rfl ?_
          refine ho_getL rfl (by first | rfl | assumption) rfl ?_
          refine am_lconst (v := 1) rfl (by decide) ?_
          refine am_iload rfl rfl ?_
          refine am_lshl rfl rfl ?_
          refine am_lor rfl ?_
          refine ho_putL rfl (by first | rfl | assumption) rfl ?_
          refine am_goto rfl ?_
          refine s106 _ ?_ (hF.tr ⟨fun _ _ _ _ => rfl, fun a h1 _ _ _ _ _ => up2_off _ _ _ h1⟩)
          rw [tg_snoc, ← List.append_assoc]
          refine pX_end hpx hrE ?_ ?_ ?_ (fun k hk q => ?_) (fun q => ?_) ?_
          · rw [up2_off _ _ _ (by decide)]
          · rw [up2_off _ _ _ (by decide)]
          · rw [up2_off _ _ _ (by decide)]
          · rw [up2_off _ _ _ (by decide), decide_eq_false (fun z => by omega), Bool.or_false]
          · rw [show up2 ml 84 9 (ml 84 9 ||| 1 <<< ((nI (L.length + P.length)).toInt64 &&& 63)) 84 9 = (ml 84 9 ||| 1 <<< ((nI (L.length + P.length)).toInt64 &&& 63)) by simp [up2], tb_or, tb_bit (by omega), hPl]
            congr 1
            rw [decide_eq_decide]
            omega
          · simp [up2]
  refine am_iload_n rfl rfl ?_
  refine am_istore rfl (Nat.le_of_ble_eq_true rfl) ?_
  show am_T _ _ _ _ [_, _, _, _, some _, _, _, _] _ _ _ _ _
  refine am_iconst (v := nI 0) rfl (by decide) ?_
  refine am_istore rfl (Nat.le_of_ble_eq_true rfl) ?_
  show am_T _ _ _ _ [_, _, _, _, _, some _, _, _] _ _ _ _ _
  refine am_iconst (v := nI 0) rfl (by decide) ?_
  refine am_istore rfl (Nat.le_of_ble_eq_true rfl) ?_
  show am_T _ _ _ _ [_, _, _, _, _, _, some _, _] _ _ _ _ _
  refine am_drops [3] ?_
  have := head [] D mi0 ml0 rfl rfl (by show pX (L ++ []) none mi0 ml0; rw [List.append_nil]; exact hp) Fb.rf (fun hne mi ml q1 q2 => main D [] mi ml rfl hne q1 q2)
  exact this
theorem c_S_rebuild (hR : SR mr) (od : Nat → Nat) (hod : ∀ n, n < 6 → mr 2 n = some (od n) ∧ od n ∈ dOb) (D : Nat → List Rt) (hD : okDs D) (mi0 : Nat → Nat → Int32) (ml0 : Nat → Nat → Int64) (hg : ∀ n, n < 6 → mi0 (od n) 0 = bI (decide (D n ≠ []))) (hDA : ∀ n, n < 6 → D n ≠ [] → DA mi0 (od n) (D n)) :
    am_T l (d + 2) M_S_rebuild 0 [some (.ref 84), some (.ref 2), none, none] [] (hm mi0 ml0 mr) 0 0 (fun r h' => r = none ∧ ∃ mi ml ip n, h' = hm mi ml mr ∧ repX (SD D) ip n mi ml ∧ Fb mi0 mi ml0 ml) := by
  have hl := allD_len hD.1 6 (by omega)
  have h2 := hD.2
  have o39 : ∀ n, n < 6 → od n ≤ 39 := fun n hn => (isDf_of hR (hod n hn).2).1
  have hsum : ∀ n, n ≤ 6 → (ips (allD D n)).length = sumN (fun n => nit (D n)) n := by
    intro n
    induction n with
    | zero => exact fun _ => rfl
    | succ n ih =>
      intro hn
      rw [allD_s, ips_tg, ih (by omega), sumN_s]
  have hmono : ∀ n, n < 6 → (allD D n).length + (D n).length ≤ 64 ∧ (ips (allD D n)).length + nit (D n) ≤ 16 := by
    intro n hn
    have hm : ∀ j, (allD D (n + 1)).length ≤ (allD D (n + 1 + j)).length ∧ sumN (fun n => nit (D n)) (n + 1) ≤ sumN (fun n => nit (D n)) (n + 1 + j) := by
      intro j
      induction j with
      | zero => exact ⟨Nat.le_refl _, Nat.le_refl _⟩
      | succ j ih2 =>
        rw [show n + 1 + (j + 1) = n + 1 + j + 1 by omega, allD_s D (n + 1 + j), List.length_append, sumN_s (fun n => nit (D n)) (n + 1 + j)]
        omega
    have := hm (6 - (n + 1))
    rw [show n + 1 + (6 - (n + 1)) = 6 by omega, allD_s, List.length_append, tg_len, sumN_s] at this
    have h3 := hsum n (by omega)
    omega
  have fin : ∀ (k j : Nat) (mi : Nat → Nat → Int32) (ml : Nat → Nat → Int64), j + k = (ips (allD D 6)).length → pX (allD D 6) none mi ml → ml 84 10 = spF (skS (SD D)) (woS (SD D)) (tlS (SD D)) (enS (SD D)) → (∀ i, i < j → ml 89 i = spF (skS (SD D)) (woS (SD D)) (tlS (SD D)) (one ((ips (allD D 6)).getD i 0))) → Fb mi0 mi ml0 ml →
      am_T l (d + 2) M_S_rebuild 92 [some (.ref 84), some (.ref 2), none, some (.int (nI j))] [] (hm mi ml mr) 0 0 (fun r h' => r = none ∧ ∃ mi ml ip n, h' = hm mi ml mr ∧ repX (SD D) ip n mi ml ∧ Fb mi0 mi ml0 ml) := by
    have h16 : (ips (allD D 6)).length ≤ 16 := by rw [hsum 6 (by omega)]; exact h2
    intro k
    induction k with
    | zero =>
      intro j mi ml hk hp he ho hF
      refine am_iload_n rfl rfl ?_
      refine am_aload_n rfl rfl ?_
      refine ho_getI rfl (by first | rfl | assumption) rfl ?_
      rw [hp.1]
      refine ho_icmp_ge rfl (by omega) (by omega) (fun _ => ?_) (fun z => absurd (by omega) z)
      refine am_return rfl rfl ⟨rfl, mi, ml, fun j => (ips (allD D 6)).getD j 0, (ips (allD D 6)).length, rfl, ⟨⟨hp.1, h16⟩, fun j hj => ?_, fun r hr h1 h5 => ?_, fun k hk => ?_, fun k hk => ?_, ?_, he⟩, hF⟩
      · have hq := ips_lt hj
        have hokr := allD_mem hD.1 6 (by omega) _ (List.getElem_mem hq.1)
        have eg : (allD D 6).getD ((ips (allD D 6)).getD j 0) ((0, 0, 0), 99) = (allD D 6)[(ips (allD D 6)).getD j 0] := by
          rw [List.getD_eq_getElem?_getD, List.getElem?_eq_getElem hq.1]
          rfl
        have hw : 1 ≤ ((allD D 6).getD ((ips (allD D 6)).getD j 0) ((0, 0, 0), 99)).1.1 ∧ ((allD D 6).getD ((ips (allD D 6)).getD j 0) ((0, 0, 0), 99)).1.1 ≤ 5 := by
          have h0 := of_decide_eq_false hq.2
          rw [← eg] at hokr
          rcases hokr.1 with q | q | q
          · exact absurd (Or.inl q) h0
          · exact q
          · exact absurd (Or.inr q.1) h0
        obtain ⟨t1, t2, t3, t4⟩ := hp.2.1 j hj
        exact ⟨hq.1, hw.1, hw.2, t1, t2, t3, t4, ho j (by omega)⟩
      · have hr : r < (allD D 6).length := hr
        have hm : r ∈ ips (allD D 6) := by
          refine (ipsF_mem _ 0 r).mpr ⟨Nat.zero_le _, by omega, ?_⟩
          refine decide_eq_false (fun z => ?_)
          rw [Nat.sub_zero] at z
          have h1 : 1 ≤ ((allD D 6).getD r ((0, 0, 0), 99)).1.1 := h1
          have h5 : ((allD D 6).getD r ((0, 0, 0), 99)).1.1 ≤ 5 := h5
          omega
        obtain ⟨j, hj, e⟩ := List.mem_iff_getElem.mp hm
        refine ⟨j, hj, ?_⟩
        show (ips (allD D 6)).getD j 0 = r
        rw [List.getD_eq_getElem?_getD, List.getElem?_eq_getElem hj]
        exact e
      · funext r
        rw [hp.2.2.1 k hk r, decide_eq_false (fun z => by cases z.2), Bool.or_false]
        rfl
      · funext r
        exact hp.2.2.2.1 k hk r
      · funext r
        exact hp.2.2.2.2.1 r
    | succ k ih =>
      intro j mi ml hk hp he ho hF
      refine am_iload_n rfl rfl ?_
      refine am_aload_n rfl rfl ?_
      refine ho_getI rfl (by first | rfl | assumption) rfl ?_
      rw [hp.1]
      refine ho_icmp_ge rfl (by omega) (by omega) (fun z => absurd z (by omega)) (fun _ => ?_)
      refine am_aload_n rfl rfl ?_
      refine ho_getR rfl (by first | rfl | assumption) rfl (by first | assumption | exact hR _ _ _ rfl) ?_
      refine am_iload_n rfl rfl ?_
      refine am_aload_n rfl rfl ?_
      refine am_aload_n rfl rfl ?_
      refine ho_getR rfl (by first | rfl | assumption) rfl (by first | assumption | exact hR _ _ _ rfl) ?_
      refine am_iload_n rfl rfl ?_
      refine ho_laload rfl (by first | rfl | assumption) (by omega) ?_
      refine am_iconst (v := nI 1) rfl (by decide) ?_
      refine am_lushr rfl rfl ?_
      refine ho_cv1 rfl (by first | rfl | assumption) rfl (Nat.le_of_ble_eq_true rfl) (Nat.le_of_ble_eq_true rfl) (c_S_spread hR _) ?_
      rintro v h' ⟨rfl, rfl⟩
      refine ho_lastore rfl (by first | rfl | assumption) (by omega) ?_
      refine am_iinc rfl rfl (nI_inc1 _) ?_
      show am_T _ _ _ _ [_, _, _, some _] _ _ _ _ _
      refine am_goto rfl ?_
      obtain ⟨t1, t2, t3, t4⟩ := hp.2.1 j (by omega)
      have hq := ips_lt (L := allD D 6) (j := j) (by omega)
      have h8 : tb (ml 84 8) = skS (SD D) := funext hp.2.2.2.2.1
      have h90 : ∀ n, n < 6 → tb (ml 90 n) = woS (SD D) n := fun n hn => funext fun r => by
        rw [hp.2.2.1 n hn r, decide_eq_false (fun z => by cases z.2), Bool.or_false]
        rfl
      have h91 : ∀ n, n < 6 → tb (ml 91 n) = tlS (SD D) n := fun n hn => funext (hp.2.2.2.1 n hn)
      refine ih (j + 1) mi _ (by omega) ?_ ?_ (fun i hi => ?_) (hF.tr ⟨fun _ _ _ _ => rfl, fun a _ _ _ h4 _ _ => up2_off _ _ _ h4⟩)
      · obtain ⟨p1, p2, p3, p4, p5, p6⟩ := hp
        refine ⟨p1, fun i hi => ?_, fun k hk r => ?_, fun k hk r => ?_, fun r => ?_, fun r => ?_⟩
        · unfold IT
          rw [up2_off _ _ _ (show (88 : Nat) ≠ 89 by decide), up2_off _ _ _ (show (87 : Nat) ≠ 89 by decide)]
          exact p2 i hi
        · rw [up2_off _ _ _ (show (90 : Nat) ≠ 89 by decide)]
          exact p3 k hk r
        · rw [up2_off _ _ _ (show (91 : Nat) ≠ 89 by decide)]
          exact p4 k hk r
        · rw [up2_off _ _ _ (show (84 : Nat) ≠ 89 by decide)]
          exact p5 r
        · rw [up2_off _ _ _ (show (84 : Nat) ≠ 89 by decide)]
          exact p6 r
      · rw [up2_off _ _ _ (show (84 : Nat) ≠ 89 by decide)]
        exact he
      · rcases Nat.lt_succ_iff_lt_or_eq.mp hi with z | z
        · rw [show up2 ml 89 j _ 89 i = ml 89 i by unfold up2; rw [if_neg (by omega)]]
          exact ho i z
        · subst z
          rw [show up2 ml 89 i _ 89 i = _ by simp [up2]; rfl, h8, spF_congr h90 h91]
          congr 1
          funext r
          rw [tb_ushr _ (by omega), t3]
          unfold one
          rw [decide_eq_decide]
          omega
  have names : ∀ (k n : Nat) (mi : Nat → Nat → Int32) (ml : Nat → Nat → Int64), n + k = 6 → pX (allD D n) none mi ml → Fb mi0 mi ml0 ml → am_T l (d + 2) M_S_rebuild 47 [some (.ref 84), some (.ref 2), some (.int (nI (allD D n).length)), some (.int (nI n))] [] (hm mi ml mr) 0 0 (fun r h' => r = none ∧ ∃ mi ml ip n, h' = hm mi ml mr ∧ repX (SD D) ip n mi ml ∧ Fb mi0 mi ml0 ml) := by
    intro k
    induction k with
    | zero =>
      intro n mi ml hk hp hF
      have : n = 6 := by omega
      subst this
      refine am_iload_n rfl rfl ?_
      refine am_bipush (v := nI 6) rfl (by decide) ?_
      refine ho_icmp_ge rfl (by omega) (by omega) (fun _ => ?_) (fun z => absurd (by omega) z)
      refine am_aload_n rfl rfl ?_
      refine am_aload_n rfl rfl ?_
      refine am_aload_n rfl rfl ?_
      refine ho_getL rfl (by first | rfl | assumption) rfl ?_
      refine ho_cv1 rfl (by first | rfl | assumption) rfl (Nat.le_of_ble_eq_true rfl) (Nat.le_of_ble_eq_true rfl) (c_S_spread hR _) ?_
      rintro v h' ⟨rfl, rfl⟩
      refine ho_putL rfl (by first | rfl | assumption) rfl ?_
      refine am_iconst (v := nI 0) rfl (by decide) ?_
      refine am_istore_n rfl (Nat.le_of_ble_eq_true rfl) ?_
      show am_T _ _ _ _ [_, _, _, some _] _ _ _ _ _
      refine am_drops [2] ?_
      have h8 : tb (ml 84 8) = skS (SD D) := funext hp.2.2.2.2.1
      have h9 : tb (ml 84 9) = enS (SD D) := funext hp.2.2.2.2.2
      have h90 : ∀ n, n < 6 → tb (ml 90 n) = woS (SD D) n := fun n hn => funext fun r => by
        rw [hp.2.2.1 n hn r, decide_eq_false (fun z => by cases z.2), Bool.or_false]
        rfl
      have h91 : ∀ n, n < 6 → tb (ml 91 n) = tlS (SD D) n := fun n hn => funext (hp.2.2.2.1 n hn)
      refine fin (ips (allD D 6)).length 0 mi _ (by omega) ?_ ?_ (fun i hi => absurd hi (by omega)) (hF.tr ⟨fun _ _ _ _ => rfl, fun a h1 _ _ _ _ _ => up2_off _ _ _ h1⟩)
      · obtain ⟨p1, p2, p3, p4, p5, p6⟩ := hp
        refine ⟨p1, fun i hi => ?_, fun k hk r => ?_, fun k hk r => ?_, fun r => ?_, fun r => ?_⟩
        · unfold IT
          rw [up2_off _ _ _ (show (88 : Nat) ≠ 84 by decide), up2_off _ _ _ (show (87 : Nat) ≠ 84 by decide)]
          exact p2 i hi
        · rw [up2_off _ _ _ (show (90 : Nat) ≠ 84 by decide)]
          exact p3 k hk r
        · rw [up2_off _ _ _ (show (91 : Nat) ≠ 84 by decide)]
          exact p4 k hk r
        · rw [show up2 ml 84 10 _ 84 8 = ml 84 8 by unfold up2; rw [if_neg (by omega)]]
          exact p5 r
        · rw [show up2 ml 84 10 _ 84 9 = ml 84 9 by unfold up2; rw [if_neg (by omega)]]
          exact p6 r
      · rw [show up2 ml 84 10 _ 84 10 = _ by simp [up2]; rfl, h8, h9, spF_congr h90 h91]
    | succ k ih =>
      intro n mi ml hk hp hF
      obtain ⟨e1, e2⟩ := hod n (by omega)
      have hDf := isDf_of hR e2
      have hk0 := hDf.2.1
      have ho := hDf.1
      refine am_iload_n rfl rfl ?_
      refine am_bipush (v := nI 6) rfl (by decide) ?_
      refine ho_icmp_ge rfl (by omega) (by omega) (fun z => absurd z (by omega)) (fun _ => ?_)
      refine am_aload_n rfl rfl ?_
      refine am_iload_n rfl rfl ?_
      refine ho_aaload rfl (by first | rfl | assumption) ⟨by decide, rfl⟩ (by omega) (by first | assumption | exact hR _ _ _ rfl) ?_
      refine ho_getI rfl (by first | rfl | assumption) rfl ?_
      rw [hF.1 (od n) (by omega) (by omega) (by omega), hg n (by omega)]
      refine am_if_eq rfl (fun z => ?_) (fun z => ?_)
      · have z := of_decide_eq_false ((bI_eq _).mp z)
        have z : D n = [] := Classical.not_not.mp z
        refine am_iinc rfl rfl (nI_inc1 _) ?_
        show am_T _ _ _ _ [_, _, _, some _] _ _ _ _ _
        refine am_goto rfl ?_
        have eL : allD D (n + 1) = allD D n := by rw [allD_s, z]; exact List.append_nil _
        have := ih (n + 1) mi ml (by omega) (by rw [eL]; exact hp) hF
        rw [eL] at this
        exact this
      · have z := of_decide_eq_true ((bI_ne _).mp z)
        have hokD := (hD.1 n (by omega)).resolve_left z
        have hm := hmono n (by omega)
        refine am_aload_n rfl rfl ?_
        refine am_aload_n rfl rfl ?_
        refine am_iload_n rfl rfl ?_
        refine ho_aaload rfl (by first | rfl | assumption) ⟨by decide, rfl⟩ (by omega) (by first | assumption | exact hR _ _ _ rfl) ?_
        refine am_iload_n rfl rfl ?_
        refine am_iload_n rfl rfl ?_
        refine ho_cv3 rfl (by first | rfl | assumption) rfl (Nat.le_of_ble_eq_true rfl) (Nat.le_of_ble_eq_true rfl) (c_S_layOut hR hDf (D n) hokD (allD D n) n (by omega) mi ml hm.2 hm.1 (hF.keep ho (hDA n (by omega) z)) hp) ?_
        rintro v h' ⟨rfl, mi', ml', rfl, hp', hF'⟩
        refine am_istore_n rfl (Nat.le_of_ble_eq_true rfl) ?_
        show am_T _ _ _ _ [_, _, some _, _] _ _ _ _ _
        refine am_iinc rfl rfl (nI_inc1 _) ?_
        show am_T _ _ _ _ [_, _, _, some _] _ _ _ _ _
        refine am_goto rfl ?_
        rw [← allD_s] at hp'
        have := ih (n + 1) mi' ml' (by omega) hp' (hF.tr hF')
        rw [show (allD D (n + 1)).length = (allD D n).length + (D n).length by rw [allD_s, List.length_append, tg_len]] at this
        exact this
  have zero : ∀ (k n : Nat) (mi : Nat → Nat → Int32) (ml : Nat → Nat → Int64), n + k = 6 → mi 84 0 = nI 0 → ml 84 8 = 0 → ml 84 9 = 0 → (∀ i, i < n → ml 90 i = 0 ∧ ml 91 i = 0) → Fb mi0 mi ml0 ml → am_T l (d + 2) M_S_rebuild 17 [some (.ref 84), some (.ref 2), some (.int (nI n)), none] [] (hm mi ml mr) 0 0 (fun r h' => r = none ∧ ∃ mi ml ip n, h' = hm mi ml mr ∧ repX (SD D) ip n mi ml ∧ Fb mi0 mi ml0 ml) := by
    intro k
    induction k with
    | zero =>
      intro n mi ml hk h1 h8 h9 hz hF
      refine am_iload_n rfl rfl ?_
      refine am_bipush (v := nI 6) rfl (by decide) ?_
      refine ho_icmp_ge rfl (by omega) (by omega) (fun _ => ?_) (fun z => absurd (by omega) z)
      refine am_iconst (v := nI 0) rfl (by decide) ?_
      refine am_istore_n rfl (Nat.le_of_ble_eq_true rfl) ?_
      show am_T _ _ _ _ [_, _, some _, _] _ _ _ _ _
      refine am_iconst (v := nI 0) rfl (by decide) ?_
      refine am_istore_n rfl (Nat.le_of_ble_eq_true rfl) ?_
      show am_T _ _ _ _ [_, _, _, some _] _ _ _ _ _
      refine names 6 0 mi ml rfl ⟨h1, fun j hj => (by cases hj), fun k hk r => ?_, fun k hk r => ?_, fun r => ?_, fun r => ?_⟩ hF
      · rw [(hz k (by omega)).1, tb_0, decide_eq_false (fun z => by cases z.2), Bool.or_false]
        exact (decide_eq_false (fun z => by cases z.1)).symm
      · rw [(hz k (by omega)).2, tb_0]
        exact (decide_eq_false (fun z => by cases z.1)).symm
      · rw [h8, tb_0]
        exact (decide_eq_false (fun z => by cases z.1)).symm
      · rw [h9, tb_0]
        exact (decide_eq_false (fun z => by cases z.1)).symm
    | succ k ih =>
      intro n mi ml hk h1 h8 h9 hz hF
      refine am_iload_n rfl rfl ?_
      refine am_bipush (v := nI 6) rfl (by decide) ?_
      refine ho_icmp_ge rfl (by omega) (by omega) (fun z => absurd z (by omega)) (fun _ => ?_)
      refine am_aload_n rfl rfl ?_
      refine ho_getR rfl (by first | rfl | assumption) rfl (by first | assumption | exact hR _ _ _ rfl) ?_
      refine am_iload_n rfl rfl ?_
      refine am_lconst (v := 0) rfl (by decide) ?_
      refine ho_lastore rfl (by first | rfl | assumption) (by omega) ?_
      refine am_aload_n rfl rfl ?_
      refine ho_getR rfl (by first | rfl | assumption) rfl (by first | assumption | exact hR _ _ _ rfl) ?_
      refine am_iload_n rfl rfl ?_
      refine am_lconst (v := 0) rfl (by decide) ?_
      refine ho_lastore rfl (by first | rfl | assumption) (by omega) ?_
      refine am_iinc rfl rfl (nI_inc1 _) ?_
      show am_T _ _ _ _ [_, _, some _, _] _ _ _ _ _
      refine am_goto rfl ?_
      refine ih (n + 1) mi _ (by omega) h1 ?_ ?_ (fun i hi => ?_) (hF.tr ⟨fun _ _ _ _ => rfl, fun a _ _ _ _ h5 h6 => by rw [up2_off _ _ _ h6, up2_off _ _ _ h5]⟩)
      · rw [up2_off _ _ _ (by decide), up2_off _ _ _ (by decide)]
        exact h8
      · rw [up2_off _ _ _ (by decide), up2_off _ _ _ (by decide)]
        exact h9
      · by_cases e : i = n
        · subst e
          exact ⟨by simp [up2], by simp [up2]⟩
        · unfold up2
          rw [if_neg (by omega), if_neg (by omega), if_neg (by omega), if_neg (by omega)]
          exact hz i (by omega)
  refine am_aload_n rfl rfl ?_
  refine am_iconst (v := nI 0) rfl (by decide) ?_
  refine ho_putI rfl (by first | rfl | assumption) rfl rfl ?_
  refine am_aload_n rfl rfl ?_
  refine am_lconst (v := 0) rfl (by decide) ?_
  refine ho_putL rfl (by first | rfl | assumption) rfl ?_
  refine am_aload_n rfl rfl ?_
  refine am_lconst (v := 0) rfl (by decide) ?_
  refine ho_putL rfl (by first | rfl | assumption) rfl ?_
  refine am_iconst (v := nI 0) rfl (by decide) ?_
  refine am_istore_n rfl (Nat.le_of_ble_eq_true rfl) ?_
  show am_T _ _ _ _ [_, _, some _, _] _ _ _ _ _
  refine zero 6 0 _ _ rfl (by simp [up2]) (by simp [up2]) (by simp [up2]) (fun i hi => by omega) ⟨fun a h1 _ _ => up2_off _ _ _ h1, fun a h1 _ _ _ _ _ => by rw [up2_off _ _ _ h1, up2_off _ _ _ h1]⟩
end X9
