/-! the class: the first text of several kinds -/
def bsI (b : Option Nat) : Int32 := match b with
  | none => -1
  | some b => nI b
section S6
variable {l : Launch} {d : Nat} {ml : Nat → Nat → Int64} {mr : Nat → Nat → Option Nat} {S : Rs} {ip : Nat → Nat} {n cnt L : Nat} {v : Nat → Nat}
/-- the texts of the kinds of at most 12 nodes -/
def TX (mc mn : Nat → Int32) (cnt : Nat) (v : Nat → Nat) (o : Nat → Option (List Nat)) : Prop := ∀ k, k < cnt → v k ≤ 12 → TR mc mn k (some (Tk o k))
theorem TX.of {mc mn : Nat → Int32} {km : Nat → Int64} {o : Nat → Option (List Nat)} (hD : Dn S km cnt v 13 o) (h : TS mc mn cnt o) : TX mc mn cnt v o := by
  intro k hk hv
  have := h k hk
  rw [hD.some hk (by omega)] at this
  exact this
theorem TXK.dn {mi : Nat → Nat → Int32} (hE : KE S (ml 94) cnt) (hv0 : v 0 = 0) (hF : FinV S (ml 94) cnt v) (h : TXK S cnt mi ml) : ∃ o, Dn S (ml 94) cnt v 13 o ∧ TX (mi 103) (mi 104) cnt v o := by
  have hex : ∀ k, ∃ x : Option (List Nat), (k = 0 → x = some []) ∧ (1 ≤ k → k < cnt → (v k ≤ 12 → ∃ t, x = some t ∧ FT (K0 S) (bfS S) true (ml 94 k) (v k) t ∧ mi 104 k = nI t.length ∧ ∀ i, i < t.length → mi 103 (36 * k + i) = nI (t.getD i 0)) ∧ (12 < v k → x = none)) := by
    intro k
    by_cases e : k = 0
    · exact ⟨some [], fun _ => rfl, fun q => absurd q (by omega)⟩
    by_cases hk : k < cnt
    · by_cases hv : v k ≤ 12
      · have e2 := hF k (by omega) hk
        obtain ⟨t, t1, t2, t3⟩ := h.2 k (by omega) hk (by rw [← e2]; exact hv)
        exact ⟨some t, fun q => absurd q e, fun _ _ => ⟨fun _ => ⟨t, rfl, by rw [e2]; exact t1, t2, t3⟩, fun q => absurd q (by omega)⟩⟩
      · exact ⟨none, fun q => absurd q e, fun _ _ => ⟨fun q => absurd q hv, fun _ => rfl⟩⟩
    · exact ⟨none, fun q => absurd q e, fun _ q => absurd q hk⟩
  obtain ⟨o, ho⟩ := Classical.axiomOfChoice hex
  have hD : Dn S (ml 94) cnt v 13 o := by
    refine ⟨(ho 0).1 rfl, fun k k1 k2 => ⟨fun q => ?_, fun q => ((ho k).2 k1 k2).2 (by omega)⟩⟩
    obtain ⟨t, t1, t2, -⟩ := ((ho k).2 k1 k2).1 (by omega)
    exact ⟨t, t1, t2⟩
  refine ⟨o, hD, fun k hk hv => ?_⟩
  rcases Nat.eq_zero_or_pos k with e | e
  · subst e
    have : Tk o 0 = [] := by
      unfold Tk
      rw [hD.1]
      rfl
    rw [this]
    exact ⟨by decide, (fun c hc => by cases hc), h.1, fun i hi => by cases hi⟩
  · obtain ⟨t, t1, t2, t3, t4⟩ := ((ho k).2 e hk).1 hv
    have : Tk o k = t := by
      unfold Tk
      rw [t1]
      rfl
    rw [this]
    exact ⟨by have := HT_len t2.1; omega, HT_ok t2.1, t3, t4⟩
theorem TXK.of {mi : Nat → Nat → Int32} {o : Nat → Option (List Nat)} (hE : KE S (ml 94) cnt) (hv0 : v 0 = 0) (hF : FinV S (ml 94) cnt v) (hD : Dn S (ml 94) cnt v 13 o) (h : TX (mi 103) (mi 104) cnt v o) : TXK S cnt mi ml := by
  refine ⟨?_, fun k k1 k2 k3 => ?_⟩
  · have := h 0 hE.1 (by omega)
    have e : Tk o 0 = [] := by
      unfold Tk
      rw [hD.1]
      rfl
    rw [e] at this
    exact this.2.2.1
  · rw [← hF k k1 k2] at k3 ⊢
    obtain ⟨-, -, a3, a4⟩ := h k k2 k3
    have := hD.tk hE hv0 k2 k3
    rw [decide_eq_true (by omega)] at this
    exact ⟨Tk o k, this, a3, a4⟩
theorem c_T_pick_loop (hR : SR mr) (hS : okS S) (mi0 : Nat → Nat → Int32) (hK : KF S ip n cnt L v mi0 ml) (o : Nat → Option (List Nat)) (hD : Dn S (ml 94) cnt v 13 o) (hT : TX (mi0 103) (mi0 104) cnt v o) (m : Int64) (z : Nat) (hz : z ≤ 12) (hex : ∃ k, k < cnt ∧ tb m k = true ∧ v k = z) : ∀ (j i : Nat) (mi : Nat → Nat → Int32) (b : Option Nat), i + j = cnt → Pk (tb m) v z o i b → Ftt mi0 mi →
    am_T l (d + 4) M_T_pickFirst 22 [some (.ref 102), some (.long m), none, some (.long (lJ z)), none, some (.int (bsI b)), some (.int (nI i))] [] (hm mi ml mr) 0 0 (fun r h' => ∃ mi' b, r = some (.int (nI (Tk o b).length)) ∧ h' = hm mi' ml mr ∧ Pk (tb m) v z o cnt (some b) ∧ TL mi' (Tk o b) ∧ Ftt mi0 mi') := by
  have hE := hK.ke hS
  have h40 := hE.2.1
  have hV := hK.2.2.2.2.1
  have hcn := hK.2.1.2.1.1
  have tx : ∀ {mi : Nat → Nat → Int32} {k : Nat}, Ftt mi0 mi → k < cnt → v k ≤ 12 → TR (mi 103) (mi 104) k (some (Tk o k)) := fun hF hk hv => TR_to (hT _ hk hv) (hF.1 103 (by decide) (by decide)) (hF.1 104 (by decide) (by decide))
  intro j
  induction j with
  | zero =>
    intro i mi b hi hP hF
    have e : i = cnt := by omega
    subst e
    refine am_iload rfl rfl ?_
    refine am_aload_n rfl rfl ?_
    refine ho_getR rfl (by first | rfl | assumption) rfl (by first | assumption | exact hR _ _ _ rfl) ?_
    refine ho_getI rfl (by first | rfl | assumption) rfl ?_
    rw [hF.1 93 (by decide) (by decide), hcn]
    refine ho_icmp_ge rfl (by omega) (by omega) (fun _ => ?_) (fun z => absurd (by omega) z)
    cases b with
    | none =>
      obtain ⟨k, k1, k2, k3⟩ := hex
      exact absurd k3 (hP k k1 k2)
    | some b =>
      obtain ⟨b1, b2, b3, b4⟩ := id hP
      show am_T _ _ _ _ [_, _, _, _, _, some (.int (nI b)), _] _ _ _ _ _
      refine am_aload_n rfl rfl ?_
      refine am_iconst (v := nI 0) rfl (by decide) ?_
      refine ho_putI rfl (by first | rfl | assumption) rfl rfl ?_
      refine am_iload rfl rfl ?_
      refine am_iconst (v := -1) rfl (by decide) ?_
      refine am_icmp_eq rfl (fun q => absurd q (nI_nm1 (by omega))) (fun _ => ?_)
      refine am_aload_n rfl rfl ?_
      refine am_iload rfl rfl ?_
      refine ho_cv1 rfl (by first | rfl | assumption) rfl (Nat.le_of_ble_eq_true rfl) (Nat.le_of_ble_eq_true rfl) (c_T_putText (d := d + 1) hR b (by omega) (Tk o b) _ (tx (hF.tr Ftt_0) b1 (by omega))) ?_
      rintro r h' ⟨rfl, mi', rfl, g1, g2⟩
      refine am_aload_n rfl rfl ?_
      refine ho_getI rfl (by first | rfl | assumption) rfl ?_
      rw [g1.1]
      exact am_ireturn rfl rfl ⟨mi', b, rfl, rfl, hP, g1, (hF.tr Ftt_0).tr g2⟩
  | succ j ih =>
    intro i mi b hi hP hF
    refine am_iload rfl rfl ?_
    refine am_aload_n rfl rfl ?_
    refine ho_getR rfl (by first | rfl | assumption) rfl (by first | assumption | exact hR _ _ _ rfl) ?_
    refine ho_getI rfl (by first | rfl | assumption) rfl ?_
    rw [hF.1 93 (by decide) (by decide), hcn]
    refine ho_icmp_ge rfl (by omega) (by omega) (fun q => absurd q (by omega)) (fun _ => ?_)
    have skip : ¬ (tb m i = true ∧ v i = z) → am_T l (d + 4) M_T_pickFirst 90 [some (.ref 102), some (.long m), none, some (.long (lJ z)), none, some (.int (bsI b)), some (.int (nI i))] [] (hm mi ml mr) 0 0 (fun r h' => ∃ mi' b, r = some (.int (nI (Tk o b).length)) ∧ h' = hm mi' ml mr ∧ Pk (tb m) v z o cnt (some b) ∧ TL mi' (Tk o b) ∧ Ftt mi0 mi') := by
      intro h
      refine am_iinc rfl rfl (nI_inc1 _) ?_
      show am_T _ _ _ _ [_, _, _, _, _, _, some _] _ _ _ _ _
      refine am_goto rfl ?_
      exact ih (i + 1) mi b (by omega) (Pk_skip hP h) hF
    refine am_lload_n rfl rfl ?_
    refine am_iload rfl rfl ?_
    refine am_lushr rfl rfl ?_
    refine am_lconst (v := 1) rfl (by decide) ?_
    refine am_land rfl ?_
    refine am_lconst (v := 0) rfl (by decide) ?_
    refine am_lcmp rfl ?_
    refine am_if_eq rfl (fun q => skip (fun y => by rw [(tb_utest (by omega)).mp q] at y; cases y.1)) (fun q => ?_)
    have hp : tb m i = true := by
      cases hb : tb m i with
      | true => rfl
      | false => exact absurd ((tb_utest (by omega)).mpr hb) q
    refine am_aload_n rfl rfl ?_
    refine ho_getR rfl (by first | rfl | assumption) rfl (by first | assumption | exact hR _ _ _ rfl) ?_
    refine ho_getR rfl (by first | rfl | assumption) rfl (by first | assumption | exact hR _ _ _ rfl) ?_
    refine am_iload rfl rfl ?_
    refine ho_laload rfl rfl (by omega) ?_
    rw [hV.1 i (by omega)]
    refine am_lload_n rfl rfl ?_
    refine am_lcmp rfl ?_
    refine am_if_ne rfl (fun q => skip (fun y => q (lg_cmp_0.mpr (by rw [y.2])))) (fun q => ?_)
    have hv : v i = z := (lJ_eq (XV_lt hV i) (by omega)).mp (lg_cmp_0.mp q)
    refine am_aload_n rfl rfl ?_
    refine am_iload rfl rfl ?_
    refine ho_cv1 rfl (by first | rfl | assumption) rfl (Nat.le_of_ble_eq_true rfl) (Nat.le_of_ble_eq_true rfl) (c_T_putText (d := d + 1) hR i (by omega) (Tk o i) _ (tx hF (by omega) (by omega))) ?_
    rintro r h' ⟨rfl, mi', rfl, g1, g2⟩
    have F2 := hF.tr g2
    have take : Pk (tb m) v z o (i + 1) (some i) → am_T l (d + 4) M_T_pickFirst 81 [some (.ref 102), some (.long m), none, some (.long (lJ z)), none, some (.int (bsI b)), some (.int (nI i))] [] (hm mi' ml mr) 0 0 (fun r h' => ∃ mi' b, r = some (.int (nI (Tk o b).length)) ∧ h' = hm mi' ml mr ∧ Pk (tb m) v z o cnt (some b) ∧ TL mi' (Tk o b) ∧ Ftt mi0 mi') := by
      intro h
      refine am_iload rfl rfl ?_
      refine am_goto rfl ?_
      refine am_istore rfl (Nat.le_of_ble_eq_true rfl) ?_
      show am_T _ _ _ _ [_, _, _, _, _, some _, _] _ _ _ _ _
      refine am_iinc rfl rfl (nI_inc1 _) ?_
      show am_T _ _ _ _ [_, _, _, _, _, _, some _] _ _ _ _ _
      refine am_goto rfl ?_
      exact ih (i + 1) mi' (some i) (by omega) h F2
    refine am_iload rfl rfl ?_
    refine am_iconst (v := -1) rfl (by decide) ?_
    cases b with
    | none =>
      refine am_icmp_eq rfl (fun _ => take (Pk_take0 hP hp hv)) (fun q => absurd rfl q)
    | some b =>
      obtain ⟨b1, b2, b3, b4⟩ := id hP
      show am_T _ _ _ _ [_, _, _, _, _, some (.int (nI b)), _] _ _ _ _ _
      refine am_icmp_eq rfl (fun q => absurd q (nI_nm1 (by omega))) (fun _ => ?_)
      refine am_aload_n rfl rfl ?_
      refine am_iload rfl rfl ?_
      have h36 : (Tk o i).length ≤ 36 := (tx hF (k := i) (by omega) (by omega)).1
      refine ho_cv1 rfl (by first | rfl | assumption) rfl (Nat.le_of_ble_eq_true rfl) (Nat.le_of_ble_eq_true rfl) (c_T_comesBefore hR b (by omega) (Tk o b) (Tk o i) h36 mi' (tx F2 (by omega) (by omega)) g1) ?_
      rintro r h' ⟨rfl, rfl⟩
      refine am_if_eq rfl (fun q => ?_) (fun q => take (Pk_take hP hp hv ((bI_ne _).mp q)))
      refine am_iload rfl rfl ?_
      refine am_istore rfl (Nat.le_of_ble_eq_true rfl) ?_
      show am_T _ _ _ _ [_, _, _, _, _, some _, _] _ _ _ _ _
      refine am_iinc rfl rfl (nI_inc1 _) ?_
      show am_T _ _ _ _ [_, _, _, _, _, _, some _] _ _ _ _ _
      refine am_goto rfl ?_
      exact ih (i + 1) mi' (some b) (by omega) (Pk_keep hP ((bI_eq _).mp q)) F2
theorem c_T_pickFirst (hR : SR mr) (hS : okS S) (mi : Nat → Nat → Int32) (hK : KF S ip n cnt L v mi ml) (tk : Bool) (h1 : mi 102 1 = bI tk) (h2 : tk = true → TXK S cnt mi ml) (m : Int64) (z : Nat) (hz : z ≤ 12) (hex : ∃ k, k < cnt ∧ tb m k = true ∧ v k = z) : am_T l (d + 4) M_T_pickFirst 0 [some (.ref 102), some (.long m), none, some (.long (lJ z)), none, none, none] [] (hm mi ml mr) 0 0 (fun r h' => ∃ mi' o b, r = some (.int (nI (Tk o b).length)) ∧ h' = hm mi' ml mr ∧ Dn S (ml 94) cnt v 13 o ∧ Pk (tb m) v z o cnt (some b) ∧ TL mi' (Tk o b) ∧ mi' 102 1 = bI true ∧ TXK S cnt mi' ml ∧ ∀ a, a ≠ 102 → a ≠ 103 → a ≠ 104 → a ≠ 105 → mi' a = mi a) := by
  have hE := hK.ke hS
  have hV := hK.2.2.2.2.1
  have hFi := hK.2.2.2.2.2
  have go : ∀ (mi1 : Nat → Nat → Int32) (o : Nat → Option (List Nat)), Dn S (ml 94) cnt v 13 o → TX (mi1 103) (mi1 104) cnt v o → mi1 102 1 = bI true → (∀ a, a ≠ 102 → a ≠ 103 → a ≠ 104 → a ≠ 105 → mi1 a = mi a) → am_T l (d + 4) M_T_pickFirst 16 [some (.ref 102), some (.long m), none, some (.long (lJ z)), none, none, none] [] (hm mi1 ml mr) 0 0 (fun r h' => ∃ mi' o b, r = some (.int (nI (Tk o b).length)) ∧ h' = hm mi' ml mr ∧ Dn S (ml 94) cnt v 13 o ∧ Pk (tb m) v z o cnt (some b) ∧ TL mi' (Tk o b) ∧ mi' 102 1 = bI true ∧ TXK S cnt mi' ml ∧ ∀ a, a ≠ 102 → a ≠ 103 → a ≠ 104 → a ≠ 105 → mi' a = mi a) := by
    intro mi1 o hD hT hk hf
    have hK1 : KF S ip n cnt L v mi1 ml := by
      obtain ⟨k1, k2, k3, k4⟩ := hK
      have e : ∀ a, a < 102 → mi1 a = mi a := fun a ha => hf a (by omega) (by omega) (by omega) (by omega)
      refine ⟨repX_to k1 (e 84 (by decide)) (e 85 (by decide)) (e 86 (by decide)) (fun _ _ _ => rfl), ?_, ?_, k4⟩
      · unfold XK at k2 ⊢
        rw [e 93 (by decide), e 96 (by decide)]
        exact k2
      · unfold XAll LL XJ at k3 ⊢
        rw [e 96 (by decide), e 98 (by decide), e 99 (by decide)]
        exact k3
    refine am_iconst (v := -1) rfl (by decide) ?_
    refine am_istore rfl (Nat.le_of_ble_eq_true rfl) ?_
    show am_T _ _ _ _ [_, _, _, _, _, some _, _] _ _ _ _ _
    refine am_iconst (v := nI 0) rfl (by decide) ?_
    refine am_istore rfl (Nat.le_of_ble_eq_true rfl) ?_
    show am_T _ _ _ _ [_, _, _, _, _, _, some _] _ _ _ _ _
    refine am_T.to (c_T_pick_loop hR hS mi1 hK1 o hD hT m z hz hex cnt 0 mi1 none (by omega) Pk_0 Ftt.rf) ?_
    rintro r h' ⟨mi', b, rfl, rfl, g1, g2, g3⟩
    refine ⟨mi', o, b, rfl, rfl, hD, g1, g2, by rw [g3.2 1 (by decide)]; exact hk, TXK.of hE hV.2.1 hFi hD ?_, fun a a1 a2 a3 a4 => (g3.1 a a1 a4).trans (hf a a1 a2 a3 a4)⟩
    rw [g3.1 103 (by decide) (by decide), g3.1 104 (by decide) (by decide)]
    exact hT
  refine am_aload_n rfl rfl ?_
  refine ho_getI rfl (by first | rfl | assumption) rfl ?_
  rw [h1]
  cases tk with
  | true =>
    refine am_if_ne rfl (fun _ => ?_) (fun q => by cases q)
    obtain ⟨o, hD, hT⟩ := (h2 rfl).dn hE hV.2.1 hFi
    exact go mi o hD hT h1 (fun _ _ _ _ _ => rfl)
  | false =>
    refine am_if_ne rfl (fun q => absurd rfl q) (fun _ => ?_)
    refine am_aload_n rfl rfl ?_
    refine ho_cv0 rfl (by first | rfl | assumption) rfl (Nat.le_of_ble_eq_true rfl) (Nat.le_of_ble_eq_true rfl) (c_T_findTexts hR hS mi hK) ?_
    rintro r h' ⟨rfl, mi1, o, rfl, g1, g2, g3⟩
    refine am_aload_n rfl rfl ?_
    refine am_iconst (v := nI 1) rfl (by decide) ?_
    refine ho_putI rfl (by first | rfl | assumption) rfl (by first | rfl | assumption) ?_
    refine go _ o g1 ?_ (by simp [up2]; rfl) (fun a a1 a2 a3 a4 => by rw [up2_off _ _ _ a1]; exact g3.1 a a1 a2 a3 a4)
    rw [up2_off _ _ _ (by decide), up2_off _ _ _ (by decide)]
    exact TX.of g1 g2
end S6
