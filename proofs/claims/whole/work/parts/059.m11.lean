/-! the reference: takeNodes, validText -/
theorem edp_le {N : Nd} (h : okN 0 N) {k : Nat} (hk : k ≤ N.length) : edp (N.take k) ≤ k := by
  cases k with
  | zero => exact Nat.le_refl _
  | succ k =>
    rw [edp_take N (by omega)]
    have h1 := dp_le N 0 k h (by omega)
    have h2 : lb (cd N k) ≤ 1 := by unfold lb; split <;> omega
    omega
/-- the reference's nodes hold the first k of N, at depth e -/
def TN (N : Nd) (k e : Nat) (mi : Nat → Nat → Int32) : Prop := mi 116 25 = nI k ∧ (∀ j, j < k → mi 133 j = nI (kn (cd N j) - 1) ∧ mi 134 j = nI (pl N j (dp N j)) ∧ mi 135 j = noI (ctk N k j) ∧ mi 136 j = noI (bhk N k j)) ∧ ∀ a, a < e → ∃ b, mi 138 a = nI b ∧ AV N k a b
def Ft (mi mi' : Nat → Nat → Int32) : Prop := (∀ a, a ≠ 116 → a ≠ 133 → a ≠ 134 → a ≠ 135 → a ≠ 136 → a ≠ 138 → mi' a = mi a) ∧ ∀ j, j ≠ 25 → mi' 116 j = mi 116 j
theorem Ft.rf {mi : Nat → Nat → Int32} : Ft mi mi := ⟨fun _ _ _ _ _ _ _ => rfl, fun _ _ => rfl⟩
theorem Ft.tr {mi mi' mi'' : Nat → Nat → Int32} (h : Ft mi mi') (h' : Ft mi' mi'') : Ft mi mi'' :=
  ⟨fun a h1 h2 h3 h4 h5 h6 => (h'.1 a h1 h2 h3 h4 h5 h6).trans (h.1 a h1 h2 h3 h4 h5 h6), fun j hj => (h'.2 j hj).trans (h.2 j hj)⟩
/-- the cell of a text -/
def vc (v : Bool) : Nat := if v then 121 else 120
theorem noI_neg (o : Option Nat) (h : ∀ k, o = some k → k < 2 ^ 31) : noI o < 0 ↔ o = none := by
  cases o with
  | none =>
    show (-1 : Int32) < 0 ↔ _
    simp
  | some k =>
    constructor
    · intro z
      exact absurd z (nI_pos (h k rfl))
    · intro z
      cases z
def tU (mi : Nat → Nat → Int32) (k c i : Nat) : Nat → Nat → Int32 := up2 (up2 (up2 (up2 mi 133 k (nI (kn c - 1))) 134 k (nI i)) 135 k (-1)) 136 k (-1)
section M11
variable {l : Launch} {d : Nat} {mr : Nat → Nat → Option Nat} {ml : Nat → Nat → Int64}
theorem c_m_tn_c (hR : SR mr) (v : Bool) (T : List Nat) (mi : Nat → Nat → Int32) (hT : txt mi (vc v) T) (h60 : T.length ≤ if v then 60 else 36) (i : Nat) (hi : i < T.length) (a b : Option Value) {Q : Option Value → am_H → Prop}
    (k : am_T l d M_m_takeNodes 62 [some (.ref 116), some (.int (bI v)), some (.int (nI T.length)), a, b, some (.int (nI i)), some (.int (nI (T.getD i 0))), none] [] (hm mi ml mr) 0 0 Q) :
    am_T l d M_m_takeNodes 33 [some (.ref 116), some (.int (bI v)), some (.int (nI T.length)), a, b, some (.int (nI i)), none, none] [] (hm mi ml mr) 0 0 Q := by
  cases v with
  | true =>
    have h60 : T.length ≤ 60 := h60
    refine am_iload rfl rfl ?_
    refine am_iload_n rfl rfl ?_
    refine ho_icmp_ge rfl (by omega) (by omega) (fun z => absurd z (by omega)) (fun _ => ?_)
    refine am_iload_n rfl rfl ?_
    refine am_if_eq rfl (fun z => by cases z) (fun _ => ?_)
    refine am_aload_n rfl rfl ?_
    refine ho_getR rfl (by first | rfl | assumption) rfl (by first | assumption | exact hR _ _ _ rfl) ?_
    refine am_iload rfl rfl ?_
    refine ho_caload rfl (by first | rfl | assumption) (by omega) ?_
    rw [show mi 121 i = nI (T.getD i 0) from hT i hi]
    refine am_goto rfl ?_
    refine am_istore rfl (Nat.le_of_ble_eq_true rfl) ?_
    show am_T _ _ _ _ [_, _, _, _, _, _, some _, _] _ _ _ _ _
    exact k
  | false =>
    have h60 : T.length ≤ 36 := h60
    refine am_iload rfl rfl ?_
    refine am_iload_n rfl rfl ?_
    refine ho_icmp_ge rfl (by omega) (by omega) (fun z => absurd z (by omega)) (fun _ => ?_)
    refine am_iload_n rfl rfl ?_
    refine am_if_eq rfl (fun _ => ?_) (fun z => absurd rfl z)
    refine am_aload_n rfl rfl ?_
    refine ho_getR rfl (by first | rfl | assumption) rfl (by first | assumption | exact hR _ _ _ rfl) ?_
    refine am_iload rfl rfl ?_
    refine ho_caload rfl (by first | rfl | assumption) (by omega) ?_
    rw [show mi 120 i = nI (T.getD i 0) from hT i hi]
    refine am_istore rfl (Nat.le_of_ble_eq_true rfl) ?_
    show am_T _ _ _ _ [_, _, _, _, _, _, some _, _] _ _ _ _ _
    exact k
theorem tU_off {mi : Nat → Nat → Int32} {k c i a : Nat} (h1 : a ≠ 133) (h2 : a ≠ 134) (h3 : a ≠ 135) (h4 : a ≠ 136) : tU mi k c i a = mi a := by
  unfold tU
  rw [up2_off _ _ _ h4, up2_off _ _ _ h3, up2_off _ _ _ h2, up2_off _ _ _ h1]
/-- a node's four entries -/
theorem c_m_tn_83 (hR : SR mr) (v : Bool) (mi : Nat → Nat → Int32) (k c i s : Nat) (a b : Option Value) (hc : c < 127) (hk : mi 116 25 = nI k) (hk20 : k < 20) {Q : Option Value → am_H → Prop}
    (h : am_T l (d + 1) M_m_takeNodes 142 [some (.ref 116), some (.int (bI v)), some (.int (nI s)), a, b, some (.int (nI i)), some (.int (nI c)), none] [] (hm (tU mi k c i) ml mr) 0 0 Q) :
    am_T l (d + 1) M_m_takeNodes 83 [some (.ref 116), some (.int (bI v)), some (.int (nI s)), a, b, some (.int (nI i)), some (.int (nI c)), none] [] (hm mi ml mr) 0 0 Q := by
  have s110 : ∀ t : Nat, t = kn c - 1 → am_T l (d + 1) M_m_takeNodes 110 [some (.ref 116), some (.int (bI v)), some (.int (nI s)), a, b, some (.int (nI i)), some (.int (nI c)), none] [.int (nI t), .int (nI k), .ref 133] (hm mi ml mr) 0 0 Q := by
    intro t ht
    refine ho_iastore rfl (by first | rfl | assumption) (by omega) ?_
    refine am_aload_n rfl rfl ?_
    refine ho_getR rfl (by first | rfl | assumption) rfl (by first | assumption | exact hR _ _ _ rfl) ?_
    refine am_aload_n rfl rfl ?_
    refine ho_getI rfl (by first | rfl | assumption) rfl ?_
    rw [up2_off _ _ _ (show (116 : Nat) ≠ 133 by decide), hk]
    refine am_iload rfl rfl ?_
    refine ho_iastore rfl (by first | rfl | assumption) (by omega) ?_
    refine am_aload_n rfl rfl ?_
    refine ho_getR rfl (by first | rfl | assumption) rfl (by first | assumption | exact hR _ _ _ rfl) ?_
    refine am_aload_n rfl rfl ?_
    refine ho_getI rfl (by first | rfl | assumption) rfl ?_
    rw [up2_off _ _ _ (show (116 : Nat) ≠ 134 by decide), up2_off _ _ _ (show (116 : Nat) ≠ 133 by decide), hk]
    refine am_iconst (v := -1) rfl (by decide) ?_
    refine ho_iastore rfl (by first | rfl | assumption) (by omega) ?_
    refine am_aload_n rfl rfl ?_
    refine ho_getR rfl (by first | rfl | assumption) rfl (by first | assumption | exact hR _ _ _ rfl) ?_
    refine am_aload_n rfl rfl ?_
    refine ho_getI rfl (by first | rfl | assumption) rfl ?_
    rw [up2_off _ _ _ (show (116 : Nat) ≠ 135 by decide), up2_off _ _ _ (show (116 : Nat) ≠ 134 by decide), up2_off _ _ _ (show (116 : Nat) ≠ 133 by decide), hk]
    refine am_iconst (v := -1) rfl (by decide) ?_
    refine ho_iastore rfl (by first | rfl | assumption) (by omega) ?_
    rw [ht]
    exact h
  refine am_aload_n rfl rfl ?_
  refine ho_getR rfl (by first | rfl | assumption) rfl (by first | assumption | exact hR _ _ _ rfl) ?_
  refine am_aload_n rfl rfl ?_
  refine ho_getI rfl (by first | rfl | assumption) rfl ?_
  rw [hk]
  refine am_iload rfl rfl ?_
  refine ho_cs1 rfl rfl (Nat.le_of_ble_eq_true rfl) (Nat.le_of_ble_eq_true rfl) (c_m_label c (by omega)) ?_
  rintro r h' ⟨rfl, rfl⟩
  refine am_if_eq rfl (fun z => ?_) (fun z => ?_)
  · refine am_iconst (v := nI 0) rfl (by decide) ?_
    exact s110 0 (by unfold kn; rw [(bI_eq _).mp z]; rfl)
  · have z := (bI_ne _).mp z
    have hl : 97 ≤ c ∧ c ≤ 100 := of_decide_eq_true z
    refine am_iload rfl rfl ?_
    refine am_bipush (v := nI 97) rfl (by decide) ?_
    first | refine ho_subn rfl (by omega) ?_ | refine am_isub rfl ?_
    refine am_iconst (v := nI 1) rfl (by decide) ?_
    first | refine ho_addn rfl ?_ | refine am_iadd rfl ?_
    refine am_goto rfl ?_
    exact s110 _ (by unfold kn; rw [if_pos z]; omega)
theorem c_m_tn_loop (hR : SR mr) (v : Bool) (N : Nd) (hN : okN 0 N) (h20 : N.length ≤ 20) (h60 : (tx N 0).length ≤ if v then 60 else 36) (mi0 : Nat → Nat → Int32) (hT0 : txt mi0 (vc v) (tx N 0)) {Q : Option Value → am_H → Prop}
    (hout : ∀ mi : Nat → Nat → Int32, TN N N.length 0 mi → Ft mi0 mi → am_T l (d + 1) M_m_takeNodes 231 [some (.ref 116), some (.int (bI v)), none, none, none, none, none, none] [] (hm mi ml mr) 0 0 Q) :
    ∀ (f k e : Nat) (o : Option Nat) (mi : Nat → Nat → Int32), (tx N 0).length ≤ pl N k e + f → k ≤ N.length → nxd (N.drop k) 0 ≤ e → e ≤ edp (N.take k) → TN N k e mi → PV N k e o → Ft mi0 mi →
      am_T l (d + 1) M_m_takeNodes 33 [some (.ref 116), some (.int (bI v)), some (.int (nI (tx N 0).length)), some (.int (nI e)), some (.int (noI o)), some (.int (nI (pl N k e))), none, none] [] (hm mi ml mr) 0 0 Q := by
  have h60' : (tx N 0).length ≤ 60 := by
    cases v
    · have : (tx N 0).length ≤ 36 := h60
      omega
    · exact h60
  intro f
  induction f with
  | zero =>
    intro k e o mi hf hk h1 h2 hTN hPV hF
    have hend : k = N.length ∧ e = 0 := by
      rcases Nat.lt_or_ge (nxd (N.drop k) 0) e with z | z
      · have := (pl_close N z h2).2.1
        omega
      · rcases Nat.lt_or_ge k N.length with y | y
        · have h3 := nxd_at N y
          have h4 : e = dp N k := by omega
          subst h4
          have := (pl_node N hN y).2.1
          omega
        · have := nxd_end N y
          exact ⟨by omega, by omega⟩
    obtain ⟨rfl, rfl⟩ := hend
    rw [pl_end]
    refine am_iload rfl rfl ?_
    refine am_iload_n rfl rfl ?_
    refine ho_icmp_ge rfl (by omega) (by omega) (fun _ => ?_) (fun z => absurd (by omega) z)
    refine am_drops [2, 3, 4, 5] ?_
    exact hout mi hTN hF
  | succ f ih =>
    intro k e o mi hf hk h1 h2 hTN hPV hF
    have hek : e ≤ k := Nat.le_trans h2 (edp_le hN hk)
    have hT : txt mi (vc v) (tx N 0) := by
      intro i hi
      rw [hF.1 (vc v) (by unfold vc; split <;> decide) (by unfold vc; split <;> decide) (by unfold vc; split <;> decide) (by unfold vc; split <;> decide) (by unfold vc; split <;> decide) (by unfold vc; split <;> decide)]
      exact hT0 i hi
    rcases Nat.lt_or_ge (nxd (N.drop k) 0) e with z | z
    · obtain ⟨p1, p2, p3⟩ := pl_close N z h2
      refine c_m_tn_c hR v _ mi hT h60 _ p2 _ _ ?_
      rw [p1]
      refine am_iload rfl rfl ?_
      refine am_bipush (v := nI 93) rfl (by decide) ?_
      refine ho_icmp_ne rfl (by omega) (by omega) (fun y => absurd rfl y) (fun _ => ?_)
      obtain ⟨e', rfl⟩ : ∃ e', e = e' + 1 := ⟨e - 1, by omega⟩
      refine am_iinc rfl rfl (nI_dec1 _) ?_
      show am_T _ _ _ _ [_, _, _, some _, _, _, _, _] _ _ _ _ _
      refine am_aload_n rfl rfl ?_
      refine ho_getR rfl (by first | rfl | assumption) rfl (by first | assumption | exact hR _ _ _ rfl) ?_
      refine am_iload_n rfl rfl ?_
      refine ho_iaload rfl rfl (by omega) ?_
      obtain ⟨b, hb, hAV⟩ := hTN.2.2 e' (by omega)
      rw [hb]
      refine am_istore rfl (Nat.le_of_ble_eq_true rfl) ?_
      show am_T _ _ _ _ [_, _, _, _, some _, _, _, _] _ _ _ _ _
      refine am_goto rfl ?_
      refine am_iinc rfl rfl (nI_inc1 _) ?_
      show am_T _ _ _ _ [_, _, _, _, _, some _, _, _] _ _ _ _ _
      refine am_goto rfl ?_
      refine am_drops [6] ?_
      have := ih k e' (some b) mi (by rw [Nat.add_sub_cancel] at p3; omega) hk (by omega) (by omega) ⟨hTN.1, hTN.2.1, fun a ha => hTN.2.2 a (by omega)⟩ hAV hF
      rw [Nat.add_sub_cancel] at p3
      rw [p3] at this
      exact this
    · rcases Nat.lt_or_ge k N.length with y | y
      case inr =>
        have h3 := nxd_end N y
        have hk' : k = N.length := by omega
        have he : e = 0 := by omega
        subst hk' he
        rw [pl_end]
        refine am_iload rfl rfl ?_
        refine am_iload_n rfl rfl ?_
        refine ho_icmp_ge rfl (by omega) (by omega) (fun _ => ?_) (fun z => absurd (by omega) z)
        refine am_drops [2, 3, 4, 5] ?_
        exact hout mi hTN hF
      have h3 := nxd_at N y
      have h4 : dp N k = e := by omega
      subst h4
      obtain ⟨p1, p2, p3, -⟩ := pl_node N hN y
      have hnod := cd_nod N 0 k hN y
      have hbr := nod_br hnod
      refine c_m_tn_c hR v _ mi hT h60 _ (by omega) _ _ ?_
      rw [p1]
      refine am_iload rfl rfl ?_
      refine am_bipush (v := nI 93) rfl (by decide) ?_
      refine ho_icmp_ne rfl (by omega) (by omega) (fun _ => ?_) (fun y => absurd y hbr.2.1)
      refine c_m_tn_83 hR v mi k _ _ _ _ _ (by omega) hTN.1 (by omega) ?_
      -- behind the link
      have s182 : ∀ mi' : Nat → Nat → Int32, (∀ a, a ≠ 135 → a ≠ 136 → mi' a = tU mi k (cd N k) (pl N k (dp N k)) a) → (∀ j, j < k + 1 → mi' 135 j = noI (ctk N (k + 1) j) ∧ mi' 136 j = noI (bhk N (k + 1) j)) →
          am_T l (d + 1) M_m_takeNodes 182 [some (.ref 116), some (.int (bI v)), some (.int (nI (tx N 0).length)), some (.int (nI (dp N k))), some (.int (noI o)), some (.int (nI (pl N k (dp N k)))), some (.int (nI (cd N k))), none] [] (hm mi' ml mr) 0 0 Q := by
        intro mi' g1 g2
        have g116 : mi' 116 = mi 116 := by rw [g1 116 (by decide) (by decide), tU_off (by decide) (by decide) (by decide) (by decide)]
        have g138 : mi' 138 = mi 138 := by rw [g1 138 (by decide) (by decide), tU_off (by decide) (by decide) (by decide) (by decide)]
        have hF' : Ft mi0 mi' := by
          refine hF.tr ⟨fun a q1 q2 q3 q4 q5 _ => ?_, fun j _ => by rw [g116]⟩
          rw [g1 a q4 q5, tU_off q2 q3 q4 q5]
        have g3 : ∀ j, j < k + 1 → mi' 133 j = nI (kn (cd N j) - 1) ∧ mi' 134 j = nI (pl N j (dp N j)) := by
          intro j hj
          rw [g1 133 (by decide) (by decide), g1 134 (by decide) (by decide)]
          rcases Nat.lt_succ_iff_lt_or_eq.mp hj with q | q
          · have := hTN.2.1 j q
            unfold tU up2
            rw [if_neg (by omega), if_neg (by omega), if_neg (by omega), if_neg (by omega), if_neg (by omega), if_neg (by omega), if_neg (by omega), if_neg (by omega)]
            exact ⟨this.1, this.2.1⟩
          · subst q
            unfold tU
            exact ⟨by simp [up2], by simp [up2]⟩
        refine am_aload_n rfl rfl ?_
        refine ho_getI rfl (by first | rfl | assumption) rfl ?_
        rw [g116, hTN.1]
        refine am_istore rfl (Nat.le_of_ble_eq_true rfl) ?_
        show am_T _ _ _ _ [_, _, _, _, some _, _, _, _] _ _ _ _ _
        refine am_iload rfl rfl ?_
        refine ho_cs1 rfl rfl (Nat.le_of_ble_eq_true rfl) (Nat.le_of_ble_eq_true rfl) (c_m_label (cd N k) (by omega)) ?_
        rintro r h' ⟨rfl, rfl⟩
        refine am_if_eq rfl (fun q => ?_) (fun q => ?_)
        · have q := (bI_eq _).mp q
          have hlb : lb (cd N k) = 0 := by unfold lb; rw [q]; rfl
          rw [hlb] at p2 p3
          refine am_aload_n rfl rfl ?_
          refine am_dup rfl rfl ?_
          refine ho_getI rfl (by first | rfl | assumption) rfl ?_
          rw [g116, hTN.1]
          refine am_iconst (v := nI 1) rfl (by decide) ?_
          first | refine ho_addn rfl ?_ | refine am_iadd rfl ?_
          refine ho_putI rfl (by first | rfl | assumption) rfl rfl ?_
          refine am_iinc rfl rfl (nI_inc1 _) ?_
          show am_T _ _ _ _ [_, _, _, _, _, some _, _, _] _ _ _ _ _
          refine am_goto rfl ?_
          refine am_drops [6] ?_
          have := ih (k + 1) (dp N k) (some k) (up2 mi' 116 25 (nI (k + 1))) (by rw [show pl N (k + 1) (dp N k) = pl N k (dp N k) + 1 from p3]; omega) (by omega) ?_ ?_ ⟨by simp [up2], fun j hj => ?_, fun a ha => ?_⟩ ?_ (hF'.tr ⟨fun a q1 _ _ _ _ _ => up2_off _ _ _ q1, fun j hj => by unfold up2; rw [if_neg (by omega)]⟩)
          · rw [show pl N (k + 1) (dp N k) = pl N k (dp N k) + 1 from p3] at this
            exact this
          · rcases Nat.lt_or_ge (k + 1) N.length with w | w
            · rw [nxd_at N w]
              have := dp_step N 0 k hN w
              omega
            · rw [nxd_end N w]
              omega
          · rw [edp_take N y]
            omega
          · rw [up2_off _ _ _ (by decide), up2_off _ _ _ (by decide), up2_off _ _ _ (by decide), up2_off _ _ _ (by decide)]
            exact ⟨(g3 j hj).1, (g3 j hj).2, (g2 j hj).1, (g2 j hj).2⟩
          · obtain ⟨b, hb, hAV⟩ := hTN.2.2 a ha
            refine ⟨b, by rw [up2_off _ _ _ (by decide), g138]; exact hb, by have := hAV.1; omega, hAV.2.1, fun i i1 i2 => ?_⟩
            rcases Nat.lt_succ_iff_lt_or_eq.mp i2 with w | w
            · exact hAV.2.2 i i1 w
            · subst w
              exact ha
          · exact ⟨by omega, rfl, fun i i1 i2 => by omega⟩
        · have q := (bI_ne _).mp q
          have hlb : lb (cd N k) = 1 := by unfold lb; rw [q]; rfl
          rw [hlb] at p2 p3
          refine am_aload_n rfl rfl ?_
          refine ho_getR rfl (by first | rfl | assumption) rfl (by first | assumption | exact hR _ _ _ rfl) ?_
          refine am_iload_n rfl rfl ?_
          refine am_aload_n rfl rfl ?_
          refine ho_getI rfl (by first | rfl | assumption) rfl ?_
          rw [g116, hTN.1]
          refine ho_iastore rfl (by first | rfl | assumption) (by omega) ?_
          refine am_iinc rfl rfl (nI_inc1 _) ?_
          show am_T _ _ _ _ [_, _, _, some _, _, _, _, _] _ _ _ _ _
          refine am_iconst (v := -1) rfl (by decide) ?_
          refine am_istore rfl (Nat.le_of_ble_eq_true rfl) ?_
          show am_T _ _ _ _ [_, _, _, _, some _, _, _, _] _ _ _ _ _
          refine am_iinc rfl rfl (nI_inc1 _) ?_
          show am_T _ _ _ _ [_, _, _, _, _, some _, _, _] _ _ _ _ _
          refine am_aload_n rfl rfl ?_
          refine am_dup rfl rfl ?_
          refine ho_getI rfl (by first | rfl | assumption) rfl ?_
          rw [up2_off _ _ _ (show (116 : Nat) ≠ 138 by decide), g116, hTN.1]
          refine am_iconst (v := nI 1) rfl (by decide) ?_
          first | refine ho_addn rfl ?_ | refine am_iadd rfl ?_
          refine ho_putI rfl (by first | rfl | assumption) rfl rfl ?_
          refine am_iinc rfl rfl (nI_inc1 _) ?_
          show am_T _ _ _ _ [_, _, _, _, _, some _, _, _] _ _ _ _ _
          refine am_goto rfl ?_
          refine am_drops [6] ?_
          have := ih (k + 1) (dp N k + 1) none (up2 (up2 mi' 138 (dp N k) (nI k)) 116 25 (nI (k + 1))) (by rw [show pl N (k + 1) (dp N k + 1) = pl N k (dp N k) + 1 + 1 from p3]; omega) (by omega) ?_ ?_ ⟨by simp [up2], fun j hj => ?_, fun a ha => ?_⟩ ?_ (hF'.tr ⟨fun a q1 _ _ _ _ q6 => by rw [up2_off _ _ _ q1, up2_off _ _ _ q6], fun j hj => by unfold up2; rw [if_neg (by omega), if_neg (by omega)]⟩)
          · rw [show pl N (k + 1) (dp N k + 1) = pl N k (dp N k) + 1 + 1 from p3] at this
            exact this
          · rcases Nat.lt_or_ge (k + 1) N.length with w | w
            · rw [nxd_at N w]
              have := dp_step N 0 k hN w
              omega
            · rw [nxd_end N w]
              omega
          · rw [edp_take N y]
            omega
          · rw [up2_off _ _ _ (show (133 : Nat) ≠ 116 by decide), up2_off _ _ _ (show (134 : Nat) ≠ 116 by decide), up2_off _ _ _ (show (135 : Nat) ≠ 116 by decide), up2_off _ _ _ (show (136 : Nat) ≠ 116 by decide), up2_off _ _ _ (show (133 : Nat) ≠ 138 by decide), up2_off _ _ _ (show (134 : Nat) ≠ 138 by decide), up2_off _ _ _ (show (135 : Nat) ≠ 138 by decide), up2_off _ _ _ (show (136 : Nat) ≠ 138 by decide)]
            exact ⟨(g3 j hj).1, (g3 j hj).2, (g2 j hj).1, (g2 j hj).2⟩
          · rcases Nat.lt_succ_iff_lt_or_eq.mp ha with w | w
            · obtain ⟨b, hb, hAV⟩ := hTN.2.2 a w
              refine ⟨b, ?_, by have := hAV.1; omega, hAV.2.1, fun i i1 i2 => ?_⟩
              · rw [up2_off _ _ _ (by decide), ← hb, ← g138]
                unfold up2
                rw [if_neg (by omega)]
              · rcases Nat.lt_succ_iff_lt_or_eq.mp i2 with u | u
                · exact hAV.2.2 i i1 u
                · subst u
                  exact w
            · subst w
              refine ⟨k, by simp [up2], by omega, rfl, fun i i1 i2 => by omega⟩
          · right
            show dp N (k + 1 - 1) < dp N k + 1
            rw [Nat.add_sub_cancel]
            omega
      have hself : ∀ j, j = k → tU mi k (cd N k) (pl N k (dp N k)) 135 j = noI (ctk N (k + 1) j) ∧ tU mi k (cd N k) (pl N k (dp N k)) 136 j = noI (bhk N (k + 1) j) := by
        intro j hj
        subst hj
        rw [ctk_self, bhk_self]
        unfold tU
        exact ⟨by simp [up2]; rfl, by simp [up2]; rfl⟩
      have hlow : ∀ j, j < k → tU mi k (cd N k) (pl N k (dp N k)) 135 j = noI (ctk N k j) ∧ tU mi k (cd N k) (pl N k (dp N k)) 136 j = noI (bhk N k j) := by
        intro j hj
        have := hTN.2.1 j hj
        unfold tU up2
        rw [if_neg (by omega), if_neg (by omega), if_neg (by omega), if_neg (by omega), if_neg (by omega), if_neg (by omega), if_neg (by omega), if_neg (by omega)]
        exact ⟨this.2.2.1, this.2.2.2⟩
      refine am_iload rfl rfl ?_
      cases o with
      | some a =>
        have ha : a < k := hPV.1
        refine am_if_lt rfl (fun w => absurd w (nI_pos (by omega))) (fun _ => ?_)
        show am_T l (d + 1) M_m_takeNodes 147 [_, _, _, _, some (.int (nI a)), _, _, _] _ _ _ _ _
        refine am_aload_n rfl rfl ?_
        refine ho_getR rfl (by first | rfl | assumption) rfl (by first | assumption | exact hR _ _ _ rfl) ?_
        refine am_iload rfl rfl ?_
        refine am_aload_n rfl rfl ?_
        refine ho_getI rfl (by first | rfl | assumption) rfl ?_
        rw [tU_off (by decide) (by decide) (by decide) (by decide), hTN.1]
        refine ho_iastore rfl (by first | rfl | assumption) (by omega) ?_
        refine am_goto rfl ?_
        refine s182 _ (fun b _ h2 => up2_off _ _ _ h2) (fun j hj => ?_)
        rw [up2_off _ _ _ (show (135 : Nat) ≠ 136 by decide)]
        rcases Nat.lt_succ_iff_lt_or_eq.mp hj with w | w
        · rw [PV_child hPV rfl w, PV_next hPV rfl w, if_neg (by simp)]
          refine ⟨(hlow j w).1, ?_⟩
          by_cases u : a = j
          · subst u
            rw [if_pos rfl]
            simp [up2]
            rfl
          · rw [if_neg (by simpa using u), ← (hlow j w).2]
            unfold up2
            rw [if_neg (by omega)]
        · have := hself j w
          refine ⟨this.1, ?_⟩
          rw [← this.2]
          unfold up2
          rw [if_neg (by omega)]
      | none =>
        refine am_if_lt rfl (fun _ => ?_) (fun w => absurd (by decide) w)
        refine am_iload_n rfl rfl ?_
        have hPV' : k = 0 ∨ dp N (k - 1) < dp N k := hPV
        by_cases hd0 : dp N k = 0
        · have hk0 : k = 0 := by
            rcases hPV' with w | w
            · exact w
            · omega
          refine am_if_le rfl (fun _ => ?_) (fun w => absurd (by rw [hd0]; decide) w)
          refine s182 _ (fun _ _ _ => rfl) (fun j hj => hself j (by omega))
        · refine am_if_le rfl (fun w => ?_) (fun _ => ?_)
          · exfalso
            have : nI (dp N k) ≤ nI 0 := w
            rw [nI_leI (by omega) (by omega)] at this
            omega
          have hk0 : ¬ k = 0 := by omega
          have hdk : dp N (k - 1) < dp N k := hPV'.resolve_left hk0
          obtain ⟨b, hb, hAV⟩ := hTN.2.2 (dp N k - 1) (by omega)
          have hbk : b + 1 = k := AV_last hAV (by omega)
          refine am_aload_n rfl rfl ?_
          refine ho_getR rfl (by first | rfl | assumption) rfl (by first | assumption | exact hR _ _ _ rfl) ?_
          refine am_aload_n rfl rfl ?_
          refine ho_getR rfl (by first | rfl | assumption) rfl (by first | assumption | exact hR _ _ _ rfl) ?_
          refine am_iload_n rfl rfl ?_
          refine am_iconst (v := nI 1) rfl (by decide) ?_
          first | refine ho_subn rfl (by omega) ?_ | refine am_isub rfl ?_
          refine ho_iaload rfl rfl (by omega) ?_
          rw [tU_off (a := 138) (by decide) (by decide) (by decide) (by decide), hb]
          refine am_aload_n rfl rfl ?_
          refine ho_getI rfl (by first | rfl | assumption) rfl ?_
          rw [tU_off (a := 116) (by decide) (by decide) (by decide) (by decide), hTN.1]
          refine ho_iastore rfl (by first | rfl | assumption) (by omega) ?_
          refine s182 _ (fun c h1 _ => up2_off _ _ _ h1) (fun j hj => ?_)
          rw [up2_off _ _ _ (show (136 : Nat) ≠ 135 by decide)]
          rcases Nat.lt_succ_iff_lt_or_eq.mp hj with w | w
          · rw [PV_child hPV rfl w, PV_next hPV rfl w, if_neg (c := none = some j) (by simp)]
            refine ⟨?_, (hlow j w).2⟩
            by_cases u : j + 1 = k
            · rw [if_pos ⟨rfl, u⟩, show j = b by omega]
              simp [up2]
              rfl
            · rw [if_neg (fun q => u q.2), ← (hlow j w).1]
              unfold up2
              rw [if_neg (by omega)]
          · have := hself j w
            refine ⟨?_, this.2⟩
            rw [← this.1]
            unfold up2
            rw [if_neg (by omega)]
end M11
