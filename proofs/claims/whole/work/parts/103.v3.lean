/-! the class: hasWrongCall, has -/
def bad1 (S : Rs) (F : Nat → Fn) (x y : Int64) (k : Nat) : Bool := decide (256 ≤ k) && (decide ((F ((k - 256) / 2)).2.2.length = 0) || !inN S (tb (if isX k then x else y)) (F ((k - 256) / 2)).1)
def bcl (S : Rs) (F : Nat → Fn) (x y : Int64) (K : List Nat) : Bool := K.any (bad1 S F x y)
section V3
variable {l : Launch} {d : Nat} {mi : Nat → Nat → Int32} {ml : Nat → Nat → Int64} {mr : Nat → Nat → Option Nat} {S : Rs} {ip : Nat → Nat} {n cnt L : Nat} {v : Nat → Nat} {F : Nat → Fn} {oF : Nat → Nat}
theorem c_C_hasWrongCall (hR : SR mr) (hoF : ∀ n, n < 4 → oF n ∈ fOb) (hrF : ∀ n, n < 3 → mr 45 n = some (oF n)) (hK0 : KF S ip n cnt L v mi ml) (hFA : ∀ φ, φ < 3 → mi (oF φ) 0 = bI (decide ((F φ).2.2.length ≠ 0)) ∧ ((F φ).2.2.length ≠ 0 → FA mi (oF φ) (F φ))) (hokF : ∀ φ, (F φ).2.2.length ≠ 0 → okF (F φ)) (f c w : Nat) (hT : CT mi f c w) (hc : c < cnt) (hw : w < cnt) (φ : Nat) (hφ : φ < 3) (j : Nat) (hj6 : j < 6) (st : Nat) (K : List Nat) (hP : CLP mi (oF φ) j st K) (h80 : st + K.length ≤ 80) (p : Nat) (hTk : ∀ k ∈ K, okTk p k) :
    am_T l (d + 1) M_C_hasWrongCall 0 [some (.ref 106), some (.ref (oF φ)), some (.int (nI j)), none, none, none, none] [] (hm mi ml mr) 0 0 (fun r h' => r = some (.int (bI (bcl S F (ml 94 c) (ml 94 w) K))) ∧ h' = hm mi ml mr) := by
  have hFn := isFn_of hR (hoF φ (by omega))
  have hob := fOb_r (hoF φ (by omega))
  have hkF := hFn.2.1
  obtain ⟨-, -, -, -, -, k4, k5, -, -, -, r7, r8⟩ := id hFn
  have h40 := hK0.2.1.1.1.2
  obtain ⟨t1, t2, t3⟩ := hT
  have loop : ∀ (K2 K1 : List Nat), K = K1 ++ K2 → am_T l (d + 1) M_C_hasWrongCall 7 [some (.ref 106), some (.ref (oF φ)), some (.int (nI j)), some (.int (nI (st + K1.length))), none, none, none] [] (hm mi ml mr) 0 0 (fun r h' => r = some (.int (bI (bcl S F (ml 94 c) (ml 94 w) K2))) ∧ h' = hm mi ml mr) := by
    intro K2
    induction K2 with
    | nil =>
      intro K1 hK
      have hl : K1.length = K.length := by rw [hK, List.append_nil]
      refine am_iload_n rfl rfl ?_
      refine am_aload_n rfl rfl ?_
      refine ho_getR rfl (by first | rfl | assumption) rfl (by first | assumption | exact hR _ _ _ rfl) ?_
      refine am_iload_n rfl rfl ?_
      refine am_iconst (v := nI 1) rfl (by decide) ?_
      first | refine ho_addn rfl ?_ | refine am_iadd rfl ?_
      refine ho_iaload rfl (by first | rfl | assumption) (by omega) ?_
      rw [hP.2.1, hl]
      refine ho_icmp_ge rfl (by omega) (by omega) (fun _ => ?_) (fun g => absurd (Nat.le_refl _) g)
      refine am_iconst (v := nI 0) rfl (by decide) ?_
      exact am_zreturn rfl rfl (Or.inl rfl) ⟨rfl, rfl⟩
    | cons k K2 ih =>
      intro K1 hK
      have hKl : K.length = K1.length + (K2.length + 1) := by rw [hK, List.length_append, List.length_cons]
      have hkK : k ∈ K := by rw [hK]; simp
      have hk := hTk k hkK
      have hk262 := ti_sm hk
      have hgk : K.getD K1.length 0 = k := by
        rw [hK, List.getD_eq_getElem?_getD, List.getElem?_append_right (Nat.le_refl _), Nat.sub_self]
        rfl
      have next : bad1 S F (ml 94 c) (ml 94 w) k = false → am_T l (d + 1) M_C_hasWrongCall 95 [some (.ref 106), some (.ref (oF φ)), some (.int (nI j)), some (.int (nI (st + K1.length))), none, none, none] [] (hm mi ml mr) 0 0 (fun r h' => r = some (.int (bI (bcl S F (ml 94 c) (ml 94 w) (k :: K2)))) ∧ h' = hm mi ml mr) := by
        intro hb
        refine am_iinc rfl rfl (nI_inc1 _) ?_
        show am_T _ _ _ _ [_, _, _, some _, _, _, _] _ _ _ _ _
        refine am_goto rfl ?_
        have := ih (K1 ++ [k]) (by rw [hK]; simp)
        rw [List.length_append] at this
        have e : bcl S F (ml 94 c) (ml 94 w) (k :: K2) = bcl S F (ml 94 c) (ml 94 w) K2 := by
          unfold bcl
          rw [List.any_cons, hb, Bool.false_or]
        rw [e]
        exact this
      refine am_iload_n rfl rfl ?_
      refine am_aload_n rfl rfl ?_
      refine ho_getR rfl (by first | rfl | assumption) rfl (by first | assumption | exact hR _ _ _ rfl) ?_
      refine am_iload_n rfl rfl ?_
      refine am_iconst (v := nI 1) rfl (by decide) ?_
      first | refine ho_addn rfl ?_ | refine am_iadd rfl ?_
      refine ho_iaload rfl (by first | rfl | assumption) (by omega) ?_
      rw [hP.2.1]
      refine ho_icmp_ge rfl (by omega) (by omega) (fun g => absurd g (by omega)) (fun _ => ?_)
      refine am_aload_n rfl rfl ?_
      refine ho_getR rfl (by first | rfl | assumption) rfl (by first | assumption | exact hR _ _ _ rfl) ?_
      refine am_iload_n rfl rfl ?_
      refine ho_iaload rfl (by first | rfl | assumption) (by omega) ?_
      rw [hP.2.2 K1.length (by omega), hgk]
      refine am_istore rfl (Nat.le_of_ble_eq_true rfl) ?_
      show am_T _ _ _ _ [_, _, _, _, some _, _, _] _ _ _ _ _
      refine am_iload rfl rfl ?_
      refine am_sipush (v := nI 256) rfl (by decide) ?_
      by_cases h256 : 256 ≤ k
      · refine ho_icmp_lt rfl (by omega) (by omega) (fun g => absurd g (by omega)) (fun _ => ?_)
        have hg3 : (k - 256) / 2 < 3 := by omega
        have hrg := hrF _ hg3
        have hFg := isFn_of hR (hoF _ (show (k - 256) / 2 < 4 by omega))
        have hkg := hFg.2.1
        refine am_aload_n rfl rfl ?_
        refine ho_getR rfl (by first | rfl | assumption) rfl (by first | assumption | exact hR _ _ _ rfl) ?_
        refine am_iload rfl rfl ?_
        refine ho_cs1 rfl rfl (Nat.le_of_ble_eq_true rfl) (Nat.le_of_ble_eq_true rfl) (c_F_calledBy k h256 hk262) ?_
        rintro r h' ⟨rfl, rfl⟩
        refine ho_aaload rfl (by first | rfl | assumption) ⟨by decide, rfl⟩ (by omega) (by first | assumption | exact hR _ _ _ rfl) ?_
        refine am_astore rfl (Nat.le_of_ble_eq_true rfl) ?_
        show am_T _ _ _ _ [_, _, _, _, _, some _, _] _ _ _ _ _
        refine am_iload rfl rfl ?_
        refine ho_cs1 rfl rfl (Nat.le_of_ble_eq_true rfl) (Nat.le_of_ble_eq_true rfl) (c_F_isAboutX k (by omega)) ?_
        rintro r h' ⟨rfl, rfl⟩
        have s66 : ∀ q : Nat, q < cnt → ml 94 q = (if isX k then ml 94 c else ml 94 w) → am_T l (d + 1) M_C_hasWrongCall 66 [some (.ref 106), some (.ref (oF φ)), some (.int (nI j)), some (.int (nI (st + K1.length))), some (.int (nI k)), some (.ref (oF ((k - 256) / 2))), none] [.int (nI q)] (hm mi ml mr) 0 0 (fun r h' => r = some (.int (bI (bcl S F (ml 94 c) (ml 94 w) (k :: K2)))) ∧ h' = hm mi ml mr) := by
          intro q hq hqk
          have yes : bad1 S F (ml 94 c) (ml 94 w) k = true → am_T l (d + 1) M_C_hasWrongCall 93 [some (.ref 106), some (.ref (oF φ)), some (.int (nI j)), some (.int (nI (st + K1.length))), some (.int (nI k)), some (.ref (oF ((k - 256) / 2))), some (.int (nI q))] [] (hm mi ml mr) 0 0 (fun r h' => r = some (.int (bI (bcl S F (ml 94 c) (ml 94 w) (k :: K2)))) ∧ h' = hm mi ml mr) := by
            intro hb
            refine am_iconst (v := nI 1) rfl (by decide) ?_
            refine am_zreturn rfl rfl (Or.inr rfl) ⟨?_, rfl⟩
            unfold bcl
            rw [List.any_cons, hb, Bool.true_or]
            rfl
          refine am_istore rfl (Nat.le_of_ble_eq_true rfl) ?_
          show am_T _ _ _ _ [_, _, _, _, _, _, some _] _ _ _ _ _
          refine am_aload rfl rfl ?_
          refine ho_getI rfl (by first | rfl | assumption) rfl ?_
          rw [(hFA _ hg3).1]
          refine am_if_eq rfl (fun g => ?_) (fun g => ?_)
          · have g : (F ((k - 256) / 2)).2.2.length = 0 := Classical.not_not.mp (of_decide_eq_false ((bI_eq _).mp g))
            refine yes ?_
            unfold bad1
            rw [decide_eq_true h256, decide_eq_true g]
            rfl
          have hd : (F ((k - 256) / 2)).2.2.length ≠ 0 := of_decide_eq_true ((bI_ne _).mp g)
          have hb := (hokF _ hd).1
          refine am_aload_n rfl rfl ?_
          refine ho_getR rfl (by first | rfl | assumption) rfl (by first | assumption | exact hR _ _ _ rfl) ?_
          refine am_iload rfl rfl ?_
          refine am_aload rfl rfl ?_
          refine ho_getI rfl (by first | rfl | assumption) rfl ?_
          rw [((hFA _ hg3).2 hd).1]
          refine ho_cv2 rfl (by first | rfl | assumption) rfl (Nat.le_of_ble_eq_true rfl) (Nat.le_of_ble_eq_true rfl) (c_K_isMember hR hK0 q _ hq hb) ?_
          rintro r h' ⟨rfl, rfl⟩
          rw [hqk]
          refine am_if_ne rfl (fun g => ?_) (fun g => ?_)
          · have g := (bI_ne _).mp g
            refine am_drops [4, 5, 6] ?_
            refine next ?_
            unfold bad1
            rw [g, decide_eq_false hd, Bool.not_true, Bool.or_self, Bool.and_false]
          · have g := (bI_eq _).mp g
            refine yes ?_
            unfold bad1
            rw [g, decide_eq_true h256, Bool.not_false, Bool.or_true]
            rfl
        cases hX : isX k with
        | true =>
          rw [hX] at s66
          refine am_if_eq rfl (fun z => by cases z) (fun _ => ?_)
          refine am_aload_n rfl rfl ?_
          refine ho_getI rfl (by first | rfl | assumption) rfl ?_
          rw [t2]
          refine am_goto rfl ?_
          exact s66 c hc rfl
        | false =>
          rw [hX] at s66
          refine am_if_eq rfl (fun _ => ?_) (fun z => absurd rfl z)
          refine am_aload_n rfl rfl ?_
          refine ho_getI rfl (by first | rfl | assumption) rfl ?_
          rw [t3]
          exact s66 w hw rfl
      · refine ho_icmp_lt rfl (by omega) (by omega) (fun _ => ?_) (fun g => absurd (by omega) g)
        refine am_drops [4] ?_
        refine next ?_
        unfold bad1
        rw [decide_eq_false h256]
        rfl
  refine am_aload_n rfl rfl ?_
  refine ho_getR rfl (by first | rfl | assumption) rfl (by first | assumption | exact hR _ _ _ rfl) ?_
  refine am_iload_n rfl rfl ?_
  refine ho_iaload rfl (by first | rfl | assumption) (by omega) ?_
  rw [hP.1]
  refine am_istore_n rfl (Nat.le_of_ble_eq_true rfl) ?_
  show am_T _ _ _ _ [_, _, _, some _, _, _, _] _ _ _ _ _
  exact loop K [] rfl
theorem c_F_has (hR : SR mr) (o : Nat) (hFn : isFn mr o) (j : Nat) (hj6 : j < 6) (st : Nat) (K : List Nat) (hP : CLP mi o j st K) (h80 : st + K.length ≤ 80) (hTk : ∀ k ∈ K, k < 262) (t : Nat) (ht : t < 262) :
    am_T l d M_F_has 0 [some (.ref o), some (.int (nI j)), some (.int (nI t)), none] [] (hm mi ml mr) 0 0 (fun r h' => r = some (.int (bI (K.any (fun k => decide (k = t))))) ∧ h' = hm mi ml mr) := by
  have hkF := hFn.2.1
  have hob := hFn.1
  obtain ⟨-, -, -, -, -, k4, k5, -, -, -, r7, r8⟩ := id hFn
  have loop : ∀ (K2 K1 : List Nat), K = K1 ++ K2 → am_T l d M_F_has 7 [some (.ref o), some (.int (nI j)), some (.int (nI t)), some (.int (nI (st + K1.length)))] [] (hm mi ml mr) 0 0 (fun r h' => r = some (.int (bI (K2.any (fun k => decide (k = t))))) ∧ h' = hm mi ml mr) := by
    intro K2
    induction K2 with
    | nil =>
      intro K1 hK
      have hl : K1.length = K.length := by rw [hK, List.append_nil]
      refine am_iload_n rfl rfl ?_
      refine am_aload_n rfl rfl ?_
      refine ho_getR rfl (by first | rfl | assumption) rfl (by first | assumption | exact hR _ _ _ rfl) ?_
      refine am_iload_n rfl rfl ?_
      refine am_iconst (v := nI 1) rfl (by decide) ?_
      first | refine ho_addn rfl ?_ | refine am_iadd rfl ?_
      refine ho_iaload rfl (by first | rfl | assumption) (by omega) ?_
      rw [hP.2.1, hl]
      refine ho_icmp_ge rfl (by omega) (by omega) (fun _ => ?_) (fun g => absurd (Nat.le_refl _) g)
      refine am_iconst (v := nI 0) rfl (by decide) ?_
      exact am_zreturn rfl rfl (Or.inl rfl) ⟨rfl, rfl⟩
    | cons k K2 ih =>
      intro K1 hK
      have hKl : K.length = K1.length + (K2.length + 1) := by rw [hK, List.length_append, List.length_cons]
      have hk262 := hTk k (by rw [hK]; simp)
      have hgk : K.getD K1.length 0 = k := by
        rw [hK, List.getD_eq_getElem?_getD, List.getElem?_append_right (Nat.le_refl _), Nat.sub_self]
        rfl
      refine am_iload_n rfl rfl ?_
      refine am_aload_n rfl rfl ?_
      refine ho_getR rfl (by first | rfl | assumption) rfl (by first | assumption | exact hR _ _ _ rfl) ?_
      refine am_iload_n rfl rfl ?_
      refine am_iconst (v := nI 1) rfl (by decide) ?_
      first | refine ho_addn rfl ?_ | refine am_iadd rfl ?_
      refine ho_iaload rfl (by first | rfl | assumption) (by omega) ?_
      rw [hP.2.1]
      refine ho_icmp_ge rfl (by omega) (by omega) (fun g => absurd g (by omega)) (fun _ => ?_)
      refine am_aload_n rfl rfl ?_
      refine ho_getR rfl (by first | rfl | assumption) rfl (by first | assumption | exact hR _ _ _ rfl) ?_
      refine am_iload_n rfl rfl ?_
      refine ho_iaload rfl (by first | rfl | assumption) (by omega) ?_
      rw [hP.2.2 K1.length (by omega), hgk, List.any_cons]
      refine am_iload_n rfl rfl ?_
      refine ho_icmp_ne rfl (by omega) (by omega) (fun g => ?_) (fun g => ?_)
      · refine am_iinc rfl rfl (nI_inc1 _) ?_
        show am_T _ _ _ _ [_, _, _, some _] _ _ _ _ _
        refine am_goto rfl ?_
        have := ih (K1 ++ [k]) (by rw [hK]; simp)
        rw [List.length_append] at this
        rw [decide_eq_false g, Bool.false_or]
        exact this
      · refine am_iconst (v := nI 1) rfl (by decide) ?_
        exact am_zreturn rfl rfl (Or.inr rfl) ⟨by rw [decide_eq_true g, Bool.true_or]; rfl, rfl⟩
  refine am_aload_n rfl rfl ?_
  refine ho_getR rfl (by first | rfl | assumption) rfl (by first | assumption | exact hR _ _ _ rfl) ?_
  refine am_iload_n rfl rfl ?_
  refine ho_iaload rfl (by first | rfl | assumption) (by omega) ?_
  rw [hP.1]
  refine am_istore_n rfl (Nat.le_of_ble_eq_true rfl) ?_
  show am_T _ _ _ _ [_, _, _, some _] _ _ _ _ _
  exact loop K [] rfl
end V3
