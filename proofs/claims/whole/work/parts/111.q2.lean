/-! the class: calledIn -/
def allT (C : List Cl) : List Nat := C.flatMap (fun c => c.2)
theorem ntk_all (C : List Cl) : ntk C = (allT C).length := by
  unfold ntk allT
  rw [List.length_flatMap]
def cbs (T : List Nat) (m : Nat) : Nat := T.foldl (fun m k => if 256 ≤ k then m ||| 2 ^ ((k - 256) / 2) else m) m
theorem or_bit3 : ∀ m, m < 8 → ∀ j, j < 3 → nI m ||| (nI 1 <<< (nI j &&& 31)) = nI (m ||| 2 ^ j) ∧ m ||| 2 ^ j < 8 := by decide +kernel
theorem CA_tok {mi : Nat → Nat → Int32} {o : Nat} {C : List Cl} (h : CA mi o C) : ∀ (R P : List Cl), C = P ++ R → ∀ i, i < (allT R).length → mi (o + 5) (ntk P + i) = nI ((allT R).getD i 0)
  | [], P, _, i, hi => absurd hi (Nat.not_lt_zero _)
  | c :: R, P, hC, i, hi => by
    obtain ⟨-, -, -, -, -, e6⟩ := h.2.2 P c R hC
    have hcons : allT (c :: R) = c.2 ++ allT R := by
      unfold allT
      rw [List.flatMap_cons]
    rw [hcons] at hi ⊢
    by_cases g : i < c.2.length
    · rw [e6 i g, List.getD_eq_getElem?_getD, List.getD_eq_getElem?_getD, List.getElem?_append_left g]
    · rw [List.length_append] at hi
      have := CA_tok h R (P ++ [c]) (by rw [hC]; simp) (i - c.2.length) (by omega)
      rw [List.getD_eq_getElem?_getD, List.getElem?_append_right (by omega), ← List.getD_eq_getElem?_getD]
      rw [← this]
      congr 1
      have e : ntk (P ++ [c]) = ntk P + c.2.length := by
        unfold ntk
        simp
      omega
theorem CA_end {mi : Nat → Nat → Int32} {o : Nat} {C : List Cl} (h : CA mi o C) : mi (o + 4) C.length = nI (ntk C) := by
  by_cases e : C = []
  · subst e
    exact h.2.1
  · have hC := (List.dropLast_concat_getLast e).symm
    obtain ⟨-, -, -, -, e5, -⟩ := h.2.2 _ _ [] hC
    have e1 : C.length = C.dropLast.length + 1 := by
      have := congrArg List.length hC
      rw [List.length_append] at this
      exact this
    have e2 : ntk C = ntk C.dropLast + (C.getLast e).2.length := by
      have := congrArg ntk hC
      unfold ntk at this ⊢
      simp only [List.map_append, List.sum_append] at this
      rw [this]
      simp
    rw [e1, e2]
    exact e5
theorem allT_tk {F : Fn} (hF : okF F) : ∀ k ∈ allT F.2.2, k < 262 := by
  intro k hk
  unfold allT at hk
  obtain ⟨c, hc, hkc⟩ := List.mem_flatMap.mp hk
  exact ti_sm ((hF.2.2.1 c hc).2.2.2.1 k hkc)
section Q2
variable {l : Launch} {d : Nat} {mi : Nat → Nat → Int32} {ml : Nat → Nat → Int64} {mr : Nat → Nat → Option Nat} {o : Nat} {F : Fn}
theorem c_C_calledIn (hR : SR mr) (hFn : isFn mr o) (hg : mi o 0 = bI (decide (F.2.2.length ≠ 0))) (hA : F.2.2.length ≠ 0 → FA mi o F) (hF : F.2.2 = [] ∨ okF F) (h80 : ntk F.2.2 ≤ 80) : am_T l (d + 1) M_C_calledIn 0 [some (.ref 106), some (.ref o), none, none, none] [] (hm mi ml mr) 0 0 (fun r h' => cbs (allT F.2.2) 0 < 8 ∧ r = some (.int (nI (cbs (allT F.2.2) 0))) ∧ h' = hm mi ml mr) := by
  have hkF := hFn.2.1
  have hob := hFn.1
  obtain ⟨-, -, -, -, -, k4, k5, -, -, -, r7, r8⟩ := id hFn
  by_cases hz : F.2.2.length = 0
  · have e : F.2.2 = [] := List.length_eq_zero_iff.mp hz
    refine am_iconst (v := nI 0) rfl (by decide) ?_
    refine am_istore_n rfl (Nat.le_of_ble_eq_true rfl) ?_
    show am_T _ _ _ _ [_, _, some _, _, _] _ _ _ _ _
    refine am_iconst (v := nI 0) rfl (by decide) ?_
    refine am_istore_n rfl (Nat.le_of_ble_eq_true rfl) ?_
    show am_T _ _ _ _ [_, _, _, some _, _] _ _ _ _ _
    refine am_aload_n rfl rfl ?_
    refine ho_getI rfl (by first | rfl | assumption) rfl ?_
    rw [hg, decide_eq_false (fun q => q hz)]
    refine am_if_eq rfl (fun _ => ?_) (fun z => absurd rfl z)
    refine am_iload_n rfl rfl ?_
    rw [e]
    exact am_ireturn rfl rfl ⟨by decide, rfl, rfl⟩
  have hA := hA hz
  have hok := hF.resolve_left (fun q => hz (by rw [q]; rfl))
  have h6 := hok.2.2.2.2
  have hend := CA_end hA.2.2
  have htok := CA_tok hA.2.2 F.2.2 [] rfl
  have h262 := allT_tk hok
  rw [ntk_all] at h80 hend
  generalize hT : allT F.2.2 = T at h80 hend htok h262 ⊢
  have loop : ∀ (K2 K1 : List Nat) (m : Nat), T = K1 ++ K2 → m < 8 → am_T l (d + 1) M_C_calledIn 4 [some (.ref 106), some (.ref o), some (.int (nI m)), some (.int (nI K1.length)), none] [] (hm mi ml mr) 0 0 (fun r h' => cbs K2 m < 8 ∧ r = some (.int (nI (cbs K2 m))) ∧ h' = hm mi ml mr) := by
    intro K2
    induction K2 with
    | nil =>
      intro K1 m hK hm8
      have hl : K1.length = T.length := by rw [hK, List.append_nil]
      refine am_aload_n rfl rfl ?_
      refine ho_getI rfl (by first | rfl | assumption) rfl ?_
      rw [hg, decide_eq_true hz]
      refine am_if_eq rfl (fun z => by cases z) (fun _ => ?_)
      refine am_iload_n rfl rfl ?_
      refine am_aload_n rfl rfl ?_
      refine ho_getR rfl (by first | rfl | assumption) rfl (by first | assumption | exact hR _ _ _ rfl) ?_
      refine am_aload_n rfl rfl ?_
      refine ho_getI rfl (by first | rfl | assumption) rfl ?_
      rw [hA.2.2.1]
      refine ho_iaload rfl (by first | rfl | assumption) (by omega) ?_
      rw [hend, hl]
      refine ho_icmp_ge rfl (by omega) (by omega) (fun _ => ?_) (fun g => absurd (Nat.le_refl _) g)
      refine am_iload_n rfl rfl ?_
      exact am_ireturn rfl rfl ⟨hm8, rfl, rfl⟩
    | cons k K2 ih =>
      intro K1 m hK hm8
      have hKl : T.length = K1.length + (K2.length + 1) := by rw [hK, List.length_append, List.length_cons]
      have hk262 := h262 k (by rw [hK]; simp)
      have hgk : T.getD K1.length 0 = k := by
        rw [hK, List.getD_eq_getElem?_getD, List.getElem?_append_right (Nat.le_refl _), Nat.sub_self]
        rfl
      have htk : mi (o + 5) K1.length = nI k := by
        have := htok K1.length (by omega)
        rw [hgk, show ntk ([] : List Cl) + K1.length = K1.length from Nat.zero_add _] at this
        exact this
      refine am_aload_n rfl rfl ?_
      refine ho_getI rfl (by first | rfl | assumption) rfl ?_
      rw [hg, decide_eq_true hz]
      refine am_if_eq rfl (fun z => by cases z) (fun _ => ?_)
      refine am_iload_n rfl rfl ?_
      refine am_aload_n rfl rfl ?_
      refine ho_getR rfl (by first | rfl | assumption) rfl (by first | assumption | exact hR _ _ _ rfl) ?_
      refine am_aload_n rfl rfl ?_
      refine ho_getI rfl (by first | rfl | assumption) rfl ?_
      rw [hA.2.2.1]
      refine ho_iaload rfl (by first | rfl | assumption) (by omega) ?_
      rw [hend]
      refine ho_icmp_ge rfl (by omega) (by omega) (fun g => absurd g (by omega)) (fun _ => ?_)
      refine am_aload_n rfl rfl ?_
      refine ho_getR rfl (by first | rfl | assumption) rfl (by first | assumption | exact hR _ _ _ rfl) ?_
      refine am_iload_n rfl rfl ?_
      refine ho_iaload rfl (by first | rfl | assumption) (by omega) ?_
      rw [htk]
      refine am_istore rfl (Nat.le_of_ble_eq_true rfl) ?_
      show am_T _ _ _ _ [_, _, _, _, some _] _ _ _ _ _
      refine am_iload_n rfl rfl ?_
      refine am_iload rfl rfl ?_
      refine am_sipush (v := nI 256) rfl (by decide) ?_
      have hl1 : (K1 ++ [k]).length = K1.length + 1 := by rw [List.length_append]; rfl
      by_cases h256 : 256 ≤ k
      · obtain ⟨o1, o2⟩ := or_bit3 m hm8 ((k - 256) / 2) (by omega)
        refine ho_icmp_lt rfl (by omega) (by omega) (fun g => absurd g (by omega)) (fun _ => ?_)
        refine am_iconst (v := nI 1) rfl (by decide) ?_
        refine am_iload rfl rfl ?_
        refine ho_cs1 rfl rfl (Nat.le_of_ble_eq_true rfl) (Nat.le_of_ble_eq_true rfl) (c_F_calledBy k h256 hk262) ?_
        rintro r h' ⟨rfl, rfl⟩
        refine am_ishl rfl ?_
        refine am_goto rfl ?_
        refine am_ior rfl ?_
        rw [o1]
        refine am_istore_n rfl (Nat.le_of_ble_eq_true rfl) ?_
        show am_T _ _ _ _ [_, _, some _, _, _] _ _ _ _ _
        refine am_iinc rfl rfl (nI_inc1 _) ?_
        show am_T _ _ _ _ [_, _, _, some _, _] _ _ _ _ _
        refine am_goto rfl ?_
        refine am_drops [4] ?_
        have := ih (K1 ++ [k]) (m ||| 2 ^ ((k - 256) / 2)) (by rw [hK]; simp) o2
        rw [hl1] at this
        have e : cbs (k :: K2) m = cbs K2 (m ||| 2 ^ ((k - 256) / 2)) := by
          unfold cbs
          rw [List.foldl_cons, if_pos h256]
        rw [e]
        exact this
      · refine ho_icmp_lt rfl (by omega) (by omega) (fun _ => ?_) (fun g => absurd (by omega) g)
        refine am_iconst (v := nI 0) rfl (by decide) ?_
        refine am_ior rfl ?_
        rw [or_0]
        refine am_istore_n rfl (Nat.le_of_ble_eq_true rfl) ?_
        show am_T _ _ _ _ [_, _, some _, _, _] _ _ _ _ _
        refine am_iinc rfl rfl (nI_inc1 _) ?_
        show am_T _ _ _ _ [_, _, _, some _, _] _ _ _ _ _
        refine am_goto rfl ?_
        refine am_drops [4] ?_
        have := ih (K1 ++ [k]) m (by rw [hK]; simp) hm8
        rw [hl1] at this
        have e : cbs (k :: K2) m = cbs K2 m := by
          unfold cbs
          rw [List.foldl_cons, if_neg h256]
        rw [e]
        exact this
  refine am_iconst (v := nI 0) rfl (by decide) ?_
  refine am_istore_n rfl (Nat.le_of_ble_eq_true rfl) ?_
  show am_T _ _ _ _ [_, _, some _, _, _] _ _ _ _ _
  refine am_iconst (v := nI 0) rfl (by decide) ?_
  refine am_istore_n rfl (Nat.le_of_ble_eq_true rfl) ?_
  show am_T _ _ _ _ [_, _, _, some _, _] _ _ _ _ _
  exact loop T [] 0 rfl (by omega)
end Q2
