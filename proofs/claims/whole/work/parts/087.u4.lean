/-! the reference: chosen, the running -/
theorem ttx_len (k : Nat) : 1 ≤ (ttx k).length := by
  unfold ttx
  split
  · simp
  · split <;> simp
theorem sgn_tk (a : Nat) (F : Fn) {j x k : Nat} {K1 K2 : List Nat} (h : j < F.2.2.length) (hK : (clA F.2.2 j).2 = K1 ++ k :: K2) (hx : x < (ttx k).length) : sgn (ftx a F) (rpos F.2.2 j + (ktx K1).length + x) = (ttx k).getD x 0 := by
  have e : ktx (clA F.2.2 j).2 = ktx K1 ++ (ttx k ++ ktx K2) := by
    rw [hK, ktx_app, show k :: K2 = [k] ++ K2 from rfl, ktx_app, ktx_one]
  rw [Nat.add_assoc, sgn_res a F h (by rw [e, List.length_append, List.length_append]; omega), e]
  exact getD_mid _ _ _ hx
theorem sgn_tk_end (a : Nat) (F : Fn) {j : Nat} {K1 : List Nat} (h : j < F.2.2.length) (hK : (clA F.2.2 j).2 = K1) : sgn (ftx a F) (rpos F.2.2 j + (ktx K1).length) = 47 := by
  rw [← hK, rpos_end _ h]
  exact sgn_cpos a F h
theorem tk_place (a : Nat) (F : Fn) {j : Nat} {K1 K2 : List Nat} (h : j < F.2.2.length) (hK : (clA F.2.2 j).2 = K1 ++ K2) : rpos F.2.2 j + (ktx K1).length + (ktx K2).length ≤ (ftx a F).length := by
  have h1 := rpos_end F.2.2 h
  rw [hK, ktx_app, List.length_append] at h1
  have h2 := cpos_lt a F h
  omega
/-- what the running reads -/
def RC (S : Rs) (N : Nd) (F : Nat → Fn) (mi : Nat → Nat → Int32) : Prop := TNN N mi ∧ txt mi 120 (tx N 0) ∧ mi 116 5 = nI (tx N 0).length ∧ repS S mi ∧ ∀ φ, φ < 3 → EN mi (6 + φ) (fTx φ (F φ))
theorem RC.to {S : Rs} {N : Nd} {F : Nat → Fn} {mi mi' : Nat → Nat → Int32} (h : RC S N F mi) (hF : Fp mi mi') : RC S N F mi' := by
  obtain ⟨h1, h2, h3, h4, h5⟩ := h
  have e : ∀ a, a ≠ 116 → a ≠ 122 → a ≠ 139 → a ≠ 140 → a ≠ 141 → mi' a = mi a := hF.1
  refine ⟨?_, txt_to h2 (e 120 (by decide) (by decide) (by decide) (by decide) (by decide)), by rw [hF.2 5 (by decide) (by decide)]; exact h3, ?_, fun φ hφ => EN_to (h5 φ hφ) (e 118 (by decide) (by decide) (by decide) (by decide) (by decide)) (e 119 (by decide) (by decide) (by decide) (by decide) (by decide))⟩
  · unfold TNN at h1 ⊢
    rw [hF.2 25 (by decide) (by decide), e 133 (by decide) (by decide) (by decide) (by decide) (by decide), e 134 (by decide) (by decide) (by decide) (by decide) (by decide), e 135 (by decide) (by decide) (by decide) (by decide) (by decide), e 136 (by decide) (by decide) (by decide) (by decide) (by decide)]
    exact h1
  · unfold repS at h4 ⊢
    rw [hF.2 12 (by decide) (by decide), e 123 (by decide) (by decide) (by decide) (by decide) (by decide), e 124 (by decide) (by decide) (by decide) (by decide) (by decide), e 125 (by decide) (by decide) (by decide) (by decide) (by decide), e 126 (by decide) (by decide) (by decide) (by decide) (by decide)]
    exact h4
section U4
variable {l : Launch} {d : Nat} {ml : Nat → Nat → Int64} {mr : Nat → Nat → Option Nat} {S : Rs} {N : Nd} {F : Nat → Fn}
theorem c_m_definedN (hR : SR mr) {mi : Nat → Nat → Int32} (φ : Nat) (hφ : φ < 3) (hE : EN mi (6 + φ) (fTx φ (F φ))) : am_T l d M_m_defined 0 [some (.ref 116), some (.int (nI φ))] [] (hm mi ml mr) 0 0 (fun r h' => r = some (.int (bI (decide ((F φ).2.2.length ≠ 0)))) ∧ h' = hm mi ml mr) := by
  have h80 := hE.2.1
  refine am_iload_n rfl rfl ?_
  refine am_if_lt rfl (fun z => absurd z (nI_pos (by omega))) (fun _ => ?_)
  refine am_iload_n rfl rfl ?_
  refine am_iconst (v := nI 2) rfl (by decide) ?_
  refine ho_icmp_gt rfl (by omega) (by omega) (fun z => absurd z (by omega)) (fun _ => ?_)
  refine am_aload_n rfl rfl ?_
  refine ho_getR rfl (by first | rfl | assumption) rfl (by first | assumption | exact hR _ _ _ rfl) ?_
  refine am_bipush (v := nI 6) rfl (by decide) ?_
  refine am_iload_n rfl rfl ?_
  first | refine ho_addn rfl ?_ | refine am_iadd rfl ?_
  refine ho_iaload rfl (by first | rfl | assumption) (by omega) ?_
  rw [hE.1]
  refine am_if_le rfl (fun z => ?_) (fun z => ?_)
  · have z : nI (fTx φ (F φ)).length ≤ nI 0 := z
    rw [nI_leI (by omega) (by omega)] at z
    have := fTx_len.mp (show (fTx φ (F φ)).length = 0 by omega)
    refine am_iconst (v := nI 0) rfl (by decide) ?_
    exact am_zreturn rfl rfl (Or.inl rfl) ⟨by rw [decide_eq_false (fun q => q this)]; rfl, rfl⟩
  · have z : ¬ nI (fTx φ (F φ)).length ≤ nI 0 := z
    rw [nI_leI (by omega) (by omega)] at z
    have : (F φ).2.2.length ≠ 0 := fun q => by have := fTx_len (φ := φ) |>.mpr q; omega
    refine am_iconst (v := nI 1) rfl (by decide) ?_
    refine am_goto rfl ?_
    exact am_zreturn rfl rfl (Or.inr rfl) ⟨by rw [decide_eq_true this]; rfl, rfl⟩
theorem c_m_chosen (hR : SR mr) (hS : okS S) (hl : N.length ≤ 12) (mi : Nat → Nat → Int32) (hC : RC S N F mi) (h17 : ml 116 17 = K0 S) (φ : Nat) (hφ : φ < 3) (hF : (F φ).2.2 = [] ∨ okF (F φ)) (o : Option Nat) (ho : ∀ i, o = some i → i < N.length) : am_T l (d + 4) M_m_chosen 0 [some (.ref 116), some (.int (nI φ)), some (.int (noI o))] [] (hm mi ml mr) 0 0 (fun r h' => r = some (.int (nI (chI2 (choF S N (ml 137) (F φ).2.2 o)))) ∧ h' = hm mi ml mr) := by
  obtain ⟨r1, r2, r3, r4, r5⟩ := hC
  refine am_aload_n rfl rfl ?_
  refine am_iload_n rfl rfl ?_
  refine ho_cv1 rfl (by first | rfl | assumption) rfl (Nat.le_of_ble_eq_true rfl) (Nat.le_of_ble_eq_true rfl) (c_m_definedN (F := F) hR φ hφ (r5 φ hφ)) ?_
  rintro v h' ⟨rfl, rfl⟩
  refine am_if_ne rfl (fun z => ?_) (fun z => ?_)
  case refine_2 =>
    have z : (F φ).2.2.length = 0 := Classical.not_not.mp (of_decide_eq_false ((bI_eq _).mp z))
    refine am_iconst (v := nI 0) rfl (by decide) ?_
    refine am_ireturn rfl rfl ⟨?_, rfl⟩
    rw [List.length_eq_zero_iff.mp z]
    cases o <;> rfl
  have z := of_decide_eq_true ((bI_ne _).mp z)
  have hokF : okF (F φ) := hF.resolve_left (fun q => z (by rw [q]; rfl))
  have hE := r5 φ hφ
  rw [fTx_def z] at hE
  refine am_iload_n rfl rfl ?_
  cases o with
  | none =>
    refine am_if_ge rfl (fun y => absurd y (by decide)) (fun _ => ?_)
    refine am_aload_n rfl rfl ?_
    refine am_iload_n rfl rfl ?_
    refine am_iconst (v := -1) rfl (by decide) ?_
    refine am_lconst (v := 0) rfl (by decide) ?_
    refine am_lconst (v := 0) rfl (by decide) ?_
    rw [show (-1 : Int32) = fI 0 from rfl]
    refine ho_cv4 rfl (by first | rfl | assumption) rfl (Nat.le_of_ble_eq_true rfl) (Nat.le_of_ble_eq_true rfl) (c_m_choice hR hS r4 φ hφ (F φ) hokF hE 0 (by decide) 0 0) ?_
    rintro v h' ⟨rfl, rfl⟩
    refine am_ireturn rfl rfl ⟨?_, rfl⟩
    show some (Value.int (nI (chI2 (chs S _ 0 _ _)))) = some (.int (nI (chI2 (chs S _ 0 _ _))))
    rw [chs_0]
  | some i =>
    have hi := ho i rfl
    obtain ⟨t1, t2, t3, t4⟩ := r1.2 i hi
    refine am_if_ge rfl (fun _ => ?_) (fun y => absurd (nI_pos' (by omega)) y)
    show am_T l (d + 4) M_m_chosen 23 [_, _, some (.int (nI i))] _ _ _ _ _
    have s85 : ∀ x y : Int64, x = om S (ml 137) (contN N i) → y = om S (ml 137) (behN N i) → am_T l (d + 4) M_m_chosen 85 [some (.ref 116), some (.int (nI φ)), some (.int (nI i))] [.long y, .long x, .int (nI (kn (cd N i) - 1)), .int (nI φ), .ref 116] (hm mi ml mr) 0 0 (fun r h' => r = some (.int (nI (chI2 (choF S N (ml 137) (F φ).2.2 (some i))))) ∧ h' = hm mi ml mr) := by
      intro x y hx hy
      rw [fI_kn]
      refine ho_cv4 rfl (by first | rfl | assumption) rfl (Nat.le_of_ble_eq_true rfl) (Nat.le_of_ble_eq_true rfl) (c_m_choice hR hS r4 φ hφ (F φ) hokF hE (kn (cd N i)) (kn_range).2 x y) ?_
      rintro v h' ⟨rfl, rfl⟩
      refine am_ireturn rfl rfl ⟨?_, rfl⟩
      rw [hx, hy]
      rfl
    have s58 : ∀ x : Int64, x = om S (ml 137) (contN N i) → am_T l (d + 4) M_m_chosen 58 [some (.ref 116), some (.int (nI φ)), some (.int (nI i))] [.long x, .int (nI (kn (cd N i) - 1)), .int (nI φ), .ref 116] (hm mi ml mr) 0 0 (fun r h' => r = some (.int (nI (chI2 (choF S N (ml 137) (F φ).2.2 (some i))))) ∧ h' = hm mi ml mr) := by
      intro x hx
      refine am_aload_n rfl rfl ?_
      refine ho_getR rfl (by first | rfl | assumption) rfl (by first | assumption | exact hR _ _ _ rfl) ?_
      refine am_iload_n rfl rfl ?_
      refine ho_iaload rfl (by first | rfl | assumption) (by omega) ?_
      rw [t4]
      cases hb : behN N i with
      | none =>
        refine am_if_ge rfl (fun y => absurd y (by decide)) (fun _ => ?_)
        refine am_aload_n rfl rfl ?_
        refine ho_getL rfl (by first | rfl | assumption) rfl ?_
        refine am_goto rfl ?_
        exact s85 x _ hx (by rw [hb, h17]; rfl)
      | some y =>
        have hy := behN_gt hb
        refine am_if_ge rfl (fun _ => ?_) (fun w => absurd (nI_pos' (by omega)) w)
        refine am_aload_n rfl rfl ?_
        refine ho_getR rfl (by first | rfl | assumption) rfl (by first | assumption | exact hR _ _ _ rfl) ?_
        refine am_aload_n rfl rfl ?_
        refine ho_getR rfl (by first | rfl | assumption) rfl (by first | assumption | exact hR _ _ _ rfl) ?_
        refine am_iload_n rfl rfl ?_
        refine ho_iaload rfl (by first | rfl | assumption) (by omega) ?_
        rw [t4, hb]
        show am_T _ _ _ _ _ (.int (nI y) :: _) _ _ _ _
        refine ho_laload rfl rfl (by omega) ?_
        exact s85 x _ hx (by rw [hb]; rfl)
    refine am_aload_n rfl rfl ?_
    refine am_iload_n rfl rfl ?_
    refine am_aload_n rfl rfl ?_
    refine ho_getR rfl (by first | rfl | assumption) rfl (by first | assumption | exact hR _ _ _ rfl) ?_
    refine am_iload_n rfl rfl ?_
    refine ho_iaload rfl (by first | rfl | assumption) (by omega) ?_
    rw [t1]
    refine am_aload_n rfl rfl ?_
    refine ho_getR rfl (by first | rfl | assumption) rfl (by first | assumption | exact hR _ _ _ rfl) ?_
    refine am_iload_n rfl rfl ?_
    refine ho_iaload rfl (by first | rfl | assumption) (by omega) ?_
    rw [t3]
    cases hc : contN N i with
    | none =>
      refine am_if_ge rfl (fun y => absurd y (by decide)) (fun _ => ?_)
      refine am_aload_n rfl rfl ?_
      refine ho_getL rfl (by first | rfl | assumption) rfl ?_
      refine am_goto rfl ?_
      exact s58 _ (by rw [hc, h17]; rfl)
    | some y =>
      have hy := contN_gt hc
      refine am_if_ge rfl (fun _ => ?_) (fun w => absurd (nI_pos' (by omega)) w)
      refine am_aload_n rfl rfl ?_
      refine ho_getR rfl (by first | rfl | assumption) rfl (by first | assumption | exact hR _ _ _ rfl) ?_
      refine am_aload_n rfl rfl ?_
      refine ho_getR rfl (by first | rfl | assumption) rfl (by first | assumption | exact hR _ _ _ rfl) ?_
      refine am_iload_n rfl rfl ?_
      refine ho_iaload rfl (by first | rfl | assumption) (by omega) ?_
      rw [t3, hc]
      show am_T _ _ _ _ _ (.int (nI y) :: _) _ _ _ _
      refine ho_laload rfl rfl (by omega) ?_
      exact s58 _ (by rw [hc]; rfl)
/-- a frame of the running -/
def frm (mi : Nat → Nat → Int32) (L φ q : Nat) (o : Option Nat) : Prop := mi 139 L = nI φ ∧ mi 140 L = nI q ∧ mi 141 L = noI o
theorem c_m_run_head (hR : SR mr) (mi : Nat → Nat → Int32) (hC : RC S N F mi) (φ : Nat) (hφ : φ < 3) (hz : (F φ).2.2.length ≠ 0) (L q : Nat) (hL : L < 16) (hq : q < 500) (o : Option Nat) (hfr : frm mi L φ q o) (x1 : Int32) (a : Nat) {Q : Option Value → am_H → Prop}
    (k : am_T l (d + 8) M_m_run 131 [some (.ref 116), some (.int x1), some (.int (nI a)), none, some (.int (nI L)), some (.int (nI φ)), some (.int (noI o)), some (.int (nI (sgn (ftx (102 + φ) (F φ)) q))), none] [] (hm mi ml mr) 0 0 Q) :
    am_T l (d + 8) M_m_run 93 [some (.ref 116), some (.int x1), some (.int (nI a)), none, some (.int (nI L)), none, none, none, none] [] (hm mi ml mr) 0 0 Q := by
  obtain ⟨f1, f2, f3⟩ := hfr
  have hE := hC.2.2.2.2 φ hφ
  rw [fTx_def hz] at hE
  refine am_iload rfl rfl ?_
  refine am_if_lt rfl (fun z => absurd z (nI_pos (by omega))) (fun _ => ?_)
  refine am_aload_n rfl rfl ?_
  refine ho_getR rfl (by first | rfl | assumption) rfl (by first | assumption | exact hR _ _ _ rfl) ?_
  refine am_iload rfl rfl ?_
  refine ho_iaload rfl (by first | rfl | assumption) (by omega) ?_
  rw [f1]
  refine am_istore rfl (Nat.le_of_ble_eq_true rfl) ?_
  show am_T _ _ _ _ [_, _, _, _, _, some _, _, _, _] _ _ _ _ _
  refine am_aload_n rfl rfl ?_
  refine ho_getR rfl (by first | rfl | assumption) rfl (by first | assumption | exact hR _ _ _ rfl) ?_
  refine am_iload rfl rfl ?_
  refine ho_iaload rfl (by first | rfl | assumption) (by omega) ?_
  rw [f3]
  refine am_istore rfl (Nat.le_of_ble_eq_true rfl) ?_
  show am_T _ _ _ _ [_, _, _, _, _, _, some _, _, _] _ _ _ _ _
  refine am_aload_n rfl rfl ?_
  refine am_iload rfl rfl ?_
  refine am_aload_n rfl rfl ?_
  refine ho_getR rfl (by first | rfl | assumption) rfl (by first | assumption | exact hR _ _ _ rfl) ?_
  refine am_iload rfl rfl ?_
  refine ho_iaload rfl (by first | rfl | assumption) (by omega) ?_
  rw [f2]
  refine ho_cv2 rfl (by first | rfl | assumption) rfl (Nat.le_of_ble_eq_true rfl) (Nat.le_of_ble_eq_true rfl) (c_m_sign hR φ hφ _ hE q (by omega)) ?_
  rintro v h' ⟨rfl, rfl⟩
  refine am_istore rfl (Nat.le_of_ble_eq_true rfl) ?_
  show am_T _ _ _ _ [_, _, _, _, _, _, _, some _, _] _ _ _ _ _
  exact k
theorem frm_put {mi mi' : Nat → Nat → Int32} {L φ q : Nat} {o : Option Nat} (h : frm mi L φ q o) (hF : Fq mi mi') : frm mi' L φ q o := by
  unfold frm at h ⊢
  rw [hF.1 139 (by decide) (by decide), hF.1 140 (by decide) (by decide), hF.1 141 (by decide) (by decide)]
  exact h
/-- one character is written -/
theorem c_m_run_put (hR : SR mr) (mi : Nat → Nat → Int32) (L φ q : Nat) (hL : L < 16) (o : Option Nat) (hfr : frm mi L φ q o) (x1 : Int32) (a s c : Nat) (hs : s < 127) (h47 : s ≠ 47) (hnf : isFun s = false) (hx : s ≠ 120) (hy : s ≠ 121) (hc : c < 127) (U : List Nat) (m : Nat) (hm20 : m ≤ 20) (hO : OTx mi U m) (hU : U.length < 60 ∨ (isNod c = true ∧ m = 20))
    (hsc : (s ≠ 35 ∧ c = s) ∨ (s = 35 ∧ ∃ i y, o = some i ∧ i < 20 ∧ mi 134 i = nI y ∧ y < 36 ∧ mi 120 y = nI c)) {Q : Option Value → am_H → Prop}
    (kfull : isNod c = true → m = 20 → ∀ mi' : Nat → Nat → Int32, Fp mi mi' → Q (some (.int (-5))) (hm mi' ml mr))
    (kok : ¬ (isNod c = true ∧ m = 20) → ∀ mi' : Nat → Nat → Int32, Fp mi mi' → OTx mi' (U ++ [c]) (m + (if isNod c then 1 else 0)) → frm mi' L φ (q + 1) o → (∀ i, i ≠ L → mi' 139 i = mi 139 i ∧ mi' 140 i = mi 140 i ∧ mi' 141 i = mi 141 i) → am_T l (d + 8) M_m_run 93 [some (.ref 116), some (.int x1), some (.int (nI a)), none, some (.int (nI L)), none, none, none, none] [] (hm mi' ml mr) 0 0 Q) :
    am_T l (d + 8) M_m_run 131 [some (.ref 116), some (.int x1), some (.int (nI a)), none, some (.int (nI L)), some (.int (nI φ)), some (.int (noI o)), some (.int (nI s)), none] [] (hm mi ml mr) 0 0 Q := by
  obtain ⟨f1, f2, f3⟩ := id hfr
  refine am_iload rfl rfl ?_
  refine am_bipush (v := nI 47) rfl (by decide) ?_
  refine ho_icmp_ne rfl (by omega) (by omega) (fun _ => ?_) (fun z => absurd z h47)
  refine am_iload rfl rfl ?_
  refine ho_cs1 rfl rfl (Nat.le_of_ble_eq_true rfl) (Nat.le_of_ble_eq_true rfl) (c_m_letter s (by omega)) ?_
  rintro v h' ⟨rfl, rfl⟩
  rw [hnf]
  refine am_if_eq rfl (fun _ => ?_) (fun z => absurd rfl z)
  refine am_aload_n rfl rfl ?_
  refine ho_getR rfl (by first | rfl | assumption) rfl (by first | assumption | exact hR _ _ _ rfl) ?_
  refine am_iload rfl rfl ?_
  first | refine am_dup2 rfl rfl rfl ?_ | refine am_dup2l rfl rfl ?_
  refine ho_iaload rfl (by first | rfl | assumption) (by omega) ?_
  rw [f2]
  refine am_iconst (v := nI 1) rfl (by decide) ?_
  first | refine ho_addn rfl ?_ | refine am_iadd rfl ?_
  refine ho_iastore rfl (by first | rfl | assumption) (by omega) ?_
  refine am_iload rfl rfl ?_
  refine am_bipush (v := nI 120) rfl (by decide) ?_
  have hF1 : Fp mi (up2 mi 140 L (nI (q + 1))) := ⟨fun a _ _ _ h4 _ => up2_off _ _ _ h4, fun j _ _ => by rw [up2_off _ _ _ (by decide)]⟩
  have hfr1 : frm (up2 mi 140 L (nI (q + 1))) L φ (q + 1) o := ⟨by rw [up2_off _ _ _ (by decide)]; exact f1, by simp [up2], by rw [up2_off _ _ _ (by decide)]; exact f3⟩
  have hO1 : OTx (up2 mi 140 L (nI (q + 1))) U m := ⟨by rw [up2_off _ _ _ (by decide)]; exact hO.1, by rw [up2_off _ _ _ (by decide)]; exact hO.2.1, txt_to hO.2.2 (up2_off _ _ _ (by decide))⟩
  have hoth : ∀ i, i ≠ L → up2 mi 140 L (nI (q + 1)) 139 i = mi 139 i ∧ up2 mi 140 L (nI (q + 1)) 140 i = mi 140 i ∧ up2 mi 140 L (nI (q + 1)) 141 i = mi 141 i := fun i hi => ⟨by rw [up2_off _ _ _ (by decide)], by unfold up2; rw [if_neg (by omega)], by rw [up2_off _ _ _ (by decide)]⟩
  have h134 : up2 mi 140 L (nI (q + 1)) 134 = mi 134 := up2_off _ _ _ (by decide)
  have h120 : up2 mi 140 L (nI (q + 1)) 120 = mi 120 := up2_off _ _ _ (by decide)
  generalize up2 mi 140 L (nI (q + 1)) = mi1 at hF1 hfr1 hO1 hoth h134 h120 ⊢
  refine ho_icmp_ne rfl (by omega) (by omega) (fun _ => ?_) (fun z => absurd z hx)
  refine am_iload rfl rfl ?_
  refine am_bipush (v := nI 121) rfl (by decide) ?_
  refine ho_icmp_ne rfl (by omega) (by omega) (fun _ => ?_) (fun z => absurd z hy)
  have s346 : am_T l (d + 8) M_m_run 346 [some (.ref 116), some (.int x1), some (.int (nI a)), none, some (.int (nI L)), some (.int (nI φ)), some (.int (noI o)), some (.int (nI s)), none] [.int (nI c), .ref 116] (hm mi1 ml mr) 0 0 Q := by
    by_cases hfull : isNod c = true ∧ m = 20
    · refine ho_cv1 rfl (by first | rfl | assumption) rfl (Nat.le_of_ble_eq_true rfl) (Nat.le_of_ble_eq_true rfl) (c_m_put_full hR mi1 hO1.2.1 hfull.2 c hc hfull.1) ?_
      rintro v h' ⟨rfl, rfl⟩
      refine am_istore rfl (Nat.le_of_ble_eq_true rfl) ?_
      show am_T _ _ _ _ [_, _, _, _, _, _, _, _, some _] _ _ _ _ _
      refine am_iload rfl rfl ?_
      refine am_if_ne rfl (fun z => absurd rfl z) (fun _ => ?_)
      refine am_bipush (v := -5) rfl (by decide) ?_
      exact am_ireturn rfl rfl (kfull hfull.1 hfull.2 mi1 hF1)
    · have hU2 : U.length < 60 := hU.resolve_right hfull
      refine ho_cv1 rfl (by first | rfl | assumption) rfl (Nat.le_of_ble_eq_true rfl) (Nat.le_of_ble_eq_true rfl) (c_m_put hR mi1 U m hO1 hU2 hm20 c hc) ?_
      rintro v h' (⟨w1, w2, -⟩ | ⟨-, rfl, mi2, rfl, w2, w3⟩)
      · exact absurd ⟨w1, w2⟩ hfull
      refine am_istore rfl (Nat.le_of_ble_eq_true rfl) ?_
      show am_T _ _ _ _ [_, _, _, _, _, _, _, _, some _] _ _ _ _ _
      refine am_iload rfl rfl ?_
      refine am_if_ne rfl (fun _ => ?_) (fun z => by cases z)
      refine am_goto rfl ?_
      refine am_drops [5, 6, 7, 8] ?_
      exact kok hfull mi2 (hF1.tr w3.p) w2 (frm_put hfr1 w3) (fun i hi => by rw [w3.1 139 (by decide) (by decide), w3.1 140 (by decide) (by decide), w3.1 141 (by decide) (by decide)]; exact hoth i hi)
  refine am_aload_n rfl rfl ?_
  refine am_iload rfl rfl ?_
  refine am_bipush (v := nI 35) rfl (by decide) ?_
  rcases hsc with ⟨h35, rfl⟩ | ⟨h35, i, y, rfl, hi, hy1, hy2, hy3⟩
  · refine ho_icmp_ne rfl (by omega) (by omega) (fun _ => ?_) (fun z => absurd z h35)
    refine am_iload rfl rfl ?_
    exact s346
  · refine ho_icmp_ne rfl (by omega) (by omega) (fun z => absurd h35 z) (fun _ => ?_)
    refine am_aload_n rfl rfl ?_
    refine ho_getR rfl rfl rfl (hR _ _ _ rfl) ?_
    refine am_aload_n rfl rfl ?_
    refine ho_getR rfl rfl rfl (hR _ _ _ rfl) ?_
    refine am_iload rfl rfl ?_
    show am_T _ _ _ _ _ (.int (nI i) :: _) _ _ _ _
    refine ho_iaload rfl rfl (by omega) ?_
    rw [h134, hy1]
    refine ho_caload rfl rfl (by omega) ?_
    rw [h120, hy3]
    refine am_goto rfl ?_
    exact s346
end U4
