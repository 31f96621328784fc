/-! the class: the cuts -/
def cF (cnt i : Nat) : Nat := if i = 0 then 0 else if i - 1 < cnt then 1 else (i - 1 - cnt) / cnt / cnt + 2
def cC (cnt i : Nat) : Nat := if i - 1 < cnt then 0 else (i - 1 - cnt) / cnt % cnt
def cW (cnt i : Nat) : Nat := if i = 0 then 0 else (i - 1) % cnt
theorem c_in {cnt i : Nat} (h1 : 1 ≤ cnt) (hi : i < 1 + cnt + 4 * cnt * cnt) : cF cnt i ≤ 5 ∧ cC cnt i < cnt ∧ cW cnt i < cnt ∧ (cF cnt i ≤ 1 → cC cnt i = 0) := by
  unfold cF cC cW
  by_cases e : i = 0
  · subst e
    rw [if_pos rfl, if_pos rfl, if_pos (by omega)]
    omega
  · rw [if_neg e, if_neg e]
    by_cases e2 : i - 1 < cnt
    · rw [if_pos e2, if_pos e2]
      exact ⟨by omega, by omega, Nat.mod_lt _ h1, fun _ => rfl⟩
    · rw [if_neg e2, if_neg e2]
      refine ⟨?_, Nat.mod_lt _ h1, Nat.mod_lt _ h1, fun q => ?_⟩
      · have : (i - 1 - cnt) / cnt / cnt < 4 := by
          rw [Nat.div_div_eq_div_mul, Nat.div_lt_iff_lt_mul (Nat.mul_pos h1 h1)]
          rw [Nat.mul_assoc] at hi
          omega
        omega
      · generalize (i - 1 - cnt) / cnt / cnt = z at q
        omega
theorem c_at {cnt f c w : Nat} (hf : 2 ≤ f) (hf5 : f ≤ 5) (hc : c < cnt) (hw : w < cnt) : ∃ i, i < 1 + cnt + 4 * cnt * cnt ∧ cF cnt i = f ∧ cC cnt i = c ∧ cW cnt i = w := by
  obtain ⟨d1, d2, d3, d4⟩ := div3 (a := f - 2) hc hw
  have e : ((f - 2) * cnt + c) * cnt + w + cnt + 1 - 1 - cnt = ((f - 2) * cnt + c) * cnt + w := by omega
  refine ⟨((f - 2) * cnt + c) * cnt + w + cnt + 1, ?_, ?_, ?_, ?_⟩
  · have h1 : (f - 2) * cnt + c + 1 ≤ 4 * cnt := by
      have : (f - 2 + 1) * cnt ≤ 4 * cnt := Nat.mul_le_mul_right _ (by omega)
      rw [Nat.succ_mul] at this
      omega
    have h2 := Nat.mul_le_mul_right cnt h1
    rw [Nat.succ_mul] at h2
    omega
  · unfold cF
    rw [if_neg (by omega), if_neg (by omega), e, d4]
    omega
  · unfold cC
    rw [if_neg (by omega), e, d2]
  · unfold cW
    rw [if_neg (by omega), Nat.add_sub_cancel, Nat.add_mod_right, d3]
theorem c_at1 {cnt w : Nat} (hw : w < cnt) : ∃ i, i < 1 + cnt + 4 * cnt * cnt ∧ cF cnt i = 1 ∧ cC cnt i = 0 ∧ cW cnt i = w := by
  refine ⟨w + 1, by omega, ?_, ?_, ?_⟩
  · unfold cF
    rw [if_neg (by omega), if_pos (by omega)]
  · unfold cC
    rw [if_pos (by omega)]
  · unfold cW
    rw [if_neg (by omega), Nat.add_sub_cancel, Nat.mod_eq_of_lt hw]
def Fc (mi mi' : Nat → Nat → Int32) : Prop := ∀ a, a ≠ 106 → mi' a = mi a
theorem Fc.rf {mi : Nat → Nat → Int32} : Fc mi mi := fun _ _ => rfl
theorem Fc.tr {mi mi' mi'' : Nat → Nat → Int32} (h : Fc mi mi') (h' : Fc mi' mi'') : Fc mi mi'' := fun a h1 => (h' a h1).trans (h a h1)
/-- the class stands at a cut -/
def CT (mi : Nat → Nat → Int32) (f c w : Nat) : Prop := mi 106 3 = nI (fp f) ∧ mi 106 4 = nI c ∧ mi 106 5 = nI w
/-- the class knows the kinds -/
def KF (S : Rs) (ip : Nat → Nat) (n cnt L : Nat) (v : Nat → Nat) (mi : Nat → Nat → Int32) (ml : Nat → Nat → Int64) : Prop := repX S ip n mi ml ∧ XK S ip n cnt L false mi ml ∧ XAll S ip n cnt cnt L mi ml ∧ (∀ b, b < 6 → MemB S cnt (ml 94) (ml 101 b) b) ∧ XV S cnt v ml ∧ FinV S (ml 94) cnt v
theorem KF.to {S : Rs} {ip : Nat → Nat} {n cnt L : Nat} {v : Nat → Nat} {mi mi' : Nat → Nat → Int32} {ml : Nat → Nat → Int64} (h : KF S ip n cnt L v mi ml) (hF : Fc mi mi') : KF S ip n cnt L v mi' ml := by
  obtain ⟨h1, h2, h3, h4⟩ := h
  refine ⟨repX_to h1 (hF 84 (by decide)) (hF 85 (by decide)) (hF 86 (by decide)) (fun _ _ _ => rfl), ?_, ?_, h4⟩
  · unfold XK at h2 ⊢
    rw [hF 93 (by decide), hF 96 (by decide)]
    exact h2
  · unfold XAll LL XJ at h3 ⊢
    rw [hF 96 (by decide), hF 98 (by decide), hF 99 (by decide)]
    exact h3
theorem sub2_neg {i cnt : Nat} (h40 : cnt ≤ 1000) (hi : i < 10000) : i ≤ cnt → nI i - nI 1 - nI cnt < 0 := by
  intro q
  have hin : ((i : Int) - ((1 : Nat) : Int)).bmod (2 ^ 32) = (i : Int) - ((1 : Nat) : Int) := Int.bmod_eq_of_le (by omega) (by omega)
  rw [Int32.lt_iff_toInt_lt, Int32.toInt_sub, Int32.toInt_sub, nI_toInt (by omega), nI_toInt (by omega), nI_toInt (by omega), hin, Int.bmod_eq_of_le (by omega) (by omega)]
  show _ < (0 : Int)
  omega
section G2
variable {l : Launch} {d : Nat} {mi : Nat → Nat → Int32} {ml : Nat → Nat → Int64} {mr : Nat → Nat → Option Nat} {S : Rs} {ip : Nat → Nat} {n cnt L : Nat} {v : Nat → Nat}
theorem c_C_countCuts (hR : SR mr) (hc : mi 93 3 = nI cnt) : am_T l d M_C_countCuts 0 [some (.ref 106)] [] (hm mi ml mr) 0 0 (fun r h' => r = some (.int (nI (1 + cnt + 4 * cnt * cnt))) ∧ h' = hm mi ml mr) := by
  refine am_iconst (v := nI 1) rfl (by decide) ?_
  refine am_aload_n rfl rfl ?_
  refine ho_getR rfl (by first | rfl | assumption) rfl (by first | assumption | exact hR _ _ _ rfl) ?_
  refine ho_getI rfl (by first | rfl | assumption) rfl ?_
  rw [hc]
  first | refine ho_addn rfl ?_ | refine am_iadd rfl ?_
  refine am_iconst (v := nI 4) rfl (by decide) ?_
  refine am_aload_n rfl rfl ?_
  refine ho_getR rfl (by first | rfl | assumption) rfl (by first | assumption | exact hR _ _ _ rfl) ?_
  refine ho_getI rfl (by first | rfl | assumption) rfl ?_
  rw [hc]
  first | refine ho_muln rfl ?_ | refine am_imul rfl ?_
  refine am_aload_n rfl rfl ?_
  refine ho_getR rfl (by first | rfl | assumption) rfl (by first | assumption | exact hR _ _ _ rfl) ?_
  refine ho_getI rfl (by first | rfl | assumption) rfl ?_
  rw [hc]
  first | refine ho_muln rfl ?_ | refine am_imul rfl ?_
  first | refine ho_addn rfl ?_ | refine am_iadd rfl ?_
  exact am_ireturn rfl rfl ⟨rfl, rfl⟩
theorem c_C_goTo (hR : SR mr) (hc : mi 93 3 = nI cnt) (h1 : 1 ≤ cnt) (h40 : cnt ≤ 40) (i : Nat) (hi : i < 1 + cnt + 4 * cnt * cnt) : am_T l (d + 1) M_C_goTo 0 [some (.ref 106), some (.int (nI i)), none, none] [] (hm mi ml mr) 0 0 (fun r h' => r = none ∧ ∃ mi', h' = hm mi' ml mr ∧ Fc mi mi' ∧ CT mi' (cF cnt i) (cC cnt i) (cW cnt i)) := by
  have hs := sq_le h40
  have hi2 := hi
  rw [Nat.mul_assoc] at hi2
  refine am_iconst (v := nI 1) rfl (by decide) ?_
  refine am_aload_n rfl rfl ?_
  refine ho_getR rfl (by first | rfl | assumption) rfl (by first | assumption | exact hR _ _ _ rfl) ?_
  refine ho_getI rfl (by first | rfl | assumption) rfl ?_
  rw [hc]
  refine am_mmax rfl (by decide) ?_
  rw [show (if nI 1 < nI cnt then nI cnt else nI 1) = nI cnt by
    by_cases e : cnt = 1
    · rw [e]
      split <;> rfl
    · rw [if_pos (nI_lt (by omega) (by omega))]]
  refine am_istore_n rfl (Nat.le_of_ble_eq_true rfl) ?_
  show am_T _ _ _ _ [_, _, some _, _] _ _ _ _ _
  refine am_iload_n rfl rfl ?_
  refine am_iconst (v := nI 1) rfl (by decide) ?_
  refine am_isub rfl ?_
  refine am_iload_n rfl rfl ?_
  refine am_isub rfl ?_
  have hneg : i ≤ cnt → nI i - nI 1 - nI cnt < 0 := sub2_neg (by omega) (by omega)
  have hpos : cnt < i → nI i - nI 1 - nI cnt = nI (i - 1 - cnt) := by
    intro q
    rw [nI_subn (by omega), nI_subn (by omega)]
  generalize nI i - nI 1 - nI cnt = p at hneg hpos ⊢
  refine am_istore_n rfl (Nat.le_of_ble_eq_true rfl) ?_
  show am_T _ _ _ _ [_, _, _, some _] _ _ _ _ _
  refine am_aload_n rfl rfl ?_
  refine am_iload_n rfl rfl ?_
  have s43 : ∀ (f : Nat), f = cF cnt i → am_T l (d + 1) M_C_goTo 40 [some (.ref 106), some (.int (nI i)), some (.int (nI cnt)), some (.int p)] [.int (nI (fp f)), .ref 106] (hm mi ml mr) 0 0 (fun r h' => r = none ∧ ∃ mi', h' = hm mi' ml mr ∧ Fc mi mi' ∧ CT mi' (cF cnt i) (cC cnt i) (cW cnt i)) := by
    intro f hf
    refine ho_putI rfl (by first | rfl | assumption) rfl rfl ?_
    refine am_aload_n rfl rfl ?_
    refine am_iload_n rfl rfl ?_
    have s57 : ∀ (c : Nat), c = cC cnt i → am_T l (d + 1) M_C_goTo 57 [some (.ref 106), some (.int (nI i)), some (.int (nI cnt)), some (.int p)] [.int (nI c), .ref 106] (hm (up2 mi 106 3 (nI (fp f))) ml mr) 0 0 (fun r h' => r = none ∧ ∃ mi', h' = hm mi' ml mr ∧ Fc mi mi' ∧ CT mi' (cF cnt i) (cC cnt i) (cW cnt i)) := by
      intro c hcc
      refine ho_putI rfl (by first | rfl | assumption) rfl rfl ?_
      refine am_aload_n rfl rfl ?_
      refine am_iload_n rfl rfl ?_
      have s74 : ∀ (w : Nat), w = cW cnt i → am_T l (d + 1) M_C_goTo 74 [some (.ref 106), some (.int (nI i)), some (.int (nI cnt)), some (.int p)] [.int (nI w), .ref 106] (hm (up2 (up2 mi 106 3 (nI (fp f))) 106 4 (nI c)) ml mr) 0 0 (fun r h' => r = none ∧ ∃ mi', h' = hm mi' ml mr ∧ Fc mi mi' ∧ CT mi' (cF cnt i) (cC cnt i) (cW cnt i)) := by
        intro w hw
        refine ho_putI rfl (by first | rfl | assumption) rfl rfl ?_
        refine am_return rfl rfl ⟨rfl, _, rfl, fun a ha => by rw [up2_off _ _ _ ha, up2_off _ _ _ ha, up2_off _ _ _ ha], ?_, ?_, ?_⟩
        · simp [up2, hf]
        · simp [up2, hcc]
        · simp [up2, hw]
      refine am_if_ne rfl (fun z => ?_) (fun z => ?_)
      · have hi0 : i ≠ 0 := fun q => z (by rw [q]; rfl)
        refine am_iload_n rfl rfl ?_
        refine am_iconst (v := nI 1) rfl (by decide) ?_
        first | refine ho_subn rfl (by omega) ?_ | refine am_isub rfl ?_
        refine am_iload_n rfl rfl ?_
        refine am_irem rfl (nI_nz h1 (by omega)) ?_
        rw [nI_mod (by omega) (by omega)]
        refine s74 _ ?_
        unfold cW
        rw [if_neg hi0]
      · have hi0 : i = 0 := (nI_eq (a := i) (b := 0) (by omega) (by omega)).mp z
        refine am_iconst (v := nI 0) rfl (by decide) ?_
        refine am_goto rfl ?_
        refine s74 _ ?_
        unfold cW
        rw [if_pos hi0]
    refine am_if_ge rfl (fun z => ?_) (fun z => ?_)
    · have hci : cnt < i := Nat.not_le.mp (fun q => Int32.not_lt.mpr z (hneg q))
      rw [hpos hci] at s57 ⊢
      refine am_iload_n rfl rfl ?_
      refine am_iload_n rfl rfl ?_
      refine am_idiv rfl (nI_nz h1 (by omega)) ?_
      rw [nI_div (by omega) (by omega)]
      refine am_iload_n rfl rfl ?_
      refine am_irem rfl (nI_nz h1 (by omega)) ?_
      rw [nI_mod (Nat.lt_of_le_of_lt (Nat.div_le_self (i - 1 - cnt) cnt) (by omega)) (by omega)]
      refine s57 _ ?_
      unfold cC
      rw [if_neg (by omega)]
    · have hci : i ≤ cnt := Nat.not_lt.mp (fun q => z (by rw [hpos q]; exact nI_pos' (by omega)))
      refine am_iconst (v := nI 0) rfl (by decide) ?_
      refine am_goto rfl ?_
      refine s57 _ ?_
      unfold cC
      rw [if_pos (by omega)]
  refine am_if_ne rfl (fun z => ?_) (fun z => ?_)
  · have hi0 : i ≠ 0 := fun q => z (by rw [q]; rfl)
    refine am_iload_n rfl rfl ?_
    refine am_if_ge rfl (fun z => ?_) (fun z => ?_)
    · have hci : cnt < i := Nat.not_le.mp (fun q => Int32.not_lt.mpr z (hneg q))
      rw [hpos hci] at s43 ⊢
      refine am_iload_n rfl rfl ?_
      refine am_iload_n rfl rfl ?_
      refine am_idiv rfl (nI_nz h1 (by omega)) ?_
      rw [nI_div (by omega) (by omega)]
      refine am_iload_n rfl rfl ?_
      refine am_idiv rfl (nI_nz h1 (by omega)) ?_
      have hdl := Nat.div_le_self (i - 1 - cnt) cnt
      rw [nI_div (by omega) (by omega)]
      have hfp : fp ((i - 1 - cnt) / cnt / cnt + 2) = (i - 1 - cnt) / cnt / cnt := by
        unfold fp fx
        rw [if_neg (Nat.succ_ne_zero _), if_neg (fun q => Nat.succ_ne_zero _ (Nat.succ.inj q))]
        rfl
      rw [← hfp]
      refine s43 _ ?_
      unfold cF
      rw [if_neg hi0, if_neg (by omega)]
    · have hci : i ≤ cnt := Nat.not_lt.mp (fun q => z (by rw [hpos q]; exact nI_pos' (by omega)))
      refine am_iconst (v := nI 4) rfl (by decide) ?_
      refine am_goto rfl ?_
      refine s43 1 ?_
      unfold cF
      rw [if_neg hi0, if_pos (by omega)]
  · have hi0 : i = 0 := (nI_eq (a := i) (b := 0) (by omega) (by omega)).mp z
    refine am_iconst (v := nI 5) rfl (by decide) ?_
    refine am_goto rfl ?_
    refine s43 0 ?_
    unfold cF
    rw [if_pos hi0]
theorem c_K_letterOf (hR : SR mr) (hS : okS S) (hK : KF S ip n cnt L v mi ml) (f c : Nat) (h1 : 1 ≤ f) (h5 : f ≤ 5) (hc : c < cnt) : am_T l d M_K_letterOf 0 [some (.ref 93), some (.int (nI (fp f))), some (.int (nI c))] [] (hm mi ml mr) 0 0 (fun r h' => ∃ y, y < L ∧ r = some (.int (nI y)) ∧ h' = hm mi ml mr ∧ ∀ w, w < cnt → joF S ip n (mi 96 y) (ml 94 w) = belF S f (tb (ml 94 c)) (tb (ml 94 w))) := by
  obtain ⟨hX, hXK, hA, -⟩ := hK
  have h40 := hXK.1.1.2
  have hj := fun f c w (h : 1 ≤ f) => joF_bel hS (f := f) (c := c) hX.1.2 (ml 94 w) h (fun j hj => ⟨(hX.2.1 j hj).1, (hX.2.1 j hj).2.1, (hX.2.1 j hj).2.2.1⟩) hX.2.2.1
  obtain ⟨f1, f2, f3, f4⟩ := fp_r h5
  refine am_iload_n rfl rfl ?_
  refine am_iconst (v := nI 4) rfl (by decide) ?_
  refine ho_icmp_ne rfl (by omega) (by omega) (fun z => ?_) (fun z => ?_)
  · have hf2 : 2 ≤ f := by omega
    have hfp : fp f = f - 2 := by
      unfold fp fx
      rw [if_neg (by omega), if_neg (by omega)]
    obtain ⟨y, y1, y2, y3⟩ := hA.1 (f - 2) (by omega) c hc
    rw [hfp]
    refine am_aload_n rfl rfl ?_
    refine ho_getR rfl (by first | rfl | assumption) rfl (by first | assumption | exact hR _ _ _ rfl) ?_
    refine am_iload_n rfl rfl ?_
    refine am_bipush (v := nI 40) rfl (by decide) ?_
    first | refine ho_muln rfl ?_ | refine am_imul rfl ?_
    refine am_iload_n rfl rfl ?_
    first | refine ho_addn rfl ?_ | refine am_iadd rfl ?_
    refine ho_iaload rfl (by first | rfl | assumption) (by omega) ?_
    rw [y2]
    refine am_ireturn rfl rfl ⟨y, y1, rfl, rfl, fun w hw => ?_⟩
    rw [y3, show f - 2 + 2 = f by omega]
    exact hj f _ w h1
  · have hf1 : f = 1 := f3.mp z
    subst hf1
    refine am_iconst (v := nI 0) rfl (by decide) ?_
    refine am_goto rfl ?_
    refine am_ireturn rfl rfl ⟨0, by have := hXK.1.2.1; omega, rfl, rfl, fun w hw => ?_⟩
    rw [hXK.2.2.2.2.2.2.1, hj 1 _ w (by omega)]
    exact belF_num hS hX _ _ _
theorem c_K_follow (hR : SR mr) (hS : okS S) (hK : KF S ip n cnt L v mi ml) (f c w : Nat) (h1 : 1 ≤ f) (h5 : f ≤ 5) (hc : c < cnt) (hw : w < cnt) : am_T l (d + 1) M_K_follow 0 [some (.ref 93), some (.int (nI (fp f))), some (.int (nI c)), some (.int (nI w))] [] (hm mi ml mr) 0 0 (fun r h' => ∃ k, 1 ≤ k ∧ k < cnt ∧ r = some (.int (nI k)) ∧ h' = hm mi ml mr ∧ ml 94 k = belF S f (tb (ml 94 c)) (tb (ml 94 w))) := by
  have h40 := hK.2.1.1.1.2
  have hL := hK.2.1.1.2.2
  refine am_aload_n rfl rfl ?_
  refine ho_getR rfl (by first | rfl | assumption) rfl (by first | assumption | exact hR _ _ _ rfl) ?_
  refine am_aload_n rfl rfl ?_
  refine am_iload_n rfl rfl ?_
  refine am_iload_n rfl rfl ?_
  refine ho_cv2 rfl (by first | rfl | assumption) rfl (Nat.le_of_ble_eq_true rfl) (Nat.le_of_ble_eq_true rfl) (c_K_letterOf hR hS hK f c h1 h5 hc) ?_
  rintro r h' ⟨y, y1, rfl, rfl, y2⟩
  obtain ⟨k, k1, k2, k3, k4⟩ := hK.2.2.1.2 y y1 w hw
  refine am_bipush (v := nI 40) rfl (by decide) ?_
  first | refine ho_muln rfl ?_ | refine am_imul rfl ?_
  refine am_iload_n rfl rfl ?_
  first | refine ho_addn rfl ?_ | refine am_iadd rfl ?_
  refine ho_iaload rfl (by first | rfl | assumption) (by omega) ?_
  rw [k3]
  exact am_ireturn rfl rfl ⟨k, k1, k2, rfl, rfl, by rw [k4]; exact y2 w hw⟩
theorem c_K_isMember (hR : SR mr) (hK : KF S ip n cnt L v mi ml) (k b : Nat) (hk : k < cnt) (hb : b < 6) : am_T l d M_K_isMember 0 [some (.ref 93), some (.int (nI k)), some (.int (nI b))] [] (hm mi ml mr) 0 0 (fun r h' => r = some (.int (bI (inN S (tb (ml 94 k)) b))) ∧ h' = hm mi ml mr) := by
  have h40 := hK.2.1.1.1.2
  have hM := hK.2.2.2.1 b hb k
  rw [decide_eq_true hk, Bool.true_and] at hM
  rw [← hM]
  refine am_aload_n rfl rfl ?_
  refine ho_getR rfl (by first | rfl | assumption) rfl (by first | assumption | exact hR _ _ _ rfl) ?_
  refine am_iload_n rfl rfl ?_
  refine ho_laload rfl (by first | rfl | assumption) (by omega) ?_
  refine am_iload_n rfl rfl ?_
  refine am_lushr rfl rfl ?_
  refine am_lconst (v := 1) rfl (by decide) ?_
  refine am_land rfl ?_
  refine am_lconst (v := 0) rfl (by decide) ?_
  refine am_lcmp rfl ?_
  refine am_if_eq rfl (fun q => ?_) (fun q => ?_)
  · have hp := (tb_utest (by omega)).mp q
    refine am_iconst (v := nI 0) rfl (by decide) ?_
    exact am_zreturn rfl rfl (Or.inl rfl) ⟨by rw [hp]; rfl, rfl⟩
  · have hp : tb (ml 101 b) k = true := by
      cases e : tb (ml 101 b) k with
      | true => rfl
      | false => exact absurd ((tb_utest (by omega)).mpr e) q
    refine am_iconst (v := nI 1) rfl (by decide) ?_
    refine am_goto rfl ?_
    exact am_zreturn rfl rfl (Or.inr rfl) ⟨by rw [hp]; rfl, rfl⟩
theorem c_C_isCutOf (hR : SR mr) (hS : okS S) (hK : KF S ip n cnt L v mi ml) (f c w : Nat) (h5 : f ≤ 5) (hc : c < cnt) (hw : w < cnt) (hT : CT mi f c w) (b : Nat) (hb : b < 6) : am_T l (d + 2) M_C_isCutOf 0 [some (.ref 106), some (.int (nI b))] [] (hm mi ml mr) 0 0 (fun r h' => r = some (.int (bI (inN S (tb (hd S f (ml 94 c) (ml 94 w))) b))) ∧ h' = hm mi ml mr) := by
  obtain ⟨t1, t2, t3⟩ := hT
  obtain ⟨f1, f2, f3, f4⟩ := fp_r h5
  have h40 := hK.2.1.1.1.2
  refine am_aload_n rfl rfl ?_
  refine ho_getR rfl (by first | rfl | assumption) rfl (by first | assumption | exact hR _ _ _ rfl) ?_
  refine am_aload_n rfl rfl ?_
  refine ho_getI rfl (by first | rfl | assumption) rfl ?_
  rw [t1]
  refine am_iconst (v := nI 5) rfl (by decide) ?_
  refine ho_icmp_ne rfl (by omega) (by omega) (fun z => ?_) (fun z => ?_)
  · have hf : 1 ≤ f := by omega
    refine am_aload_n rfl rfl ?_
    refine ho_getR rfl (by first | rfl | assumption) rfl (by first | assumption | exact hR _ _ _ rfl) ?_
    refine am_aload_n rfl rfl ?_
    refine ho_getI rfl (by first | rfl | assumption) rfl ?_
    rw [t1]
    refine am_aload_n rfl rfl ?_
    refine ho_getI rfl (by first | rfl | assumption) rfl ?_
    rw [t2]
    refine am_aload_n rfl rfl ?_
    refine ho_getI rfl (by first | rfl | assumption) rfl ?_
    rw [t3]
    refine ho_cv3 rfl (by first | rfl | assumption) rfl (Nat.le_of_ble_eq_true rfl) (Nat.le_of_ble_eq_true rfl) (c_K_follow hR hS hK f c w hf h5 hc hw) ?_
    rintro r h' ⟨k, k1, k2, rfl, rfl, k3⟩
    refine am_iload_n rfl rfl ?_
    refine ho_cv2 rfl (by first | rfl | assumption) rfl (Nat.le_of_ble_eq_true rfl) (Nat.le_of_ble_eq_true rfl) (c_K_isMember hR hK k b k2 hb) ?_
    rintro r h' ⟨rfl, rfl⟩
    refine am_zreturn rfl rfl (bI_01 _) ⟨?_, rfl⟩
    unfold hd
    rw [if_neg (by omega), k3]
  · have hf : f = 0 := f4.mp z
    refine am_iconst (v := nI 0) rfl (by decide) ?_
    refine am_goto rfl ?_
    refine am_iload_n rfl rfl ?_
    refine ho_cv2 rfl (by first | rfl | assumption) rfl (Nat.le_of_ble_eq_true rfl) (Nat.le_of_ble_eq_true rfl) (c_K_isMember hR hK 0 b (by have := hK.2.1.1.1.1; omega) hb) ?_
    rintro r h' ⟨rfl, rfl⟩
    refine am_zreturn rfl rfl (bI_01 _) ⟨?_, rfl⟩
    unfold hd
    rw [if_pos hf, hK.2.1.2.2.1]
def wt (v : Nat → Nat) (f c w : Nat) : Nat := if f = 0 then 0 else 1 + v w + (if f = 1 then 0 else v c)
theorem c_C_cutSize (hR : SR mr) (hK : KF S ip n cnt L v mi ml) (f c w : Nat) (h5 : f ≤ 5) (hc : c < cnt) (hw : w < cnt) (hc1 : f ≤ 1 → c = 0) (hT : CT mi f c w) : am_T l d M_C_cutSize 0 [some (.ref 106)] [] (hm mi ml mr) 0 0 (fun r h' => r = some (.long (lJ (wt v f c w))) ∧ h' = hm mi ml mr) := by
  obtain ⟨t1, t2, t3⟩ := hT
  obtain ⟨f1, f2, f3, f4⟩ := fp_r h5
  have h40 := hK.2.1.1.1.2
  have hV := hK.2.2.2.2.1
  refine am_aload_n rfl rfl ?_
  refine ho_getI rfl (by first | rfl | assumption) rfl ?_
  rw [t1]
  refine am_iconst (v := nI 5) rfl (by decide) ?_
  refine ho_icmp_ne rfl (by omega) (by omega) (fun z => ?_) (fun z => ?_)
  · have hf : 1 ≤ f := by omega
    refine am_lconst (v := 1) rfl (by decide) ?_
    refine am_aload_n rfl rfl ?_
    refine ho_getR rfl (by first | rfl | assumption) rfl (by first | assumption | exact hR _ _ _ rfl) ?_
    refine ho_getR rfl (by first | rfl | assumption) rfl (by first | assumption | exact hR _ _ _ rfl) ?_
    refine am_aload_n rfl rfl ?_
    refine ho_getI rfl (by first | rfl | assumption) rfl ?_
    rw [t2]
    refine ho_laload rfl rfl (by omega) ?_
    rw [hV.1 c hc]
    refine am_ladd rfl ?_
    rw [show (1 : Int64) = lJ 1 from rfl, lJ_add]
    refine am_aload_n rfl rfl ?_
    refine ho_getR rfl (by first | rfl | assumption) rfl (by first | assumption | exact hR _ _ _ rfl) ?_
    refine ho_getR rfl (by first | rfl | assumption) rfl (by first | assumption | exact hR _ _ _ rfl) ?_
    refine am_aload_n rfl rfl ?_
    refine ho_getI rfl (by first | rfl | assumption) rfl ?_
    rw [t3]
    refine ho_laload rfl rfl (by omega) ?_
    rw [hV.1 w hw]
    refine am_ladd rfl ?_
    rw [lJ_add]
    refine am_lreturn rfl rfl ⟨?_, rfl⟩
    unfold wt
    rw [if_neg (by omega)]
    congr 3
    split
    · next q =>
      rw [hc1 (by omega), hV.2.1]
      omega
    · omega
  · have hf : f = 0 := f4.mp z
    refine am_lconst (v := 0) rfl (by decide) ?_
    refine am_goto rfl ?_
    refine am_lreturn rfl rfl ⟨?_, rfl⟩
    unfold wt
    rw [if_pos hf]
    rfl
theorem c_C_chosenBy {o : Nat} (hR : SR mr) (hS : okS S) (hK : KF S ip n cnt L v mi ml) (f c w : Nat) (h5 : f ≤ 5) (hc : c < cnt) (hw : w < cnt) (hT : CT mi f c w) (hFn : isFn mr o) (C : List Cl) (hA : CA mi o C) (hC : ∀ c ∈ C, okCl c) (h6 : C.length ≤ 6) : am_T l (d + 2) M_C_chosenBy 0 [some (.ref 106), some (.ref o)] [] (hm mi ml mr) 0 0 (fun r h' => r = some (.int (noI (chs S C f (tb (ml 94 c)) (tb (ml 94 w))))) ∧ h' = hm mi ml mr) := by
  obtain ⟨t1, t2, t3⟩ := hT
  have h40 := hK.2.1.1.1.2
  have hkF := hFn.2.1
  refine am_aload_n rfl rfl ?_
  refine ho_getR rfl (by first | rfl | assumption) rfl (by first | assumption | exact hR _ _ _ rfl) ?_
  refine am_aload_n rfl rfl ?_
  refine am_aload_n rfl rfl ?_
  refine ho_getI rfl (by first | rfl | assumption) rfl ?_
  rw [t1]
  refine am_aload_n rfl rfl ?_
  refine ho_getR rfl (by first | rfl | assumption) rfl (by first | assumption | exact hR _ _ _ rfl) ?_
  refine ho_getR rfl (by first | rfl | assumption) rfl (by first | assumption | exact hR _ _ _ rfl) ?_
  refine am_aload_n rfl rfl ?_
  refine ho_getI rfl (by first | rfl | assumption) rfl ?_
  rw [t2]
  refine ho_laload rfl rfl (by omega) ?_
  refine am_aload_n rfl rfl ?_
  refine ho_getR rfl (by first | rfl | assumption) rfl (by first | assumption | exact hR _ _ _ rfl) ?_
  refine ho_getR rfl (by first | rfl | assumption) rfl (by first | assumption | exact hR _ _ _ rfl) ?_
  refine am_aload_n rfl rfl ?_
  refine ho_getI rfl (by first | rfl | assumption) rfl ?_
  rw [t3]
  refine ho_laload rfl rfl (by omega) ?_
  refine ho_cv4 rfl (by first | rfl | assumption) rfl (Nat.le_of_ble_eq_true rfl) (Nat.le_of_ble_eq_true rfl) (c_S_choose hR hS hK.1 hFn C hA hC h6 f h5 _ _) ?_
  rintro r h' ⟨rfl, rfl⟩
  exact am_ireturn rfl rfl ⟨rfl, rfl⟩
end G2
