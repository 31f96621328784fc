/-! the least way that no clause is chosen for -/
noncomputable def unP (S : Rs) (F : Fn) (f : Nat) (x y : Int64) : Bool := match wch S F f x y with
  | some none => true
  | _ => false
theorem chs_1 {S : Rs} {C : List Cl} {i i' b : Nat → Bool} : chs S C 1 i b = chs S C 1 i' b := by
  have : ∀ (C : List Cl) k, chsG S 1 i b k C = chsG S 1 i' b k C := by
    intro C
    induction C with
    | nil => exact fun _ => rfl
    | cons c C ih =>
      intro k
      unfold chsG
      rw [ih (k + 1)]
      have : mtch S c.1 1 i b = mtch S c.1 1 i' b := rfl
      rw [this]
  exact this C 0
theorem wch_0 {S : Rs} {F : Fn} (x y x' y' : Int64) : wch S F 0 x y = wch S F 0 x' y' := by
  unfold wch
  rw [show hd S 0 x y = hd S 0 x' y' from rfl, chs_0]
theorem wch_1 {S : Rs} (hS : okS S) {ip : Nat → Nat} {n : Nat} {mi : Nat → Nat → Int32} {ml : Nat → Nat → Int64} (hX : repX S ip n mi ml) {F : Fn} (x x' y : Int64) : wch S F 1 x y = wch S F 1 x' y := by
  unfold wch
  rw [show hd S 1 x y = hd S 1 x' y from belF_num hS hX _ _ _, chs_1 (i' := tb x')]
theorem Lst_skip {p : Nat → Bool} {k : Nat} {u : Nat → Nat} {r : Int64} (h : Lst p k u r) (hp : p k = false) : Lst p (k + 1) u r := by
  rcases h with ⟨h1, h2⟩ | ⟨x, x1, x2, x3, x4⟩
  · refine Or.inl ⟨h1, fun k' hk' => ?_⟩
    by_cases e : k' = k
    · rw [e]; exact hp
    · exact h2 k' (by omega)
  · refine Or.inr ⟨x, by omega, x2, x3, fun k' hk' hp' => ?_⟩
    by_cases e : k' = k
    · rw [e, hp] at hp'; cases hp'
    · exact x4 k' (by omega) hp'
theorem Lst_first {p : Nat → Bool} {k : Nat} {u : Nat → Nat} (h : Lst p k u (-1)) (hu : ∀ i, u i < 2 ^ 63) (hp : p k = true) : Lst p (k + 1) u (lJ (u k)) := by
  refine Or.inr ⟨k, by omega, hp, rfl, fun k' hk' hp' => ?_⟩
  by_cases e : k' = k
  · rw [e]; exact Nat.le_refl _
  · rcases h with ⟨-, h2⟩ | ⟨x, x1, x2, x3, x4⟩
    · rw [h2 k' (by omega)] at hp'; cases hp'
    · exact absurd x3.symm (lJ_nn (hu x))
theorem Lst_min {p : Nat → Bool} {k : Nat} {u : Nat → Nat} {r : Int64} (h : Lst p k u r) (hr : r ≠ -1) (hu : ∀ i, u i < 2 ^ 63) (hp : p k = true) : Lst p (k + 1) u (if lJ (u k) < r then lJ (u k) else r) := by
  rcases h with ⟨h1, -⟩ | ⟨x, x1, x2, rfl, x4⟩
  · exact absurd h1 hr
  have hx := hu x
  have hk := hu k
  have hlt : lJ (u k) < lJ (u x) ↔ u k < u x := by
    rw [Int64.lt_iff_toInt_lt, lJ_toInt (by omega), lJ_toInt (by omega)]
    omega
  by_cases g : u k < u x
  · rw [if_pos (hlt.mpr g)]
    refine Or.inr ⟨k, by omega, hp, rfl, fun k' hk' hp' => ?_⟩
    by_cases e : k' = k
    · rw [e]; exact Nat.le_refl _
    · have := x4 k' (by omega) hp'
      omega
  · rw [if_neg (fun q => g (hlt.mp q))]
    refine Or.inr ⟨x, by omega, x2, rfl, fun k' hk' hp' => ?_⟩
    by_cases e : k' = k
    · rw [e]; omega
    · exact x4 k' (by omega) hp'
theorem nI_nm1 {j : Nat} (h : j < 2 ^ 31) : nI j ≠ -1 := by
  intro e
  have := congrArg Int32.toInt e
  rw [nI_toInt h, show (-1 : Int32).toInt = -1 from rfl] at this
  omega
section G3
variable {l : Launch} {d : Nat} {ml : Nat → Nat → Int64} {mr : Nat → Nat → Option Nat} {S : Rs} {ip : Nat → Nat} {n cnt L o : Nat} {v : Nat → Nat} {F : Fn}
noncomputable def unX (S : Rs) (F : Fn) (cnt : Nat) (km : Nat → Int64) (i : Nat) : Bool := unP S F (cF cnt i) (km (cC cnt i)) (km (cW cnt i))
def utX (v : Nat → Nat) (cnt i : Nat) : Nat := wt v (cF cnt i) (cC cnt i) (cW cnt i)
theorem wt_le {v : Nat → Nat} {b : Nat} (h : ∀ k, v k ≤ b) (f c w : Nat) : wt v f c w ≤ 1 + 2 * b := by
  have h1 := h c
  have h2 := h w
  unfold wt
  split
  · omega
  · split <;> omega
theorem c_C_leastUncovered (hR : SR mr) (hS : okS S) (hFn : isFn mr o) (hF : okF F) (mi0 : Nat → Nat → Int32) (hK0 : KF S ip n cnt L v mi0 ml) (hA0 : FA mi0 o F) : am_T l (d + 3) M_C_leastUncovered 0 [some (.ref 106), some (.ref o), none, none, none] [] (hm mi0 ml mr) 0 0 (fun r h' => ∃ z mi', r = some (.long z) ∧ h' = hm mi' ml mr ∧ Fc mi0 mi' ∧ Lst (unX S F cnt (ml 94)) (1 + cnt + 4 * cnt * cnt) (utX v cnt) z) := by
  have hkF := hFn.2.1
  have h1 := hK0.2.1.1.1.1
  have h40 := hK0.2.1.1.1.2
  have hs := sq_le h40
  have ho := hFn.1
  have hFF : FARx = 1152921504606846976 := rfl
  have hu : ∀ i, utX v cnt i < 2 ^ 63 := fun i => by
    have := wt_le hK0.2.2.2.2.1.2.2.1 (cF cnt i) (cC cnt i) (cW cnt i)
    unfold utX
    omega
  have hM5 : 1 + cnt + 4 * cnt * cnt ≤ 10000 := by
    rw [Nat.mul_assoc]
    omega
  have loop : ∀ (j k : Nat) (r : Int64) (mi : Nat → Nat → Int32), k + j = 1 + cnt + 4 * cnt * cnt → Fc mi0 mi → Lst (unX S F cnt (ml 94)) k (utX v cnt) r → am_T l (d + 3) M_C_leastUncovered 7 [some (.ref 106), some (.ref o), some (.long r), none, some (.int (nI k))] [] (hm mi ml mr) 0 0 (fun r h' => ∃ z mi', r = some (.long z) ∧ h' = hm mi' ml mr ∧ Fc mi0 mi' ∧ Lst (unX S F cnt (ml 94)) (1 + cnt + 4 * cnt * cnt) (utX v cnt) z) := by
    intro j
    induction j with
    | zero =>
      intro k r mi hj hFc hL
      have hK := hK0.to hFc
      refine am_iload rfl rfl ?_
      refine am_aload_n rfl rfl ?_
      refine ho_cv0 rfl (by first | rfl | assumption) rfl (Nat.le_of_ble_eq_true rfl) (Nat.le_of_ble_eq_true rfl) (c_C_countCuts hR hK.2.1.2.1.1) ?_
      rintro x h' ⟨rfl, rfl⟩
      refine ho_icmp_ge rfl (by omega) (by omega) (fun _ => ?_) (fun z => absurd (by omega) z)
      refine am_lload_n rfl rfl ?_
      exact am_lreturn rfl rfl ⟨r, mi, rfl, rfl, hFc, by rw [← hj]; exact hL⟩
    | succ j ih =>
      intro k r mi hj hFc hL
      have hK := hK0.to hFc
      obtain ⟨ci1, ci2, ci3, ci4⟩ := c_in h1 (show k < 1 + cnt + 4 * cnt * cnt by omega)
      refine am_iload rfl rfl ?_
      refine am_aload_n rfl rfl ?_
      refine ho_cv0 rfl (by first | rfl | assumption) rfl (Nat.le_of_ble_eq_true rfl) (Nat.le_of_ble_eq_true rfl) (c_C_countCuts hR hK.2.1.2.1.1) ?_
      rintro x h' ⟨rfl, rfl⟩
      refine ho_icmp_ge rfl (by omega) (by omega) (fun z => absurd z (by omega)) (fun _ => ?_)
      refine am_aload_n rfl rfl ?_
      refine am_iload rfl rfl ?_
      refine ho_cv1 rfl (by first | rfl | assumption) rfl (Nat.le_of_ble_eq_true rfl) (Nat.le_of_ble_eq_true rfl) (c_C_goTo hR hK.2.1.2.1.1 h1 h40 k (by omega)) ?_
      rintro x h' ⟨rfl, mi1, rfl, hF1, hT⟩
      have hFc1 := hFc.tr hF1
      have hK1 := hK0.to hFc1
      have hA1 : FA mi1 o F := FA_to hA0 (fun a _ _ => hFc1 a (by omega))
      have next : ∀ r', Lst (unX S F cnt (ml 94)) (k + 1) (utX v cnt) r' → am_T l (d + 3) M_C_leastUncovered 66 [some (.ref 106), some (.ref o), some (.long r'), none, some (.int (nI k))] [] (hm mi1 ml mr) 0 0 (fun r h' => ∃ z mi', r = some (.long z) ∧ h' = hm mi' ml mr ∧ Fc mi0 mi' ∧ Lst (unX S F cnt (ml 94)) (1 + cnt + 4 * cnt * cnt) (utX v cnt) z) := by
        intro r' h
        refine am_iinc rfl rfl (nI_inc1 _) ?_
        show am_T _ _ _ _ [_, _, _, _, some _] _ _ _ _ _
        refine am_goto rfl ?_
        exact ih (k + 1) r' mi1 (by omega) hFc1 h
      refine am_aload_n rfl rfl ?_
      refine am_aload_n rfl rfl ?_
      refine ho_getI rfl (by first | rfl | assumption) rfl ?_
      rw [hA1.1]
      refine ho_cv1 rfl (by first | rfl | assumption) rfl (Nat.le_of_ble_eq_true rfl) (Nat.le_of_ble_eq_true rfl) (c_C_isCutOf hR hS hK1 _ _ _ ci1 ci2 ci3 hT F.1 hF.1) ?_
      rintro x h' ⟨rfl, rfl⟩
      refine am_if_eq rfl (fun q => ?_) (fun q => ?_)
      · refine next r (Lst_skip hL ?_)
        unfold unX unP wch
        rw [(bI_eq _).mp q]
        rfl
      have hin := (bI_ne _).mp q
      refine am_aload_n rfl rfl ?_
      refine am_aload_n rfl rfl ?_
      refine ho_cv1 rfl (by first | rfl | assumption) rfl (Nat.le_of_ble_eq_true rfl) (Nat.le_of_ble_eq_true rfl) (c_C_chosenBy hR hS hK1 _ _ _ ci1 ci2 ci3 hT hFn F.2.2 hA1.2.2 hF.2.2.1 hF.2.2.2.2) ?_
      rintro x h' ⟨rfl, rfl⟩
      refine am_iconst (v := -1) rfl (by decide) ?_
      cases hch : chs S F.2.2 (cF cnt k) (tb (ml 94 (cC cnt k))) (tb (ml 94 (cW cnt k))) with
      | some j' =>
        have hj' := chs_lt hch
        have h6 := hF.2.2.2.2
        refine am_icmp_ne rfl (fun _ => ?_) (fun z => absurd z (nI_nm1 (by omega)))
        refine next r (Lst_skip hL ?_)
        unfold unX unP wch
        rw [hin, if_pos rfl, hch]
      | none =>
        have hp : unX S F cnt (ml 94) k = true := by
          unfold unX unP wch
          rw [hin, if_pos rfl, hch]
        refine am_icmp_ne rfl (fun z => absurd rfl z) (fun _ => ?_)
        refine am_lload_n rfl rfl ?_
        refine am_ldc2m rfl rfl ?_
        refine am_lcmp rfl ?_
        refine am_if_ne rfl (fun q2 => ?_) (fun q2 => ?_)
        · have hne : r ≠ -1 := fun e => q2 (lg_cmp_0.mpr e)
          refine am_lload_n rfl rfl ?_
          refine am_aload_n rfl rfl ?_
          refine ho_cv0 rfl (by first | rfl | assumption) rfl (Nat.le_of_ble_eq_true rfl) (Nat.le_of_ble_eq_true rfl) (c_C_cutSize hR hK1 _ _ _ ci1 ci2 ci3 ci4 hT) ?_
          rintro x h' ⟨rfl, rfl⟩
          refine am_mmin rfl (by decide) ?_
          refine am_lstore_n rfl (Nat.le_of_ble_eq_true rfl) ?_
          show am_T _ _ _ _ [_, _, some _, none, _] _ _ _ _ _
          exact next _ (Lst_min hL hne hu hp)
        · have e : r = -1 := lg_cmp_0.mp q2
          subst e
          refine am_aload_n rfl rfl ?_
          refine ho_cv0 rfl (by first | rfl | assumption) rfl (Nat.le_of_ble_eq_true rfl) (Nat.le_of_ble_eq_true rfl) (c_C_cutSize hR hK1 _ _ _ ci1 ci2 ci3 ci4 hT) ?_
          rintro x h' ⟨rfl, rfl⟩
          refine am_goto rfl ?_
          refine am_lstore_n rfl (Nat.le_of_ble_eq_true rfl) ?_
          show am_T _ _ _ _ [_, _, some _, none, _] _ _ _ _ _
          exact next _ (Lst_first hL hu hp)
  refine am_ldc2m rfl rfl ?_
  refine am_lstore_n rfl (Nat.le_of_ble_eq_true rfl) ?_
  show am_T _ _ _ _ [_, _, some _, none, _] _ _ _ _ _
  refine am_iconst (v := nI 0) rfl (by decide) ?_
  refine am_istore rfl (Nat.le_of_ble_eq_true rfl) ?_
  show am_T _ _ _ _ [_, _, _, _, some _] _ _ _ _ _
  exact loop (1 + cnt + 4 * cnt * cnt) 0 _ mi0 (Nat.zero_add _) Fc.rf (Or.inl ⟨rfl, fun k hk => by omega⟩)
end G3
