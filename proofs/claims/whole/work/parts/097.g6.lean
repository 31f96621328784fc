/-! how many clauses are useless -/
def us32 (x : Int32) (k : Nat) : Int32 := (x.toUInt32 >>> ((nI k).toUInt32 &&& Int32.toUInt32 31)).toInt32
def bc1 (x : Int32) : Int32 := x - (us32 x 1 &&& nI 1431655765)
def bc2 (a : Int32) : Int32 := (a &&& nI 858993459) + (us32 a 2 &&& nI 858993459)
def bc3 (b : Int32) : Int32 := (b + us32 b 4) &&& nI 252645135
def bc4 (c : Int32) : Int32 := c + us32 c 8
def bc5 (c : Int32) : Int32 := c + us32 c 16
def bcI (x : Int32) : Int32 := bc5 (bc4 (bc3 (bc2 (bc1 x)))) &&& nI 63
def popc (m : Nat) : Nat := (m % 2) + (m / 2 % 2) + (m / 4 % 2) + (m / 8 % 2) + (m / 16 % 2) + (m / 32 % 2)
def cnt0 (U : Nat → Bool) : Nat → Nat
  | 0 => 0
  | n + 1 => cnt0 U n + (if U n then 0 else 1)
theorem bcI_pop : ∀ m, m < 64 → bcI (nI m) = nI (popc m) := by decide +kernel
theorem popc_cnt : ∀ m, m < 64 → ∀ C, C < 7 → (∀ j, j < 6 → C ≤ j → m.testBit j = false) → popc m + cnt0 (m.testBit) C = C := by decide +kernel
theorem or_bit : ∀ m, m < 64 → ∀ j, j < 6 → nI m ||| (nI 1 <<< (nI j &&& 31)) = nI (m ||| 2 ^ j) ∧ m ||| 2 ^ j < 64 := by decide +kernel
theorem or_bit7 : ∀ m, m < 128 → ∀ j, j < 7 → nI m ||| (nI 1 <<< (nI j &&& 31)) = nI (m ||| 2 ^ j) ∧ m ||| 2 ^ j < 128 := by decide +kernel
theorem shr_bit7 : ∀ m, m < 128 → ∀ j, j < 7 → (nI m >>> (nI j &&& 31)) &&& nI 1 = nI (if m.testBit j then 1 else 0) := by decide +kernel
theorem or_0 (m : Nat) : nI m ||| nI 0 = nI m := by
  show nI m ||| 0 = nI m
  exact Int32.or_zero
theorem testBit_or2 (m j i : Nat) : (m ||| 2 ^ j).testBit i = (m.testBit i || decide (j = i)) := by
  rw [Nat.testBit_or, Nat.testBit_two_pow]
theorem cnt0_congr {U V : Nat → Bool} : ∀ {n : Nat}, (∀ j, j < n → U j = V j) → cnt0 U n = cnt0 V n
  | 0, _ => rfl
  | n + 1, h => by
    unfold cnt0
    rw [cnt0_congr (fun j hj => h j (by omega)), h n (by omega)]
section G6
variable {l : Launch} {d : Nat} {ml : Nat → Nat → Int64} {mr : Nat → Nat → Option Nat} {S : Rs} {ip : Nat → Nat} {n cnt L o : Nat} {v : Nat → Nat} {F : Fn}
theorem c_JI_bitCount {h : am_H} (x : Int32) : am_T l d M_JI_bitCount 0 [some (.int x)] [] h 0 0 (fun r h' => r = some (.int (bcI x)) ∧ h' = h) := by
  refine am_iload_n rfl rfl ?_
  refine am_iload_n rfl rfl ?_
  refine am_iconst (v := nI 1) rfl (by decide) ?_
  refine am_iushr (v := us32 x 1) rfl rfl ?_
  refine am_ldcw (v := nI 1431655765) rfl rfl ?_
  refine am_iand rfl ?_
  refine am_isub rfl ?_
  refine am_istore_n rfl (Nat.le_of_ble_eq_true rfl) ?_
  show am_T _ _ _ _ [some (.int (bc1 x))] _ _ _ _ _
  generalize ha : bc1 x = a
  refine am_iload_n rfl rfl ?_
  refine am_ldcw (v := nI 858993459) rfl rfl ?_
  refine am_iand rfl ?_
  refine am_iload_n rfl rfl ?_
  refine am_iconst (v := nI 2) rfl (by decide) ?_
  refine am_iushr (v := us32 a 2) rfl rfl ?_
  refine am_ldcw (v := nI 858993459) rfl rfl ?_
  refine am_iand rfl ?_
  refine am_iadd rfl ?_
  refine am_istore_n rfl (Nat.le_of_ble_eq_true rfl) ?_
  show am_T _ _ _ _ [some (.int (bc2 a))] _ _ _ _ _
  generalize hb : bc2 a = b
  refine am_iload_n rfl rfl ?_
  refine am_iload_n rfl rfl ?_
  refine am_iconst (v := nI 4) rfl (by decide) ?_
  refine am_iushr (v := us32 b 4) rfl rfl ?_
  refine am_iadd rfl ?_
  refine am_ldcw (v := nI 252645135) rfl rfl ?_
  refine am_iand rfl ?_
  refine am_istore_n rfl (Nat.le_of_ble_eq_true rfl) ?_
  show am_T _ _ _ _ [some (.int (bc3 b))] _ _ _ _ _
  generalize hc : bc3 b = c
  refine am_iload_n rfl rfl ?_
  refine am_iload_n rfl rfl ?_
  refine am_bipush (v := nI 8) rfl (by decide) ?_
  refine am_iushr (v := us32 c 8) rfl rfl ?_
  refine am_iadd rfl ?_
  refine am_istore_n rfl (Nat.le_of_ble_eq_true rfl) ?_
  show am_T _ _ _ _ [some (.int (bc4 c))] _ _ _ _ _
  generalize he : bc4 c = e
  refine am_iload_n rfl rfl ?_
  refine am_iload_n rfl rfl ?_
  refine am_bipush (v := nI 16) rfl (by decide) ?_
  refine am_iushr (v := us32 e 16) rfl rfl ?_
  refine am_iadd rfl ?_
  refine am_istore_n rfl (Nat.le_of_ble_eq_true rfl) ?_
  show am_T _ _ _ _ [some (.int (bc5 e))] _ _ _ _ _
  refine am_iload_n rfl rfl ?_
  refine am_bipush (v := nI 63) rfl (by decide) ?_
  refine am_iand rfl ?_
  refine am_ireturn rfl rfl ⟨?_, rfl⟩
  unfold bcI
  rw [ha, hb, hc, he]
/-- the clauses that ways before the k-th choose -/
def UsB (W : Nat → Option (Option Nat)) (k : Nat) (B : Nat → Bool) : Prop := ∀ j, B j = true ↔ ∃ i, i < k ∧ W i = some (some j)
theorem UsB_no {W : Nat → Option (Option Nat)} {k : Nat} {B : Nat → Bool} (h : UsB W k B) (hW : ∀ j, W k ≠ some (some j)) : UsB W (k + 1) B := by
  intro j
  rw [h j]
  constructor
  · rintro ⟨i, h1, h2⟩
    exact ⟨i, by omega, h2⟩
  · rintro ⟨i, h1, h2⟩
    by_cases e : i = k
    · rw [e] at h2
      exact absurd h2 (hW j)
    · exact ⟨i, by omega, h2⟩
theorem UsB_yes {W : Nat → Option (Option Nat)} {k j0 : Nat} {B B' : Nat → Bool} (h : UsB W k B) (hW : W k = some (some j0)) (hB : ∀ j, B' j = (B j || decide (j0 = j))) : UsB W (k + 1) B' := by
  intro j
  rw [hB j, Bool.or_eq_true, h j, decide_eq_true_eq]
  constructor
  · rintro (⟨i, h1, h2⟩ | rfl)
    · exact ⟨i, by omega, h2⟩
    · exact ⟨k, by omega, hW⟩
  · rintro ⟨i, h1, h2⟩
    by_cases e : i = k
    · rw [e, hW] at h2
      cases h2
      exact Or.inr rfl
    · exact Or.inl ⟨i, by omega, h2⟩
noncomputable def wX (S : Rs) (F : Fn) (cnt : Nat) (km : Nat → Int64) (i : Nat) : Option (Option Nat) := wch S F (cF cnt i) (km (cC cnt i)) (km (cW cnt i))
noncomputable def wM (S : Rs) (F : Fn) (cnt : Nat) (km : Nat → Int64) (i : Nat) : Option (Option Nat) := wch S F (wF cnt i) (km (wC cnt i)) (km (wW cnt i))
theorem wch_lt {f : Nat} {x y : Int64} {j : Nat} (h : wch S F f x y = some (some j)) : j < F.2.2.length := by
  unfold wch at h
  split at h
  · exact chs_lt (Option.some.inj h)
  · cases h
theorem c_C_countUseless (hR : SR mr) (hS : okS S) (hFn : isFn mr o) (hF : okF F) (mi0 : Nat → Nat → Int32) (hK0 : KF S ip n cnt L v mi0 ml) (hA0 : FA mi0 o F) : am_T l (d + 3) M_C_countUseless 0 [some (.ref 106), some (.ref o), none, none, none] [] (hm mi0 ml mr) 0 0 (fun r h' => ∃ B mi', r = some (.int (nI (cnt0 B F.2.2.length))) ∧ h' = hm mi' ml mr ∧ Fc mi0 mi' ∧ UsB (wX S F cnt (ml 94)) (1 + cnt + 4 * cnt * cnt) B) := by
  have hkF := hFn.2.1
  have h1 := hK0.2.1.1.1.1
  have h40 := hK0.2.1.1.1.2
  have hs := sq_le h40
  have ho := hFn.1
  have h6 := hF.2.2.2.2
  have hM5 : 1 + cnt + 4 * cnt * cnt ≤ 10000 := by
    rw [Nat.mul_assoc]
    omega
  have loop : ∀ (j k m : Nat) (mi : Nat → Nat → Int32), k + j = 1 + cnt + 4 * cnt * cnt → Fc mi0 mi → m < 64 → UsB (wX S F cnt (ml 94)) k (m.testBit) → am_T l (d + 3) M_C_countUseless 4 [some (.ref 106), some (.ref o), some (.int (nI m)), some (.int (nI k)), none] [] (hm mi ml mr) 0 0 (fun r h' => ∃ B mi', r = some (.int (nI (cnt0 B F.2.2.length))) ∧ h' = hm mi' ml mr ∧ Fc mi0 mi' ∧ UsB (wX S F cnt (ml 94)) (1 + cnt + 4 * cnt * cnt) B) := by
    intro j
    induction j with
    | zero =>
      intro k m mi hj hFc hm64 hU
      have hK := hK0.to hFc
      have hA : FA mi o F := FA_to hA0 (fun a _ _ => hFc a (by omega))
      refine am_iload_n rfl rfl ?_
      refine am_aload_n rfl rfl ?_
      refine ho_cv0 rfl (by first | rfl | assumption) rfl (Nat.le_of_ble_eq_true rfl) (Nat.le_of_ble_eq_true rfl) (c_C_countCuts hR hK.2.1.2.1.1) ?_
      rintro x h' ⟨rfl, rfl⟩
      refine ho_icmp_ge rfl (by omega) (by omega) (fun _ => ?_) (fun z => absurd (by omega) z)
      refine am_aload_n rfl rfl ?_
      refine ho_getI rfl (by first | rfl | assumption) rfl ?_
      rw [hA.2.2.1]
      refine am_iload_n rfl rfl ?_
      refine ho_cs1 rfl rfl (Nat.le_of_ble_eq_true rfl) (Nat.le_of_ble_eq_true rfl) (c_JI_bitCount (nI m)) ?_
      rintro x h' ⟨rfl, rfl⟩
      rw [bcI_pop m hm64]
      have hp := popc_cnt m hm64 F.2.2.length (by omega) (fun j _ hj => by
        cases e : m.testBit j with
        | false => rfl
        | true =>
          obtain ⟨i, -, h2⟩ := (hU j).mp e
          have := wch_lt h2
          omega)
      refine ho_subn rfl (by omega) ?_
      refine am_ireturn rfl rfl ⟨m.testBit, mi, ?_, rfl, hFc, by rw [← hj]; exact hU⟩
      rw [show F.2.2.length - popc m = cnt0 (m.testBit) F.2.2.length by omega]
    | succ j ih =>
      intro k m mi hj hFc hm64 hU
      have hK := hK0.to hFc
      obtain ⟨ci1, ci2, ci3, ci4⟩ := c_in h1 (show k < 1 + cnt + 4 * cnt * cnt by omega)
      refine am_iload_n rfl rfl ?_
      refine am_aload_n rfl rfl ?_
      refine ho_cv0 rfl (by first | rfl | assumption) rfl (Nat.le_of_ble_eq_true rfl) (Nat.le_of_ble_eq_true rfl) (c_C_countCuts hR hK.2.1.2.1.1) ?_
      rintro x h' ⟨rfl, rfl⟩
      refine ho_icmp_ge rfl (by omega) (by omega) (fun z => absurd z (by omega)) (fun _ => ?_)
      refine am_aload_n rfl rfl ?_
      refine am_iload_n rfl rfl ?_
      refine ho_cv1 rfl (by first | rfl | assumption) rfl (Nat.le_of_ble_eq_true rfl) (Nat.le_of_ble_eq_true rfl) (c_C_goTo hR hK.2.1.2.1.1 h1 h40 k (by omega)) ?_
      rintro x h' ⟨rfl, mi1, rfl, hF1, hT⟩
      have hFc1 := hFc.tr hF1
      have hK1 := hK0.to hFc1
      have hA1 : FA mi1 o F := FA_to hA0 (fun a _ _ => hFc1 a (by omega))
      have s37 : ∀ q : Option Nat, (∀ j, wX S F cnt (ml 94) k = some (some j) ↔ q = some j) → am_T l (d + 3) M_C_countUseless 37 [some (.ref 106), some (.ref o), some (.int (nI m)), some (.int (nI k)), none] [.int (noI q)] (hm mi1 ml mr) 0 0 (fun r h' => ∃ B mi', r = some (.int (nI (cnt0 B F.2.2.length))) ∧ h' = hm mi' ml mr ∧ Fc mi0 mi' ∧ UsB (wX S F cnt (ml 94)) (1 + cnt + 4 * cnt * cnt) B) := by
        intro q hq
        cases q with
        | none =>
          show am_T l (d + 3) M_C_countUseless 37 _ [.int (-1)] _ _ _ _
          refine am_istore rfl (Nat.le_of_ble_eq_true rfl) ?_
          show am_T _ _ _ _ [_, _, _, _, some _] _ _ _ _ _
          refine am_iload_n rfl rfl ?_
          refine am_iload rfl rfl ?_
          refine am_iconst (v := -1) rfl (by decide) ?_
          refine am_icmp_ne rfl (fun z => absurd rfl z) (fun _ => ?_)
          refine am_iconst (v := nI 0) rfl (by decide) ?_
          refine am_goto rfl ?_
          refine am_ior rfl ?_
          rw [or_0]
          refine am_istore_n rfl (Nat.le_of_ble_eq_true rfl) ?_
          show am_T _ _ _ _ [_, _, some _, _, _] _ _ _ _ _
          refine am_iinc rfl rfl (nI_inc1 _) ?_
          show am_T _ _ _ _ [_, _, _, some _, _] _ _ _ _ _
          refine am_goto rfl ?_
          refine am_drops [4] ?_
          exact ih (k + 1) m mi1 (by omega) hFc1 hm64 (UsB_no hU (fun j hj => by cases (hq j).mp hj))
        | some j0 =>
          have hw := (hq j0).mpr rfl
          have hj0 := wch_lt hw
          obtain ⟨o1, o2⟩ := or_bit m hm64 j0 (by omega)
          show am_T l (d + 3) M_C_countUseless 37 _ [.int (nI j0)] _ _ _ _
          refine am_istore rfl (Nat.le_of_ble_eq_true rfl) ?_
          show am_T _ _ _ _ [_, _, _, _, some _] _ _ _ _ _
          refine am_iload_n rfl rfl ?_
          refine am_iload rfl rfl ?_
          refine am_iconst (v := -1) rfl (by decide) ?_
          refine am_icmp_ne rfl (fun _ => ?_) (fun z => absurd z (nI_nm1 (by omega)))
          refine am_iconst (v := nI 1) rfl (by decide) ?_
          refine am_iload rfl rfl ?_
          refine am_ishl rfl ?_
          refine am_ior rfl ?_
          rw [o1]
          refine am_istore_n rfl (Nat.le_of_ble_eq_true rfl) ?_
          show am_T _ _ _ _ [_, _, some _, _, _] _ _ _ _ _
          refine am_iinc rfl rfl (nI_inc1 _) ?_
          show am_T _ _ _ _ [_, _, _, some _, _] _ _ _ _ _
          refine am_goto rfl ?_
          refine am_drops [4] ?_
          exact ih (k + 1) (m ||| 2 ^ j0) mi1 (by omega) hFc1 o2 (UsB_yes hU hw (testBit_or2 m j0))
      refine am_aload_n rfl rfl ?_
      refine am_aload_n rfl rfl ?_
      refine ho_getI rfl (by first | rfl | assumption) rfl ?_
      rw [hA1.1]
      refine ho_cv1 rfl (by first | rfl | assumption) rfl (Nat.le_of_ble_eq_true rfl) (Nat.le_of_ble_eq_true rfl) (c_C_isCutOf hR hS hK1 _ _ _ ci1 ci2 ci3 hT F.1 hF.1) ?_
      rintro x h' ⟨rfl, rfl⟩
      refine am_if_eq rfl (fun q => ?_) (fun q => ?_)
      · refine am_iconst (v := -1) rfl (by decide) ?_
        refine s37 none (fun j => ?_)
        unfold wX wch
        rw [(bI_eq _).mp q]
        simp
      have hin := (bI_ne _).mp q
      refine am_aload_n rfl rfl ?_
      refine am_aload_n rfl rfl ?_
      refine ho_cv1 rfl (by first | rfl | assumption) rfl (Nat.le_of_ble_eq_true rfl) (Nat.le_of_ble_eq_true rfl) (c_C_chosenBy hR hS hK1 _ _ _ ci1 ci2 ci3 hT hFn F.2.2 hA1.2.2 hF.2.2.1 hF.2.2.2.2) ?_
      rintro x h' ⟨rfl, rfl⟩
      refine am_goto rfl ?_
      refine s37 _ (fun j => ?_)
      unfold wX wch
      rw [hin, if_pos rfl]
      simp
  refine am_iconst (v := nI 0) rfl (by decide) ?_
  refine am_istore_n rfl (Nat.le_of_ble_eq_true rfl) ?_
  show am_T _ _ _ _ [_, _, some _, _, _] _ _ _ _ _
  refine am_iconst (v := nI 0) rfl (by decide) ?_
  refine am_istore_n rfl (Nat.le_of_ble_eq_true rfl) ?_
  show am_T _ _ _ _ [_, _, _, some _, _] _ _ _ _ _
  exact loop (1 + cnt + 4 * cnt * cnt) 0 0 mi0 (Nat.zero_add _) Fc.rf (by omega) (fun j => ⟨fun z => by simp at z, fun ⟨i, hi, _⟩ => by omega⟩)
end G6
