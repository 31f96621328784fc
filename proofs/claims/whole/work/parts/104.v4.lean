/-! the class: mayMissOutput -/
theorem evl_x {S : Rs} {F : Nat → Fn} {X X' Y : Bool × Int64} : ∀ (K : List Nat), (∀ k ∈ K, k ≠ 120) → evl S F X Y K = evl S F X' Y K
  | [], _ => rfl
  | k :: K, h => by
    show stp S F X Y k (evl S F X Y K) = stp S F X' Y k (evl S F X' Y K)
    rw [evl_x K (fun q hq => h q (List.mem_cons_of_mem _ hq))]
    have hk := h k List.mem_cons_self
    unfold stp
    rw [if_neg hk, if_neg hk]
theorem evl_y {S : Rs} {F : Nat → Fn} {X Y Y' : Bool × Int64} : ∀ (K : List Nat), (∀ k ∈ K, k ≠ 121) → evl S F X Y K = evl S F X Y' K
  | [], _ => rfl
  | k :: K, h => by
    show stp S F X Y k (evl S F X Y K) = stp S F X Y' k (evl S F X Y' K)
    rw [evl_y K (fun q hq => h q (List.mem_cons_of_mem _ hq))]
    have hk := h k List.mem_cons_self
    unfold stp
    rw [if_neg hk, if_neg hk]
/-- some result is not of the output -/
def Ms (S : Rs) (F : Nat → Fn) (b : Nat) (K : List Nat) (X Y : Bool × Int64) : Prop := ∃ e m, Kd S e m ∧ (evl S F X Y K).1 e m ∧ inN S (tb m) b = false
def hasT (K : List Nat) (t : Nat) : Bool := K.any (fun k => decide (k = t))
def rowX (K : List Nat) (c : Nat) : Nat := if hasT K 120 then c else 0
def bitY (K : List Nat) (w : Nat) : Nat := if hasT K 121 then w else 0
def kdX (km : Nat → Int64) (c : Nat) : Bool × Int64 := (decide (c = 0), km c)
theorem hasT_no {K : List Nat} {t : Nat} (h : hasT K t = false) : ∀ k ∈ K, k ≠ t := by
  intro k hk e
  unfold hasT at h
  rw [List.any_eq_false] at h
  exact h k hk (decide_eq_true e)
theorem Ms_same {S : Rs} {F : Nat → Fn} {b : Nat} {K : List Nat} {km : Nat → Int64} {c w c' w' : Nat} (h1 : rowX K c = rowX K c') (h2 : bitY K w = bitY K w') (h : Ms S F b K (kdX km c) (kdX km w)) : Ms S F b K (kdX km c') (kdX km w') := by
  have e : evl S F (kdX km c) (kdX km w) K = evl S F (kdX km c') (kdX km w') K := by
    have e1 : evl S F (kdX km c) (kdX km w) K = evl S F (kdX km c') (kdX km w) K := by
      cases hx : hasT K 120 with
      | true =>
        unfold rowX at h1
        rw [hx, if_pos rfl, if_pos rfl] at h1
        rw [h1]
      | false => exact evl_x K (hasT_no hx)
    rw [e1]
    cases hx : hasT K 121 with
    | true =>
      unfold bitY at h2
      rw [hx, if_pos rfl, if_pos rfl] at h2
      rw [h2]
    | false => exact evl_y K (hasT_no hx)
  obtain ⟨x, m, a1, a2, a3⟩ := h
  exact ⟨x, m, a1, by rw [← e]; exact a2, a3⟩
theorem Rp_miss {S : Rs} {km : Nat → Int64} {cnt b : Nat} (h : KE S km cnt) {z q : Int64} {G : Gs} (hz : Rp km cnt z G) (hq : MemB S cnt km q b) : lg_cmp (z &&& (q ^^^ (-1))) 0 = 0 ↔ ¬ ∃ e m, Kd S e m ∧ G e m ∧ inN S (tb m) b = false := by
  have h40 := h.2.1
  rw [tb_meet]
  constructor
  · rintro g ⟨e, m, a1, a2, a3⟩
    obtain ⟨k, k1, rfl, rfl⟩ := h.at a1
    refine g k (by omega) ⟨(hz k).mpr ⟨k1, a2⟩, ?_⟩
    rw [tb_not (by omega), hq k, a3, Bool.and_false]
    rfl
  · rintro g r hr ⟨b1, b2⟩
    obtain ⟨c1, c2⟩ := (hz r).mp b1
    refine g ⟨_, _, h.kd c1, c2, ?_⟩
    rw [tb_not hr, hq r, decide_eq_true c1, Bool.true_and] at b2
    cases hh : inN S (tb (km r)) b with
    | false => rfl
    | true =>
      rw [hh] at b2
      cases b2
/-- what was looked at before -/
def SeenI (S : Rs) (F : Nat → Fn) (φ cnt : Nat) (km : Nat → Int64) (sn : Nat → Int64) (found : Nat) : Prop := ∀ j r t, j < (F φ).2.2.length → r < 40 → t < 64 → tb (sn (j * 40 + r)) t = true → ∃ c w, c < cnt ∧ w < cnt ∧ r = rowX (clA (F φ).2.2 j).2 c ∧ t = bitY (clA (F φ).2.2 j).2 w ∧ (Ms S F (F φ).2.1 (clA (F φ).2.2 j).2 (kdX km c) (kdX km w) → found ≤ j)
section V4
variable {l : Launch} {d : Nat} {mr : Nat → Nat → Option Nat} {S : Rs} {ip : Nat → Nat} {n cnt L : Nat} {v : Nat → Nat} {F : Nat → Fn} {oF : Nat → Nat}
theorem c_C_mayMissOutput (hR : SR mr) (hS : okS S) (hoF : ∀ n, n < 4 → oF n ∈ fOb) (hrF : ∀ n, n < 3 → mr 45 n = some (oF n)) (mi : Nat → Nat → Int32) (ml : Nat → Nat → Int64) (hK : KF S ip n cnt L v mi ml) (hZ : Z100 mi) (hFA : ∀ φ, φ < 3 → (F φ).2.2.length ≠ 0 → FA mi (oF φ) (F φ)) (hokF : ∀ φ, (F φ).2.2.length ≠ 0 → okF (F φ)) (f c w : Nat) (hT : CT mi f c w) (hc : c < cnt) (hw : w < cnt) (φ : Nat) (hφ : φ < 3) (h80 : ntk (F φ).2.2 ≤ 80) (j : Nat) (hj : j < (F φ).2.2.length) (hcall : ∀ k ∈ (clA (F φ).2.2 j).2, 256 ≤ k → (F ((k - 256) / 2)).2.2.length ≠ 0) (found : Nat) (hfd : j < found) (hSn : SeenI S F φ cnt (ml 94) (ml 108) found) :
    am_T l (d + 3) M_C_mayMissOutput 0 [some (.ref 106), some (.ref (oF φ)), some (.int (nI j)), none, none, none] [] (hm mi ml mr) 0 0 (fun r h' => ∃ (b : Bool) (mi' : Nat → Nat → Int32) (ml' : Nat → Nat → Int64), r = some (.int (bI b)) ∧ h' = hm mi' ml' mr ∧ F1h mi mi' ∧ Z100 mi' ∧ Fml ml ml' ∧ (b = true ↔ Ms S F (F φ).2.1 (clA (F φ).2.2 j).2 (kdX (ml 94) c) (kdX (ml 94) w)) ∧ SeenI S F φ cnt (ml 94) (ml' 108) (if b then j else found)) := by
  have hz : (F φ).2.2.length ≠ 0 := by omega
  have hokf := hokF φ hz
  have h6 := hokf.2.2.2.2
  have hokc := clA_ok hokf hj
  obtain ⟨hP, hle⟩ := FA_clp (hFA φ hφ hz) hj
  have hFn := isFn_of hR (hoF φ (by omega))
  have hob := fOb_r (hoF φ (by omega))
  have hkF := hFn.2.1
  have hE := hK.ke hS
  have h40 := hE.2.1
  obtain ⟨t1, t2, t3⟩ := id hT
  have hTk2 : ∀ k ∈ (clA (F φ).2.2 j).2, k < 262 := fun k hk => ti_sm (hokc.2.2.2.1 k hk)
  generalize ntk ((F φ).2.2.take j) = st at hP hle
  have hrow : rowX (clA (F φ).2.2 j).2 c < 40 := by
    unfold rowX
    split <;> omega
  have hbit : bitY (clA (F φ).2.2 j).2 w < 64 := by
    unfold bitY
    split <;> omega
  have s22 : ∀ y : Nat, y = rowX (clA (F φ).2.2 j).2 c → am_T l (d + 3) M_C_mayMissOutput 22 [some (.ref 106), some (.ref (oF φ)), some (.int (nI j)), none, none, none] [.int (nI y), .int (nI (j * 40))] (hm mi ml mr) 0 0 (fun r h' => ∃ (b : Bool) (mi' : Nat → Nat → Int32) (ml' : Nat → Nat → Int64), r = some (.int (bI b)) ∧ h' = hm mi' ml' mr ∧ F1h mi mi' ∧ Z100 mi' ∧ Fml ml ml' ∧ (b = true ↔ Ms S F (F φ).2.1 (clA (F φ).2.2 j).2 (kdX (ml 94) c) (kdX (ml 94) w)) ∧ SeenI S F φ cnt (ml 94) (ml' 108) (if b then j else found)) := by
    intro y hy
    subst hy
    first | refine ho_addn rfl ?_ | refine am_iadd rfl ?_
    refine am_istore_n rfl (Nat.le_of_ble_eq_true rfl) ?_
    show am_T _ _ _ _ [_, _, _, some _, _, _] _ _ _ _ _
    refine am_aload_n rfl rfl ?_
    refine am_iload_n rfl rfl ?_
    refine am_bipush (v := nI 121) rfl (by decide) ?_
    refine ho_cv2 rfl (by first | rfl | assumption) rfl (Nat.le_of_ble_eq_true rfl) (Nat.le_of_ble_eq_true rfl) (c_F_has hR (oF φ) hFn j (by omega) st _ hP (by omega) hTk2 121 (by omega)) ?_
    rintro r h' ⟨rfl, rfl⟩
    have s44 : ∀ m : Int64, (∀ t, tb m t = decide (t = bitY (clA (F φ).2.2 j).2 w)) → am_T l (d + 3) M_C_mayMissOutput 44 [some (.ref 106), some (.ref (oF φ)), some (.int (nI j)), some (.int (nI (j * 40 + rowX (clA (F φ).2.2 j).2 c))), none, none] [.long m] (hm mi ml mr) 0 0 (fun r h' => ∃ (b : Bool) (mi' : Nat → Nat → Int32) (ml' : Nat → Nat → Int64), r = some (.int (bI b)) ∧ h' = hm mi' ml' mr ∧ F1h mi mi' ∧ Z100 mi' ∧ Fml ml ml' ∧ (b = true ↔ Ms S F (F φ).2.1 (clA (F φ).2.2 j).2 (kdX (ml 94) c) (kdX (ml 94) w)) ∧ SeenI S F φ cnt (ml 94) (ml' 108) (if b then j else found)) := by
      intro m hmt
      refine am_lstore rfl (Nat.le_of_ble_eq_true rfl) ?_
      show am_T _ _ _ _ [_, _, _, _, some _, none] _ _ _ _ _
      refine am_aload_n rfl rfl ?_
      refine ho_getR rfl (by first | rfl | assumption) rfl (by first | assumption | exact hR _ _ _ rfl) ?_
      refine am_iload_n rfl rfl ?_
      refine ho_laload rfl (by first | rfl | assumption) (by omega) ?_
      refine am_lload rfl rfl ?_
      refine am_land rfl ?_
      refine am_lconst (v := 0) rfl (by decide) ?_
      refine am_lcmp rfl ?_
      refine am_if_eq rfl (fun g => ?_) (fun g => ?_)
      case refine_2 =>
        have hseen : tb (ml 108 (j * 40 + rowX (clA (F φ).2.2 j).2 c)) (bitY (clA (F φ).2.2 j).2 w) = true := by
          cases hh : tb (ml 108 (j * 40 + rowX (clA (F φ).2.2 j).2 c)) (bitY (clA (F φ).2.2 j).2 w) with
          | true => rfl
          | false =>
            refine absurd (tb_meet.mpr (fun r hr q => ?_)) g
            have := of_decide_eq_true ((hmt r).symm.trans q.2)
            rw [this, hh] at q
            cases q.1
        refine am_iconst (v := nI 0) rfl (by decide) ?_
        obtain ⟨c', w', d1, d2, d3, d4, d5⟩ := hSn j _ _ hj hrow hbit hseen
        refine am_zreturn rfl rfl (Or.inl rfl) ⟨false, mi, ml, rfl, rfl, fun _ _ => rfl, hZ, Fml.rf, ⟨fun q => (by cases q), fun q => ?_⟩, hSn⟩
        have := d5 (Ms_same d3 d4 q)
        omega
      refine am_aload_n rfl rfl ?_
      refine ho_getR rfl (by first | rfl | assumption) rfl (by first | assumption | exact hR _ _ _ rfl) ?_
      refine am_iload_n rfl rfl ?_
      first | refine am_dup2 rfl rfl rfl ?_ | refine am_dup2l rfl rfl ?_
      refine ho_laload rfl (by first | rfl | assumption) (by omega) ?_
      refine am_lload rfl rfl ?_
      refine am_lor rfl ?_
      refine ho_lastore rfl rfl (by omega) ?_
      refine am_aload_n rfl rfl ?_
      refine am_aload_n rfl rfl ?_
      refine am_iload_n rfl rfl ?_
      generalize hml1 : up2 ml 108 (j * 40 + rowX (clA (F φ).2.2 j).2 c) (ml 108 (j * 40 + rowX (clA (F φ).2.2 j).2 c) ||| m) = ml1
      have hF1 : Fml ml ml1 := fun a _ h2 => by rw [← hml1, up2_off _ _ _ h2]
      have h94 : ml1 94 = ml 94 := hF1 94 (by decide) (by decide)
      have hK1 : KF S ip n cnt L v mi ml1 := hK.fr Fch.rf hF1
      refine ho_cv2 rfl (by first | rfl | assumption) rfl (Nat.le_of_ble_eq_true rfl) (Nat.le_of_ble_eq_true rfl) (c_C_resultKinds hR hS hoF hrF mi ml1 hK1 hZ hFA hokF f c w hT hc hw φ hφ j (by omega) st _ hP (by omega) _ hokc.2.2.2.1 hokc.2.2.2.2.1 hokc.2.2.2.2.2.1 hcall) ?_
      rintro r h' ⟨z, mi', ml', rfl, rfl, k1, k2, k3, k4⟩
      rw [h94] at k4
      have hml' : Fml ml ml' := fun a h1 h2 => (k3 a h1).trans (hF1 a h1 h2)
      have hK2 : KF S ip n cnt L v mi' ml' := hK.fr (fun a _ h => k1 a h) hml'
      have hFA2 : FA mi' (oF φ) (F φ) := FA_to (hFA φ hφ hz) (fun a _ _ => k1 a (by omega))
      have hMB := hK2.2.2.2.1 _ hokf.2.1
      rw [hml' 94 (by decide) (by decide)] at hMB
      have hmiss := Rp_miss hE k4 hMB
      have hseen : ∀ fd, fd ≤ found → (Ms S F (F φ).2.1 (clA (F φ).2.2 j).2 (kdX (ml 94) c) (kdX (ml 94) w) → fd ≤ j) → SeenI S F φ cnt (ml 94) (ml' 108) fd := by
        intro fd hfd2 hfd3 j' r t a1 a2 a3 a4
        rw [k3 108 (by decide), ← hml1] at a4
        by_cases e : j' * 40 + r = j * 40 + rowX (clA (F φ).2.2 j).2 c
        · have ej : j' = j := by omega
          have er : r = rowX (clA (F φ).2.2 j).2 c := by omega
          subst ej
          rw [e, show ∀ q, up2 ml 108 (j' * 40 + rowX (clA (F φ).2.2 j').2 c) q 108 (j' * 40 + rowX (clA (F φ).2.2 j').2 c) = q from fun q => by simp [up2], tb_or, Bool.or_eq_true] at a4
          rcases a4 with a4 | a4
          · obtain ⟨c', w', d1, d2, d3, d4, d5⟩ := hSn j' _ t a1 hrow a3 a4
            exact ⟨c', w', d1, d2, er.trans d3, d4, fun q => Nat.le_trans hfd2 (d5 q)⟩
          · rw [hmt t] at a4
            exact ⟨c, w, hc, hw, er, of_decide_eq_true a4, hfd3⟩
        · rw [show ∀ q, up2 ml 108 (j * 40 + rowX (clA (F φ).2.2 j).2 c) q 108 (j' * 40 + r) = ml 108 (j' * 40 + r) from fun q => by unfold up2; rw [if_neg (fun z => e z.2)]] at a4
          obtain ⟨c', w', d1, d2, d3, d4, d5⟩ := hSn j' r t a1 a2 a3 a4
          exact ⟨c', w', d1, d2, d3, d4, fun q => Nat.le_trans hfd2 (d5 q)⟩
      refine am_aload_n rfl rfl ?_
      refine ho_getR rfl (by first | rfl | assumption) rfl (by first | assumption | exact hR _ _ _ rfl) ?_
      refine ho_getR rfl (by first | rfl | assumption) rfl (by first | assumption | exact hR _ _ _ rfl) ?_
      refine am_aload_n rfl rfl ?_
      refine ho_getI rfl (by first | rfl | assumption) rfl ?_
      rw [hFA2.2.1]
      have hb := hokf.2.1
      refine ho_laload rfl rfl (by omega) ?_
      refine am_ldc2m rfl rfl ?_
      refine am_lxor rfl ?_
      refine am_land rfl ?_
      refine am_lconst (v := 0) rfl (by decide) ?_
      refine am_lcmp rfl ?_
      refine am_if_eq rfl (fun g => ?_) (fun g => ?_)
      · have hno := hmiss.mp g
        refine am_iconst (v := nI 0) rfl (by decide) ?_
        exact am_zreturn rfl rfl (Or.inl rfl) ⟨false, mi', ml', rfl, rfl, k1, k2, hml', ⟨fun q => (by cases q), fun q => absurd q hno⟩, hseen found (Nat.le_refl _) (fun q => absurd q hno)⟩
      · have hyes : Ms S F (F φ).2.1 (clA (F φ).2.2 j).2 (kdX (ml 94) c) (kdX (ml 94) w) := Classical.not_not.mp (fun q => g (hmiss.mpr q))
        refine am_iconst (v := nI 1) rfl (by decide) ?_
        refine am_goto rfl ?_
        exact am_zreturn rfl rfl (Or.inr rfl) ⟨true, mi', ml', rfl, rfl, k1, k2, hml', ⟨fun _ => hyes, fun _ => rfl⟩, hseen j (by omega) (fun _ => Nat.le_refl _)⟩
    cases hh : (clA (F φ).2.2 j).2.any (fun k => decide (k = 121)) with
    | true =>
      have e : bitY (clA (F φ).2.2 j).2 w = w := by
        unfold bitY hasT
        rw [hh, if_pos rfl]
      refine am_if_eq rfl (fun z => by cases z) (fun _ => ?_)
      refine am_lconst (v := 1) rfl (by decide) ?_
      refine am_aload_n rfl rfl ?_
      refine ho_getI rfl (by first | rfl | assumption) rfl ?_
      rw [t3]
      refine am_lshl rfl rfl ?_
      refine am_goto rfl ?_
      refine s44 _ (fun t => ?_)
      rw [tb_bit (by omega), e]
    | false =>
      have e : bitY (clA (F φ).2.2 j).2 w = 0 := by
        unfold bitY hasT
        rw [hh, if_neg (by decide)]
      refine am_if_eq rfl (fun _ => ?_) (fun z => absurd rfl z)
      refine am_lconst (v := 1) rfl (by decide) ?_
      refine s44 _ (fun t => ?_)
      rw [tb_1, e]
  refine am_iload_n rfl rfl ?_
  refine am_bipush (v := nI 40) rfl (by decide) ?_
  first | refine ho_muln rfl ?_ | refine am_imul rfl ?_
  refine am_aload_n rfl rfl ?_
  refine am_iload_n rfl rfl ?_
  refine am_bipush (v := nI 120) rfl (by decide) ?_
  refine ho_cv2 rfl (by first | rfl | assumption) rfl (Nat.le_of_ble_eq_true rfl) (Nat.le_of_ble_eq_true rfl) (c_F_has hR (oF φ) hFn j (by omega) st _ hP (by omega) hTk2 120 (by omega)) ?_
  rintro r h' ⟨rfl, rfl⟩
  cases hh : (clA (F φ).2.2 j).2.any (fun k => decide (k = 120)) with
  | true =>
    refine am_if_eq rfl (fun z => by cases z) (fun _ => ?_)
    refine am_aload_n rfl rfl ?_
    refine ho_getI rfl (by first | rfl | assumption) rfl ?_
    rw [t2]
    refine am_goto rfl ?_
    refine s22 _ ?_
    unfold rowX hasT
    rw [hh, if_pos rfl]
  | false =>
    refine am_if_eq rfl (fun _ => ?_) (fun z => absurd rfl z)
    refine am_iconst (v := nI 0) rfl (by decide) ?_
    refine s22 _ ?_
    unfold rowX hasT
    rw [hh, if_neg (by decide)]
end V4
