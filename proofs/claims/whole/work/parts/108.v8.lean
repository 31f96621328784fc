/-! the reference: wrongFor; the same clauses are wrong -/
theorem any_same {p q : Nat → Bool} : ∀ {K : List Nat}, (∀ k ∈ K, p k = q k) → K.any p = K.any q
  | [], _ => rfl
  | k :: K, h => by rw [List.any_cons, List.any_cons, h k List.mem_cons_self, any_same (fun x hx => h x (List.mem_cons_of_mem _ hx))]
theorem Wrg_same {S : Rs} {F : Nat → Fn} {φ j f : Nat} {X Y X' Y' : Bool × Int64} (hok : okF (F φ)) (hj : j < (F φ).2.2.length) (hp : (clA (F φ).2.2 j).1.1 = f) (hX : 2 ≤ f → X = X') (hY : 1 ≤ f → Y = Y') (h : Wrg S F φ X Y j) : Wrg S F φ X' Y' j := by
  have hTk := (clA_ok hok hj).2.2.2.1
  rw [hp] at hTk
  have n120 : f < 2 → ∀ k ∈ (clA (F φ).2.2 j).2, k ≠ 120 := by
    intro hf k hk e
    rcases hTk k hk with q | q | q | q | q | q | q
    · have := isDig_r q
      omega
    · omega
    · have := isLab_r q
      omega
    all_goals omega
  have n121 : f < 1 → ∀ k ∈ (clA (F φ).2.2 j).2, k ≠ 121 := by
    intro hf k hk e
    rcases hTk k hk with q | q | q | q | q | q | q
    · have := isDig_r q
      omega
    · omega
    · have := isLab_r q
      omega
    all_goals omega
  have hcl : ∀ k ∈ (clA (F φ).2.2 j).2, 256 ≤ k → 1 ≤ f ∧ (k % 2 = 1 ∨ 2 ≤ f) := by
    intro k hk e
    rcases hTk k hk with q | q | q | q | q | q | q
    · have := isDig_r q
      omega
    · omega
    · have := isLab_r q
      omega
    · omega
    · omega
    · omega
    · exact q.2.2
  have ev : evl S F X Y (clA (F φ).2.2 j).2 = evl S F X' Y' (clA (F φ).2.2 j).2 := by
    have e1 : evl S F X Y (clA (F φ).2.2 j).2 = evl S F X' Y (clA (F φ).2.2 j).2 := by
      by_cases g : 2 ≤ f
      · rw [hX g]
      · exact evl_x _ (n120 (by omega))
    rw [e1]
    by_cases g : 1 ≤ f
    · rw [hY g]
    · exact evl_y _ (n121 (by omega))
  have eb : bcl S F X.2 Y.2 (clA (F φ).2.2 j).2 = bcl S F X'.2 Y'.2 (clA (F φ).2.2 j).2 := by
    refine any_same (fun k hk => ?_)
    unfold bad1
    by_cases h256 : 256 ≤ k
    · obtain ⟨g1, g2⟩ := hcl k hk h256
      rw [hY g1]
      by_cases g : 2 ≤ f
      · rw [hX g]
      · have : isX k = false := decide_eq_false (fun q => by omega)
        rw [this]
        rfl
    · rw [decide_eq_false h256, Bool.false_and, Bool.false_and]
  rcases h with h | ⟨e, m, a1, a2, a3⟩
  · exact Or.inl (by rw [← eb]; exact h)
  · exact Or.inr ⟨e, m, a1, by rw [← ev]; exact a2, a3⟩
theorem wch_p {S : Rs} {F : Fn} {f : Nat} {x y : Int64} {j : Nat} (h : wch S F f x y = some (some j)) : (clA F.2.2 j).1.1 = f := by
  unfold wch at h
  split at h
  · exact chs_p (Option.some.inj h)
  · cases h
theorem kdX_same {km kx : Nat → Int64} {k k' : Nat} (h1 : kx k' = km k) (h2 : k = 0 ↔ k' = 0) : kdX kx k' = kdX km k := by
  unfold kdX
  rw [h1, decide_eq_decide.mpr h2]
theorem way_cut2 {S : Rs} (hS : okS S) {ip : Nat → Nat} {n cm cx : Nat} {mj : Nat → Nat → Int32} {mk : Nat → Nat → Int64} (hX : repX S ip n mj mk) {km kx : Nat → Int64} {v w : Nat → Nat} (hx : 1 ≤ cx) (h : SK km v cm kx w cx) (h1 : 1 ≤ cm) : ∀ i, i < 1 + 5 * cm * cm → ∃ i', i' < 1 + cx + 4 * cx * cx ∧ (∀ F : Fn, wX S F cx kx i' = wM S F cm km i) ∧ (2 ≤ wF cm i → kdX kx (cC cx i') = kdX km (wC cm i)) ∧ (1 ≤ wF cm i → kdX kx (cW cx i') = kdX km (wW cm i)) := by
  intro i hi
  obtain ⟨w1, w2, w3⟩ := w_in h1 hi
  obtain ⟨c', a1, a2, -, a4⟩ := h _ w2
  obtain ⟨y', b1, b2, -, b4⟩ := h _ w3
  by_cases e0 : wF cm i = 0
  · refine ⟨0, by omega, fun F => ?_, fun g => by omega, fun g => by omega⟩
    unfold wX wM
    rw [e0, show cF cx 0 = 0 from rfl]
    exact wch_0 _ _ _ _
  by_cases e1 : wF cm i = 1
  · obtain ⟨i', i1, i2, i3, i4⟩ := c_at1 b1
    refine ⟨i', i1, fun F => ?_, fun g => by omega, fun _ => by rw [i4]; exact kdX_same b2 b4⟩
    unfold wX wM
    rw [i2, e1, i4, b2]
    exact wch_1 hS hX _ _ _
  · obtain ⟨i', i1, i2, i3, i4⟩ := c_at (f := wF cm i) (by omega) w1 a1 b1
    refine ⟨i', i1, fun F => ?_, fun _ => by rw [i3]; exact kdX_same a2 a4, fun _ => by rw [i4]; exact kdX_same b2 b4⟩
    unfold wX wM
    rw [i2, i3, i4, a2, b2]
theorem cut_way2 {S : Rs} {cm cx : Nat} {km kx : Nat → Int64} {v w : Nat → Nat} (h : SK kx w cx km v cm) (h1 : 1 ≤ cx) : ∀ i, i < 1 + cx + 4 * cx * cx → ∃ i', i' < 1 + 5 * cm * cm ∧ (∀ F : Fn, wM S F cm km i' = wX S F cx kx i) ∧ (2 ≤ cF cx i → kdX km (wC cm i') = kdX kx (cC cx i)) ∧ (1 ≤ cF cx i → kdX km (wW cm i') = kdX kx (cW cx i)) := by
  intro i hi
  obtain ⟨w1, w2, w3, -⟩ := c_in h1 hi
  obtain ⟨c', a1, a2, -, a4⟩ := h _ w2
  obtain ⟨y', b1, b2, -, b4⟩ := h _ w3
  by_cases e0 : cF cx i = 0
  · refine ⟨0, by omega, fun F => ?_, fun g => by omega, fun g => by omega⟩
    unfold wX wM
    rw [e0, show wF cm 0 = 0 from rfl]
    exact wch_0 _ _ _ _
  · obtain ⟨i', i1, -, i2, i3, i4⟩ := w_at (f := cF cx i) (by omega) w1 a1 b1
    refine ⟨i', i1, fun F => ?_, fun _ => by rw [i3]; exact kdX_same a2 a4, fun _ => by rw [i4]; exact kdX_same b2 b4⟩
    unfold wX wM
    rw [i2, i3, i4, a2, b2]
def BdM (S : Rs) (F : Nat → Fn) (φ cnt : Nat) (km : Nat → Int64) (i j : Nat) : Prop := wM S (F φ) cnt km i = some (some j) ∧ Wrg S F φ (kdX km (wC cnt i)) (kdX km (wW cnt i)) j
theorem wrong_same {S : Rs} (hS : okS S) {ip : Nat → Nat} {n cm cx L : Nat} {mi mj : Nat → Nat → Int32} {ml mk : Nat → Nat → Int64} (hM : MKn S cm mi ml) (hc : cm ≤ 40) {v w : Nat → Nat} (hV : VI S cm v ml) (hv : ∀ k, 1 ≤ k → k < cm → v k = lsz S (ml 127 k)) (hK : KF S ip n cx L w mj mk) {F : Nat → Fn} {φ : Nat} (hok : okF (F φ)) {a b : Nat} (h : FWr (BdM S F φ cm (ml 127)) (1 + 5 * cm * cm) (F φ).2.2.length a) (h' : FWr (BdX S F φ cx (mk 94)) (1 + cx + 4 * cx * cx) (F φ).2.2.length b) : a = b := by
  obtain ⟨s1, s2⟩ := sk_both hS hM hc hV hv hK
  refine FWr_uniq h h' (fun i j hi hb => ?_) (fun i j hi hb => ?_)
  · obtain ⟨i', a1, a2, a3, a4⟩ := way_cut2 hS hK.1 hK.2.1.1.1.1 s1 hM.1.1.1 i hi
    exact ⟨i', a1, (a2 _).trans hb.1, Wrg_same hok (wch_lt hb.1) (wch_p hb.1) (fun g => (a3 g).symm) (fun g => (a4 g).symm) hb.2⟩
  · obtain ⟨i', a1, a2, a3, a4⟩ := cut_way2 (S := S) s2 hK.2.1.1.1.1 i hi
    exact ⟨i', a1, (a2 _).trans hb.1, Wrg_same hok (wch_lt hb.1) (wch_p hb.1) (fun g => (a3 g).symm) (fun g => (a4 g).symm) hb.2⟩
section V8
variable {l : Launch} {d : Nat} {mi : Nat → Nat → Int32} {mr : Nat → Nat → Option Nat} {S : Rs} {cnt : Nat} {F : Nat → Fn}
theorem c_m_wrongFor (hR : SR mr) (hS : okS S) (ml : Nat → Nat → Int64) (hr : repS S mi) (hM : MKn S cnt mi ml) (h40 : cnt ≤ 40) (hMF : MF F mi) (hF : ∀ φ, (F φ).2.2 = [] ∨ okF (F φ)) (φ : Nat) (hφ : φ < 3) (hz : (F φ).2.2.length ≠ 0) (j : Nat) (hj : j < (F φ).2.2.length) (c w : Nat) (hc : c < cnt) (hw : w < cnt) :
    am_T l (d + 5) M_m_wrongFor 0 [some (.ref 116), some (.int (nI φ)), some (.int (nI (j + 1))), some (.int (nI c)), some (.int (nI w)), none, none, none, none] [] (hm mi ml mr) 0 0 (fun r h' => ∃ (b : Bool) (ml' : Nat → Nat → Int64), r = some (.int (bI b)) ∧ h' = hm mi ml' mr ∧ (∀ a, a ≠ 142 → ml' a = ml a) ∧ (b = true ↔ Wrg S F φ (kdX (ml 127) c) (kdX (ml 127) w) j)) := by
  have hokf : ∀ φ, (F φ).2.2.length ≠ 0 → okF (F φ) := fun φ hq => (hF φ).resolve_left (fun q => hq (by rw [q]; rfl))
  have hok := hokf φ hz
  have hE := hMF φ hφ
  rw [fTx_def hz] at hE
  have hb80 := cpos_bound hE hj
  have hre := rpos_end (F φ).2.2 hj
  have hrc : cpos (F φ).2.2 j + 2 ≤ rpos (F φ).2.2 j := by
    unfold rpos
    omega
  refine am_aload_n rfl rfl ?_
  refine am_iload_n rfl rfl ?_
  refine am_iload_n rfl rfl ?_
  refine ho_cv2 rfl (by first | rfl | assumption) rfl (Nat.le_of_ble_eq_true rfl) (Nat.le_of_ble_eq_true rfl) (c_m_result hR φ hφ _ hok hE j hj) ?_
  rintro v h' ⟨rfl, rfl⟩
  refine am_istore rfl (Nat.le_of_ble_eq_true rfl) ?_
  show am_T _ _ _ _ [_, _, _, _, _, some _, _, _, _] _ _ _ _ _
  refine am_aload_n rfl rfl ?_
  refine am_iload_n rfl rfl ?_
  refine am_iload rfl rfl ?_
  refine am_iconst (v := nI 1) rfl (by decide) ?_
  first | refine ho_subn rfl (by omega) ?_ | refine am_isub rfl ?_
  refine ho_cv2 rfl (by first | rfl | assumption) rfl (Nat.le_of_ble_eq_true rfl) (Nat.le_of_ble_eq_true rfl) (c_m_behind_cl hR φ hφ _ hok hE j _ hj (by omega) (by omega)) ?_
  rintro v h' ⟨rfl, rfl⟩
  refine am_istore rfl (Nat.le_of_ble_eq_true rfl) ?_
  show am_T _ _ _ _ [_, _, _, _, _, _, some _, _, _] _ _ _ _ _
  refine am_aload_n rfl rfl ?_
  refine am_iload_n rfl rfl ?_
  refine am_iload rfl rfl ?_
  refine am_iload rfl rfl ?_
  refine am_iload_n rfl rfl ?_
  refine am_iload rfl rfl ?_
  refine ho_cv5 rfl (by first | rfl | assumption) rfl (Nat.le_of_ble_eq_true rfl) (Nat.le_of_ble_eq_true rfl) (c_m_badCall hR hS hr hM h40 hMF hF φ hφ hz j hj c w hc hw) ?_
  rintro v h' ⟨rfl, rfl⟩
  cases hbc : bcl S F (ml 127 c) (ml 127 w) (clA (F φ).2.2 j).2 with
  | true =>
    refine am_if_eq rfl (fun g => by cases g) (fun _ => ?_)
    refine am_iconst (v := nI 1) rfl (by decide) ?_
    exact am_zreturn rfl rfl (Or.inr rfl) ⟨true, ml, rfl, rfl, fun _ _ => rfl, ⟨fun _ => Or.inl hbc, fun _ => rfl⟩⟩
  | false =>
    refine am_if_eq rfl (fun _ => ?_) (fun g => absurd rfl g)
    refine am_aload_n rfl rfl ?_
    refine am_iload_n rfl rfl ?_
    refine am_iload rfl rfl ?_
    refine am_iload rfl rfl ?_
    refine am_iload_n rfl rfl ?_
    refine am_iload rfl rfl ?_
    refine ho_cv5 rfl (by first | rfl | assumption) rfl (Nat.le_of_ble_eq_true rfl) (Nat.le_of_ble_eq_true rfl) (c_m_resultKinds hR hS ml hr hM h40 hMF hF φ hφ hz j hj c w hc hw (bcl_call hbc)) ?_
    rintro v h' ⟨z, ml', rfl, rfl, hml, hz2⟩
    have hM' : MKn S cnt mi ml' := hM.to rfl rfl (hml 127 (by decide)) (hml 128 (by decide)) (by rw [hml 116 (by decide)])
    refine am_lstore rfl (Nat.le_of_ble_eq_true rfl) ?_
    show am_T _ _ _ _ [_, _, _, _, _, _, _, some _, none] _ _ _ _ _
    refine am_lload rfl rfl ?_
    refine am_aload_n rfl rfl ?_
    refine am_aload_n rfl rfl ?_
    refine am_iload_n rfl rfl ?_
    refine ho_cv1 rfl (by first | rfl | assumption) rfl (Nat.le_of_ble_eq_true rfl) (Nat.le_of_ble_eq_true rfl) (c_m_output hR φ hφ _ hok hE) ?_
    rintro v h' ⟨rfl, rfl⟩
    refine ho_cv1 rfl (by first | rfl | assumption) rfl (Nat.le_of_ble_eq_true rfl) (Nat.le_of_ble_eq_true rfl) (c_m_kindsIn hR hS hr hM' h40 _ hok.2.1) ?_
    rintro v h' ⟨q, rfl, rfl, hMB⟩
    rw [hml 127 (by decide)] at hMB
    have hmiss := Rp_miss (hM.ke h40) hz2 hMB
    refine am_ldc2m rfl rfl ?_
    refine am_lxor rfl ?_
    refine am_land rfl ?_
    refine am_lconst (v := 0) rfl (by decide) ?_
    refine am_lcmp rfl ?_
    refine am_if_eq rfl (fun g => ?_) (fun g => ?_)
    · have hno := hmiss.mp g
      refine am_iconst (v := nI 0) rfl (by decide) ?_
      refine am_zreturn rfl rfl (Or.inl rfl) ⟨false, ml', rfl, rfl, hml, ⟨fun q => (by cases q), fun q => ?_⟩⟩
      rcases q with q | q
      · rw [show bcl S F (kdX (ml 127) c).2 (kdX (ml 127) w).2 (clA (F φ).2.2 j).2 = false from hbc] at q
        cases q
      · exact absurd q hno
    · have hyes := Classical.not_not.mp (fun q => g (hmiss.mpr q))
      refine am_iconst (v := nI 1) rfl (by decide) ?_
      refine am_goto rfl ?_
      exact am_zreturn rfl rfl (Or.inr rfl) ⟨true, ml', rfl, rfl, hml, ⟨fun _ => Or.inr hyes, fun _ => rfl⟩⟩
end V8
