/-! operation: wrong -/
def fm7 (C fd : Nat) : Nat := if fd < C then fd + 1 else 7
section V9
variable {l : Launch} {d : Nat} {K : Option Value → Prop} {mr : Nat → Nat → Option Nat} {s : Sta}
theorem MI_142 {mi : Nat → Nat → Int32} {ml ml' : Nat → Nat → Int64} (h : MI s mi ml) (hl : ∀ a, a ≠ 142 → ml' a = ml a) : MI s mi ml' := by
  obtain ⟨a1, a2, a3, a4, a5⟩ := h
  exact ⟨a1, a2, a3, MC_to a4 (fun _ _ _ => rfl) rfl rfl rfl (hl 127 (by decide)) (hl 128 (by decide)) (by rw [hl 116 (by decide)]), a5⟩
theorem c_m_wrong_loop {mi : Nat → Nat → Int32} {S : Rs} {cnt : Nat} {F : Nat → Fn} (hR : SR mr) (hS : okS S) (ml0 : Nat → Nat → Int64) (hr : repS S mi) (hM0 : MKn S cnt mi ml0) (h40 : cnt ≤ 40) (hMF : MF F mi) (hF : ∀ φ, (F φ).2.2 = [] ∨ okF (F φ)) (φ : Nat) (hφ : φ < 3) (hz : (F φ).2.2.length ≠ 0) : ∀ (x k fd : Nat) (ml : Nat → Nat → Int64), k + x = 1 + 5 * cnt * cnt → (∀ a, a ≠ 142 → ml a = ml0 a) → FWr (BdM S F φ cnt (ml0 127)) k (F φ).2.2.length fd → am_T l (d + 6) M_m_wrong 26 [some (.ref 116), some (.int (nI φ)), some (.int (nI (fm7 (F φ).2.2.length fd))), some (.int (nI k)), none] [] (hm mi ml mr) 0 0 (fun r h' => ∃ fd ml', r = some (.int (nI (if fd < (F φ).2.2.length then fd + 1 else 0))) ∧ h' = hm mi ml' mr ∧ (∀ a, a ≠ 142 → ml' a = ml0 a) ∧ FWr (BdM S F φ cnt (ml0 127)) (1 + 5 * cnt * cnt) (F φ).2.2.length fd) := by
  have hokf : ∀ φ, (F φ).2.2.length ≠ 0 → okF (F φ) := fun φ hq => (hF φ).resolve_left (fun q => hq (by rw [q]; rfl))
  have hok := hokf φ hz
  have h6 := hok.2.2.2.2
  have hE := hMF φ hφ
  rw [fTx_def hz] at hE
  have hs := sq_le h40
  have hM5 : 1 + 5 * cnt * cnt ≤ 10000 := by
    rw [Nat.mul_assoc]
    omega
  have hfm : ∀ fd, fm7 (F φ).2.2.length fd ≤ 7 := fun fd => by
    unfold fm7
    split <;> omega
  intro x
  induction x with
  | zero =>
    intro k fd ml hx hml hW
    have hM : MKn S cnt mi ml := hM0.to rfl rfl (hml 127 (by decide)) (hml 128 (by decide)) (by rw [hml 116 (by decide)])
    have hk : k = 1 + 5 * cnt * cnt := hx
    rw [hk] at hW
    have h7 := hfm fd
    refine am_iload_n rfl rfl ?_
    refine am_aload_n rfl rfl ?_
    refine ho_cv0 rfl (by first | rfl | assumption) rfl (Nat.le_of_ble_eq_true rfl) (Nat.le_of_ble_eq_true rfl) (c_m_ways hM.1.2.1 h40) ?_
    rintro v h' ⟨rfl, rfl⟩
    refine ho_icmp_ge rfl (by omega) (by omega) (fun _ => ?_) (fun g => absurd (by omega) g)
    refine am_iload_n rfl rfl ?_
    refine am_bipush (v := nI 7) rfl (by decide) ?_
    by_cases g : fd < (F φ).2.2.length
    · have e : fm7 (F φ).2.2.length fd = fd + 1 := if_pos g
      rw [e]
      refine ho_icmp_ne rfl (by omega) (by omega) (fun _ => ?_) (fun q => by omega)
      refine am_iload_n rfl rfl ?_
      exact am_ireturn rfl rfl ⟨fd, ml, by rw [if_pos g], rfl, hml, hW⟩
    · have e : fm7 (F φ).2.2.length fd = 7 := if_neg g
      rw [e]
      refine ho_icmp_ne rfl (by omega) (by omega) (fun q => absurd rfl q) (fun _ => ?_)
      refine am_iconst (v := nI 0) rfl (by decide) ?_
      refine am_goto rfl ?_
      exact am_ireturn rfl rfl ⟨fd, ml, by rw [if_neg g], rfl, hml, hW⟩
  | succ x ih =>
    intro k fd ml hx hml hW
    have hM : MKn S cnt mi ml := hM0.to rfl rfl (hml 127 (by decide)) (hml 128 (by decide)) (by rw [hml 116 (by decide)])
    have h127 : ml 127 = ml0 127 := hml 127 (by decide)
    have hk : k < 1 + 5 * cnt * cnt := by omega
    have h7 := hfm fd
    obtain ⟨w1, w2, w3⟩ := w_in hM.1.1.1 hk
    have next : ∀ (fd' : Nat) (ml' : Nat → Nat → Int64), (∀ a, a ≠ 142 → ml' a = ml0 a) → FWr (BdM S F φ cnt (ml0 127)) (k + 1) (F φ).2.2.length fd' → am_T l (d + 6) M_m_wrong 76 [some (.ref 116), some (.int (nI φ)), some (.int (nI (fm7 (F φ).2.2.length fd'))), some (.int (nI k)), none] [] (hm mi ml' mr) 0 0 (fun r h' => ∃ fd ml', r = some (.int (nI (if fd < (F φ).2.2.length then fd + 1 else 0))) ∧ h' = hm mi ml' mr ∧ (∀ a, a ≠ 142 → ml' a = ml0 a) ∧ FWr (BdM S F φ cnt (ml0 127)) (1 + 5 * cnt * cnt) (F φ).2.2.length fd) := by
      intro fd' ml' b1 b2
      refine am_iinc rfl rfl (nI_inc1 _) ?_
      show am_T _ _ _ _ [_, _, _, some _, _] _ _ _ _ _
      refine am_goto rfl ?_
      exact ih (k + 1) fd' ml' (by omega) b1 b2
    refine am_iload_n rfl rfl ?_
    refine am_aload_n rfl rfl ?_
    refine ho_cv0 rfl (by first | rfl | assumption) rfl (Nat.le_of_ble_eq_true rfl) (Nat.le_of_ble_eq_true rfl) (c_m_ways hM.1.2.1 h40) ?_
    rintro v h' ⟨rfl, rfl⟩
    refine ho_icmp_ge rfl (by omega) (by omega) (fun g => absurd g (by omega)) (fun _ => ?_)
    refine am_aload_n rfl rfl ?_
    refine am_iload_n rfl rfl ?_
    refine am_iload_n rfl rfl ?_
    refine ho_cv2 rfl (by first | rfl | assumption) rfl (Nat.le_of_ble_eq_true rfl) (Nat.le_of_ble_eq_true rfl) (c_m_wayChoice hR hS hr hM h40 φ hφ (F φ) hok hE k hk) ?_
    rintro v h' ⟨rfl, rfl⟩
    rw [h127]
    have no : ∀ y : Int32, y ≤ 0 → (∀ j, wM S (F φ) cnt (ml0 127) k ≠ some (some j)) → am_T l (d + 6) M_m_wrong 40 [some (.ref 116), some (.int (nI φ)), some (.int (nI (fm7 (F φ).2.2.length fd))), some (.int (nI k)), none] [.int y] (hm mi ml mr) 0 0 (fun r h' => ∃ fd ml', r = some (.int (nI (if fd < (F φ).2.2.length then fd + 1 else 0))) ∧ h' = hm mi ml' mr ∧ (∀ a, a ≠ 142 → ml' a = ml0 a) ∧ FWr (BdM S F φ cnt (ml0 127)) (1 + 5 * cnt * cnt) (F φ).2.2.length fd) := by
      intro y hy hn
      refine am_istore rfl (Nat.le_of_ble_eq_true rfl) ?_
      show am_T _ _ _ _ [_, _, _, _, some _] _ _ _ _ _
      refine am_iload rfl rfl ?_
      refine am_if_le rfl (fun _ => ?_) (fun z => absurd hy z)
      refine am_drops [4] ?_
      exact next fd ml hml (FWr_skip hW (fun j hb => absurd hb.1 (hn j)))
    cases hwc : wch S (F φ) (wF cnt k) (ml0 127 (wC cnt k)) (ml0 127 (wW cnt k)) with
    | none => exact no (-1) (by decide) (fun j q => by unfold wM at q; rw [hwc] at q; cases q)
    | some q =>
      cases q with
      | none => exact no (nI 0) (by decide) (fun j q => by unfold wM at q; rw [hwc] at q; cases q)
      | some j0 =>
        have hj0 := wch_lt hwc
        have hu : ∀ j, BdM S F φ cnt (ml0 127) k j → j = j0 := fun j hb => by
          have := hb.1
          unfold wM at this
          rw [hwc] at this
          cases this
          rfl
        show am_T l (d + 6) M_m_wrong 40 _ (.int (nI (j0 + 1)) :: _) _ _ _ _
        refine am_istore rfl (Nat.le_of_ble_eq_true rfl) ?_
        show am_T _ _ _ _ [_, _, _, _, some _] _ _ _ _ _
        refine am_iload rfl rfl ?_
        refine am_if_le rfl (fun z => ?_) (fun _ => ?_)
        · have z : nI (j0 + 1) ≤ nI 0 := z
          rw [nI_leI (by omega) (by omega)] at z
          omega
        refine am_iload rfl rfl ?_
        refine am_iload_n rfl rfl ?_
        refine ho_icmp_ge rfl (by omega) (by omega) (fun g => ?_) (fun g => ?_)
        · refine am_drops [4] ?_
          refine next fd ml hml (FWr_skip hW (fun j hb => ?_))
          rw [hu j hb]
          unfold fm7 at g
          split at g <;> omega
        have hlt : j0 < fd := by
          have := hW.1
          unfold fm7 at g
          split at g <;> omega
        refine am_aload_n rfl rfl ?_
        refine am_iload_n rfl rfl ?_
        refine am_iload rfl rfl ?_
        refine am_aload_n rfl rfl ?_
        refine am_iload_n rfl rfl ?_
        refine ho_cv1 rfl (by first | rfl | assumption) rfl (Nat.le_of_ble_eq_true rfl) (Nat.le_of_ble_eq_true rfl) (c_m_wayInside hM.1.2.1 hM.1.1.1 h40 k (by omega)) ?_
        rintro v h' ⟨rfl, rfl⟩
        refine am_aload_n rfl rfl ?_
        refine am_iload_n rfl rfl ?_
        refine ho_cv1 rfl (by first | rfl | assumption) rfl (Nat.le_of_ble_eq_true rfl) (Nat.le_of_ble_eq_true rfl) (c_m_wayAfter hM.1.2.1 hM.1.1.1 h40 k (by omega)) ?_
        rintro v h' ⟨rfl, rfl⟩
        refine ho_cv4 rfl (by first | rfl | assumption) rfl (Nat.le_of_ble_eq_true rfl) (Nat.le_of_ble_eq_true rfl) (c_m_wrongFor hR hS ml hr hM h40 hMF hF φ hφ hz j0 hj0 _ _ w2 w3) ?_
        rintro v h' ⟨b, ml', rfl, rfl, hml', hb⟩
        rw [h127] at hb
        have hml2 : ∀ a, a ≠ 142 → ml' a = ml0 a := fun a ha => (hml' a ha).trans (hml a ha)
        cases b with
        | true =>
          refine am_if_eq rfl (fun z => by cases z) (fun _ => ?_)
          refine am_iload rfl rfl ?_
          refine am_istore_n rfl (Nat.le_of_ble_eq_true rfl) ?_
          show am_T _ _ _ _ [_, _, some _, _, _] _ _ _ _ _
          refine am_drops [4] ?_
          have e : fm7 (F φ).2.2.length j0 = j0 + 1 := if_pos hj0
          have := next j0 ml' hml2 (FWr_take hW hlt ⟨hwc, hb.mp rfl⟩ hu)
          rw [e] at this
          exact this
        | false =>
          refine am_if_eq rfl (fun _ => ?_) (fun z => absurd rfl z)
          refine am_drops [4] ?_
          refine next fd ml' hml2 (FWr_skip hW (fun j hb2 => ?_))
          have e := hu j hb2
          subst e
          cases hb.mpr hb2.2
def wrgR (s : Sta) (x : Int32) (r : Option Value) : Prop := (def3 s.F x = false ∧ r = some (.int (-2))) ∨ (def3 s.F x = true ∧ ∃ cnt tm mj mk, KX (SD s.D) cnt tm mj mk ∧ ((tm = true ∧ r = some (.int (-3))) ∨ (tm = false ∧ ∃ φ ip n L v fd, φ < 3 ∧ x = nI φ ∧ KF (SD s.D) ip n cnt L v mj mk ∧ r = some (.int (nI (if fd < (s.F φ).2.2.length then fd + 1 else 0))) ∧ FWr (BdX (SD s.D) s.F φ cnt (mk 94)) (1 + cnt + 4 * cnt * cnt) (s.F φ).2.2.length fd)))
theorem XI_fr {mi mi' : Nat → Nat → Int32} {ml ml' : Nat → Nat → Int64} (h : XI s mi ml mr) (hF : Fch mi mi') (hZ : Z100 mi') (hl : Fml ml ml') : XI s mi' ml' mr := by
  obtain ⟨⟨a0, a1⟩, a2, a3, ⟨td, tw, b1, b2, b3, b4, b5, b6, b7, b8⟩, a5, a6, a7⟩ := h
  exact ⟨⟨by rw [hF 0 (by decide) (by decide)]; exact a0, txt_to a1 (hF 1 (by decide) (by decide))⟩, XD_to a2 (fun a _ h => hF a (by omega) (by omega)) rfl rfl, XF_to a3 (fun a _ h => hF a (by omega) (by omega)) rfl rfl, ⟨td, tw, b1, b2, b3, b4, b5, b6, HA_to b7 (hF _ (by omega) (by omega)) (hF _ (by omega) (by omega)) (hF _ (by omega) (by omega)), HA_to b8 (hF _ (by omega) (by omega)) (hF _ (by omega) (by omega)) (hF _ (by omega) (by omega))⟩, XR_to a5 (fun a _ h => hF a (by omega) (by omega)) (fun a _ h _ => hl a (by omega) (by omega)), hZ, XT_to a7 (by rw [hF 102 (by decide) (by decide)]) (by rw [hF 93 (by decide) (by decide)]) (by rw [hF 93 (by decide) (by decide)]) (hF 103 (by decide) (by decide)) (hF 104 (by decide) (by decide)) (hl 94 (by decide) (by decide))⟩
theorem x_wrong (hR : SR mr) (hs : okSta s) (mi : Nat → Nat → Int32) (ml : Nat → Nat → Int64) (hX : XI s mi ml mr) (x : Int32) : am_T l (d + 5) M_X_wrong 0 [some (.ref 0), some (.int x)] [] (hm mi ml mr) 0 0 (fun r h' => (∃ v, r = some (.int v)) ∧ ∃ mi' ml', h' = hm mi' ml' mr ∧ XI s mi' ml' mr ∧ wrgR s x r ∧ (∀ a, 116 ≤ a → mi' a = mi a) ∧ ∀ a, 116 ≤ a → ml' a = ml a) := by
  have hS := okS_SD hs.2.1
  refine am_aload_n rfl rfl ?_
  refine am_iload_n rfl rfl ?_
  refine ho_cv1 rfl (by first | rfl | assumption) rfl (Nat.le_of_ble_eq_true rfl) (Nat.le_of_ble_eq_true rfl) (c_X_isDefined hR hX.2.2.1 x) ?_
  rintro v h' ⟨rfl, rfl⟩
  refine am_if_ne rfl (fun z => ?_) (fun z => ?_)
  case refine_2 =>
    refine am_bipush (v := -2) rfl (by decide) ?_
    exact am_ireturn rfl rfl ⟨⟨_, rfl⟩, mi, ml, rfl, hX, Or.inl ⟨(bI_eq _).mp z, rfl⟩, fun _ _ => rfl, fun _ _ => rfl⟩
  have hdef := (bI_ne _).mp z
  obtain ⟨φ, hφ, rfl, hz⟩ := def3_of hdef
  refine am_aload_n rfl rfl ?_
  refine ho_getR rfl (by first | rfl | assumption) rfl (by first | assumption | exact hR _ _ _ rfl) ?_
  refine ho_cv0 rfl (by first | rfl | assumption) rfl (Nat.le_of_ble_eq_true rfl) (Nat.le_of_ble_eq_true rfl) (x_room hR hs mi ml hX) ?_
  rintro v h' ⟨cnt, tm, mi1, ml1, rfl, rfl, g1, g2, g3, g4, g5⟩
  cases tm with
  | true =>
    refine am_if_eq rfl (fun _ => ?_) (fun q => absurd rfl q)
    refine am_bipush (v := -3) rfl (by decide) ?_
    exact am_ireturn rfl rfl ⟨⟨_, rfl⟩, mi1, ml1, rfl, g1, Or.inr ⟨hdef, cnt, true, mi1, ml1, g2, Or.inl ⟨rfl, rfl⟩⟩, g4, g5⟩
  | false =>
    refine am_if_eq rfl (fun q => by cases q) (fun _ => ?_)
    obtain ⟨ip, n, L, v, hKF⟩ := KX_KF g2
    obtain ⟨oF, c1, c2, c3, c4, c5⟩ := id g1.2.2.1
    have hrφ := c3 φ hφ
    refine am_aload_n rfl rfl ?_
    refine ho_getR rfl (by first | rfl | assumption) rfl (by first | assumption | exact hR _ _ _ rfl) ?_
    refine am_aload_n rfl rfl ?_
    refine ho_getR rfl (by first | rfl | assumption) rfl (by first | assumption | exact hR _ _ _ rfl) ?_
    refine am_iload_n rfl rfl ?_
    refine ho_aaload rfl (by first | rfl | assumption) ⟨by decide, rfl⟩ (by omega) (by first | assumption | exact hR _ _ _ rfl) ?_
    refine ho_cv1 rfl (by first | rfl | assumption) rfl (Nat.le_of_ble_eq_true rfl) (Nat.le_of_ble_eq_true rfl) (c_C_firstWrong hR hS c1 c3 mi1 ml1 hKF g1.2.2.2.2.2.1 c5 hs.2.2.1 φ hφ hz) ?_
    rintro r h' ⟨fd, mi2, ml2, rfl, rfl, k1, k2, k3, k4⟩
    refine am_goto rfl ?_
    exact am_ireturn rfl rfl ⟨⟨_, rfl⟩, mi2, ml2, rfl, XI_fr g1 k1 k2 k3, Or.inr ⟨hdef, cnt, false, mi1, ml1, g2, Or.inr ⟨rfl, φ, ip, n, L, v, fd, hφ, rfl, hKF, rfl, k4⟩⟩, fun a ha => by rw [k1 a (by omega) (by omega)]; exact g4 a ha, fun a ha => by rw [k3 a (by omega) (by omega)]; exact g5 a ha⟩
theorem w_wrong (hK : ∀ v, K (some (.int v))) (x : Int32) : lw2 l K 95 173 [.int x] := by
  refine lw_mk (fun mi ml mr s hR hs hX => ⟨fun r s' => s' = s ∧ wrgR s x r, ?_, ?_⟩)
  · show am_T l 60 M_X_wrong 0 [some (.ref 0), some (.int x)] [] _ 0 0 _
    refine am_T.to (x_wrong hR hs mi ml hX x) ?_
    rintro r h ⟨⟨v, rfl⟩, mi', ml', rfl, g1, g2, g3, g4⟩
    exact ⟨hK _, mi', ml', mr, s, rfl, hR, g1, ⟨rfl, g2⟩, g3, g4⟩
  · rintro r s' mi ml mr hR hM - ⟨rfl, hr⟩
    show am_T l 60 M_m_wrong 0 [some (.ref 116), some (.int x), none, none, none] [] _ 0 0 _
    refine am_aload_n rfl rfl ?_
    refine am_iload_n rfl rfl ?_
    refine ho_cv1 rfl (by first | rfl | assumption) rfl (Nat.le_of_ble_eq_true rfl) (Nat.le_of_ble_eq_true rfl) (c_m_definedX hR hM.2.2.1 x) ?_
    rintro v h' ⟨rfl, rfl⟩
    rcases hr with ⟨h1, rfl⟩ | ⟨h1, cnt, tm, mj, mk, hKX, hr⟩
    · rw [h1]
      refine am_if_ne rfl (fun z => absurd rfl z) (fun _ => ?_)
      refine am_bipush (v := -2) rfl (by decide) ?_
      exact am_ireturn rfl rfl ⟨rfl, _, _, rfl, hs, hM, fun _ _ => rfl, fun _ _ => rfl⟩
    · rw [h1]
      refine am_if_ne rfl (fun _ => ?_) (fun z => by cases z)
      obtain ⟨φ, hφ, rfl, hz⟩ := def3_of h1
      have hS := okS_SD hs.2.1
      have hokF : okF (s'.F φ) := (hs.2.2.1 φ).1.resolve_left (fun q => hz (by rw [q]; rfl))
      refine am_aload_n rfl rfl ?_
      refine ho_cv0 rfl (by first | rfl | assumption) rfl (Nat.le_of_ble_eq_true rfl) (Nat.le_of_ble_eq_true rfl) (m_room hR hs mi ml hM) ?_
      rintro v h' ⟨cm, mi', ml', rfl, rfl, q0, q1, q2, q3, q4⟩
      obtain ⟨e1, e2⟩ := room_same hS q2 hKX
      rw [← e1]
      have hfr : (∀ a, a < 116 → mi' a = mi a) ∧ ∀ a, a < 116 → ml' a = ml a := ⟨fun a ha => q4.1 a (by omega) (by omega) (by omega) (by omega) (by omega) (by omega), fun a ha => q4.2.2.1 a (by omega) (by omega) (by omega)⟩
      rcases hr with ⟨rfl, rfl⟩ | ⟨rfl, ψ, ip, n, L, w, fd, m1, m2, m3, rfl, m4⟩
      · refine am_if_eq rfl (fun z => by cases z) (fun _ => ?_)
        refine am_bipush (v := -3) rfl (by decide) ?_
        exact am_ireturn rfl rfl ⟨rfl, _, _, rfl, hs, q0, hfr.1, hfr.2⟩
      · refine am_if_eq rfl (fun _ => ?_) (fun z => absurd rfl z)
        have h40 : cm ≤ 40 := by
          have := of_decide_eq_false e1.symm
          omega
        have hψ : φ = ψ := (nI_eq (by omega) (by omega)).mp m2
        subst hψ
        obtain ⟨-, v, hV, hv⟩ := q2.2.1 h40
        refine am_bipush (v := nI 7) rfl (by decide) ?_
        refine am_istore_n rfl (Nat.le_of_ble_eq_true rfl) ?_
        show am_T _ _ _ _ [_, _, some _, _, _] _ _ _ _ _
        refine am_iconst (v := nI 0) rfl (by decide) ?_
        refine am_istore_n rfl (Nat.le_of_ble_eq_true rfl) ?_
        show am_T _ _ _ _ [_, _, _, some _, _] _ _ _ _ _
        have k := c_m_wrong_loop (l := l) (d := 54) hR hS ml' q1 q2 h40 q0.2.2.1 (fun ψ => (hs.2.2.1 ψ).1) φ hφ hz (1 + 5 * cm * cm) 0 (s'.F φ).2.2.length ml' (Nat.zero_add _) (fun _ _ => rfl) ⟨Nat.le_refl _, fun i j hi => absurd hi (Nat.not_lt_zero _), fun g => absurd g (Nat.lt_irrefl _)⟩
        rw [show fm7 (s'.F φ).2.2.length (s'.F φ).2.2.length = 7 from if_neg (Nat.lt_irrefl _)] at k
        refine am_T.to k ?_
        rintro r h' ⟨fd', ml2, rfl, rfl, hml2, hU⟩
        refine ⟨?_, _, _, rfl, hs, MI_142 q0 hml2, hfr.1, fun a ha => by rw [hml2 a (by omega)]; exact hfr.2 a ha⟩
        rw [wrong_same hS q2 h40 hV hv m3 hokF hU m4]
end V9
