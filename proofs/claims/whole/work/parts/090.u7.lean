/-! the class: run -/
def def3 (F : Nat → Fn) (x : Int32) : Bool := decide (0 ≤ x.toInt ∧ x.toInt < 3 ∧ (F x.toInt.toNat).2.2.length ≠ 0)
theorem f3_nI {x : Int32} (h1 : 0 ≤ x.toInt) (h2 : x.toInt < 3) : ∃ φ, φ < 3 ∧ x = nI φ := by
  refine ⟨x.toInt.toNat, by omega, ?_⟩
  rw [← Int32.toInt_inj, nI_toInt (by omega)]
  omega
theorem def3_nI {F : Nat → Fn} {φ : Nat} (h : φ < 3) : def3 F (nI φ) = decide ((F φ).2.2.length ≠ 0) := by
  unfold def3
  rw [nI_toInt (by omega), Int.toNat_natCast]
  apply decide_eq_decide.mpr
  constructor
  · exact fun q => q.2.2
  · exact fun q => ⟨by omega, by omega, q⟩
theorem def3_of {F : Nat → Fn} {x : Int32} (h : def3 F x = true) : ∃ φ, φ < 3 ∧ x = nI φ ∧ (F φ).2.2.length ≠ 0 := by
  obtain ⟨h1, h2, -⟩ := of_decide_eq_true h
  obtain ⟨φ, hφ, rfl⟩ := f3_nI h1 h2
  rw [def3_nI hφ] at h
  exact ⟨φ, hφ, rfl, of_decide_eq_true h⟩
noncomputable def runA (s : Sta) (f : Nat → Int64) (φ : Nat) : RR := ap (SD s.D) s.N f s.F 13 φ (o0 s.N) 0 [] 0
def runR (s : Sta) (x : Int32) (r : Option Value) (s' : Sta) : Prop := (def3 s.F x = false ∧ r = some (.int (-2)) ∧ s' = s) ∨ (def3 s.F x = true ∧ ∃ φ f, φ < 3 ∧ x = nI φ ∧ (∀ j, j < s.N.length → NM (SD s.D) s.N f j) ∧ ((∃ out a, runA s f φ = .inl (out, a) ∧ r = some (.int (nI a)) ∧ s' = (s.setV (out))) ∨ (runA s f φ = .inr true ∧ r = some (.int (-4)) ∧ s' = s) ∨ (runA s f φ = .inr false ∧ r = some (.int (-5)) ∧ s' = s)))
theorem SR_109 {mr : Nat → Nat → Option Nat} {a b : Nat} (hR : SR mr) : SR (up2 (up2 mr 109 2 (some a)) 109 3 (some b)) := by
  intro k j b h
  unfold up2
  split
  · next q =>
    rw [q.1, q.2] at h
    cases h
  · split
    · next q =>
      rw [q.1, q.2] at h
      cases h
    · exact hR k j b h
theorem SR_val {mr : Nat → Nat → Option Nat} {a b : Nat} (hR : SR mr) : SR (up2 (up2 mr 0 8 (some a)) 0 9 (some b)) := by
  intro k j b h
  unfold up2
  split
  · next q =>
    rw [q.1, q.2] at h
    cases h
  · split
    · next q =>
      rw [q.1, q.2] at h
      cases h
    · exact hR k j b h
section U7
variable {l : Launch} {d : Nat} {mr : Nat → Nat → Option Nat} {S : Rs} {ip : Nat → Nat} {nn td t : Nat} {N : Nd} {F : Nat → Fn} {s : Sta}
theorem c_X_isDefined {mi : Nat → Nat → Int32} {ml : Nat → Nat → Int64} (hR : SR mr) (hX : XF F mi mr) (x : Int32) : am_T l d M_X_isDefined 0 [some (.ref 0), some (.int x)] [] (hm mi ml mr) 0 0 (fun r h' => r = some (.int (bI (def3 F x))) ∧ h' = hm mi ml mr) := by
  refine am_iload_n rfl rfl ?_
  refine am_if_lt rfl (fun q => ?_) (fun q => ?_)
  · have q' := Int32.lt_iff_toInt_lt.mp q
    rw [show (0 : Int32).toInt = 0 from rfl] at q'
    refine am_iconst (v := nI 0) rfl (by decide) ?_
    exact am_zreturn rfl rfl (Or.inl rfl) ⟨by rw [show def3 F x = false from decide_eq_false (by omega)]; rfl, rfl⟩
  have q' : ¬ x.toInt < 0 := fun z => q (Int32.lt_iff_toInt_lt.mpr z)
  refine am_iload_n rfl rfl ?_
  refine am_iconst (v := nI 3) rfl (by decide) ?_
  refine am_icmp_ge rfl (fun w => ?_) (fun w => ?_)
  · have w' := Int32.le_iff_toInt_le.mp w
    rw [show (nI 3).toInt = 3 from rfl] at w'
    refine am_iconst (v := nI 0) rfl (by decide) ?_
    exact am_zreturn rfl rfl (Or.inl rfl) ⟨by rw [show def3 F x = false from decide_eq_false (by omega)]; rfl, rfl⟩
  · have w' : ¬ 3 ≤ x.toInt := fun z => w (Int32.le_iff_toInt_le.mpr z)
    obtain ⟨φ, hφ, rfl⟩ := f3_nI (x := x) (by omega) (by omega)
    obtain ⟨oF, a1, a2, a3, a4, a5⟩ := hX
    have hFn := isFn_of hR (a1 φ (by omega))
    have hkF := hFn.2.1
    have hrφ := a3 φ hφ
    refine am_aload_n rfl rfl ?_
    refine ho_getR rfl (by first | rfl | assumption) rfl (by first | assumption | exact hR _ _ _ rfl) ?_
    refine am_iload_n rfl rfl ?_
    refine ho_aaload rfl (by first | rfl | assumption) ⟨by decide, rfl⟩ (by omega) (by first | assumption | exact hR _ _ _ rfl) ?_
    refine ho_getI rfl (by first | rfl | assumption) rfl ?_
    rw [(a5 φ hφ).1, def3_nI hφ]
    refine am_if_eq rfl (fun z => ?_) (fun z => ?_)
    · refine am_iconst (v := nI 0) rfl (by decide) ?_
      exact am_zreturn rfl rfl (Or.inl rfl) ⟨by rw [(bI_eq _).mp z]; rfl, rfl⟩
    · refine am_iconst (v := nI 1) rfl (by decide) ?_
      refine am_goto rfl ?_
      exact am_zreturn rfl rfl (Or.inr rfl) ⟨by rw [(bI_ne _).mp z]; rfl, rfl⟩
def rnP (S : Rs) (N : Nd) (F : Nat → Fn) (φ t : Nat) (mi : Nat → Nat → Int32) (ml : Nat → Nat → Int64) (mr' : Nat → Nat → Option Nat) (r : Option Value) (h' : am_H) : Prop := ∃ mi' ml', h' = hm mi' ml' mr' ∧ Fu t mi mi' ∧ (∀ b, b ≠ 92 → ml' b = ml b) ∧ (∀ j, j < N.length → NM S N (ml' 92) j) ∧ ((∃ out a, ap S N (ml' 92) F 13 φ (o0 N) 0 [] 0 = .inl (out, a) ∧ r = some (.int (nI a)) ∧ HA mi' t out) ∨ (ap S N (ml' 92) F 13 φ (o0 N) 0 [] 0 = .inr true ∧ r = some (.int (-4))) ∨ (ap S N (ml' 92) F 13 φ (o0 N) 0 [] 0 = .inr false ∧ r = some (.int (-5))))
theorem c_U_runOn (hR : SR mr) (hS : okS S) (ht : t = 76 ∨ t = 79) (htd : td = 70 ∨ td = 73) (hl : N.length ≤ 12) (hNo : okN 0 N) (oF : Nat → Nat) (hoF : ∀ n, n < 4 → oF n ∈ fOb) (hrF : ∀ n, n < 3 → mr 45 n = some (oF n)) (hF : ∀ φ, ((F φ).2.2 = [] ∨ okF (F φ)) ∧ ntk (F φ).2.2 ≤ 80) (φ : Nat) (hφ : φ < 3) (mi : Nat → Nat → Int32) (ml : Nat → Nat → Int64) (hN : HA mi td N) (hX : repX S ip nn mi ml) (hFA : ∀ φ, φ < 3 → mi (oF φ) 0 = bI (decide ((F φ).2.2.length ≠ 0)) ∧ ((F φ).2.2.length ≠ 0 → FA mi (oF φ) (F φ))) :
    am_T l (d + 31) M_U_runOn 0 [some (.ref 109), some (.ref td), some (.int (nI φ)), some (.ref t)] [] (hm mi ml mr) 0 0 (rnP S N F φ t mi ml (up2 (up2 mr 109 2 (some td)) 109 3 (some t))) := by
  have hk := (isH_of hR htd).1
  have hk2 := (isH_of2 hR ht).1
  refine am_aload_n rfl rfl ?_
  refine am_aload_n rfl rfl ?_
  refine ho_putR rfl (by first | rfl | assumption) rfl ?_
  refine am_aload_n rfl rfl ?_
  refine am_aload_n rfl rfl ?_
  refine ho_putR rfl (by first | rfl | assumption) rfl ?_
  have hR' : SR (up2 (up2 mr 109 2 (some td)) 109 3 (some t)) := SR_109 hR
  have s2 : (up2 (up2 mr 109 2 (some td)) 109 3 (some t)) 109 2 = some td := by simp [up2]
  have s3 : (up2 (up2 mr 109 2 (some td)) 109 3 (some t)) 109 3 = some t := by simp [up2]
  have s45 : (up2 (up2 mr 109 2 (some td)) 109 3 (some t)) 45 = mr 45 := by rw [up2_off _ _ _ (by decide), up2_off _ _ _ (by decide)]
  generalize up2 (up2 mr 109 2 (some td)) 109 3 (some t) = mr' at hR' s2 s3 s45 ⊢
  have hR := hR'
  refine am_aload_n rfl rfl ?_
  refine ho_getR rfl (by first | rfl | assumption) rfl (by first | assumption | exact hR _ _ _ rfl) ?_
  refine am_iconst (v := nI 0) rfl (by decide) ?_
  refine ho_putI rfl (by first | rfl | assumption) rfl rfl ?_
  refine am_aload_n rfl rfl ?_
  refine am_iconst (v := nI 0) rfl (by decide) ?_
  refine ho_putI rfl (by first | rfl | assumption) rfl rfl ?_
  refine am_aload_n rfl rfl ?_
  refine am_bipush (v := -4) rfl (by decide) ?_
  refine ho_putI rfl (by first | rfl | assumption) rfl rfl ?_
  have e1 : Fu t mi (up2 (up2 (up2 mi t 2 (nI 0)) 109 4 (nI 0)) 109 5 (-4)) := fun a h1 _ _ h4 => by rw [up2_off _ _ _ h4, up2_off _ _ _ h4, up2_off _ _ _ h1]
  have e2 : HA (up2 (up2 (up2 mi t 2 (nI 0)) 109 4 (nI 0)) 109 5 (-4)) t [] := ⟨by rw [up2_off _ _ _ (by omega), up2_off _ _ _ (by omega)]; simp [up2], fun i hi => by cases hi⟩
  have e3 : (up2 (up2 (up2 mi t 2 (nI 0)) 109 4 (nI 0)) 109 5 (-4)) 109 4 = nI 0 := by simp [up2]
  have e4 : (up2 (up2 (up2 mi t 2 (nI 0)) 109 4 (nI 0)) 109 5 (-4)) 109 5 = -4 := by simp [up2]
  generalize up2 (up2 (up2 mi t 2 (nI 0)) 109 4 (nI 0)) 109 5 (-4) = mi1 at e1 e2 e3 e4 ⊢
  have hN1 : HA mi1 td N := HA_to hN (e1 _ (by omega) (by omega) (by omega) (by omega)) (e1 _ (by omega) (by omega) (by omega) (by omega)) (e1 _ (by omega) (by omega) (by omega) (by omega))
  have hX1 : repX S ip nn mi1 ml := repX_to hX (e1 _ (by omega) (by omega) (by omega) (by omega)) (e1 _ (by omega) (by omega) (by omega) (by omega)) (e1 _ (by omega) (by omega) (by omega) (by omega)) (fun _ _ _ => rfl)
  refine am_aload_n rfl rfl ?_
  refine ho_getR rfl (by first | rfl | assumption) rfl (by first | assumption | exact hR _ _ _ rfl) ?_
  refine am_aload_n rfl rfl ?_
  refine ho_cv1 rfl (by first | rfl | assumption) rfl (Nat.le_of_ble_eq_true rfl) (Nat.le_of_ble_eq_true rfl) (c_S_ofHedge ml hR hS hX1 (isH_of hR htd) hN1 hl) ?_
  rintro v h' ⟨ml', g1, g2, g3, rfl, rfl⟩
  refine am_pop2l rfl rfl ?_
  refine am_aload_n rfl rfl ?_
  refine am_iload_n rfl rfl ?_
  refine am_aload_n rfl rfl ?_
  refine ho_getI rfl (by first | rfl | assumption) rfl ?_
  rw [hN1.1]
  have hUC : UC S ip nn td N F oF mi1 ml' := ⟨hN1, g1, g3, fun ψ hψ => by
    have := fOb_r (hoF ψ (by omega))
    exact ⟨by rw [e1 _ (by omega) (by omega) (by omega) (by omega)]; exact (hFA ψ hψ).1, fun q => FA_to ((hFA ψ hψ).2 q) (fun a _ _ => e1 a (by omega) (by omega) (by omega) (by omega))⟩⟩
  have hap : am_T l (d + 30) M_U_apply 0 [some (.ref 109), some (.int (nI φ)), some (.int (noI (o0 N))), some (.int (nI 0)), some (.int (nI 0)), none, none, none, none, none, none] [] (hm mi1 ml' mr') 0 0 (uP ml' mr' t mi1 (ap S N (ml' 92) F 13 φ (o0 N) 0 [] 0)) := c_U_apply (d := d) hR hS s2 s3 (isH_of hR htd) (isH_of2 hR ht) ht htd hl hNo hoF (fun n hn => by rw [s45]; exact hrF n hn) hF 13 φ (o0 N) 0 [] 0 mi1 hφ (by omega) (fun i hi => ⟨o0_lt i hi, by omega⟩) (by omega) trivial (Nat.zero_le _) (Nat.zero_le _) hUC e2 e3 e4
  have s52 : ∀ y : Int32, y = noI (o0 N) → am_T l (d + 31) M_U_runOn 52 [some (.ref 109), some (.ref td), some (.int (nI φ)), some (.ref t)] [.int y, .int (nI φ), .ref 109] (hm mi1 ml' mr') 0 0 (rnP S N F φ t mi ml mr') := by
    intro y hy
    subst hy
    refine am_iconst (v := nI 0) rfl (by decide) ?_
    refine am_iconst (v := nI 0) rfl (by decide) ?_
    refine ho_cv4 rfl (by first | rfl | assumption) rfl (Nat.le_of_ble_eq_true rfl) (Nat.le_of_ble_eq_true rfl) (hap) ?_
    rintro v h' ⟨mi', rfl, k1, k2⟩
    cases hq : ap S N (ml' 92) F 13 φ (o0 N) 0 [] 0 using RR.cas with
    | ok out a =>
      rw [hq] at k2
      obtain ⟨rfl, k3, k4, k5⟩ := k2
      refine am_if_eq rfl (fun z => by cases z) (fun _ => ?_)
      refine am_aload_n rfl rfl ?_
      refine ho_getI rfl (by first | rfl | assumption) rfl ?_
      rw [k4]
      refine am_goto rfl ?_
      exact am_ireturn rfl rfl ⟨mi', ml', rfl, e1.tr k1, g2, g3, Or.inl ⟨out, a, hq, rfl, k3⟩⟩
    | stuck =>
      rw [hq] at k2
      obtain ⟨rfl, k3⟩ := k2
      refine am_if_eq rfl (fun _ => ?_) (fun z => absurd rfl z)
      refine am_aload_n rfl rfl ?_
      refine ho_getI rfl (by first | rfl | assumption) rfl ?_
      rw [k3]
      exact am_ireturn rfl rfl ⟨mi', ml', rfl, e1.tr k1, g2, g3, Or.inr (Or.inl ⟨hq, rfl⟩)⟩
    | full =>
      rw [hq] at k2
      obtain ⟨rfl, k3⟩ := k2
      refine am_if_eq rfl (fun _ => ?_) (fun z => absurd rfl z)
      refine am_aload_n rfl rfl ?_
      refine ho_getI rfl (by first | rfl | assumption) rfl ?_
      rw [k3]
      exact am_ireturn rfl rfl ⟨mi', ml', rfl, e1.tr k1, g2, g3, Or.inr (Or.inr ⟨hq, rfl⟩)⟩
  refine am_if_ne rfl (fun z => ?_) (fun z => ?_)
  · refine am_iconst (v := nI 0) rfl (by decide) ?_
    refine s52 _ ?_
    unfold o0
    rw [if_neg (fun q => z (by rw [q]; rfl))]
    rfl
  · refine am_iconst (v := -1) rfl (by decide) ?_
    refine am_goto rfl ?_
    refine s52 _ ?_
    unfold o0
    rw [if_pos ((nI_eq (a := N.length) (b := 0) (by omega) (by omega)).mp z)]
    rfl
theorem x_run {mi : Nat → Nat → Int32} {ml : Nat → Nat → Int64} (hR : SR mr) (hs : okSta s) (hX : XI s mi ml mr) (x : Int32) : am_T l (d + 32) M_X_run 0 [some (.ref 0), some (.int x), none, none] [] (hm mi ml mr) 0 0 (fun r h' => (∃ v, r = some (.int v)) ∧ ∃ mi' ml' mr' s', h' = hm mi' ml' mr' ∧ SR mr' ∧ XI s' mi' ml' mr' ∧ runR s x r s' ∧ (∀ a, 116 ≤ a → mi' a = mi a) ∧ ∀ a, 116 ≤ a → ml' a = ml a) := by
  refine am_aload_n rfl rfl ?_
  refine am_iload_n rfl rfl ?_
  refine ho_cv1 rfl (by first | rfl | assumption) rfl (Nat.le_of_ble_eq_true rfl) (Nat.le_of_ble_eq_true rfl) (c_X_isDefined hR hX.2.2.1 x) ?_
  rintro v h' ⟨rfl, rfl⟩
  refine am_if_ne rfl (fun z => ?_) (fun z => ?_)
  case refine_2 =>
    refine am_bipush (v := -2) rfl (by decide) ?_
    exact am_ireturn rfl rfl ⟨⟨_, rfl⟩, mi, ml, mr, s, rfl, hR, hX, Or.inl ⟨(bI_eq _).mp z, rfl, rfl⟩, fun _ _ => rfl, fun _ _ => rfl⟩
  have hdef := (bI_ne _).mp z
  obtain ⟨φ, hφ, rfl, hz⟩ := def3_of hdef
  obtain ⟨td, tw, b1, b2, b3, b4, b5, b6, b7, b8⟩ := id hX.2.2.2.1
  obtain ⟨ip, nn, hrep, -⟩ := id hX.2.2.2.2.1
  obtain ⟨oF, c1, c2, c3, c4, c5⟩ := id hX.2.2.1
  have hS := okS_SD hs.2.1
  have ht : 155 - tw = 76 ∨ 155 - tw = 79 := by omega
  refine am_aload_n rfl rfl ?_
  refine ho_getR rfl (by first | rfl | assumption) rfl (by first | assumption | exact hR _ _ _ rfl) ?_
  refine am_aload_n rfl rfl ?_
  refine ho_getR rfl (by first | rfl | assumption) rfl (by first | assumption | exact hR _ _ _ rfl) ?_
  refine am_iload_n rfl rfl ?_
  refine am_aload_n rfl rfl ?_
  refine ho_getR rfl (by first | rfl | assumption) rfl (by first | assumption | exact hR _ _ _ rfl) ?_
  refine ho_cv3 rfl (by first | rfl | assumption) rfl (Nat.le_of_ble_eq_true rfl) (Nat.le_of_ble_eq_true rfl) (c_U_runOn hR hS ht b1 hs.2.2.2.1.2 hs.2.2.2.1.1 oF c1 c3 hs.2.2.1 φ hφ mi ml b7 hrep c5) ?_
  rintro v h' ⟨mi', ml', rfl, g1, g2, g3, g4⟩
  have hR' : SR (up2 (up2 mr 109 2 (some td)) 109 3 (some (155 - tw))) := SR_109 hR
  have m0 : (up2 (up2 mr 109 2 (some td)) 109 3 (some (155 - tw))) 0 = mr 0 := by rw [up2_off _ _ _ (by decide), up2_off _ _ _ (by decide)]
  have m2 : (up2 (up2 mr 109 2 (some td)) 109 3 (some (155 - tw))) 2 = mr 2 := by rw [up2_off _ _ _ (by decide), up2_off _ _ _ (by decide)]
  have m45 : (up2 (up2 mr 109 2 (some td)) 109 3 (some (155 - tw))) 45 = mr 45 := by rw [up2_off _ _ _ (by decide), up2_off _ _ _ (by decide)]
  generalize up2 (up2 mr 109 2 (some td)) 109 3 (some (155 - tw)) = mr' at hR' m0 m2 m45 ⊢
  have hsame : XI s mi' ml' mr' := XI_hed (N' := s.N) (V' := s.V) hX (fun a _ _ h109 h => g1 a (by omega) (by omega) (by omega) h109) (fun a _ h => g2 a h) m2 m45 (by rw [m0]) (by rw [m0]) ⟨td, tw, b1, b2, by rw [m0]; exact b3, by rw [m0]; exact b4, by rw [m0]; exact b5, by rw [m0]; exact b6, HA_to b7 (g1 _ (by omega) (by omega) (by omega) (by omega)) (g1 _ (by omega) (by omega) (by omega) (by omega)) (g1 _ (by omega) (by omega) (by omega) (by omega)), HA_to b8 (g1 _ (by omega) (by omega) (by omega) (by omega)) (g1 _ (by omega) (by omega) (by omega) (by omega)) (g1 _ (by omega) (by omega) (by omega) (by omega))⟩
  rcases g4 with ⟨out, a, h1, rfl, h2⟩ | ⟨h1, rfl⟩ | ⟨h1, rfl⟩
  · obtain ⟨-, -, ha⟩ := ap_fin hs.2.2.2.1.1 (fun φ => (hs.2.2.1 φ).1) h1
    refine am_istore_n rfl (Nat.le_of_ble_eq_true rfl) ?_
    show am_T _ _ _ _ [_, _, some _, _] _ _ _ _ _
    refine am_iload_n rfl rfl ?_
    refine am_if_lt rfl (fun q => absurd q (nI_pos (by omega))) (fun _ => ?_)
    have b5' : mr' 0 8 = some tw := by rw [m0]; exact b5
    have b6' : mr' 0 9 = some (155 - tw) := by rw [m0]; exact b6
    have hR := hR'
    refine am_aload_n rfl rfl ?_
    refine ho_getR rfl (by first | rfl | assumption) rfl (by first | assumption | exact hR _ _ _ rfl) ?_
    refine am_astore_n rfl (Nat.le_of_ble_eq_true rfl) ?_
    show am_T _ _ _ _ [_, _, _, some _] _ _ _ _ _
    refine am_aload_n rfl rfl ?_
    refine am_aload_n rfl rfl ?_
    refine ho_getR rfl (by first | rfl | assumption) rfl (by first | assumption | exact hR _ _ _ rfl) ?_
    refine ho_putR rfl (by first | rfl | assumption) rfl ?_
    refine am_aload_n rfl rfl ?_
    refine am_aload_n rfl rfl ?_
    refine ho_putR rfl rfl rfl ?_
    refine am_iload_n rfl rfl ?_
    refine am_ireturn rfl rfl ⟨⟨_, rfl⟩, mi', ml', _, (s.setV (out)), rfl, SR_val hR, ?_, Or.inr ⟨hdef, φ, ml' 92, hφ, rfl, g3, Or.inl ⟨out, a, h1, rfl, rfl⟩⟩, fun a ha => g1 a (by omega) (by omega) (by omega) (by omega), fun a ha => g2 a (by omega)⟩
    refine XI_hed (N' := s.N) (V' := out) hX (fun a _ _ h109 h => g1 a (by omega) (by omega) (by omega) h109) (fun a _ h => g2 a h) (by rw [up2_off _ _ _ (by decide), up2_off _ _ _ (by decide)]; exact m2) (by rw [up2_off _ _ _ (by decide), up2_off _ _ _ (by decide)]; exact m45) (by unfold up2; rw [if_neg (by omega), if_neg (by omega), m0]) (by unfold up2; rw [if_neg (by omega), if_neg (by omega), m0]) ⟨td, 155 - tw, b1, ht, ?_, ?_, ?_, ?_, HA_to b7 (g1 _ (by omega) (by omega) (by omega) (by omega)) (g1 _ (by omega) (by omega) (by omega) (by omega)) (g1 _ (by omega) (by omega) (by omega) (by omega)), h2⟩
    · unfold up2
      rw [if_neg (by omega), if_neg (by omega), m0]
      exact b3
    · unfold up2
      rw [if_neg (by omega), if_neg (by omega), m0]
      exact b4
    · simp [up2]
    · simp [up2]
      omega
  · refine am_istore_n rfl (Nat.le_of_ble_eq_true rfl) ?_
    show am_T _ _ _ _ [_, _, some _, _] _ _ _ _ _
    refine am_iload_n rfl rfl ?_
    refine am_if_lt rfl (fun _ => ?_) (fun q => absurd (by decide) q)
    refine am_iload_n rfl rfl ?_
    exact am_ireturn rfl rfl ⟨⟨_, rfl⟩, mi', ml', mr', s, rfl, hR', hsame, Or.inr ⟨hdef, φ, ml' 92, hφ, rfl, g3, Or.inr (Or.inl ⟨h1, rfl, rfl⟩)⟩, fun a ha => g1 a (by omega) (by omega) (by omega) (by omega), fun a ha => g2 a (by omega)⟩
  · refine am_istore_n rfl (Nat.le_of_ble_eq_true rfl) ?_
    show am_T _ _ _ _ [_, _, some _, _] _ _ _ _ _
    refine am_iload_n rfl rfl ?_
    refine am_if_lt rfl (fun _ => ?_) (fun q => absurd (by decide) q)
    refine am_iload_n rfl rfl ?_
    exact am_ireturn rfl rfl ⟨⟨_, rfl⟩, mi', ml', mr', s, rfl, hR', hsame, Or.inr ⟨hdef, φ, ml' 92, hφ, rfl, g3, Or.inr (Or.inr ⟨h1, rfl, rfl⟩)⟩, fun a ha => g1 a (by omega) (by omega) (by omega) (by omega), fun a ha => g2 a (by omega)⟩
end U7
