/-! operation: safe -/
section Q6
variable {l : Launch} {d : Nat} {K : Option Value → Prop} {mr : Nat → Nat → Option Nat} {s : Sta}
/-- what the class says of a set of functions -/
def AllX (S : Rs) (F : Nat → Fn) (cnt : Nat) (v : Nat → Nat) (km : Nat → Int64) (m : Nat) (b : Bool) : Prop := (b = true ∧ ∀ f, f < 3 → m.testBit f = true → SndX S F cnt v km f true) ∨ (b = false ∧ ∃ f, f < 3 ∧ m.testBit f = true ∧ SndX S F cnt v km f false)
def safR (s : Sta) (x : Int32) (r : Option Value) : Prop := (def3 s.F x = false ∧ r = some (.int (bI false))) ∨ (def3 s.F x = true ∧ ∃ cnt tm mj mk, KX (SD s.D) cnt tm mj mk ∧ ((tm = true ∧ r = some (.int (bI false))) ∨ (tm = false ∧ ∃ φ ip n L v b, φ < 3 ∧ x = nI φ ∧ KF (SD s.D) ip n cnt L v mj mk ∧ r = some (.int (bI b)) ∧ AllX (SD s.D) s.F cnt v (mk 94) (outL (fun f => cbs (allT (s.F f).2.2) 0) 3 (2 ^ φ)) b)))
theorem cbs_8 : ∀ (T : List Nat) (m : Nat), (∀ k ∈ T, k < 262) → m < 8 → cbs T m < 8
  | [], _, _, h => h
  | k :: T, m, hT, h => by
    show cbs T (if 256 ≤ k then m ||| 2 ^ ((k - 256) / 2) else m) < 8
    refine cbs_8 T _ (fun x hx => hT x (List.mem_cons_of_mem _ hx)) ?_
    split
    · have := hT k List.mem_cons_self
      exact (or_bit3 m h _ (by omega)).2
    · exact h
theorem cbs_F (hF : ∀ f, ((s.F f).2.2 = [] ∨ okF (s.F f)) ∧ ntk (s.F f).2.2 ≤ 80) (f : Nat) : cbs (allT (s.F f).2.2) 0 < 8 := by
  rcases (hF f).1 with e | h
  · rw [e]
    decide
  · exact cbs_8 _ 0 (allT_tk h) (by omega)
theorem x_safe (hR : SR mr) (hs : okSta s) (mi : Nat → Nat → Int32) (ml : Nat → Nat → Int64) (hX : XI s mi ml mr) (x : Int32) : am_T l (d + 7) M_X_safe 0 [some (.ref 0), some (.int x)] [] (hm mi ml mr) 0 0 (fun r h' => (∃ v, r = some (.int v)) ∧ ∃ mi' ml', h' = hm mi' ml' mr ∧ XI s mi' ml' mr ∧ safR s x r ∧ (∀ a, 116 ≤ a → mi' a = mi a) ∧ ∀ a, 116 ≤ a → ml' a = ml a) := by
  have hS := okS_SD hs.2.1
  refine am_aload_n rfl rfl ?_
  refine am_iload_n rfl rfl ?_
  refine ho_cv1 rfl (by first | rfl | assumption) rfl (Nat.le_of_ble_eq_true rfl) (Nat.le_of_ble_eq_true rfl) (c_X_isDefined hR hX.2.2.1 x) ?_
  rintro v h' ⟨rfl, rfl⟩
  refine am_if_eq rfl (fun z => ?_) (fun z => ?_)
  · refine am_iconst (v := nI 0) rfl (by decide) ?_
    exact am_zreturn rfl rfl (Or.inl rfl) ⟨⟨_, rfl⟩, mi, ml, rfl, hX, Or.inl ⟨(bI_eq _).mp z, rfl⟩, fun _ _ => rfl, fun _ _ => rfl⟩
  have hdef := (bI_ne _).mp z
  obtain ⟨φ, hφ, rfl, hz⟩ := def3_of hdef
  refine am_aload_n rfl rfl ?_
  refine ho_getR rfl (by first | rfl | assumption) rfl (by first | assumption | exact hR _ _ _ rfl) ?_
  refine ho_cv0 rfl (by first | rfl | assumption) rfl (Nat.le_of_ble_eq_true rfl) (Nat.le_of_ble_eq_true rfl) (x_room hR hs mi ml hX) ?_
  rintro v h' ⟨cnt, tm, mi1, ml1, rfl, rfl, g1, g2, g3, g4, g5⟩
  cases tm with
  | true =>
    refine am_if_eq rfl (fun _ => ?_) (fun q => absurd rfl q)
    refine am_iconst (v := nI 0) rfl (by decide) ?_
    exact am_zreturn rfl rfl (Or.inl rfl) ⟨⟨_, rfl⟩, mi1, ml1, rfl, g1, Or.inr ⟨hdef, cnt, true, mi1, ml1, g2, Or.inl ⟨rfl, rfl⟩⟩, g4, g5⟩
  | false =>
    refine am_if_eq rfl (fun q => by cases q) (fun _ => ?_)
    obtain ⟨ip, n, L, v, hKF⟩ := KX_KF g2
    obtain ⟨oF, c1, c2, c3, c4, c5⟩ := id g1.2.2.1
    refine am_aload_n rfl rfl ?_
    refine ho_getR rfl (by first | rfl | assumption) rfl (by first | assumption | exact hR _ _ _ rfl) ?_
    refine am_iload_n rfl rfl ?_
    refine ho_cv1 rfl (by first | rfl | assumption) rfl (Nat.le_of_ble_eq_true rfl) (Nat.le_of_ble_eq_true rfl) (c_C_allSafe hR hS c1 c3 mi1 ml1 hKF g1.2.2.2.2.2.1 c5 hs.2.2.1 (fun f _ => cbs_F hs.2.2.1 f) φ hφ) ?_
    rintro r h' ⟨b, mi2, ml2, rfl, rfl, k1, k2, k3, k4⟩
    have hX2 := XI_fr g1 k1 k2 k3
    have fin : safR s (nI φ) (some (.int (bI b))) := Or.inr ⟨hdef, cnt, false, mi1, ml1, g2, Or.inr ⟨rfl, φ, ip, n, L, v, b, hφ, rfl, hKF, rfl, k4⟩⟩
    have e1 : ∀ a, 116 ≤ a → mi2 a = mi a := fun a ha => by rw [k1 a (by omega) (by omega)]; exact g4 a ha
    have e2 : ∀ a, 116 ≤ a → ml2 a = ml a := fun a ha => by rw [k3 a (by omega) (by omega)]; exact g5 a ha
    cases b with
    | true =>
      refine am_if_eq rfl (fun q => by cases q) (fun _ => ?_)
      refine am_iconst (v := nI 1) rfl (by decide) ?_
      refine am_goto rfl ?_
      exact am_zreturn rfl rfl (Or.inr rfl) ⟨⟨_, rfl⟩, mi2, ml2, rfl, hX2, fin, e1, e2⟩
    | false =>
      refine am_if_eq rfl (fun _ => ?_) (fun q => absurd rfl q)
      refine am_iconst (v := nI 0) rfl (by decide) ?_
      exact am_zreturn rfl rfl (Or.inl rfl) ⟨⟨_, rfl⟩, mi2, ml2, rfl, hX2, fin, e1, e2⟩
end Q6
