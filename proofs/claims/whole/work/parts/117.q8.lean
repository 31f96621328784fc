/-! operation: safe, whole -/
section Q8
variable {l : Launch} {d : Nat} {K : Option Value → Prop} {mr : Nat → Nat → Option Nat} {s : Sta}
theorem m_safe_set (hR : SR mr) (hs : okSta s) {mi : Nat → Nat → Int32} {ml : Nat → Nat → Int64} (hM : MI s mi ml) (x1 : Int32) : ∀ (x rd m : Nat) {Q : Option Value → am_H → Prop}, rd + x = 3 → m < 8 → (outL (fun f => cbs (allT (s.F f).2.2) 0) x m < 8 → am_T l (d + 7) M_m_safe 72 [some (.ref 116), some (.int x1), some (.int (nI (outL (fun f => cbs (allT (s.F f).2.2) 0) x m))), none, none] [] (hm mi ml mr) 0 0 Q) → am_T l (d + 7) M_m_safe 23 [some (.ref 116), some (.int x1), some (.int (nI m)), some (.int (nI rd)), none] [] (hm mi ml mr) 0 0 Q := by
  have hcs : ∀ f, f < 3 → (fun f => cbs (allT (s.F f).2.2) 0) f < 8 := fun f _ => cbs_F hs.2.2.1 f
  have inner : ∀ (rd : Nat) (x f m : Nat) {Q : Option Value → am_H → Prop}, f + x = 3 → m < 8 → rd < 3 → am_T l (d + 7) M_m_safe 66 [some (.ref 116), some (.int x1), some (.int (nI (innL (fun f => cbs (allT (s.F f).2.2) 0) x f m))), some (.int (nI rd)), none] [] (hm mi ml mr) 0 0 Q → am_T l (d + 7) M_m_safe 31 [some (.ref 116), some (.int x1), some (.int (nI m)), some (.int (nI rd)), some (.int (nI f))] [] (hm mi ml mr) 0 0 Q := by
    intro rd x
    induction x with
    | zero =>
      intro f m Q hx hm8 hrd k
      refine am_iload rfl rfl ?_
      refine am_iconst (v := nI 3) rfl (by decide) ?_
      refine ho_icmp_ge rfl (by omega) (by omega) (fun _ => ?_) (fun g => absurd (by omega) g)
      refine am_drops [4] ?_
      exact k
    | succ x ih =>
      intro f m Q hx hm8 hrd k
      have hf3 : f < 3 := by omega
      refine am_iload rfl rfl ?_
      refine am_iconst (v := nI 3) rfl (by decide) ?_
      refine ho_icmp_ge rfl (by omega) (by omega) (fun g => absurd g (by omega)) (fun _ => ?_)
      refine am_iload_n rfl rfl ?_
      refine am_iload rfl rfl ?_
      refine am_ishr rfl ?_
      refine am_iconst (v := nI 1) rfl (by decide) ?_
      refine am_iand rfl ?_
      rw [shr_bit7 m (by omega) f (by omega)]
      refine am_iconst (v := nI 1) rfl (by decide) ?_
      have k2 := fun h8 => ih (f + 1) (stpL (fun f => cbs (allT (s.F f).2.2) 0) m f) (by omega) h8 hrd k
      unfold stpL at k2
      cases hb : m.testBit f with
      | false =>
        rw [hb] at k2
        refine ho_icmp_ne rfl (by decide) (by decide) (fun _ => ?_) (fun g => absurd g (by decide))
        refine am_iload_n rfl rfl ?_
        refine am_istore_n rfl (Nat.le_of_ble_eq_true rfl) ?_
        show am_T _ _ _ _ [_, _, some _, _, _] _ _ _ _ _
        refine am_iinc rfl rfl (nI_inc1 _) ?_
        show am_T _ _ _ _ [_, _, _, _, some _] _ _ _ _ _
        refine am_goto rfl ?_
        exact k2 hm8
      | true =>
        rw [hb] at k2
        obtain ⟨o1, o2⟩ := or_8 m hm8 _ (hcs f hf3)
        refine ho_icmp_ne rfl (by decide) (by decide) (fun g => absurd rfl g) (fun _ => ?_)
        refine am_iload_n rfl rfl ?_
        refine am_aload_n rfl rfl ?_
        refine am_iload rfl rfl ?_
        refine ho_cv1 rfl (by first | rfl | assumption) rfl (Nat.le_of_ble_eq_true rfl) (Nat.le_of_ble_eq_true rfl) (c_m_called hR f hf3 (hs.2.2.1 f).1 (hM.2.2.1 f hf3)) ?_
        rintro r h' ⟨-, rfl, rfl⟩
        refine am_ior rfl ?_
        rw [o1]
        refine am_goto rfl ?_
        refine am_istore_n rfl (Nat.le_of_ble_eq_true rfl) ?_
        show am_T _ _ _ _ [_, _, some _, _, _] _ _ _ _ _
        refine am_iinc rfl rfl (nI_inc1 _) ?_
        show am_T _ _ _ _ [_, _, _, _, some _] _ _ _ _ _
        refine am_goto rfl ?_
        exact k2 o2
  intro x
  induction x with
  | zero =>
    intro rd m Q hx hm8 k
    refine am_iload_n rfl rfl ?_
    refine am_iconst (v := nI 3) rfl (by decide) ?_
    refine ho_icmp_ge rfl (by omega) (by omega) (fun _ => ?_) (fun g => absurd (by omega) g)
    refine am_drops [3] ?_
    exact k hm8
  | succ x ih =>
    intro rd m Q hx hm8 k
    refine am_iload_n rfl rfl ?_
    refine am_iconst (v := nI 3) rfl (by decide) ?_
    refine ho_icmp_ge rfl (by omega) (by omega) (fun g => absurd g (by omega)) (fun _ => ?_)
    refine am_iconst (v := nI 0) rfl (by decide) ?_
    refine am_istore rfl (Nat.le_of_ble_eq_true rfl) ?_
    show am_T _ _ _ _ [_, _, _, _, some _] _ _ _ _ _
    refine inner rd 3 0 m rfl hm8 (by omega) ?_
    refine am_iinc rfl rfl (nI_inc1 _) ?_
    show am_T _ _ _ _ [_, _, _, some _, _] _ _ _ _ _
    refine am_goto rfl ?_
    exact ih (rd + 1) _ (by omega) (innL_8 hcs 3 0 m rfl hm8) k
theorem w_safe (hK : ∀ v, K (some (.int v))) (x : Int32) : lw2 l K 104 181 [.int x] := by
  refine lw_mk (fun mi ml mr s hR hs hX => ⟨fun r s' => s' = s ∧ safR s x r, ?_, ?_⟩)
  · show am_T l 60 M_X_safe 0 [some (.ref 0), some (.int x)] [] _ 0 0 _
    refine am_T.to (x_safe hR hs mi ml hX x) ?_
    rintro r h ⟨⟨v, rfl⟩, mi', ml', rfl, g1, g2, g3, g4⟩
    exact ⟨hK _, mi', ml', mr, s, rfl, hR, g1, ⟨rfl, g2⟩, g3, g4⟩
  · rintro r s' mi ml mr hR hM - ⟨rfl, hr⟩
    show am_T l 60 M_m_safe 0 [some (.ref 116), some (.int x), none, none, none] [] _ 0 0 _
    refine am_aload_n rfl rfl ?_
    refine am_iload_n rfl rfl ?_
    refine ho_cv1 rfl (by first | rfl | assumption) rfl (Nat.le_of_ble_eq_true rfl) (Nat.le_of_ble_eq_true rfl) (c_m_definedX hR hM.2.2.1 x) ?_
    rintro v h' ⟨rfl, rfl⟩
    rcases hr with ⟨h1, rfl⟩ | ⟨h1, cnt, tm, mj, mk, hKX, hr⟩
    · rw [h1]
      refine am_if_eq rfl (fun _ => ?_) (fun z => absurd rfl z)
      refine am_iconst (v := nI 0) rfl (by decide) ?_
      exact am_zreturn rfl rfl (Or.inl rfl) ⟨rfl, _, _, rfl, hs, hM, fun _ _ => rfl, fun _ _ => rfl⟩
    · rw [h1]
      refine am_if_eq rfl (fun z => by cases z) (fun _ => ?_)
      obtain ⟨φ, hφ, rfl, hz⟩ := def3_of h1
      have hS := okS_SD hs.2.1
      refine am_aload_n rfl rfl ?_
      refine ho_cv0 rfl (by first | rfl | assumption) rfl (Nat.le_of_ble_eq_true rfl) (Nat.le_of_ble_eq_true rfl) (m_room hR hs mi ml hM) ?_
      rintro v h' ⟨cm, mi', ml', rfl, rfl, q0, q1, q2, q3, q4⟩
      obtain ⟨e1, e2⟩ := room_same hS q2 hKX
      rw [← e1]
      have hfr : (∀ a, a < 116 → mi' a = mi a) ∧ ∀ a, a < 116 → ml' a = ml a := ⟨fun a ha => q4.1 a (by omega) (by omega) (by omega) (by omega) (by omega) (by omega), fun a ha => q4.2.2.1 a (by omega) (by omega) (by omega)⟩
      rcases hr with ⟨rfl, rfl⟩ | ⟨rfl, ψ, ip, n, L, w, B, m1, m2, m3, rfl, m4⟩
      · refine am_if_eq rfl (fun z => by cases z) (fun _ => ?_)
        refine am_iconst (v := nI 0) rfl (by decide) ?_
        exact am_zreturn rfl rfl (Or.inl rfl) ⟨rfl, _, _, rfl, hs, q0, hfr.1, hfr.2⟩
      · refine am_if_eq rfl (fun _ => ?_) (fun z => absurd rfl z)
        have hψ : φ = ψ := (nI_eq (by omega) (by omega)).mp m2
        subst hψ
        obtain ⟨p1, p2⟩ := shl_1 φ hφ
        refine am_iconst (v := nI 1) rfl (by decide) ?_
        refine am_iload_n rfl rfl ?_
        refine am_ishl rfl ?_
        rw [p1]
        refine am_istore_n rfl (Nat.le_of_ble_eq_true rfl) ?_
        show am_T _ _ _ _ [_, _, some _, _, _] _ _ _ _ _
        refine am_iconst (v := nI 0) rfl (by decide) ?_
        refine am_istore_n rfl (Nat.le_of_ble_eq_true rfl) ?_
        show am_T _ _ _ _ [_, _, _, some _, _] _ _ _ _ _
        refine m_safe_set (d := 53) hR hs q0 (nI φ) 3 0 (2 ^ φ) rfl p2 (fun h8 => ?_)
        refine am_iconst (v := nI 1) rfl (by decide) ?_
        refine am_istore_n rfl (Nat.le_of_ble_eq_true rfl) ?_
        show am_T _ _ _ _ [_, _, _, some _, _] _ _ _ _ _
        refine am_iconst (v := nI 0) rfl (by decide) ?_
        refine am_istore rfl (Nat.le_of_ble_eq_true rfl) ?_
        show am_T _ _ _ _ [_, _, _, _, some _] _ _ _ _ _
        refine am_T.to (m_safe_rest (d := 53) hR hs (nI φ) hKX m3 mi' ml' _ h8 B m4 3 0 true mi' ml' rfl q0 (fun _ _ => rfl) (fun _ _ => rfl) (fun _ => rfl) (fun _ ⟨g, hg, _⟩ => absurd hg (Nat.not_lt_zero _))) ?_
        rintro r h' ⟨rfl, mi2, ml2, rfl, k1, k2, k3⟩
        exact ⟨rfl, mi2, ml2, rfl, hs, k1, fun a ha => (k2 a ha).trans (hfr.1 a ha), fun a ha => (k3 a ha).trans (hfr.2 a ha)⟩
end Q8
