/-! the class: allSafe -/
def stpL (cs : Nat → Nat) (m f : Nat) : Nat := if m.testBit f then m ||| cs f else m
def innL (cs : Nat → Nat) : Nat → Nat → Nat → Nat
  | 0, _, m => m
  | x + 1, f, m => innL cs x (f + 1) (stpL cs m f)
def outL (cs : Nat → Nat) : Nat → Nat → Nat
  | 0, m => m
  | x + 1, m => outL cs x (innL cs 3 0 m)
theorem or_8 : ∀ a, a < 8 → ∀ b, b < 8 → nI a ||| nI b = nI (a ||| b) ∧ a ||| b < 8 := by decide +kernel
theorem ush_bit : ∀ m, m < 8 → ∀ f, f < 3 → us32 (nI m) f &&& nI 1 = nI (if m.testBit f then 1 else 0) := by decide +kernel
theorem shl_1 : ∀ f, f < 3 → nI 1 <<< (nI f &&& 31) = nI (2 ^ f) ∧ 2 ^ f < 8 := by decide +kernel
theorem stpL_8 {cs : Nat → Nat} (hcs : ∀ f, f < 3 → cs f < 8) {m f : Nat} (hm8 : m < 8) (hf : f < 3) : stpL cs m f < 8 := by
  unfold stpL
  split
  · exact (or_8 m hm8 _ (hcs f hf)).2
  · exact hm8
theorem innL_8 {cs : Nat → Nat} (hcs : ∀ f, f < 3 → cs f < 8) : ∀ (x f m : Nat), f + x = 3 → m < 8 → innL cs x f m < 8
  | 0, _, _, _, h => h
  | x + 1, f, m, hx, h => innL_8 hcs x (f + 1) _ (by omega) (stpL_8 hcs h (by omega))
/-- whether the class finds a function sound -/
def SndX (S : Rs) (F : Nat → Fn) (cnt : Nat) (v : Nat → Nat) (km : Nat → Int64) (φ : Nat) (b : Bool) : Prop := ((F φ).2.2.length = 0 ∧ b = false) ∨ ((F φ).2.2.length ≠ 0 ∧ ∃ z, Lst (unX S (F φ) cnt km) (1 + cnt + 4 * cnt * cnt) (utX v cnt) z ∧ ((z ≠ -1 ∧ b = false) ∨ (z = -1 ∧ ∃ fd, FWr (BdX S F φ cnt km) (1 + cnt + 4 * cnt * cnt) (F φ).2.2.length fd ∧ b = decide ((F φ).2.2.length ≤ fd))))
section Q3
variable {l : Launch} {d : Nat} {mr : Nat → Nat → Option Nat} {S : Rs} {ip : Nat → Nat} {n cnt L : Nat} {v : Nat → Nat} {F : Nat → Fn} {oF : Nat → Nat}
theorem c_C_allSafe (hR : SR mr) (hS : okS S) (hoF : ∀ n, n < 4 → oF n ∈ fOb) (hrF : ∀ n, n < 3 → mr 45 n = some (oF n)) (mi0 : Nat → Nat → Int32) (ml0 : Nat → Nat → Int64) (hK0 : KF S ip n cnt L v mi0 ml0) (hZ0 : Z100 mi0) (hFA0 : ∀ φ, φ < 3 → mi0 (oF φ) 0 = bI (decide ((F φ).2.2.length ≠ 0)) ∧ ((F φ).2.2.length ≠ 0 → FA mi0 (oF φ) (F φ))) (hF : ∀ φ, ((F φ).2.2 = [] ∨ okF (F φ)) ∧ ntk (F φ).2.2 ≤ 80) (hcs : ∀ f, f < 3 → cbs (allT (F f).2.2) 0 < 8) (φ : Nat) (hφ : φ < 3) :
    am_T l (d + 6) M_C_allSafe 0 [some (.ref 106), some (.int (nI φ)), none, none, none] [] (hm mi0 ml0 mr) 0 0 (fun r h' => ∃ (b : Bool) (mi' : Nat → Nat → Int32) (ml' : Nat → Nat → Int64), r = some (.int (bI b)) ∧ h' = hm mi' ml' mr ∧ Fch mi0 mi' ∧ Z100 mi' ∧ Fml ml0 ml' ∧ ((b = true ∧ ∀ f, f < 3 → (outL (fun f => cbs (allT (F f).2.2) 0) 3 (2 ^ φ)).testBit f = true → SndX S F cnt v (ml0 94) f true) ∨ (b = false ∧ ∃ f, f < 3 ∧ (outL (fun f => cbs (allT (F f).2.2) 0) 3 (2 ^ φ)).testBit f = true ∧ SndX S F cnt v (ml0 94) f false))) := by
  -- the soundness of those that are led to
  have sound : ∀ (m : Nat), m < 8 → ∀ (x f : Nat) (mi : Nat → Nat → Int32) (ml : Nat → Nat → Int64), f + x = 3 → Fch mi0 mi → Z100 mi → Fml ml0 ml → (∀ g, g < f → m.testBit g = true → SndX S F cnt v (ml0 94) g true) → am_T l (d + 6) M_C_allSafe 61 [some (.ref 106), some (.int (nI φ)), some (.int (nI m)), some (.int (nI f)), none] [] (hm mi ml mr) 0 0 (fun r h' => ∃ (b : Bool) (mi' : Nat → Nat → Int32) (ml' : Nat → Nat → Int64), r = some (.int (bI b)) ∧ h' = hm mi' ml' mr ∧ Fch mi0 mi' ∧ Z100 mi' ∧ Fml ml0 ml' ∧ ((b = true ∧ ∀ f, f < 3 → m.testBit f = true → SndX S F cnt v (ml0 94) f true) ∨ (b = false ∧ ∃ f, f < 3 ∧ m.testBit f = true ∧ SndX S F cnt v (ml0 94) f false))) := by
    intro m hm8 x
    induction x with
    | zero =>
      intro f mi ml hx hFc hZ hml hdone
      refine am_iload_n rfl rfl ?_
      refine am_iconst (v := nI 3) rfl (by decide) ?_
      refine ho_icmp_ge rfl (by omega) (by omega) (fun _ => ?_) (fun g => absurd (by omega) g)
      refine am_iconst (v := nI 1) rfl (by decide) ?_
      exact am_zreturn rfl rfl (Or.inr rfl) ⟨true, mi, ml, rfl, rfl, hFc, hZ, hml, Or.inl ⟨rfl, fun g hg => hdone g (by omega)⟩⟩
    | succ x ih =>
      intro f mi ml hx hFc hZ hml hdone
      have hf3 : f < 3 := by omega
      have hrf := hrF f hf3
      refine am_iload_n rfl rfl ?_
      refine am_iconst (v := nI 3) rfl (by decide) ?_
      refine ho_icmp_ge rfl (by omega) (by omega) (fun g => absurd g (by omega)) (fun _ => ?_)
      refine am_iload_n rfl rfl ?_
      refine am_iload_n rfl rfl ?_
      refine am_iushr (v := us32 (nI m) f) rfl rfl ?_
      refine am_iconst (v := nI 1) rfl (by decide) ?_
      refine am_iand rfl ?_
      rw [ush_bit m hm8 f hf3]
      have next : ∀ (mi' : Nat → Nat → Int32) (ml' : Nat → Nat → Int64), Fch mi0 mi' → Z100 mi' → Fml ml0 ml' → (m.testBit f = true → SndX S F cnt v (ml0 94) f true) → am_T l (d + 6) M_C_allSafe 89 [some (.ref 106), some (.int (nI φ)), some (.int (nI m)), some (.int (nI f)), none] [] (hm mi' ml' mr) 0 0 (fun r h' => ∃ (b : Bool) (mi' : Nat → Nat → Int32) (ml' : Nat → Nat → Int64), r = some (.int (bI b)) ∧ h' = hm mi' ml' mr ∧ Fch mi0 mi' ∧ Z100 mi' ∧ Fml ml0 ml' ∧ ((b = true ∧ ∀ f, f < 3 → m.testBit f = true → SndX S F cnt v (ml0 94) f true) ∨ (b = false ∧ ∃ f, f < 3 ∧ m.testBit f = true ∧ SndX S F cnt v (ml0 94) f false))) := by
        intro mi' ml' b1 b2 b3 b4
        refine am_iinc rfl rfl (nI_inc1 _) ?_
        show am_T _ _ _ _ [_, _, _, some _, _] _ _ _ _ _
        refine am_goto rfl ?_
        refine ih (f + 1) mi' ml' (by omega) b1 b2 b3 (fun g hg hb => ?_)
        by_cases e : g = f
        · subst e
          exact b4 hb
        · exact hdone g (by omega) hb
      cases hb : m.testBit f with
      | false =>
        refine am_if_eq rfl (fun _ => ?_) (fun z => absurd rfl z)
        exact next mi ml hFc hZ hml (fun q => by rw [hb] at q; cases q)
      | true =>
        refine am_if_eq rfl (fun z => absurd z (by decide)) (fun _ => ?_)
        have hFA1 : ∀ φ, φ < 3 → mi (oF φ) 0 = bI (decide ((F φ).2.2.length ≠ 0)) ∧ ((F φ).2.2.length ≠ 0 → FA mi (oF φ) (F φ)) := fun ψ hψ => by
          have := fOb_r (hoF ψ (by omega))
          exact ⟨by rw [hFc _ (by omega) (by omega)]; exact (hFA0 ψ hψ).1, fun q => FA_to ((hFA0 ψ hψ).2 q) (fun a _ _ => hFc a (by omega) (by omega))⟩
        have h94 : ml 94 = ml0 94 := hml 94 (by decide) (by decide)
        refine am_aload_n rfl rfl ?_
        refine am_aload_n rfl rfl ?_
        refine ho_getR rfl (by first | rfl | assumption) rfl (by first | assumption | exact hR _ _ _ rfl) ?_
        refine am_iload_n rfl rfl ?_
        refine ho_aaload rfl (by first | rfl | assumption) ⟨by decide, rfl⟩ (by omega) (by first | assumption | exact hR _ _ _ rfl) ?_
        refine ho_cv1 rfl (by first | rfl | assumption) rfl (Nat.le_of_ble_eq_true rfl) (Nat.le_of_ble_eq_true rfl) (c_C_isSound hR hS hoF hrF mi ml (hK0.fr hFc hml) hZ hFA1 hF f hf3) ?_
        rintro r h' ⟨b, mi', ml', rfl, rfl, g1, g2, g3, g4⟩
        rw [h94] at g4
        have g4 : SndX S F cnt v (ml0 94) f b := g4
        cases b with
        | true =>
          refine am_if_ne rfl (fun _ => ?_) (fun z => by cases z)
          exact next mi' ml' (hFc.tr g1) g2 (hml.tr g3) (fun _ => g4)
        | false =>
          refine am_if_ne rfl (fun z => absurd rfl z) (fun _ => ?_)
          refine am_iconst (v := nI 0) rfl (by decide) ?_
          exact am_zreturn rfl rfl (Or.inl rfl) ⟨false, mi', ml', rfl, rfl, hFc.tr g1, g2, hml.tr g3, Or.inr ⟨rfl, f, hf3, hb, g4⟩⟩
  have inner : ∀ (rd : Nat) (x f m : Nat) {Q : Option Value → am_H → Prop}, f + x = 3 → m < 8 → rd < 3 → am_T l (d + 6) M_C_allSafe 53 [some (.ref 106), some (.int (nI φ)), some (.int (nI (innL (fun f => cbs (allT (F f).2.2) 0) x f m))), some (.int (nI rd)), none] [] (hm mi0 ml0 mr) 0 0 Q → am_T l (d + 6) M_C_allSafe 14 [some (.ref 106), some (.int (nI φ)), some (.int (nI m)), some (.int (nI rd)), some (.int (nI f))] [] (hm mi0 ml0 mr) 0 0 Q := by
    intro rd x
    induction x with
    | zero =>
      intro f m Q hx hm8 hrd k
      refine am_iload rfl rfl ?_
      refine am_iconst (v := nI 3) rfl (by decide) ?_
      refine ho_icmp_ge rfl (by omega) (by omega) (fun _ => ?_) (fun g => absurd (by omega) g)
      refine am_drops [4] ?_
      exact k
    | succ x ih =>
      intro f m Q hx hm8 hrd k
      have hf3 : f < 3 := by omega
      have hrf := hrF f hf3
      refine am_iload rfl rfl ?_
      refine am_iconst (v := nI 3) rfl (by decide) ?_
      refine ho_icmp_ge rfl (by omega) (by omega) (fun g => absurd g (by omega)) (fun _ => ?_)
      refine am_iload_n rfl rfl ?_
      refine am_iload_n rfl rfl ?_
      refine am_iload rfl rfl ?_
      refine am_iushr (v := us32 (nI m) f) rfl rfl ?_
      refine am_iconst (v := nI 1) rfl (by decide) ?_
      refine am_iand rfl ?_
      rw [ush_bit m hm8 f hf3]
      have k2 := fun h8 => ih (f + 1) (stpL (fun f => cbs (allT (F f).2.2) 0) m f) (by omega) h8 hrd k
      unfold stpL at k2
      cases hb : m.testBit f with
      | false =>
        rw [hb] at k2
        refine am_if_eq rfl (fun _ => ?_) (fun z => absurd rfl z)
        refine am_iconst (v := nI 0) rfl (by decide) ?_
        refine am_ior rfl ?_
        rw [or_0]
        refine am_istore_n rfl (Nat.le_of_ble_eq_true rfl) ?_
        show am_T _ _ _ _ [_, _, some _, _, _] _ _ _ _ _
        refine am_iinc rfl rfl (nI_inc1 _) ?_
        show am_T _ _ _ _ [_, _, _, _, some _] _ _ _ _ _
        refine am_goto rfl ?_
        exact k2 hm8
      | true =>
        rw [hb] at k2
        obtain ⟨o1, o2⟩ := or_8 m hm8 _ (hcs f hf3)
        refine am_if_eq rfl (fun z => absurd z (by decide)) (fun _ => ?_)
        refine am_aload_n rfl rfl ?_
        refine am_aload_n rfl rfl ?_
        refine ho_getR rfl (by first | rfl | assumption) rfl (by first | assumption | exact hR _ _ _ rfl) ?_
        refine am_iload rfl rfl ?_
        refine ho_aaload rfl (by first | rfl | assumption) ⟨by decide, rfl⟩ (by omega) (by first | assumption | exact hR _ _ _ rfl) ?_
        refine ho_cv1 rfl (by first | rfl | assumption) rfl (Nat.le_of_ble_eq_true rfl) (Nat.le_of_ble_eq_true rfl) (c_C_calledIn hR (isFn_of hR (hoF f (by omega))) (hFA0 f hf3).1 (hFA0 f hf3).2 (hF f).1 (hF f).2) ?_
        rintro r h' ⟨-, rfl, rfl⟩
        refine am_goto rfl ?_
        refine am_ior rfl ?_
        rw [o1]
        refine am_istore_n rfl (Nat.le_of_ble_eq_true rfl) ?_
        show am_T _ _ _ _ [_, _, some _, _, _] _ _ _ _ _
        refine am_iinc rfl rfl (nI_inc1 _) ?_
        show am_T _ _ _ _ [_, _, _, _, some _] _ _ _ _ _
        refine am_goto rfl ?_
        exact k2 o2
  have outer : ∀ (x rd m : Nat) {Q : Option Value → am_H → Prop}, rd + x = 3 → m < 8 → (outL (fun f => cbs (allT (F f).2.2) 0) x m < 8 → am_T l (d + 6) M_C_allSafe 59 [some (.ref 106), some (.int (nI φ)), some (.int (nI (outL (fun f => cbs (allT (F f).2.2) 0) x m))), none, none] [] (hm mi0 ml0 mr) 0 0 Q) → am_T l (d + 6) M_C_allSafe 6 [some (.ref 106), some (.int (nI φ)), some (.int (nI m)), some (.int (nI rd)), none] [] (hm mi0 ml0 mr) 0 0 Q := by
    intro x
    induction x with
    | zero =>
      intro rd m Q hx hm8 k
      refine am_iload_n rfl rfl ?_
      refine am_iconst (v := nI 3) rfl (by decide) ?_
      refine ho_icmp_ge rfl (by omega) (by omega) (fun _ => ?_) (fun g => absurd (by omega) g)
      refine am_drops [3] ?_
      exact k hm8
    | succ x ih =>
      intro rd m Q hx hm8 k
      refine am_iload_n rfl rfl ?_
      refine am_iconst (v := nI 3) rfl (by decide) ?_
      refine ho_icmp_ge rfl (by omega) (by omega) (fun g => absurd g (by omega)) (fun _ => ?_)
      refine am_iconst (v := nI 0) rfl (by decide) ?_
      refine am_istore rfl (Nat.le_of_ble_eq_true rfl) ?_
      show am_T _ _ _ _ [_, _, _, _, some _] _ _ _ _ _
      refine inner rd 3 0 m rfl hm8 (by omega) ?_
      refine am_iinc rfl rfl (nI_inc1 _) ?_
      show am_T _ _ _ _ [_, _, _, some _, _] _ _ _ _ _
      refine am_goto rfl ?_
      exact ih (rd + 1) _ (by omega) (innL_8 hcs 3 0 m rfl hm8) k
  obtain ⟨p1, p2⟩ := shl_1 φ hφ
  refine am_iconst (v := nI 1) rfl (by decide) ?_
  refine am_iload_n rfl rfl ?_
  refine am_ishl rfl ?_
  rw [p1]
  refine am_istore_n rfl (Nat.le_of_ble_eq_true rfl) ?_
  show am_T _ _ _ _ [_, _, some _, _, _] _ _ _ _ _
  refine am_iconst (v := nI 0) rfl (by decide) ?_
  refine am_istore_n rfl (Nat.le_of_ble_eq_true rfl) ?_
  show am_T _ _ _ _ [_, _, _, some _, _] _ _ _ _ _
  refine outer 3 0 (2 ^ φ) rfl p2 (fun h8 => ?_)
  refine am_iconst (v := nI 0) rfl (by decide) ?_
  refine am_istore_n rfl (Nat.le_of_ble_eq_true rfl) ?_
  show am_T _ _ _ _ [_, _, _, some _, _] _ _ _ _ _
  exact sound _ h8 3 0 mi0 ml0 rfl Fch.rf hZ0 Fml.rf (fun g hg => absurd hg (Nat.not_lt_zero _))
end Q3
