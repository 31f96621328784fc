/-! the class: isSound -/
def sndB (C : Nat) (z : Int64) (fd : Nat) : Bool := decide (z = -1) && decide (C ≤ fd)
section Q1
variable {l : Launch} {d : Nat} {mr : Nat → Nat → Option Nat} {S : Rs} {ip : Nat → Nat} {n cnt L : Nat} {v : Nat → Nat} {F : Nat → Fn} {oF : Nat → Nat}
theorem c_C_isSound (hR : SR mr) (hS : okS S) (hoF : ∀ n, n < 4 → oF n ∈ fOb) (hrF : ∀ n, n < 3 → mr 45 n = some (oF n)) (mi0 : Nat → Nat → Int32) (ml0 : Nat → Nat → Int64) (hK0 : KF S ip n cnt L v mi0 ml0) (hZ0 : Z100 mi0) (hFA0 : ∀ φ, φ < 3 → mi0 (oF φ) 0 = bI (decide ((F φ).2.2.length ≠ 0)) ∧ ((F φ).2.2.length ≠ 0 → FA mi0 (oF φ) (F φ))) (hF : ∀ φ, ((F φ).2.2 = [] ∨ okF (F φ)) ∧ ntk (F φ).2.2 ≤ 80) (φ : Nat) (hφ : φ < 3) :
    am_T l (d + 5) M_C_isSound 0 [some (.ref 106), some (.ref (oF φ))] [] (hm mi0 ml0 mr) 0 0 (fun r h' => ∃ (b : Bool) (mi' : Nat → Nat → Int32) (ml' : Nat → Nat → Int64), r = some (.int (bI b)) ∧ h' = hm mi' ml' mr ∧ Fch mi0 mi' ∧ Z100 mi' ∧ Fml ml0 ml' ∧ (((F φ).2.2.length = 0 ∧ b = false) ∨ ((F φ).2.2.length ≠ 0 ∧ ∃ z, Lst (unX S (F φ) cnt (ml0 94)) (1 + cnt + 4 * cnt * cnt) (utX v cnt) z ∧ ((z ≠ -1 ∧ b = false) ∨ (z = -1 ∧ ∃ fd, FWr (BdX S F φ cnt (ml0 94)) (1 + cnt + 4 * cnt * cnt) (F φ).2.2.length fd ∧ b = decide ((F φ).2.2.length ≤ fd)))))) := by
  have hokF : ∀ φ, (F φ).2.2.length ≠ 0 → okF (F φ) := fun φ hq => (hF φ).1.resolve_left (fun q => hq (by rw [q]; rfl))
  have hFn := isFn_of hR (hoF φ (by omega))
  have hob := fOb_r (hoF φ (by omega))
  have hkF := hFn.2.1
  refine am_aload_n rfl rfl ?_
  refine ho_getI rfl (by first | rfl | assumption) rfl ?_
  rw [(hFA0 φ hφ).1]
  refine am_if_eq rfl (fun g => ?_) (fun g => ?_)
  · have g : (F φ).2.2.length = 0 := Classical.not_not.mp (of_decide_eq_false ((bI_eq _).mp g))
    refine am_iconst (v := nI 0) rfl (by decide) ?_
    exact am_zreturn rfl rfl (Or.inl rfl) ⟨false, mi0, ml0, rfl, rfl, Fch.rf, hZ0, Fml.rf, Or.inl ⟨g, rfl⟩⟩
  have hz : (F φ).2.2.length ≠ 0 := of_decide_eq_true ((bI_ne _).mp g)
  have h6 := (hokF φ hz).2.2.2.2
  refine am_aload_n rfl rfl ?_
  refine am_aload_n rfl rfl ?_
  refine ho_cv1 rfl (by first | rfl | assumption) rfl (Nat.le_of_ble_eq_true rfl) (Nat.le_of_ble_eq_true rfl) (c_C_leastUncovered hR hS hFn (hokF φ hz) mi0 hK0 ((hFA0 φ hφ).2 hz)) ?_
  rintro r h' ⟨z, mi1, rfl, rfl, k1, k2⟩
  have hF1 : Fch mi0 mi1 := k1.d
  have hZ1 : Z100 mi1 := fun i hi => by rw [k1 100 (by decide)]; exact hZ0 i hi
  refine am_ldc2m rfl rfl ?_
  refine am_lcmp rfl ?_
  refine am_if_ne rfl (fun g => ?_) (fun g => ?_)
  · have hne : z ≠ -1 := fun e => g (lg_cmp_0.mpr e)
    refine am_iconst (v := nI 0) rfl (by decide) ?_
    exact am_zreturn rfl rfl (Or.inl rfl) ⟨false, mi1, ml0, rfl, rfl, hF1, hZ1, Fml.rf, Or.inr ⟨hz, z, k2, Or.inl ⟨hne, rfl⟩⟩⟩
  have he : z = -1 := lg_cmp_0.mp g
  have hFA1 : ∀ φ, φ < 3 → mi1 (oF φ) 0 = bI (decide ((F φ).2.2.length ≠ 0)) ∧ ((F φ).2.2.length ≠ 0 → FA mi1 (oF φ) (F φ)) := fun ψ hψ => by
    have := fOb_r (hoF ψ (by omega))
    exact ⟨by rw [k1 _ (by omega)]; exact (hFA0 ψ hψ).1, fun q => FA_to ((hFA0 ψ hψ).2 q) (fun a _ _ => k1 a (by omega))⟩
  refine am_aload_n rfl rfl ?_
  refine am_aload_n rfl rfl ?_
  refine ho_cv1 rfl (by first | rfl | assumption) rfl (Nat.le_of_ble_eq_true rfl) (Nat.le_of_ble_eq_true rfl) (c_C_firstWrong hR hS hoF hrF mi1 ml0 (hK0.to k1) hZ1 hFA1 hF φ hφ hz) ?_
  rintro r h' ⟨fd, mi2, ml2, rfl, rfl, g1, g2, g3, g4⟩
  have hfd := g4.1
  by_cases hlt : fd < (F φ).2.2.length
  · rw [if_pos hlt]
    refine am_if_ne rfl (fun _ => ?_) (fun q => ?_)
    · refine am_iconst (v := nI 0) rfl (by decide) ?_
      exact am_zreturn rfl rfl (Or.inl rfl) ⟨false, mi2, ml2, rfl, rfl, hF1.tr g1, g2, g3, Or.inr ⟨hz, z, k2, Or.inr ⟨he, fd, g4, (decide_eq_false (by omega)).symm⟩⟩⟩
    · have : fd + 1 = 0 := (nI_eq (a := fd + 1) (b := 0) (by omega) (by omega)).mp q
      omega
  · rw [if_neg hlt]
    refine am_if_ne rfl (fun q => absurd rfl q) (fun _ => ?_)
    refine am_iconst (v := nI 1) rfl (by decide) ?_
    refine am_goto rfl ?_
    exact am_zreturn rfl rfl (Or.inr rfl) ⟨true, mi2, ml2, rfl, rfl, hF1.tr g1, g2, g3, Or.inr ⟨hz, z, k2, Or.inr ⟨he, fd, g4, (decide_eq_true (by omega)).symm⟩⟩⟩
end Q1
