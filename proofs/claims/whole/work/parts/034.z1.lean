/-! sizes: numbers, and the least size of a kind's hedges -/
def lJ (n : Nat) : Int64 := Int64.ofNat n
theorem lJ_toInt {n : Nat} (h : n < 2 ^ 63) : (lJ n).toInt = (n : Int) := lg_ofNat_toInt h
theorem lJ_add (a b : Nat) : lJ a + lJ b = lJ (a + b) := (Int64.ofNat_add a b).symm
theorem lJ_lt {a b : Nat} (ha : a < 2 ^ 63) (hb : b < 2 ^ 63) : lJ a < lJ b ↔ a < b := by
  rw [Int64.lt_iff_toInt_lt, lJ_toInt ha, lJ_toInt hb]
  omega
theorem lJ_eq {a b : Nat} (ha : a < 2 ^ 63) (hb : b < 2 ^ 63) : lJ a = lJ b ↔ a = b := by
  rw [← Int64.toInt_inj, lJ_toInt ha, lJ_toInt hb]
  omega
theorem lg_ge {x y : Int64} : 0 ≤ lg_cmp x y ↔ y ≤ x := lg_cmp_ge x y
theorem nI_div {a b : Nat} (ha : a < 2 ^ 31) (hb : b < 2 ^ 31) : nI a / nI b = nI (a / b) := by
  rw [← Int32.toInt_inj, Int32.toInt_div, nI_toInt ha, nI_toInt hb, nI_toInt (Nat.lt_of_le_of_lt (Nat.div_le_self a b) ha)]
  have h1 : Int.tdiv (a : Int) (b : Int) = ((a / b : Nat) : Int) := rfl
  have h2 := Nat.div_le_self a b
  rw [h1]
  generalize a / b = e at h2 ⊢
  exact Int.bmod_eq_of_le (by omega) (by omega)
theorem nI_mod {a b : Nat} (ha : a < 2 ^ 31) (hb : b < 2 ^ 31) : nI a - nI a / nI b * nI b = nI (a % b) := by
  rw [nI_div ha hb, show nI (a / b) * nI b = nI (a / b * b) from (Int32.ofNat_mul _ _).symm, nI_subn (Nat.div_mul_le_self a b)]
  congr 1
  have := Nat.div_add_mod a b
  rw [Nat.mul_comm] at this
  omega
theorem nI_nz {b : Nat} (h0 : 0 < b) (hb : b < 2 ^ 31) : ¬ nI b = 0 := nI_ne0 h0 hb
/-- a hedge that is not empty, of this mask, of s nodes -/
def HSz (S : Rs) (m : Int64) (s : Nat) : Prop := ∀ X : Int64 → Nat → Prop, (∀ f, 1 ≤ f → f ≤ 5 → ∀ c t sc st, ((c = K0 S ∧ sc = 0) ∨ X c sc) → ((t = K0 S ∧ st = 0) ∨ X t st) → X (belF S f (tb c) (tb t)) (1 + st + (if f = 1 then 0 else sc))) → X m s
theorem HSz.step {S : Rs} {f : Nat} (h1 : 1 ≤ f) (h5 : f ≤ 5) {c t : Int64} {sc st : Nat} (hc : (c = K0 S ∧ sc = 0) ∨ HSz S c sc) (ht : (t = K0 S ∧ st = 0) ∨ HSz S t st) : HSz S (belF S f (tb c) (tb t)) (1 + st + (if f = 1 then 0 else sc)) :=
  fun X hX => hX f h1 h5 c t sc st (hc.imp id (fun h => h X hX)) (ht.imp id (fun h => h X hX))
theorem Reach.hsz {S : Rs} {m : Int64} (h : Reach S m) : ∃ s, HSz S m s := by
  refine h (fun m => ∃ s, HSz S m s) ?_
  intro f f1 f5 c t hc ht
  have pick : ∀ c, (c = K0 S ∨ ∃ s, HSz S c s) → ∃ s, (c = K0 S ∧ s = 0) ∨ HSz S c s := by
    rintro c (e | ⟨s, hs⟩)
    · exact ⟨0, Or.inl ⟨e, rfl⟩⟩
    · exact ⟨s, Or.inr hs⟩
  obtain ⟨sc, h1⟩ := pick c hc
  obtain ⟨st, h2⟩ := pick t ht
  exact ⟨_, HSz.step f1 f5 h1 h2⟩
theorem HSz.inv {S : Rs} {m : Int64} {s : Nat} (h : HSz S m s) : ∃ f c t sc st, 1 ≤ f ∧ f ≤ 5 ∧ ((c = K0 S ∧ sc = 0) ∨ HSz S c sc) ∧ ((t = K0 S ∧ st = 0) ∨ HSz S t st) ∧ m = belF S f (tb c) (tb t) ∧ s = 1 + st + (if f = 1 then 0 else sc) := by
  have := h (fun m s => HSz S m s ∧ ∃ f c t sc st, 1 ≤ f ∧ f ≤ 5 ∧ ((c = K0 S ∧ sc = 0) ∨ HSz S c sc) ∧ ((t = K0 S ∧ st = 0) ∨ HSz S t st) ∧ m = belF S f (tb c) (tb t) ∧ s = 1 + st + (if f = 1 then 0 else sc)) ?_
  · exact this.2
  intro f f1 f5 c t sc st hc ht
  have hc' : (c = K0 S ∧ sc = 0) ∨ HSz S c sc := hc.imp id (fun h => h.1)
  have ht' : (t = K0 S ∧ st = 0) ∨ HSz S t st := ht.imp id (fun h => h.1)
  exact ⟨HSz.step f1 f5 hc' ht', f, c, t, sc, st, f1, f5, hc', ht', rfl, rfl⟩
theorem HSz.reach {S : Rs} {m : Int64} {s : Nat} (h : HSz S m s) : Reach S m := by
  refine h (fun m _ => Reach S m) ?_
  intro f f1 f5 c t sc st hc ht
  exact Reach.step f1 f5 (hc.imp (fun h => h.1) id) (ht.imp (fun h => h.1) id)
theorem least_nat {p : Nat → Prop} : ∀ n, p n → ∃ k, p k ∧ ∀ j, p j → k ≤ j := by
  intro n
  induction n using Nat.strongRecOn with
  | ind n ih =>
    intro hn
    rcases Classical.em (∃ j, j < n ∧ p j) with ⟨j, h1, h2⟩ | h
    · exact ih j h1 h2
    · exact ⟨n, hn, fun j hj => Nat.not_lt.mp (fun z => h ⟨j, z, hj⟩)⟩
/-- the least size -/
noncomputable def lsz (S : Rs) (m : Int64) : Nat := @dite Nat (∃ s, HSz S m s) (Classical.propDecidable _) (fun h => Classical.choose (least_nat _ (Classical.choose_spec h))) (fun _ => 0)
theorem lsz_ok {S : Rs} {m : Int64} (h : Reach S m) : HSz S m (lsz S m) ∧ ∀ s, HSz S m s → lsz S m ≤ s := by
  have hs := h.hsz
  unfold lsz
  rw [dif_pos hs]
  exact Classical.choose_spec (least_nat _ (Classical.choose_spec hs))
section Z1
variable {l : Launch} {d : Nat} {mi : Nat → Nat → Int32} {ml : Nat → Nat → Int64} {mr : Nat → Nat → Option Nat}
theorem c_m_weight (hR : SR mr) (v : Nat → Nat) (q c w : Nat) (hc : c ≤ 40) (hw : w ≤ 40) (hvc : ml 128 c = lJ (v c)) (hvw : ml 128 w = lJ (v w)) (hq : q < 2 ^ 31) : am_T l d M_m_weight 0 [some (.ref 116), some (.int (nI q)), some (.int (nI c)), some (.int (nI w))] [] (hm mi ml mr) 0 0 (fun r h' => r = some (.long (lJ (1 + v w + (if q = 0 then 0 else v c)))) ∧ h' = hm mi ml mr) := by
  refine am_lconst (v := 1) rfl (by decide) ?_
  refine am_aload_n rfl rfl ?_
  refine ho_getR rfl (by first | rfl | assumption) rfl (by first | assumption | exact hR _ _ _ rfl) ?_
  refine am_iload_n rfl rfl ?_
  refine ho_laload rfl (by first | rfl | assumption) (by omega) ?_
  rw [hvw]
  refine am_ladd rfl ?_
  rw [show (1 : Int64) = lJ 1 from rfl, lJ_add]
  refine am_iload_n rfl rfl ?_
  refine am_if_ne rfl (fun z => ?_) (fun z => ?_)
  · have hz : ¬ q = 0 := fun e => z (by rw [e]; rfl)
    refine am_aload_n rfl rfl ?_
    refine ho_getR rfl (by first | rfl | assumption) rfl (by first | assumption | exact hR _ _ _ rfl) ?_
    refine am_iload_n rfl rfl ?_
    refine ho_laload rfl (by first | rfl | assumption) (by omega) ?_
    rw [hvc]
    refine am_ladd rfl ?_
    rw [lJ_add]
    exact am_lreturn rfl rfl ⟨by rw [if_neg hz], rfl⟩
  · have hz : q = 0 := (nI_eq hq (by omega)).mp (z.trans (rfl : (0 : Int32) = nI 0))
    refine am_lconst (v := 0) rfl (by decide) ?_
    refine am_goto rfl ?_
    refine am_ladd rfl ?_
    rw [show (0 : Int64) = lJ 0 from rfl, lJ_add]
    exact am_lreturn rfl rfl ⟨by rw [if_pos hz], rfl⟩
end Z1
