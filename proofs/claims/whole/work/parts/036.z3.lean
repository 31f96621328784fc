/-! least sizes are small; the reference's sizes are the least -/
theorem lsz_cut {S : Rs} {m : Int64} (h : Reach S m) : ∃ f c t, 1 ≤ f ∧ f ≤ 5 ∧ m = belF S f (tb c) (tb t) ∧ ∃ sc st, ((c = K0 S ∧ sc = 0) ∨ (Reach S c ∧ sc = lsz S c)) ∧ ((t = K0 S ∧ st = 0) ∨ (Reach S t ∧ st = lsz S t)) ∧ lsz S m = 1 + st + (if f = 1 then 0 else sc) := by
  obtain ⟨h1, h2⟩ := lsz_ok h
  obtain ⟨f, c, t, sc, st, f1, f5, hc, ht, rfl, e⟩ := h1.inv
  have pick : ∀ (c : Int64) (sc : Nat), ((c = K0 S ∧ sc = 0) ∨ HSz S c sc) → ∃ s', s' ≤ sc ∧ ((c = K0 S ∧ s' = 0) ∨ HSz S c s') ∧ ((c = K0 S ∧ s' = 0) ∨ (Reach S c ∧ s' = lsz S c)) := by
    rintro c sc (hc | hc)
    · exact ⟨0, by omega, Or.inl ⟨hc.1, rfl⟩, Or.inl ⟨hc.1, rfl⟩⟩
    · have hr := hc.reach
      obtain ⟨g1, g2⟩ := lsz_ok hr
      exact ⟨lsz S c, g2 sc hc, Or.inr g1, Or.inr ⟨hr, rfl⟩⟩
  obtain ⟨c', c1, c2, c3⟩ := pick c sc hc
  obtain ⟨t', t1, t2, t3⟩ := pick t st ht
  refine ⟨f, c, t, f1, f5, rfl, c', t', c3, t3, ?_⟩
  have h3 := h2 _ (HSz.step f1 f5 c2 t2)
  by_cases ef : f = 1
  · rw [if_pos ef] at h3 e ⊢
    omega
  · rw [if_neg ef] at h3 e ⊢
    omega
noncomputable def cntA (S : Rs) (km : Nat → Int64) (cnt i : Nat) : Nat := ((List.range cnt).filter (fun k => @decide (1 ≤ k ∧ Reach S (km k) ∧ lsz S (km k) < 2 ^ i) (Classical.propDecidable _))).length
theorem lsz_bound_i {S : Rs} {km : Nat → Int64} {cnt : Nat} (hall : ∀ m, Reach S m → ∃ k, 1 ≤ k ∧ k < cnt ∧ km k = m) : ∀ i, (∀ m, Reach S m → lsz S m < 2 ^ i) ∨ i ≤ cntA S km cnt i := by
  intro i
  induction i with
  | zero => exact Or.inr (Nat.zero_le _)
  | succ i ih =>
    have hpow : 2 ^ (i + 1) = 2 * 2 ^ i := by rw [Nat.pow_succ]; omega
    have hp1 : 1 ≤ 2 ^ i := Nat.one_le_two_pow
    rcases ih with ih | ih
    · exact Or.inl (fun m hm => by have := ih m hm; omega)
    rcases Classical.em (∀ m, Reach S m → lsz S m < 2 ^ i) with hA | hA
    · exact Or.inl (fun m hm => by have := hA m hm; omega)
    right
    have hex : ∃ s, ∃ m, Reach S m ∧ 2 ^ i ≤ lsz S m ∧ lsz S m = s := by
      rcases Classical.em (∃ m, Reach S m ∧ 2 ^ i ≤ lsz S m) with ⟨m, h1, h2⟩ | h
      · exact ⟨_, m, h1, h2, rfl⟩
      · exact absurd (fun m hm => Nat.not_le.mp (fun z => h ⟨m, hm, z⟩)) hA
    obtain ⟨s, hs⟩ := hex
    obtain ⟨s0, ⟨m, hm, hge, hs0⟩, hmin⟩ := least_nat (p := fun s => ∃ m, Reach S m ∧ 2 ^ i ≤ lsz S m ∧ lsz S m = s) s hs
    obtain ⟨f, c, t, f1, f5, -, sc, st, hc, ht, he⟩ := lsz_cut hm
    have small : ∀ (c : Int64) (sc : Nat), ((c = K0 S ∧ sc = 0) ∨ (Reach S c ∧ sc = lsz S c)) → sc < lsz S m → sc < 2 ^ i := by
      rintro c sc (h | ⟨h1, h2⟩) hlt
      · omega
      · rcases Nat.lt_or_ge sc (2 ^ i) with z | z
        · exact z
        · have := hmin sc ⟨c, h1, by omega, h2.symm⟩
          omega
    have hst := small t st ht (by omega)
    have hlt : lsz S m < 2 ^ (i + 1) := by
      by_cases ef : f = 1
      · rw [if_pos ef] at he
        omega
      · rw [if_neg ef] at he
        have hsc := small c sc hc (by omega)
        omega
    obtain ⟨k, k1, k2, k3⟩ := hall m hm
    have : cntA S km cnt i < cntA S km cnt (i + 1) := by
      refine filter_lt _ _ _ (fun x _ hx => ?_) ⟨k, List.mem_range.mpr k2, ?_, ?_⟩
      · have h := @of_decide_eq_true _ (Classical.propDecidable _) hx
        exact @decide_eq_true _ (Classical.propDecidable _) ⟨h.1, h.2.1, by omega⟩
      · exact @decide_eq_true _ (Classical.propDecidable _) ⟨k1, by rw [k3]; exact hm, by rw [k3]; exact hlt⟩
      · exact @decide_eq_false _ (Classical.propDecidable _) (fun z => by rw [k3] at z; omega)
    omega
theorem lsz_bound {S : Rs} {km : Nat → Int64} {cnt : Nat} (hc : 1 ≤ cnt) (hall : ∀ m, Reach S m → ∃ k, 1 ≤ k ∧ k < cnt ∧ km k = m) {m : Int64} (hm : Reach S m) : lsz S m < 2 ^ cnt := by
  rcases lsz_bound_i hall cnt with h | h
  · exact h m hm
  · have h1 : cntA S km cnt cnt < ((List.range cnt).filter (fun _ => true)).length := by
      refine filter_lt _ _ _ (fun _ _ _ => rfl) ⟨0, List.mem_range.mpr hc, rfl, ?_⟩
      exact @decide_eq_false _ (Classical.propDecidable _) (fun z => by omega)
    have h2 : ((List.range cnt).filter (fun _ => true)).length ≤ cnt := by
      have := List.length_filter_le (fun _ => true) (List.range cnt)
      rw [List.length_range] at this
      exact this
    omega
/-- the reference's sizes are the least -/
theorem m_sizes_least {S : Rs} {mi : Nat → Nat → Int32} {cnt : Nat} {ml0 ml : Nat → Nat → Int64} (h40 : cnt ≤ 40) (hK : KI S cnt mi ml0) (hA : All S cnt cnt mi ml0) {v : Nat → Nat} (ho : ∀ a, a ≠ 128 → ml a = ml0 a) (hV : VI S cnt v ml) (hr : ∀ i, i < 5 * cnt * cnt → Rlx cnt mi v i) : ∀ k, 1 ≤ k → k < cnt → v k = lsz S (ml0 127 k) := by
  intro k k1 k2
  have hre := hK.2.2.2.2 k k1 k2
  obtain ⟨g1, g2⟩ := lsz_ok hre
  obtain ⟨k', a1, a2, a3, a4⟩ := Rlx_least hK hA hV.2.1 hr g1
  have hkk : k' = k := by
    rcases Nat.lt_trichotomy k' k with e | e | e
    · exact absurd a3 (hK.2.2.2.1 k' k a1 e k2)
    · exact e
    · exact absurd a3.symm (hK.2.2.2.1 k k' k1 e a2)
  subst hkk
  have hb := lsz_bound (km := ml0 127) hK.1.1 (fun m hm => m_all hK hA hm) hre
  have h2 : 2 ^ cnt ≤ 2 ^ 40 := Nat.pow_le_pow_right (by decide) h40
  rcases hV.2.2.2 k' k1 k2 with h | h
  · have hF : FARm = 1000000000000000000 := rfl
    omega
  · rw [ho 127 (by decide)] at h
    have := g2 _ h
    omega
