/-! the kinds of the reference and of the class: one set, one number -/
theorem belF_num {S : Rs} (hS : okS S) {ip : Nat → Nat} {n : Nat} {mi : Nat → Nat → Int32} {ml : Nat → Nat → Int64} (hX : repX S ip n mi ml) (c c' : Nat → Bool) (t : Int64) : belF S 1 c (tb t) = belF S 1 c' (tb t) := by
  have h := fun c => joF_bel hS (f := 1) (c := c) hX.1.2 t (by omega) (fun j hj => ⟨(hX.2.1 j hj).1, (hX.2.1 j hj).2.1, (hX.2.1 j hj).2.2.1⟩) hX.2.2.1
  have e : fitP S ip n 1 c = fitP S ip n 1 c' := by
    funext j
    unfold fitP
    simp
  rw [← h c, ← h c', e]
theorem m_all {S : Rs} {cnt : Nat} {mi : Nat → Nat → Int32} {ml : Nat → Nat → Int64} (hK : KI S cnt mi ml) (hA : All S cnt cnt mi ml) {m : Int64} (hm : Reach S m) : ∃ k, 1 ≤ k ∧ k < cnt ∧ ml 127 k = m := by
  refine hm (fun m => ∃ k, 1 ≤ k ∧ k < cnt ∧ ml 127 k = m) ?_
  intro f f1 f5 c t hc ht
  have pick : ∀ c, (c = K0 S ∨ ∃ k, 1 ≤ k ∧ k < cnt ∧ ml 127 k = c) → ∃ k, k < cnt ∧ ml 127 k = c := by
    intro c hc
    rcases hc with e | ⟨k, k1, k2, k3⟩
    · exact ⟨0, by have := hK.1.1; omega, by rw [e]; exact hK.2.2.1⟩
    · exact ⟨k, k2, k3⟩
  obtain ⟨a, a1, rfl⟩ := pick c hc
  obtain ⟨b, b1, rfl⟩ := pick t ht
  obtain ⟨k, k1, k2, -, k4⟩ := hA (f - 1) (by omega) a b a1 b1
  rw [show f - 1 + 1 = f by omega] at k4
  exact ⟨k, k1, k2, k4⟩
theorem x_all {S : Rs} (hS : okS S) {ip : Nat → Nat} {n cnt L : Nat} {mi : Nat → Nat → Int32} {ml : Nat → Nat → Int64} (hX : repX S ip n mi ml) (hK : XK S ip n cnt L false mi ml) (hA : XAll S ip n cnt cnt L mi ml) : ∀ f, 1 ≤ f → f ≤ 5 → ∀ a b, a < cnt → b < cnt → ∃ k, 1 ≤ k ∧ k < cnt ∧ ml 94 k = belF S f (tb (ml 94 a)) (tb (ml 94 b)) := by
  intro f f1 f5 a b ha hb
  have hj := fun f c (h : 1 ≤ f) => joF_bel hS (f := f) (c := c) hX.1.2 (ml 94 b) h (fun j hj => ⟨(hX.2.1 j hj).1, (hX.2.1 j hj).2.1, (hX.2.1 j hj).2.2.1⟩) hX.2.2.1
  by_cases e : f = 1
  · subst e
    obtain ⟨k, k1, k2, -, k4⟩ := hA.2 0 (by have := hK.1.2.1; omega) b hb
    rw [hK.2.2.2.2.2.2.1, hj 1 _ (by omega)] at k4
    exact ⟨k, k1, k2, k4.trans (belF_num hS hX _ _ _)⟩
  · obtain ⟨y, y1, -, y3⟩ := hA.1 (f - 2) (by omega) a ha
    obtain ⟨k, k1, k2, -, k4⟩ := hA.2 y y1 b hb
    rw [y3, show f - 2 + 2 = f by omega, hj f _ f1] at k4
    exact ⟨k, k1, k2, k4⟩
theorem x_reach {S : Rs} (hS : okS S) {ip : Nat → Nat} {n cnt L : Nat} {mi : Nat → Nat → Int32} {ml : Nat → Nat → Int64} (hX : repX S ip n mi ml) (hK : XK S ip n cnt L false mi ml) (hA : XAll S ip n cnt cnt L mi ml) {m : Int64} (hm : Reach S m) : ∃ k, 1 ≤ k ∧ k < cnt ∧ ml 94 k = m := by
  refine hm (fun m => ∃ k, 1 ≤ k ∧ k < cnt ∧ ml 94 k = m) ?_
  intro f f1 f5 c t hc ht
  have pick : ∀ c, (c = K0 S ∨ ∃ k, 1 ≤ k ∧ k < cnt ∧ ml 94 k = c) → ∃ k, k < cnt ∧ ml 94 k = c := by
    intro c hc
    rcases hc with e | ⟨k, k1, k2, k3⟩
    · exact ⟨0, by have := hK.1.1.1; omega, by rw [e]; exact hK.2.2.1⟩
    · exact ⟨k, k2, k3⟩
  obtain ⟨a, a1, rfl⟩ := pick c hc
  obtain ⟨b, b1, rfl⟩ := pick t ht
  exact x_all hS hX hK hA f f1 f5 a b a1 b1
/-- both find as many kinds, or both too many -/
theorem kinds_same {S : Rs} (hS : okS S) {ip : Nat → Nat} {n cm cx L : Nat} {tm : Bool} {mi mj : Nat → Nat → Int32} {ml mk : Nat → Nat → Int64} (hM : KI S cm mi ml) (hMA : cm ≤ 40 → All S cm cm mi ml) (hX : repX S ip n mj mk) (hK : XK S ip n cx L tm mj mk) (hKA : tm = false → XAll S ip n cx cx L mj mk) : (tm = true ↔ 40 < cm) ∧ (tm = false → cm = cx) := by
  have c1 := hM.1
  have c2 := hK.1.1
  cases tm with
  | true =>
    refine ⟨⟨fun _ => ?_, fun _ => rfl⟩, fun e => by cases e⟩
    rcases Nat.lt_or_ge 40 cm with h | h
    · exact h
    · obtain ⟨e40, m, hm, hne⟩ := hK.2.2.2.2.2.2.2 rfl
      subst e40
      have := pigeon 40 (cm - 1) (fun a => if a = 39 then m else mk 94 (a + 1)) (fun b => ml 127 (b + 1)) (fun a b h1 h2 => by
        by_cases hb : b = 39
        · rw [if_pos hb, if_neg (by omega)]
          exact hne (a + 1) (by omega) (by omega)
        · rw [if_neg hb, if_neg (by omega)]
          exact hK.2.2.2.1 (a + 1) (b + 1) (by omega) (by omega) (by omega)) (fun a ha => by
        have hr : Reach S (if a = 39 then m else mk 94 (a + 1)) := by
          split
          · exact hm
          · exact hK.2.2.2.2.1 (a + 1) (by omega) (by omega)
        obtain ⟨k, k1, k2, k3⟩ := m_all hM (hMA h) hr
        exact ⟨k - 1, by omega, by rw [show k - 1 + 1 = k by omega]; exact k3⟩)
      omega
  | false =>
    have hx : cm - 1 ≤ cx - 1 := pigeon (cm - 1) (cx - 1) (fun a => ml 127 (a + 1)) (fun b => mk 94 (b + 1)) (fun a b h1 h2 => hM.2.2.2.1 (a + 1) (b + 1) (by omega) (by omega) (by omega)) (fun a ha => by
      obtain ⟨k, k1, k2, k3⟩ := x_reach hS hX hK (hKA rfl) (hM.2.2.2.2 (a + 1) (by omega) (by omega))
      exact ⟨k - 1, by omega, by rw [show k - 1 + 1 = k by omega]; exact k3⟩)
    have h40 : cm ≤ 40 := by omega
    have hm : cx - 1 ≤ cm - 1 := pigeon (cx - 1) (cm - 1) (fun a => mk 94 (a + 1)) (fun b => ml 127 (b + 1)) (fun a b h1 h2 => hK.2.2.2.1 (a + 1) (b + 1) (by omega) (by omega) (by omega)) (fun a ha => by
      obtain ⟨k, k1, k2, k3⟩ := m_all hM (hMA h40) (hK.2.2.2.2.1 (a + 1) (by omega) (by omega))
      exact ⟨k - 1, by omega, by rw [show k - 1 + 1 = k by omega]; exact k3⟩)
    exact ⟨⟨fun e => (by cases e), fun h => by omega⟩, fun _ => by omega⟩
