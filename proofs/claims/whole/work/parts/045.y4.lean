/-! both find the same least sizes -/
theorem Lst_same {p p' : Nat → Bool} {cnt cnt' : Nat} {v v' : Nat → Nat} {r r' : Int64} (h1 : ∀ k, k < cnt → ∃ k', k' < cnt' ∧ p' k' = p k ∧ v' k' = v k) (h2 : ∀ k', k' < cnt' → ∃ k, k < cnt ∧ p k = p' k' ∧ v k = v' k') (h : Lst p cnt v r) (h' : Lst p' cnt' v' r') : r = r' := by
  rcases h with ⟨a1, a2⟩ | ⟨x, x1, x2, x3, x4⟩
  · rcases h' with ⟨b1, b2⟩ | ⟨y, y1, y2, y3, y4⟩
    · rw [a1, b1]
    · obtain ⟨k, k1, k2, k3⟩ := h2 y y1
      rw [a2 k k1, y2] at k2
      cases k2
  · rcases h' with ⟨b1, b2⟩ | ⟨y, y1, y2, y3, y4⟩
    · obtain ⟨k, k1, k2, k3⟩ := h1 x x1
      rw [b2 k k1, x2] at k2
      cases k2
    · obtain ⟨k, k1, k2, k3⟩ := h1 x x1
      obtain ⟨j, j1, j2, j3⟩ := h2 y y1
      have e1 := y4 k k1 (k2.trans x2)
      have e2 := x4 j j1 (j2.trans y2)
      have : v x = v' y := by omega
      rw [x3, y3, this]
/-- kinds of one are kinds of the other, with the same sizes -/
theorem kinds_over {S : Rs} {km kx : Nat → Int64} {cm cx : Nat} {v w : Nat → Nat} (hx : 1 ≤ cx) (m0 : km 0 = K0 S) (x0 : kx 0 = K0 S) (hm : ∀ a, 1 ≤ a → a < cm → Reach S (km a)) (hall : ∀ m, Reach S m → ∃ k, 1 ≤ k ∧ k < cx ∧ kx k = m) (v0 : v 0 = 0) (w0 : w 0 = 0) (hv : ∀ k, 1 ≤ k → k < cm → v k = lsz S (km k)) (hw : ∀ k, 1 ≤ k → k < cx → w k = lsz S (kx k)) : ∀ k, k < cm → ∃ k', k' < cx ∧ kx k' = km k ∧ w k' = v k := by
  intro k hk
  rcases Nat.eq_zero_or_pos k with e | e
  · subst e
    exact ⟨0, hx, x0.trans m0.symm, w0.trans v0.symm⟩
  · obtain ⟨k', a1, a2, a3⟩ := hall _ (hm k e hk)
    exact ⟨k', a2, a3, by rw [hw k' a1 a2, hv k e hk, a3]⟩
theorem least_same {S : Rs} (hS : okS S) {ip : Nat → Nat} {n cm cx : Nat} {mi mj : Nat → Nat → Int32} {ml mk : Nat → Nat → Int64} (hM : MKn S cm mi ml) (hc : cm ≤ 40) (hX : repX S ip n mj mk) (hK : XKn S ip n cx false mj mk) {v w : Nat → Nat} (hV : VI S cm v ml) (hv : ∀ k, 1 ≤ k → k < cm → v k = lsz S (ml 127 k)) (hW : XV S cx w mk) (hw : FinV S (mk 94) cx w) (P : Int64 → Bool) {p p' : Nat → Bool} (hp : ∀ k, k < cm → p k = P (ml 127 k)) (hp' : ∀ k, k < cx → p' k = P (mk 94 k)) {r r' : Int64} (h : Lst p cm v r) (h' : Lst p' cx w r') : r = r' := by
  obtain ⟨L, hK1, hK2⟩ := hK
  obtain ⟨hA, -⟩ := hK2 rfl
  obtain ⟨hAm, -⟩ := hM.2.1 hc
  have a1 := kinds_over (S := S) (km := ml 127) (kx := mk 94) hK1.1.1.1 hM.1.2.2.1 hK1.2.2.1 hM.1.2.2.2.2 (fun m hm => x_reach hS hX hK1 hA hm) hV.2.1 hW.2.1 hv hw
  have a2 := kinds_over (S := S) (km := mk 94) (kx := ml 127) hM.1.1.1 hK1.2.2.1 hM.1.2.2.1 hK1.2.2.2.2.1 (fun m hm => m_all hM.1 hAm hm) hW.2.1 hV.2.1 hw hv
  refine Lst_same (fun k hk => ?_) (fun k hk => ?_) h h'
  · obtain ⟨k', b1, b2, b3⟩ := a1 k hk
    exact ⟨k', b1, by rw [hp' k' b1, hp k hk, b2], b3⟩
  · obtain ⟨k', b1, b2, b3⟩ := a2 k hk
    exact ⟨k', b1, by rw [hp k' b1, hp' k hk, b2], b3⟩
/-- what the class picks out of its members -/
theorem pick_one {S : Rs} {cnt : Nat} {km : Nat → Int64} {m : Int64} {a : Nat} (h : MemB S cnt km m a) : ∀ k, k < cnt → tb m k = (fun x => pkM S (fun _ => x) a none 0) (km k) := by
  intro k hk
  rw [h k, decide_eq_true hk]
  simp [pkM]
