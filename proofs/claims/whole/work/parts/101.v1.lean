/-! sets of kinds, and what a result may be -/
abbrev Gs : Type := Bool → Int64 → Prop
def Kd (S : Rs) (e : Bool) (m : Int64) : Prop := (e = true ∧ m = K0 S) ∨ (e = false ∧ Reach S m)
/-- a row of all kinds -/
def KE (S : Rs) (km : Nat → Int64) (cnt : Nat) : Prop := 1 ≤ cnt ∧ cnt ≤ 40 ∧ km 0 = K0 S ∧ (∀ a, 1 ≤ a → a < cnt → Reach S (km a)) ∧ (∀ m, Reach S m → ∃ k, 1 ≤ k ∧ k < cnt ∧ km k = m) ∧ ∀ a b, 1 ≤ a → a < b → b < cnt → km a ≠ km b
def Rp (km : Nat → Int64) (cnt : Nat) (z : Int64) (G : Gs) : Prop := ∀ k, tb z k = true ↔ k < cnt ∧ G (decide (k = 0)) (km k)
def G0 : Gs := fun e _ => e = true
def Gin (S : Rs) (b : Nat) : Gs := fun _ m => inN S (tb m) b = true
def Gk (X : Bool × Int64) : Gs := fun e m => e = X.1 ∧ m = X.2
def jnG (S : Rs) (f : Nat) (A B : Gs) : Gs := fun e m => e = false ∧ ∃ e1 m1 e2 m2, Kd S e1 m1 ∧ Kd S e2 m2 ∧ A e1 m1 ∧ B e2 m2 ∧ m = belF S f (tb m1) (tb m2)
theorem KE.at {S : Rs} {km : Nat → Int64} {cnt : Nat} (h : KE S km cnt) {e : Bool} {m : Int64} (hk : Kd S e m) : ∃ k, k < cnt ∧ decide (k = 0) = e ∧ km k = m := by
  rcases hk with ⟨rfl, rfl⟩ | ⟨rfl, hr⟩
  · exact ⟨0, h.1, rfl, h.2.2.1⟩
  · obtain ⟨k, k1, k2, k3⟩ := h.2.2.2.2.1 m hr
    exact ⟨k, k2, decide_eq_false (by omega), k3⟩
theorem KE.kd {S : Rs} {km : Nat → Int64} {cnt : Nat} (h : KE S km cnt) {k : Nat} (hk : k < cnt) : Kd S (decide (k = 0)) (km k) := by
  rcases Nat.eq_zero_or_pos k with e | e
  · subst e
    exact Or.inl ⟨rfl, h.2.2.1⟩
  · exact Or.inr ⟨decide_eq_false (by omega), h.2.2.2.1 k e hk⟩
theorem KE.inj {S : Rs} {km : Nat → Int64} {cnt : Nat} (h : KE S km cnt) {k k' : Nat} (hk : k < cnt) (hk' : k' < cnt) (e : decide (k = 0) = decide (k' = 0)) (em : km k = km k') : k = k' := by
  have e := decide_eq_decide.mp e
  rcases Nat.lt_trichotomy k k' with g | g | g
  · exact absurd em (h.2.2.2.2.2 k k' (by omega) g hk')
  · exact g
  · exact absurd em.symm (h.2.2.2.2.2 k' k (by omega) g hk)
theorem Rp_join {S : Rs} {km : Nat → Int64} {cnt f : Nat} (h : KE S km cnt) {A B z : Int64} {GA GB : Gs} (hA : Rp km cnt A GA) (hB : Rp km cnt B GB) (hz : ∀ k, tb z k = true ↔ JS S km cnt f (tb A) (tb B) (fun _ _ => True) k) : Rp km cnt z (jnG S f GA GB) := by
  intro k
  rw [hz k]
  constructor
  · rintro ⟨c, w, -, c1, c2, c3, c4, c5, c6, c7⟩
    exact ⟨c6, decide_eq_false (by omega), _, _, _, _, h.kd c1, h.kd c2, ((hA c).mp c3).2, ((hB w).mp c4).2, c7⟩
  · rintro ⟨k1, k2, e1, m1, e2, m2, a1, a2, a3, a4, a5⟩
    obtain ⟨c, b1, rfl, rfl⟩ := h.at a1
    obtain ⟨w, d1, rfl, rfl⟩ := h.at a2
    exact ⟨c, w, trivial, b1, d1, (hA c).mpr ⟨b1, a3⟩, (hB w).mpr ⟨d1, a4⟩, by have := of_decide_eq_false k2; omega, k1, a5⟩
theorem Rp_0 {S : Rs} {km : Nat → Int64} {cnt : Nat} (h : KE S km cnt) : Rp km cnt 1 G0 := by
  intro k
  rw [tb_1, decide_eq_true_eq]
  unfold G0
  rw [decide_eq_true_eq]
  have := h.1
  omega
theorem Rp_in {S : Rs} {km : Nat → Int64} {cnt b : Nat} {z : Int64} (h : MemB S cnt km z b) : Rp km cnt z (Gin S b) := by
  intro k
  rw [h k, Bool.and_eq_true, decide_eq_true_eq]
  exact Iff.rfl
theorem Rp_k {S : Rs} {km : Nat → Int64} {cnt k0 : Nat} (h : KE S km cnt) (hk : k0 < cnt) : Rp km cnt (1 <<< ((nI k0).toInt64 &&& 63)) (Gk (decide (k0 = 0), km k0)) := by
  intro k
  have h40 := h.2.1
  rw [tb_bit (by omega), decide_eq_true_eq]
  constructor
  · rintro rfl
    exact ⟨hk, rfl, rfl⟩
  · rintro ⟨g1, g2, g3⟩
    exact h.inj g1 hk g2 g3
noncomputable section
def stp (S : Rs) (F : Nat → Fn) (X Y : Bool × Int64) (k : Nat) (st : Gs × List Gs) : Gs × List Gs :=
  if k = 93 then (G0, st.1 :: st.2) else if isLab k then (match st.2 with
    | [] => st
    | a :: r => (jnG S (kn k) st.1 a, r)) else if 256 ≤ k then (Gin S (F ((k - 256) / 2)).2.1, st.2) else if k = 120 then (Gk X, st.2) else if k = 121 then (Gk Y, st.2) else (jnG S 1 G0 st.1, st.2)
def evl (S : Rs) (F : Nat → Fn) (X Y : Bool × Int64) (K : List Nat) : Gs × List Gs := K.foldr (stp S F X Y) (G0, [])
end
theorem evl_len {S : Rs} {F : Nat → Fn} {X Y : Bool × Int64} : ∀ (K : List Nat) (e : Nat), kd e K = some 0 → (evl S F X Y K).2.length = e
  | [], e, h => by
    have : some e = some 0 := h
    exact (Option.some.inj this).symm
  | k :: K, e, h => by
    show (stp S F X Y k (evl S F X Y K)).2.length = e
    unfold kd at h
    unfold stp
    by_cases h93 : k = 93
    · rw [if_pos h93] at h ⊢
      by_cases h0 : e = 0
      · rw [if_pos h0] at h
        cases h
      · rw [if_neg h0] at h
        have := evl_len (S := S) (F := F) (X := X) (Y := Y) K _ h
        show (evl S F X Y K).2.length + 1 = e
        omega
    rw [if_neg h93] at h ⊢
    by_cases hl : isLab k = true
    · rw [if_pos hl] at h ⊢
      have := evl_len (S := S) (F := F) (X := X) (Y := Y) K _ h
      cases hs : (evl S F X Y K).2 with
      | nil =>
        rw [hs] at this
        cases this
      | cons a r =>
        rw [hs] at this
        show r.length = e
        have : r.length + 1 = e + 1 := this
        omega
    rw [if_neg hl] at h ⊢
    have := evl_len (S := S) (F := F) (X := X) (Y := Y) K _ h
    split
    · exact this
    · split
      · exact this
      · split <;> exact this
theorem kd_npa : ∀ (K : List Nat) (d e : Nat), kd d K = some e → e ≤ d + npa K
  | [], d, e, h => by
    have : some d = some e := h
    have := Option.some.inj this
    omega
  | k :: K, d, e, h => by
    have hn : npa (k :: K) = npa [k] + npa K := npa_app [k] K
    unfold kd at h
    split at h
    · split at h
      · cases h
      · have := kd_npa K _ _ h
        omega
    · split at h
      · next q =>
        have := kd_npa K _ _ h
        have h1 : npa [k] = 1 := by
          unfold npa
          rw [List.filter_cons_of_pos (by unfold isPa; rw [q]; simp)]
          rfl
        omega
      · have := kd_npa K _ _ h
        omega
