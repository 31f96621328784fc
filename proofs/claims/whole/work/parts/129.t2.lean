/-! the fresh objects -/
theorem st_in {k j b : Nat} (h : hs_st k j = some b) : k < 143 ∧ j < hs_sz k ∧ hs_ref k j = some b := by
  have all : ∀ k, k < 143 → ∀ j, j < (hs_stl.getD k []).length → hs_st k j = none ∨ (j < hs_sz k ∧ hs_ref k j = hs_st k j) := by decide +kernel
  have hk : k < 143 := by
    rcases Nat.lt_or_ge k 143 with q | q
    · exact q
    · have hl : hs_stl.length ≤ 143 := by decide +kernel
      unfold hs_st at h
      rw [show hs_stl.getD k [] = [] by rw [List.getD_eq_getElem?_getD, List.getElem?_eq_none (by omega)]; rfl] at h
      cases h
  have hj : j < (hs_stl.getD k []).length := by
    rcases Nat.lt_or_ge j (hs_stl.getD k []).length with q | q
    · exact q
    · unfold hs_st at h
      rw [List.getD_eq_getElem?_getD, List.getElem?_eq_none q] at h
      cases h
  rcases all k hk j hj with e | ⟨e1, e2⟩
  · rw [h] at e
    cases e
  · exact ⟨hk, e1, e2.trans h⟩
theorem spF_none {sk : Nat → Bool} {W T : Nat → Nat → Bool} {G : Nat → Bool} (hG : ∀ q, q < 64 → G q = false) : spF sk W T G = 0 := by
  refine tb_ext (fun r hr => ?_)
  have h0 : tb 0 r = false := by
    show (0 : BitVec 64).getLsbD r = false
    simp
  rw [h0]
  cases hq : tb (spF sk W T G) r with
  | false => rfl
  | true =>
    have := ((tb_ofB _ hr).mp hq).2 (fun _ => false) (fun q hq2 hg => by rw [hG q hq2] at hg; cases hg) ⟨fun _ _ _ _ e => (by cases e), fun _ _ ⟨_, _, _, e⟩ => (by cases e)⟩
    cases this
theorem SD_none : (SD (fun _ => [])).1 = 0 := by decide
theorem tb_none {p : Nat → Bool} (h : ∀ r, p r = false) : tb 0 = p := by
  funext r
  rw [h r]
  show (0 : BitVec 64).getLsbD r = false
  simp
theorem Inv_0 (mi : Nat → Nat → Int32) (ml : Nat → Nat → Int64) (mr : Nat → Nat → Option Nat) (hz : ∀ k j, k < hs_nc → j < hs_sz k → mi k j = 0 ∧ ml k j = 0 ∧ mr k j = hs_ref k j) : Inv2 mi ml mr := by
  have zi : ∀ k j, k < 143 → j < hs_sz k → mi k j = 0 := fun k j h1 h2 => (hz k j h1 h2).1
  have zl : ∀ k j, k < 143 → j < hs_sz k → ml k j = 0 := fun k j h1 h2 => (hz k j h1 h2).2.1
  have zr : ∀ k j, k < 143 → j < hs_sz k → mr k j = hs_ref k j := fun k j h1 h2 => (hz k j h1 h2).2.2
  have hS0 := SD_none
  refine ⟨fun k j b h => ?_, ([], (fun _ => []), (fun _ => (0, 0, [])), [], []), ?_, ?_, ?_⟩
  · obtain ⟨h1, h2, h3⟩ := st_in h
    rw [zr k j h1 h2]
    exact h3
  · exact ⟨⟨Nat.zero_le _, fun c hc => (by cases hc)⟩, ⟨fun n _ => Or.inl rfl, by decide⟩, fun f => ⟨Or.inl rfl, Nat.zero_le _⟩, ⟨trivial, Nat.zero_le _⟩, trivial, Nat.zero_le _⟩
  · refine ⟨⟨fun i hi => (by cases hi), zi 116 1 (by decide) (by decide), Nat.zero_le _, fun c hc => (by cases hc)⟩, ⟨fun _ => [], fun n hn => ⟨⟨zi 119 n (by decide) (by show n < 9; omega), Nat.zero_le _, fun c hc => (by cases hc), fun i hi => (by cases hi)⟩, Or.inl ⟨rfl, rfl⟩⟩⟩, fun f hf => ⟨zi 119 (6 + f) (by decide) (by show 6 + f < 9; omega), Nat.zero_le _, fun c hc => (by cases hc), fun i hi => (by cases hi)⟩, ⟨false, zi 116 11 (by decide) (by decide), fun q => (by cases q)⟩, ⟨fun i hi => (by cases hi), zi 116 5 (by decide) (by decide)⟩, fun i hi => (by cases hi), zi 116 7 (by decide) (by decide)⟩
  · refine ⟨⟨zi 0 1 (by decide) (by decide), fun i hi => (by cases hi)⟩, ⟨fun n => 3 + 6 * n, ?_, ?_, ?_, ?_, ?_⟩, ⟨fun n => 46 + 6 * n, ?_, ?_, ?_, ?_, ?_⟩, ⟨70, 76, Or.inl rfl, Or.inl rfl, zr 0 6 (by decide) (by decide), zr 0 7 (by decide) (by decide), zr 0 8 (by decide) (by decide), zr 0 9 (by decide) (by decide), ⟨zi 70 2 (by decide) (by decide), fun i hi => (by cases hi)⟩, ⟨zi 76 2 (by decide) (by decide), fun i hi => (by cases hi)⟩⟩, ⟨fun _ => 0, 0, ⟨⟨zi 84 0 (by decide) (by decide), Nat.zero_le _⟩, fun j hj => (by cases hj), fun r hr => ?_, fun k hk => ?_, fun k hk => ?_, ?_, ?_⟩, false, zi 93 1 (by decide) (by decide), fun q => (by cases q)⟩, fun i hi => zi 100 i (by decide) (by show i < 161; exact hi), ⟨false, zi 102 1 (by decide) (by decide), fun q => (by cases q)⟩⟩
    · decide
    · intro a b h1 h2 e
      have e : 3 + 6 * a = 3 + 6 * b := e
      omega
    · intro n hn
      rw [zr 2 n (by decide) (by show n < 6; exact hn)]
      have : ∀ n, n < 6 → hs_ref 2 n = some (3 + 6 * n) := by decide +kernel
      exact this n hn
    · exact zr 0 3 (by decide) (by decide)
    · intro n hn
      have : ∀ n, n < 6 → 3 + 6 * n < 143 ∧ 0 < hs_sz (3 + 6 * n) := by decide +kernel
      exact ⟨zi _ 0 (this n hn).1 (this n hn).2, fun q => absurd rfl q⟩
    · decide
    · intro a b h1 h2 e
      have e : 46 + 6 * a = 46 + 6 * b := e
      omega
    · intro n hn
      rw [zr 45 n (by decide) (by show n < 3; exact hn)]
      have : ∀ n, n < 3 → hs_ref 45 n = some (46 + 6 * n) := by decide +kernel
      exact this n hn
    · exact zr 0 5 (by decide) (by decide)
    · intro n hn
      have : ∀ n, n < 3 → 46 + 6 * n < 143 ∧ 0 < hs_sz (46 + 6 * n) := by decide +kernel
      exact ⟨zi _ 0 (this n hn).1 (this n hn).2, fun q => absurd rfl q⟩
    · have hr : r < (SD (fun _ => [])).1 := hr
      rw [hS0] at hr
      omega
    · rw [zl 90 k (by decide) (by show k < 6; exact hk)]
      exact tb_none (fun r => decide_eq_false (fun q => by have := q.1; rw [show (SD (Sta.D ([], (fun _ => []), (fun _ => (0, 0, [])), [], []))).1 = 0 from hS0] at this; omega))
    · rw [zl 91 k (by decide) (by show k < 6; exact hk)]
      exact tb_none (fun r => decide_eq_false (fun q => by have := q.1; rw [show (SD (Sta.D ([], (fun _ => []), (fun _ => (0, 0, [])), [], []))).1 = 0 from hS0] at this; omega))
    · rw [zl 84 8 (by decide) (by decide)]
      exact tb_none (fun r => decide_eq_false (fun q => by have := q.1; rw [show (SD (Sta.D ([], (fun _ => []), (fun _ => (0, 0, [])), [], []))).1 = 0 from hS0] at this; omega))
    · rw [zl 84 10 (by decide) (by decide)]
      exact (spF_none (fun q _ => decide_eq_false (fun z => by have := z.1; rw [show (SD (Sta.D ([], (fun _ => []), (fun _ => (0, 0, [])), [], []))).1 = 0 from hS0] at this; omega))).symm
