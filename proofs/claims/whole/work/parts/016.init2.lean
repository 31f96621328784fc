/-! the constructors, run -/
def hs_okc (h : am_H) : Bool := decide (h.length = hs_nc) && (List.range hs_nc).all (fun k => match h[k]? with
  | some c => decide (c.1 = hs_kind k) && (List.range (hs_sz k)).all (fun j => decide (c.2.1 j = 0) && (decide (c.2.2.1 j = 0) && decide (c.2.2.2 j = hs_ref k j)))
  | none => false)
def hs_rX : Option am_R := am_exec 1000 8 (am_m 0) 0 (am_entry (am_m 0).2.2.1 [.ref 0]) [] [am_new (false, 0, 0)]
def hs_rm (h : am_H) : Option am_R := am_exec 1000 8 (am_m 120) 0 (am_entry (am_m 120).2.2.1 [.ref 116]) [] (h ++ [am_new (false, 10, 0)])
def hs_chk : Bool := match hs_rX with
  | some (none, h, kc, ks) => decide (kc = 115 ∧ ks = 10293 ∧ h.length = 116) && (match hs_rm h with
    | some (none, h2, kc2, ks2) => decide (kc2 = 26 ∧ ks2 = 11446) && hs_okc h2
    | _ => false)
  | _ => false
theorem hs_chk_ok : hs_chk = true := by decide +kernel
/-- the two constructors, and the heap behind them -/
theorem hs_ctor (l : Launch) : ∃ (hX : am_H) (mi : Nat → Nat → Int32) (ml : Nat → Nat → Int64) (mr : Nat → Nat → Option Nat), hX.length = 116 ∧
    am_T l 8 (am_m 0) 0 (am_entry (am_m 0).2.2.1 [.ref 0]) [] [am_new (false, 0, 0)] 115 10293 (fun r h => r = none ∧ h = hX) ∧
    am_T l 8 (am_m 120) 0 (am_entry (am_m 120).2.2.1 [.ref 116]) [] (hX ++ [am_new (false, 10, 0)]) 26 11446 (fun r h => r = none ∧ h = hm mi ml mr) ∧
    ∀ k j, k < hs_nc → j < hs_sz k → mi k j = 0 ∧ ml k j = 0 ∧ mr k j = hs_ref k j := by
  have hc := hs_chk_ok
  unfold hs_chk at hc
  split at hc
  · next h kc ks hX =>
    simp only [Bool.and_eq_true, decide_eq_true_eq] at hc
    obtain ⟨⟨rfl, rfl, hlen⟩, hc⟩ := hc
    split at hc
    · next h2 kc2 ks2 h2e =>
      simp only [Bool.and_eq_true, decide_eq_true_eq] at hc
      obtain ⟨⟨rfl, rfl⟩, hc⟩ := hc
      simp only [hs_okc, Bool.and_eq_true, decide_eq_true_eq, List.all_eq_true, List.mem_range] at hc
      obtain ⟨hl2, hc⟩ := hc
      have e2 : h2 = hm (fun k => (h2.getD k (am_new (true, 0, 0))).2.1) (fun k => (h2.getD k (am_new (true, 0, 0))).2.2.1) (fun k => (h2.getD k (am_new (true, 0, 0))).2.2.2) := by
        apply List.ext_getElem?
        intro i
        by_cases hi : i < hs_nc
        · rw [hm_at hi]
          have h3 := hc i hi
          have hi2 : i < h2.length := by rw [hl2]; exact hi
          simp only [List.getD_eq_getElem?_getD]
          rw [List.getElem?_eq_getElem hi2] at h3 ⊢
          simp only [Bool.and_eq_true, decide_eq_true_eq] at h3
          simp only [Option.getD_some]
          rw [← h3.1]
        · rw [List.getElem?_eq_none (by rw [hl2]; omega), List.getElem?_eq_none (by rw [hm, List.length_map, List.length_range]; omega)]
      refine ⟨h, fun k => (h2.getD k (am_new (true, 0, 0))).2.1, fun k => (h2.getD k (am_new (true, 0, 0))).2.2.1, fun k => (h2.getD k (am_new (true, 0, 0))).2.2.2, hlen, am_exec_sound 1000 8 _ _ _ _ _ _ _ _ _ (am_all 0 (by decide)).2 hX, ?_, ?_⟩
      · rw [← e2]
        exact am_exec_sound 1000 8 _ _ _ _ _ _ _ _ _ (am_all 120 (by decide)).2 h2e
      · intro k j hk hj
        have h3 := hc k hk
        have hi2 : k < h2.length := by rw [hl2]; exact hk
        simp only [List.getD_eq_getElem?_getD]
        rw [List.getElem?_eq_getElem hi2] at h3 ⊢
        simp only [Bool.and_eq_true, decide_eq_true_eq, List.all_eq_true, List.mem_range] at h3
        have h4 := h3.2 j hj
        simp only [Option.getD_some]
        exact ⟨h4.1, h4.2.1, h4.2.2⟩
    · cases hc
  · cases hc
