/-! places in a function's text -/
def sgn (T : List Nat) (i : Nat) : Nat := if i < T.length then T.getD i 0 else 47
def cpos (C : List Cl) (k : Nat) : Nat := 5 + (ctx (C.take k)).length
def clA (C : List Cl) (k : Nat) : Cl := C.getD k ((0, 0, 0), [])
def rpos (C : List Cl) (k : Nat) : Nat := cpos C k + 1 + (patx (clA C k).1).length + 1
theorem take_sC (C : List Cl) {k : Nat} (h : k < C.length) : C.take (k + 1) = C.take k ++ [clA C k] := by
  rw [List.take_add_one, List.getElem?_eq_getElem h]
  unfold clA
  rw [List.getD_eq_getElem?_getD, List.getElem?_eq_getElem h]
  rfl
theorem drop_sC (C : List Cl) {k : Nat} (h : k < C.length) : C.drop k = clA C k :: C.drop (k + 1) := by
  rw [List.drop_eq_getElem_cons h]
  unfold clA
  rw [List.getD_eq_getElem?_getD, List.getElem?_eq_getElem h]
  rfl
theorem cpos_s (C : List Cl) {k : Nat} (h : k < C.length) : cpos C (k + 1) = cpos C k + (cltx (clA C k)).length := by
  unfold cpos
  rw [take_sC C h, ctx_app, ctx_one, List.length_append]
  omega
theorem cltx_len (c : Cl) : (cltx c).length = 1 + ((patx c.1).length + (1 + (ktx c.2).length)) := by
  unfold cltx
  rw [List.length_cons, List.length_append, List.length_cons]
  omega
theorem ftx_split (a : Nat) (F : Fn) {k : Nat} (h : k < F.2.2.length) : ftx a F = ([a, 58, F.1 + 65, 62, F.2.1 + 65] ++ ctx (F.2.2.take k)) ++ (cltx (clA F.2.2 k) ++ ctx (F.2.2.drop (k + 1))) := by
  unfold ftx
  rw [List.append_assoc]
  congr 1
  have e : ctx F.2.2 = ctx (F.2.2.take k ++ F.2.2.drop k) := by rw [List.take_append_drop]
  rw [e, ctx_app, drop_sC _ h]
  congr 1
theorem ftx_len (a : Nat) (F : Fn) : (ftx a F).length = cpos F.2.2 F.2.2.length := by
  unfold ftx cpos
  rw [List.length_append, List.take_of_length_le (Nat.le_refl _)]
  rfl
theorem cpos_lt (a : Nat) (F : Fn) {k : Nat} (h : k < F.2.2.length) : cpos F.2.2 (k + 1) ≤ (ftx a F).length := by
  rw [ftx_split a F h, List.length_append, List.length_append, cpos_s _ h]
  unfold cpos
  rw [List.length_append]
  show 5 + _ + _ ≤ 5 + _ + _
  omega
theorem sgn_cl (a : Nat) (F : Fn) {k j : Nat} (h : k < F.2.2.length) (hj : j < (cltx (clA F.2.2 k)).length) : sgn (ftx a F) (cpos F.2.2 k + j) = (cltx (clA F.2.2 k)).getD j 0 := by
  have h1 := cpos_lt a F h
  rw [cpos_s _ h] at h1
  unfold sgn
  rw [if_pos (by omega), ftx_split a F h]
  have e : cpos F.2.2 k + j = ([a, 58, F.1 + 65, 62, F.2.1 + 65] ++ ctx (F.2.2.take k)).length + j := by
    unfold cpos
    rw [List.length_append]
    rfl
  rw [e, getD_app2, getD_app1 _ _ hj]
theorem sgn_end (a : Nat) (F : Fn) {i : Nat} (h : (ftx a F).length ≤ i) : sgn (ftx a F) i = 47 := by
  unfold sgn
  rw [if_neg (by omega)]
theorem sgn_cpos (a : Nat) (F : Fn) {k : Nat} (h : k ≤ F.2.2.length) : sgn (ftx a F) (cpos F.2.2 k) = 47 := by
  rcases Nat.lt_or_ge k F.2.2.length with q | q
  · have := sgn_cl a F q (j := 0) (by rw [cltx_len]; omega)
    rw [Nat.add_zero] at this
    rw [this]
    rfl
  · refine sgn_end a F ?_
    rw [ftx_len, show k = F.2.2.length by omega]
    exact Nat.le_refl _
theorem patx_no {p : Nat × Nat × Nat} (h : p.1 ≤ 5 ∧ p.2.1 < 6 ∧ p.2.2 < 6) : ∀ c ∈ patx p, c ≠ 47 ∧ c ≠ 45 := by
  obtain ⟨h1, h2, h3⟩ := h
  intro c hc
  unfold patx at hc
  split at hc
  · simp at hc
    omega
  · split at hc
    · simp at hc
      omega
    · simp at hc
      omega
theorem ttx_no {p k : Nat} (h : okTk p k) : ∀ c ∈ ttx k, c ≠ 47 ∧ c < 127 := by
  intro c hc
  unfold ttx at hc
  split at hc
  · next q =>
    have : k < 262 := by
      rcases h with h | h | h | h | h | h | h
      · have := isDig_r h
        omega
      · omega
      · have := isLab_r h
        omega
      · omega
      · omega
      · omega
      · exact h.2.1
    simp at hc
    omega
  · next q =>
    split at hc
    · next q2 =>
      have := isLab_r q2
      simp at hc
      omega
    · simp at hc
      subst hc
      rcases h with h | h | h | h | h | h | h
      · have := isDig_r h
        omega
      · omega
      · have := isLab_r h
        omega
      · omega
      · omega
      · omega
      · omega
theorem ktx_no {p : Nat} : ∀ {K : List Nat}, (∀ k ∈ K, okTk p k) → ∀ c ∈ ktx K, c ≠ 47 ∧ c < 127 := by
  intro K h c hc
  obtain ⟨k, hk, hc⟩ := List.mem_flatMap.mp hc
  exact ttx_no (h k hk) c hc
theorem mem_getD {A : List Nat} {j : Nat} (h : j < A.length) : A.getD j 0 ∈ A := by
  rw [List.getD_eq_getElem?_getD, List.getElem?_eq_getElem h]
  exact List.getElem_mem h
theorem cltx_in {c : Cl} (hc : okCl c) {j : Nat} (h0 : 0 < j) (hj : j < (cltx c).length) : (cltx c).getD j 0 ≠ 47 := by
  obtain ⟨j', rfl⟩ : ∃ j', j = j' + 1 := ⟨j - 1, by omega⟩
  rw [cltx_len] at hj
  show (patx c.1 ++ 45 :: ktx c.2).getD j' 0 ≠ 47
  rcases Nat.lt_or_ge j' (patx c.1).length with q | q
  · rw [getD_app1 _ _ q]
    exact (patx_no ⟨hc.1, hc.2.1, hc.2.2.1⟩ _ (mem_getD q)).1
  · obtain ⟨i, rfl⟩ : ∃ i, j' = (patx c.1).length + i := ⟨j' - (patx c.1).length, by omega⟩
    rw [getD_app2]
    cases i with
    | zero => exact (by decide : (45 : Nat) ≠ 47)
    | succ i =>
      show (ktx c.2).getD i 0 ≠ 47
      exact (ktx_no hc.2.2.2.1 _ (mem_getD (by omega))).1
theorem cltx_res {c : Cl} {j : Nat} : (cltx c).getD (1 + (patx c.1).length + 1 + j) 0 = (ktx c.2).getD j 0 := by
  show (47 :: (patx c.1 ++ 45 :: ktx c.2)).getD _ 0 = _
  rw [show 1 + (patx c.1).length + 1 + j = ((patx c.1).length + (j + 1)) + 1 by omega]
  show (patx c.1 ++ 45 :: ktx c.2).getD ((patx c.1).length + (j + 1)) 0 = _
  rw [getD_app2]
  rfl
theorem cltx_min {c : Cl} : (cltx c).getD (1 + (patx c.1).length) 0 = 45 := by
  show (47 :: (patx c.1 ++ 45 :: ktx c.2)).getD _ 0 = _
  rw [show 1 + (patx c.1).length = ((patx c.1).length + 0) + 1 by omega]
  show (patx c.1 ++ 45 :: ktx c.2).getD ((patx c.1).length + 0) 0 = _
  rw [getD_app2]
  rfl
theorem cltx_pat {c : Cl} {j : Nat} (h : j < (patx c.1).length) : (cltx c).getD (1 + j) 0 = (patx c.1).getD j 0 := by
  show (47 :: (patx c.1 ++ 45 :: ktx c.2)).getD _ 0 = _
  rw [show 1 + j = j + 1 by omega]
  show (patx c.1 ++ 45 :: ktx c.2).getD j 0 = _
  rw [getD_app1 _ _ h]
theorem sgn_res (a : Nat) (F : Fn) {k j : Nat} (h : k < F.2.2.length) (hj : j < (ktx (clA F.2.2 k).2).length) : sgn (ftx a F) (rpos F.2.2 k + j) = (ktx (clA F.2.2 k).2).getD j 0 := by
  have := sgn_cl a F h (j := 1 + (patx (clA F.2.2 k).1).length + 1 + j) (by rw [cltx_len]; omega)
  rw [cltx_res] at this
  rw [← this]
  unfold rpos
  congr 1
  omega
theorem rpos_end (C : List Cl) {k : Nat} (h : k < C.length) : rpos C k + (ktx (clA C k).2).length = cpos C (k + 1) := by
  rw [cpos_s C h, cltx_len]
  unfold rpos
  omega
theorem clA_ok {F : Fn} (hF : okF F) {k : Nat} (h : k < F.2.2.length) : okCl (clA F.2.2 k) := by
  refine hF.2.2.1 _ ?_
  unfold clA
  rw [List.getD_eq_getElem?_getD, List.getElem?_eq_getElem h]
  exact List.getElem_mem h
