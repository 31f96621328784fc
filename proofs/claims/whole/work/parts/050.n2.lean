/-! places in the text of a hedge; who stands behind whom -/
theorem getD_app2 (A B : List Nat) (j : Nat) : (A ++ B).getD (A.length + j) 0 = B.getD j 0 := by
  rw [List.getD_eq_getElem?_getD, List.getD_eq_getElem?_getD, List.getElem?_append_right (by omega)]
  congr 2
  omega
theorem getD_app1 (A B : List Nat) {j : Nat} (h : j < A.length) : (A ++ B).getD j 0 = A.getD j 0 := by
  rw [List.getD_eq_getElem?_getD, List.getD_eq_getElem?_getD, List.getElem?_append_left h]
theorem tx_rep (N : Nd) (d : Nat) : ∀ (n : Nat), d + n ≤ edp N → tx N d = tx N (d + n) ++ List.replicate n 93
  | 0, _ => by simp
  | n + 1, h => by
    rw [tx_rep N d n (by omega), tx_close N (d + n) (by omega), List.append_assoc, ← Nat.add_assoc, List.replicate_succ]
    rfl
/-- place k of the text: its length up to node k, at depth d -/
def pl (N : Nd) (k d : Nat) : Nat := (tx (N.take k) d).length
theorem pl_split (N : Nd) {k d : Nat} (h1 : nxd (N.drop k) 0 ≤ d) (h2 : d ≤ edp (N.take k)) : tx N 0 = tx (N.take k) d ++ (List.replicate (d - nxd (N.drop k) 0) 93 ++ tx (N.drop k) 0) := by
  have e : tx N 0 = tx (N.take k ++ N.drop k) 0 := by rw [List.take_append_drop]
  rw [e, tx_app, tx_rep (N.take k) (nxd (N.drop k) 0) (d - nxd (N.drop k) 0) (by omega), List.append_assoc, show nxd (N.drop k) 0 + (d - nxd (N.drop k) 0) = d by omega]
theorem nxd_at (N : Nd) {k : Nat} (h : k < N.length) : nxd (N.drop k) 0 = dp N k := by
  rw [List.drop_eq_getElem_cons h]
  show (N[k]).2 = (N.getD k (0, 0)).2
  rw [List.getD_eq_getElem?_getD, List.getElem?_eq_getElem h]
  rfl
theorem nxd_end (N : Nd) {k : Nat} (h : N.length ≤ k) : nxd (N.drop k) 0 = 0 := by
  rw [List.drop_eq_nil_of_le h]
  rfl
theorem take_sN (N : Nd) {k : Nat} (h : k < N.length) : N.take (k + 1) = N.take k ++ [(cd N k, dp N k)] := by
  rw [List.take_add_one, List.getElem?_eq_getElem h]
  have : (cd N k, dp N k) = N[k] := by
    show ((N.getD k (0, 0)).1, (N.getD k (0, 0)).2) = _
    rw [List.getD_eq_getElem?_getD, List.getElem?_eq_getElem h]
    rfl
  rw [this]
  rfl
theorem edp_take (N : Nd) {k : Nat} (h : k < N.length) : edp (N.take (k + 1)) = dp N k + lb (cd N k) := by
  rw [take_sN N h, edp_app]
theorem pl_close (N : Nd) {k d : Nat} (h1 : nxd (N.drop k) 0 < d) (h2 : d ≤ edp (N.take k)) : (tx N 0).getD (pl N k d) 0 = 93 ∧ pl N k d < (tx N 0).length ∧ pl N k (d - 1) = pl N k d + 1 := by
  have e := pl_split N (Nat.le_of_lt h1) h2
  refine ⟨?_, ?_, ?_⟩
  · rw [e]
    show (tx (N.take k) d ++ _).getD ((tx (N.take k) d).length + 0) 0 = _
    rw [getD_app2, show d - nxd (N.drop k) 0 = (d - nxd (N.drop k) 0 - 1) + 1 by omega, List.replicate_succ]
    rfl
  · rw [e, List.length_append, List.length_append, List.length_replicate]
    show (tx (N.take k) d).length < _
    omega
  · unfold pl
    rw [tx_close (N.take k) (d - 1) (by omega), show d - 1 + 1 = d by omega, List.length_append]
    rfl
theorem pl_node (N : Nd) {k : Nat} (hN : okN 0 N) (h : k < N.length) : (tx N 0).getD (pl N k (dp N k)) 0 = cd N k ∧ pl N k (dp N k) + lb (cd N k) < (tx N 0).length ∧ pl N (k + 1) (dp N k + lb (cd N k)) = pl N k (dp N k) + 1 + lb (cd N k) ∧ (isLab (cd N k) = true → (tx N 0).getD (pl N k (dp N k) + 1) 0 = 91) := by
  have hd : dp N k ≤ edp (N.take k) := by
    have : okN 0 (N.take (k + 1)) := okN_app (M := N.drop (k + 1)) (by rw [List.take_append_drop]; exact hN)
    rw [take_sN N h] at this
    exact (okN_snoc0.mp this).2.1
  have e := pl_split N (k := k) (d := dp N k) (by rw [nxd_at N h]; exact Nat.le_refl _) hd
  have e2 : N.drop k = (cd N k, dp N k) :: N.drop (k + 1) := by
    rw [List.drop_eq_getElem_cons h]
    have : (cd N k, dp N k) = N[k] := by
      show ((N.getD k (0, 0)).1, (N.getD k (0, 0)).2) = _
      rw [List.getD_eq_getElem?_getD, List.getElem?_eq_getElem h]
      rfl
    rw [this]
  rw [nxd_at N h, Nat.sub_self, List.replicate_zero, List.nil_append] at e
  have e3 : tx (N.drop k) 0 = nt (cd N k, dp N k) (nxd (N.drop (k + 1)) 0) ++ tx (N.drop (k + 1)) 0 := by
    rw [e2]
    rfl
  rw [e3] at e
  refine ⟨?_, ?_, ?_, fun hl => ?_⟩
  · rw [e]
    show (tx (N.take k) (dp N k) ++ _).getD ((tx (N.take k) (dp N k)).length + 0) 0 = _
    rw [getD_app2]
    rfl
  · rw [e, List.length_append, List.length_append, len_nt]
    show (tx (N.take k) (dp N k)).length + _ < (tx (N.take k) (dp N k)).length + (1 + lb (cd N k) + (dp N k + lb (cd N k) - _) + _)
    omega
  · unfold pl
    rw [take_sN N h, tx_snoc, List.length_append, len_nt]
    show (tx (N.take k) (dp N k)).length + (1 + lb (cd N k) + (dp N k + lb (cd N k) - (dp N k + lb (cd N k)))) = _
    omega
  · rw [e]
    show (tx (N.take k) (dp N k) ++ _).getD ((tx (N.take k) (dp N k)).length + 1) 0 = _
    rw [getD_app2]
    unfold nt
    rw [if_pos hl]
    rfl
theorem pl_end (N : Nd) : pl N N.length 0 = (tx N 0).length := by
  unfold pl
  rw [List.take_of_length_le (Nat.le_refl _)]
/-- the first node behind j, among the first k, that is not deeper -/
def fstB (N : Nd) (j k : Nat) : Option Nat := (List.range k).find? (fun i => decide (j < i ∧ dp N i ≤ dp N j))
def bhk (N : Nd) (k j : Nat) : Option Nat := (fstB N j k).bind (fun i => if dp N i = dp N j then some i else none)
def ctk (N : Nd) (k j : Nat) : Option Nat := if j + 1 < k ∧ dp N j < dp N (j + 1) then some (j + 1) else none
theorem fstB_s (N : Nd) (j k : Nat) : fstB N j (k + 1) = (fstB N j k).or (if j < k ∧ dp N k ≤ dp N j then some k else none) := by
  unfold fstB
  rw [List.range_succ, List.find?_append]
  congr 1
  by_cases h : j < k ∧ dp N k ≤ dp N j
  · simp [h]
  · simp [h]
theorem fstB_none {N : Nd} {j k : Nat} : fstB N j k = none ↔ ∀ i, j < i → i < k → dp N j < dp N i := by
  unfold fstB
  rw [List.find?_eq_none]
  constructor
  · intro h i h1 h2
    have := h i (List.mem_range.mpr h2)
    simp at this
    exact this h1
  · intro h i h1
    simp
    intro h2
    exact h i h2 (List.mem_range.mp h1)
theorem bhk_s {N : Nd} {j k : Nat} (hj : j < k) : bhk N (k + 1) j = if dp N k = dp N j ∧ fstB N j k = none then some k else bhk N k j := by
  unfold bhk
  rw [fstB_s]
  cases h : fstB N j k with
  | none =>
    by_cases h3 : dp N k = dp N j
    · rw [if_pos (c := dp N k = dp N j ∧ _) ⟨h3, rfl⟩, if_pos (by omega)]
      simp [h3]
    · rw [if_neg (c := dp N k = dp N j ∧ _) (fun q => h3 q.1)]
      by_cases h4 : j < k ∧ dp N k ≤ dp N j
      · rw [if_pos h4]
        simp [h3]
      · rw [if_neg h4]
        rfl
  | some a =>
    rw [if_neg (c := dp N k = dp N j ∧ _) (fun q => by cases q.2)]
    rfl
theorem fstB_self (N : Nd) (k : Nat) : fstB N k (k + 1) = none := fstB_none.mpr (fun i h1 h2 => by omega)
theorem bhk_self (N : Nd) (k : Nat) : bhk N (k + 1) k = none := by
  unfold bhk
  rw [fstB_self]
  rfl
theorem ctk_s {N : Nd} {j k : Nat} (hj : j < k) : ctk N (k + 1) j = if j + 1 = k ∧ dp N j < dp N k then some k else ctk N k j := by
  unfold ctk
  by_cases h : j + 1 = k
  · subst h
    by_cases h2 : dp N j < dp N (j + 1)
    · rw [if_pos ⟨by omega, h2⟩, if_pos ⟨rfl, h2⟩]
    · rw [if_neg (fun q => h2 q.2), if_neg (fun q => h2 q.2), if_neg (fun q => h2 q.2)]
  · rw [if_neg (c := j + 1 = k ∧ dp N j < dp N k) (fun q => h q.1)]
    by_cases h2 : dp N j < dp N (j + 1)
    · rw [if_pos ⟨by omega, h2⟩, if_pos ⟨by omega, h2⟩]
    · rw [if_neg (fun q => h2 q.2), if_neg (fun q => h2 q.2)]
theorem ctk_self (N : Nd) (k : Nat) : ctk N (k + 1) k = none := by
  unfold ctk
  rw [if_neg (by omega)]
theorem behG_fst (N : Nd) (j : Nat) : ∀ (g i : Nat), N.length < i + g → j < i → (∀ x, j < x → x < i → dp N j < dp N x) → behG N j g i = bhk N N.length j := by
  intro g
  induction g with
  | zero =>
    intro i h1 h2 h3
    have : fstB N j N.length = none := fstB_none.mpr (fun x a b => h3 x a (by omega))
    unfold behG bhk
    rw [this]
    rfl
  | succ g ih =>
    intro i h1 h2 h3
    unfold behG
    by_cases hi : i < N.length
    · rw [if_pos hi]
      by_cases hd : dp N i ≤ dp N j
      · rw [if_pos hd]
        have : fstB N j N.length = some i := by
          unfold fstB
          rw [List.find?_range_eq_some]
          refine ⟨by simp [h2, hd], List.mem_range.mpr hi, fun x hx => ?_⟩
          simp
          rcases Nat.lt_or_ge j x with q | q
          · exact Or.inr (h3 x q hx)
          · exact Or.inl q
        unfold bhk
        rw [this]
        rfl
      · rw [if_neg hd]
        refine ih (i + 1) (by omega) (by omega) (fun x a b => ?_)
        rcases Nat.lt_or_ge x i with q | q
        · exact h3 x a q
        · rw [show x = i by omega]
          omega
    · rw [if_neg hi]
      have : fstB N j N.length = none := fstB_none.mpr (fun x a b => h3 x a (by omega))
      unfold bhk
      rw [this]
      rfl
theorem behN_k (N : Nd) (j : Nat) : behN N j = bhk N N.length j := behG_fst N j _ _ (by omega) (by omega) (fun x a b => by omega)
theorem contN_k (N : Nd) (j : Nat) : contN N j = ctk N N.length j := rfl
/-- the last one before node k, at depth d -/
def PV (N : Nd) (k d : Nat) (o : Option Nat) : Prop := match o with
  | some a => a < k ∧ dp N a = d ∧ ∀ i, a < i → i < k → d < dp N i
  | none => k = 0 ∨ dp N (k - 1) < d
theorem PV_next {N : Nd} {k d : Nat} {o : Option Nat} (h : PV N k d o) (hk : dp N k = d) {j : Nat} (hj : j < k) : bhk N (k + 1) j = if o = some j then some k else bhk N k j := by
  rw [bhk_s hj]
  cases o with
  | none =>
    rw [if_neg (c := none = some j) (by simp), if_neg]
    rintro ⟨h1, h2⟩
    have h2 := fstB_none.mp h2
    have h : k = 0 ∨ dp N (k - 1) < d := h
    rcases Nat.lt_or_ge j (k - 1) with q | q
    · have := h2 (k - 1) q (by omega)
      omega
    · have : j = k - 1 := by omega
      subst this
      omega
  | some a =>
    obtain ⟨h1, h2, h3⟩ : a < k ∧ dp N a = d ∧ ∀ i, a < i → i < k → d < dp N i := h
    by_cases e : a = j
    · subst e
      rw [if_pos (c := some a = some a) rfl, if_pos ⟨by omega, fstB_none.mpr (fun i a b => by have := h3 i a b; omega)⟩]
    · rw [if_neg (c := some a = some j) (by simpa using e), if_neg]
      rintro ⟨q1, q2⟩
      have q2 := fstB_none.mp q2
      rcases Nat.lt_or_ge a j with q | q
      · have := h3 j q hj
        omega
      · have := q2 a (by omega) h1
        omega
theorem PV_child {N : Nd} {k d : Nat} {o : Option Nat} (h : PV N k d o) (hk : dp N k = d) {j : Nat} (hj : j < k) : ctk N (k + 1) j = if o = none ∧ j + 1 = k then some k else ctk N k j := by
  rw [ctk_s hj]
  cases o with
  | none =>
    have h : k = 0 ∨ dp N (k - 1) < d := h
    by_cases e : j + 1 = k
    · subst e
      rw [Nat.add_sub_cancel] at h
      rw [if_pos ⟨rfl, by omega⟩, if_pos ⟨rfl, rfl⟩]
    · rw [if_neg (fun q => e q.1), if_neg (fun q => e q.2)]
  | some a =>
    obtain ⟨h1, h2, h3⟩ : a < k ∧ dp N a = d ∧ ∀ i, a < i → i < k → d < dp N i := h
    rw [if_neg (c := some a = none ∧ _) (by simp), if_neg]
    rintro ⟨q1, q2⟩
    rcases Nat.lt_or_ge a j with q | q
    · have := h3 j q hj
      omega
    · have : a = j := by omega
      subst this
      omega
/-- who is above at depth e -/
def AV (N : Nd) (k e a : Nat) : Prop := a < k ∧ dp N a = e ∧ ∀ i, a < i → i < k → e < dp N i
theorem AV_last {N : Nd} {k e a : Nat} (h : AV N k e a) (hk : dp N (k - 1) < e + 1) : a + 1 = k := by
  rcases Nat.lt_or_ge a (k - 1) with q | q
  · have := h.2.2 (k - 1) q (by omega)
    omega
  · have := h.1
    omega
