/-! texts of hedges -/
def lb (c : Nat) : Nat := if isLab c then 1 else 0
/-- the depth behind a list of nodes -/
def nxd (N : Nd) (d : Nat) : Nat := match N with
  | [] => d
  | x :: _ => x.2
/-- what one node writes, when d is the depth behind it -/
def nt (x : Nat × Nat) (d : Nat) : List Nat := x.1 :: ((if isLab x.1 then [91] else []) ++ List.replicate (x.2 + lb x.1 - d) 93)
/-- the text of a list of nodes with depths, closed down to depth d -/
def tx : Nd → Nat → List Nat
  | [], _ => []
  | x :: r, d => nt x (nxd r d) ++ tx r d
theorem nxd_app (N M : Nd) (d : Nat) : nxd (N ++ M) d = nxd N (nxd M d) := by
  cases N <;> rfl
theorem tx_app (N M : Nd) (d : Nat) : tx (N ++ M) d = tx N (nxd M d) ++ tx M d := by
  induction N with
  | nil => rfl
  | cons x r ih =>
    show nt x (nxd (r ++ M) d) ++ tx (r ++ M) d = nt x (nxd r (nxd M d)) ++ tx r (nxd M d) ++ tx M d
    rw [ih, nxd_app, List.append_assoc]
/-- the depth to which a list of nodes may go on -/
def edp (N : Nd) : Nat := match N.getLast? with
  | none => 0
  | some x => x.2 + lb x.1
theorem edp_app (N : Nd) (x : Nat × Nat) : edp (N ++ [x]) = x.2 + lb x.1 := by
  unfold edp
  rw [List.getLast?_append]
  rfl
theorem tx_snoc (N : Nd) (x : Nat × Nat) (d : Nat) : tx (N ++ [x]) d = tx N x.2 ++ nt x d := by
  rw [tx_app]
  show _ ++ (nt x d ++ []) = _
  rw [List.append_nil]
  rfl
theorem snoc_of (N : Nd) (h : N ≠ []) : ∃ P x, N = P ++ [x] := ⟨N.dropLast, N.getLast h, (List.dropLast_concat_getLast h).symm⟩
/-- one bracket more -/
theorem tx_close (N : Nd) (d : Nat) (h : d + 1 ≤ edp N) : tx N d = tx N (d + 1) ++ [93] := by
  have hN : N ≠ [] := by
    rintro rfl
    simp [edp] at h
  obtain ⟨P, x, rfl⟩ := snoc_of N hN
  rw [edp_app] at h
  rw [tx_snoc, tx_snoc, List.append_assoc]
  congr 1
  unfold nt
  rw [show x.2 + lb x.1 - d = (x.2 + lb x.1 - (d + 1)) + 1 by omega, List.replicate_succ']
  simp
/-- a list of nodes is that of a hedge -/
def okN : Nat → Nd → Prop
  | _, [] => True
  | m, x :: r => x.2 ≤ m ∧ isNod x.1 = true ∧ okN (x.2 + lb x.1) r
theorem okN_snoc (x : Nat × Nat) : ∀ (N : Nd) (m : Nat), okN m (N ++ [x]) ↔ okN m N ∧ x.2 ≤ (if N = [] then m else edp N) ∧ isNod x.1 = true
  | [], m => by simp [okN]
  | [y], m => by simp [okN, edp, and_assoc]
  | y :: z :: r, m => by
    have ih := okN_snoc x (z :: r) (y.2 + lb y.1)
    rw [if_neg (by simp)] at ih
    show y.2 ≤ m ∧ isNod y.1 = true ∧ okN _ (z :: r ++ [x]) ↔ _
    rw [ih, if_neg (by simp)]
    have e : edp (y :: z :: r) = edp (z :: r) := by
      unfold edp
      simp [List.getLast?_cons_cons]
    rw [e]
    show _ ↔ (y.2 ≤ m ∧ isNod y.1 = true ∧ okN _ (z :: r)) ∧ _
    simp only [and_assoc]
theorem okN_snoc0 {N : Nd} {x : Nat × Nat} : okN 0 (N ++ [x]) ↔ okN 0 N ∧ x.2 ≤ edp N ∧ isNod x.1 = true := by
  rw [okN_snoc]
  by_cases h : N = []
  · subst h
    rfl
  · rw [if_neg h]
theorem okN_app {N M : Nd} (h : okN 0 (N ++ M)) : okN 0 N := by
  induction M generalizing N with
  | nil => simpa using h
  | cons x r ih =>
    rw [show N ++ x :: r = (N ++ [x]) ++ r by simp] at h
    exact (okN_snoc0.mp (ih h)).1
theorem nod_br {c : Nat} (h : isNod c = true) : c ≠ 91 ∧ c ≠ 93 ∧ c < 127 ∧ 32 ≤ c := by
  simp [isNod, isDig, isLab] at h
  omega
theorem nNod_app (A B : List Nat) : nNod (A ++ B) = nNod A + nNod B := by
  simp [nNod]
theorem nNod_nt {x : Nat × Nat} (h : isNod x.1 = true) (d : Nat) : nNod (nt x d) = 1 := by
  unfold nt nNod
  rw [List.filter_cons_of_pos h, List.filter_append]
  have h1 : (List.replicate (x.2 + lb x.1 - d) 93).filter isNod = [] := by
    rw [List.filter_eq_nil_iff]
    intro a ha
    rw [List.eq_of_mem_replicate ha]
    decide
  rw [h1]
  by_cases hl : isLab x.1 = true
  · rw [if_pos hl]
    rfl
  · rw [if_neg hl]
    rfl
theorem nNod_tx : ∀ (N : Nd) (m d : Nat), okN m N → nNod (tx N d) = N.length
  | [], _, _, _ => rfl
  | x :: r, m, d, h => by
    show nNod (nt x (nxd r d) ++ tx r d) = r.length + 1
    rw [nNod_app, nNod_nt h.2.1, nNod_tx r _ d h.2.2]
    omega
def nlb (N : Nd) : Nat := (N.filter (fun x => isLab x.1)).length
theorem len_nt (x : Nat × Nat) (d : Nat) : (nt x d).length = 1 + lb x.1 + (x.2 + lb x.1 - d) := by
  unfold nt lb
  by_cases h : isLab x.1 = true
  · simp [h]; omega
  · simp [h]; omega
theorem nlb_cons (x : Nat × Nat) (r : Nd) : nlb (x :: r) = lb x.1 + nlb r := by
  unfold nlb lb
  by_cases h : isLab x.1 = true
  · rw [List.filter_cons_of_pos (by simpa using h), if_pos h, List.length_cons]
    omega
  · rw [List.filter_cons_of_neg (by simpa using h), if_neg h]
    omega
theorem len_tx : ∀ (N : Nd) (m d : Nat), okN m N → N ≠ [] → d ≤ edp N → (tx N d).length + d = N.length + 2 * nlb N + nxd N 0
  | [], _, _, _, h, _ => absurd rfl h
  | [x], m, d, h, _, hd => by
    show (nt x d ++ []).length + d = 1 + 2 * nlb [x] + x.2
    rw [List.append_nil, len_nt, nlb_cons]
    have : edp [x] = x.2 + lb x.1 := rfl
    rw [this] at hd
    show _ = 1 + 2 * (lb x.1 + 0) + x.2
    omega
  | x :: y :: r, m, d, h, _, hd => by
    have e : edp (x :: y :: r) = edp (y :: r) := by
      unfold edp
      simp [List.getLast?_cons_cons]
    rw [e] at hd
    have ih := len_tx (y :: r) _ d h.2.2 (by simp) hd
    show (nt x y.2 ++ tx (y :: r) d).length + d = (y :: r).length + 1 + 2 * nlb (x :: y :: r) + x.2
    rw [List.length_append, len_nt, nlb_cons]
    have h3 : y.2 ≤ x.2 + lb x.1 := h.2.2.1
    have h4 : nxd (y :: r) 0 = y.2 := rfl
    omega
theorem nlb_le (N : Nd) : nlb N ≤ N.length := List.length_filter_le _ _
theorem len_tx0 {N : Nd} (h : okN 0 N) : (tx N 0).length ≤ 3 * N.length := by
  by_cases hN : N = []
  · subst hN
    exact Nat.zero_le _
  · have h1 := len_tx N 0 0 h hN (Nat.zero_le _)
    have h2 := nlb_le N
    have h3 : nxd N 0 = 0 := by
      cases N with
      | nil => rfl
      | cons x r =>
        have : x.2 ≤ 0 := h.1
        show x.2 = 0
        omega
    omega
theorem tx_ok {N : Nd} : ∀ {m d : Nat}, okN m N → ∀ c ∈ tx N d, c < 127 := by
  induction N with
  | nil =>
    intro m d _ c hc
    cases hc
  | cons x r ih =>
    intro m d h c hc
    rcases List.mem_append.mp (show c ∈ nt x (nxd r d) ++ tx r d from hc) with h1 | h1
    · unfold nt at h1
      rcases List.mem_cons.mp h1 with e | h2
      · subst e
        exact (nod_br h.2.1).2.2.1
      · rcases List.mem_append.mp h2 with h3 | h3
        · split at h3
          · simp at h3
            omega
          · cases h3
        · rw [List.eq_of_mem_replicate h3]
          decide
    · exact ih h.2.2 c h1
theorem dp_le : ∀ (N : Nd) (m k : Nat), okN m N → k < N.length → dp N k ≤ m + k
  | [], _, _, _, h => by cases h
  | x :: r, m, 0, h, _ => h.1
  | x :: r, m, k + 1, h, hk => by
    have h1 := dp_le r _ k h.2.2 (by simpa using hk)
    have h2 := h.1
    have h3 : dp (x :: r) (k + 1) = dp r k := rfl
    have h4 : lb x.1 ≤ 1 := by unfold lb; split <;> omega
    omega
theorem cd_nod : ∀ (N : Nd) (m k : Nat), okN m N → k < N.length → isNod (cd N k) = true
  | [], _, _, _, h => by cases h
  | x :: r, m, 0, h, _ => h.2.1
  | x :: r, m, k + 1, h, hk => cd_nod r _ k h.2.2 (by simpa using hk)
theorem dp_step : ∀ (N : Nd) (m k : Nat), okN m N → k + 1 < N.length → dp N (k + 1) ≤ dp N k + lb (cd N k)
  | [], _, _, _, h => by cases h
  | [x], _, _, _, h => by simp at h
  | x :: y :: r, m, 0, h, _ => h.2.2.1
  | x :: y :: r, m, k + 1, h, hk => dp_step (y :: r) _ k h.2.2 (by simpa using hk)
/-- reading a hedge: fuel, place, depth, the nodes so far -/
def hScan (T : List Nat) : Nat → Nat → Nat → Nd → Nat ⊕ Nd
  | 0, i, _, _ => .inl i
  | g + 1, i, d, N => if T.length ≤ i then (if d = 0 then .inr N else .inl i)
    else if T.getD i 0 = 93 ∧ 0 < d then hScan T g (i + 1) (d - 1) N
    else if N.length < 12 ∧ isDig (T.getD i 0) = true then hScan T g (i + 1) d (N ++ [(T.getD i 0, d)])
    else if N.length < 12 ∧ isLab (T.getD i 0) = true then (if T.getD (i + 1) 0 = 91 then hScan T g (i + 2) (d + 1) (N ++ [(T.getD i 0, d)]) else .inl (i + 1))
    else .inl i
theorem take_s {T : List Nat} {i : Nat} (h : i < T.length) : T.take (i + 1) = T.take i ++ [T.getD i 0] := by
  rw [List.take_add_one, List.getElem?_eq_getElem h]
  simp [List.getD_eq_getElem?_getD, List.getElem?_eq_getElem h]
theorem hScan_ok (T : List Nat) : ∀ (g i d : Nat) (N M : Nd), i ≤ T.length → T.take i = tx N d → okN 0 N → d ≤ edp N → N.length ≤ 12 → hScan T g i d N = .inr M → T = tx M 0 ∧ okN 0 M ∧ M.length ≤ 12
  | 0, i, d, N, M, _, _, _, _, _, h => by cases h
  | g + 1, i, d, N, M, hi, ht, hk, hd, hl, h => by
    unfold hScan at h
    split at h
    · next h1 =>
      split at h
      · next h2 =>
        cases h
        subst h2
        rw [List.take_of_length_le h1] at ht
        exact ⟨ht, hk, hl⟩
      · cases h
    · next h1 =>
      have hlt : i < T.length := by omega
      split at h
      · next h2 =>
        refine hScan_ok T g (i + 1) (d - 1) N M (by omega) ?_ hk (by omega) hl h
        rw [take_s hlt, ht, h2.1]
        have e := tx_close N (d - 1) (by omega)
        rw [e, show d - 1 + 1 = d by omega]
      · next h2 =>
        split at h
        · next h3 =>
          have hnl : isLab (T.getD i 0) = false := by
            have := h3.2
            simp [isDig] at this
            simp [isLab]
            omega
          refine hScan_ok T g (i + 1) d _ M (by omega) ?_ (okN_snoc0.mpr ⟨hk, hd, by show (isDig _ || _) = true; rw [h3.2]; rfl⟩) ?_ (by simp; omega) h
          · rw [take_s hlt, ht, tx_snoc]
            simp only [nt, hnl, lb]
            simp
          · rw [edp_app]
            simp
        · next h3 =>
          split at h
          · next h4 =>
            split at h
            · next h5 =>
              have hlt2 : i + 1 < T.length := by
                rcases Nat.lt_or_ge (i + 1) T.length with q | q
                · exact q
                · rw [List.getD_eq_getElem?_getD, List.getElem?_eq_none q] at h5
                  cases h5
              refine hScan_ok T g (i + 2) (d + 1) _ M (by omega) ?_ (okN_snoc0.mpr ⟨hk, hd, by show (_ || isLab _) = true; rw [h4.2, Bool.or_true]⟩) ?_ (by simp; omega) h
              · rw [take_s hlt2, take_s hlt, ht, tx_snoc, h5]
                simp only [nt, h4.2, lb]
                simp
              · rw [edp_app]
                show d + 1 ≤ d + lb (T.getD i 0)
                rw [lb, if_pos h4.2]
                exact Nat.le_refl _
            · cases h
          · cases h
