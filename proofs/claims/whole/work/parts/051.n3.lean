/-! definitions: rests (what, content, mark), texts, reading, the system -/
abbrev Rt : Type := Nat × Nat × Nat
def isE (r : Rt) : Bool := decide (r.1 = 0 ∨ 10 ≤ r.1)
def okR (r : Rt) : Prop := (r.1 = 0 ∨ (1 ≤ r.1 ∧ r.1 ≤ 5) ∨ (10 ≤ r.1 ∧ r.1 < 16)) ∧ r.2.1 < 6 ∧ r.2.2 ≤ 2 ∧ (isE r = true → r.2.2 = 0)
def mkx (m : Nat) : List Nat := if m = 1 then [42] else if m = 2 then [63] else []
/-- the text of a rest's own item, or of its end, with the bar behind it -/
def itx (r : Rt) : List Nat := if r.1 = 0 then [124] else if r.1 = 1 then 35 :: mkx r.2.2 else if r.1 < 10 then [r.1 + 95, 91, r.2.1 + 65, 93] ++ mkx r.2.2 else [r.1 + 55, 124]
def ptx (D : List Rt) : List Nat := D.flatMap itx
theorem ptx_app (A B : List Rt) : ptx (A ++ B) = ptx A ++ ptx B := List.flatMap_append
theorem ptx_one (r : Rt) : ptx [r] = itx r := by simp [ptx]
def nen (D : List Rt) : Nat := (D.filter isE).length
def nit (D : List Rt) : Nat := (D.filter (fun r => !isE r)).length
theorem nen_app (A B : List Rt) : nen (A ++ B) = nen A + nen B := by simp [nen]
theorem nit_app (A B : List Rt) : nit (A ++ B) = nit A + nit B := by simp [nit]
theorem nen_E {r : Rt} (h : isE r = true) : nen [r] = 1 ∧ nit [r] = 0 := by simp [nen, nit, h]
theorem nen_I {r : Rt} (h : isE r = false) : nen [r] = 0 ∧ nit [r] = 1 := by simp [nen, nit, h]
def clo (D : List Rt) (tl : Bool) : List Rt := if tl then D else D ++ [(0, 0, 0)]
def setm (D : List Rt) (m : Nat) : List Rt := match D.getLast? with
  | none => D
  | some x => D.dropLast ++ [(x.1, x.2.1, m)]
theorem setm_app (D : List Rt) (w c x m : Nat) : setm (D ++ [(w, c, x)]) m = D ++ [(w, c, m)] := by
  unfold setm
  simp
/-- reading a definition: fuel, place, the rests so far, may a mark stand here, is there a tail -/
def dScan (T : List Nat) : Nat → Nat → List Rt → Bool → Bool → Nat ⊕ List Rt
  | 0, i, _, _, _ => .inl i
  | g + 1, i, D, mq, tl => if T.length ≤ i then .inr (clo D tl)
    else if T.getD i 0 = 124 ∧ nen (clo D tl) < 8 then dScan T g (i + 1) (clo D tl) false false
    else if tl = true then .inl i
    else if mq = true ∧ (T.getD i 0 = 42 ∨ T.getD i 0 = 63) then dScan T g (i + 1) (setm D (if T.getD i 0 = 42 then 1 else 2)) false false
    else if isNam (T.getD i 0) = true then dScan T g (i + 1) (D ++ [(T.getD i 0 - 55, 0, 0)]) false true
    else if nit D < 16 ∧ T.getD i 0 = 35 then dScan T g (i + 1) (D ++ [(1, 0, 0)]) true false
    else if nit D < 16 ∧ isLab (T.getD i 0) = true then (if T.getD (i + 1) 0 ≠ 91 then .inl (i + 1) else if isNam (T.getD (i + 2) 0) = false then .inl (i + 2) else if T.getD (i + 3) 0 ≠ 93 then .inl (i + 3) else
      dScan T g (i + 4) (D ++ [(T.getD i 0 - 95, T.getD (i + 2) 0 - 65, 0)]) true false)
    else .inl i
/-- a definition as it is kept -/
def okD (D : List Rt) : Prop := (∀ r ∈ D, okR r) ∧ nit D ≤ 16 ∧ nen D ≤ 8 ∧ ∃ P x, D = P ++ [x] ∧ isE x = true
theorem lt_of_getD {T : List Nat} {i c : Nat} (h : T.getD i 0 = c) (hc : c ≠ 0) : i < T.length := by
  rcases Nat.lt_or_ge i T.length with q | q
  · exact q
  · rw [List.getD_eq_getElem?_getD, List.getElem?_eq_none q] at h
    exact absurd h.symm hc
theorem isNam_r {c : Nat} (h : isNam c = true) : 65 ≤ c ∧ c ≤ 70 := of_decide_eq_true h
theorem isLab_r {c : Nat} (h : isLab c = true) : 97 ≤ c ∧ c ≤ 100 := of_decide_eq_true h
theorem nit_I {D : List Rt} {r : Rt} (h : isE r = false) : nit (D ++ [r]) = nit D + 1 ∧ nen (D ++ [r]) = nen D := by
  rw [nit_app, nen_app, (nen_I h).1, (nen_I h).2]
  exact ⟨rfl, rfl⟩
theorem nit_E {D : List Rt} {r : Rt} (h : isE r = true) : nit (D ++ [r]) = nit D ∧ nen (D ++ [r]) = nen D + 1 := by
  rw [nit_app, nen_app, (nen_E h).1, (nen_E h).2]
  exact ⟨rfl, rfl⟩
theorem clo_ok {D : List Rt} {tl : Bool} (h : ∀ r ∈ D, okR r) (hl : tl = true → ∃ P x, D = P ++ [x] ∧ isE x = true) : (∀ r ∈ clo D tl, okR r) ∧ nit (clo D tl) = nit D ∧ ∃ P x, clo D tl = P ++ [x] ∧ isE x = true := by
  cases tl with
  | true => exact ⟨h, rfl, hl rfl⟩
  | false =>
    refine ⟨fun r hr => ?_, (nit_E rfl).1, D, _, rfl, rfl⟩
    rcases List.mem_append.mp (show r ∈ D ++ [(0, 0, 0)] from hr) with q | q
    · exact h r q
    · rw [List.mem_singleton.mp q]
      exact ⟨Or.inl rfl, by decide, by decide, fun _ => rfl⟩
theorem mem_snoc {D : List Rt} {x : Rt} (h : ∀ r ∈ D, okR r) (hx : okR x) : ∀ r ∈ D ++ [x], okR r := by
  intro r hr
  rcases List.mem_append.mp hr with q | q
  · exact h r q
  · rw [List.mem_singleton.mp q]
    exact hx
theorem itx_mark {w c x : Nat} (h1 : 1 ≤ w) (h5 : w ≤ 5) (hx : x = 42 ∨ x = 63) : itx (w, c, if x = 42 then 1 else 2) = itx (w, c, 0) ++ [x] := by
  rcases hx with e | e <;> subst e <;> rcases Nat.lt_or_ge 1 w with e2 | e2
  · simp [itx, mkx, show w ≠ 0 by omega, show w ≠ 1 by omega, show w < 10 by omega]
  · simp [itx, mkx, show w = 1 by omega]
  · simp [itx, mkx, show w ≠ 0 by omega, show w ≠ 1 by omega, show w < 10 by omega]
  · simp [itx, mkx, show w = 1 by omega]
theorem itx_tail {x : Nat} (h1 : 65 ≤ x) : itx (x - 55, 0, 0) = [x, 124] := by
  obtain ⟨y, rfl⟩ : ∃ y, x = y + 65 := ⟨x - 65, by omega⟩
  simp [itx, show y + 65 - 55 = y + 10 by omega]
theorem itx_lab {x y : Nat} (h1 : 97 ≤ x) (h2 : x ≤ 100) (h3 : 65 ≤ y) : itx (x - 95, y - 65, 0) = [x, 91, y, 93] := by
  obtain ⟨u, rfl⟩ : ∃ u, x = u + 97 := ⟨x - 97, by omega⟩
  obtain ⟨v, rfl⟩ : ∃ v, y = v + 65 := ⟨y - 65, by omega⟩
  simp [itx, mkx, show u + 97 - 95 = u + 2 by omega, show u + 2 < 10 by omega]
theorem dScan_ok (T hd : List Nat) : ∀ (g i : Nat) (D M : List Rt) (mq tl : Bool), i ≤ T.length → T.take i ++ (if tl then [124] else []) = hd ++ ptx D → (∀ r ∈ D, okR r) → nit D ≤ 16 → nen (clo D tl) ≤ 8 → (tl = true → ∃ P x, D = P ++ [x] ∧ isE x = true) → (mq = true → tl = false ∧ ∃ P w c, D = P ++ [(w, c, 0)] ∧ 1 ≤ w ∧ w ≤ 5 ∧ c < 6) → dScan T g i D mq tl = .inr M → T ++ [124] = hd ++ ptx M ∧ okD M := by
  intro g
  induction g with
  | zero =>
    intro i D M mq tl _ _ _ _ _ _ _ h
    cases h
  | succ g ih =>
    intro i D M mq tl hi ht hk hit hen htl hmk h
    obtain ⟨c1, c2, c3⟩ := clo_ok hk htl
    have hclo : T.take i ++ [124] = hd ++ ptx (clo D tl) := by
      cases tl with
      | true => exact ht
      | false =>
        show _ = hd ++ ptx (D ++ [(0, 0, 0)])
        rw [ptx_app, ← List.append_assoc, ← ht]
        simp [ptx_one, itx]
    unfold dScan at h
    split at h
    · next h1 =>
      cases h
      rw [List.take_of_length_le h1] at hclo
      exact ⟨hclo, c1, by omega, hen, c3⟩
    next h1 =>
    have hlt : i < T.length := by omega
    split at h
    · next h2 =>
      refine ih (i + 1) _ M false false (by omega) ?_ c1 (by omega) ?_ (fun e => by cases e) (fun e => by cases e) h
      · rw [take_s hlt, h2.1]
        simpa using hclo
      · show nen (clo D tl ++ [(0, 0, 0)]) ≤ 8
        rw [(nit_E rfl).2]
        omega
    next h2 =>
    split at h
    · cases h
    next h3 =>
    have h3 : tl = false := by simpa using h3
    subst h3
    have ht : T.take i = hd ++ ptx D := by simpa using ht
    have hen' : nen D + 1 ≤ 8 := by
      have e : nen (clo D false) = nen D + 1 := (nit_E rfl).2
      omega
    have hI : ∀ r : Rt, isE r = false → nen (clo (D ++ [r]) false) ≤ 8 := by
      intro r hr
      show nen (D ++ [r] ++ [(0, 0, 0)]) ≤ 8
      rw [(nit_E rfl).2, (nit_I hr).2]
      exact hen'
    split at h
    · next h4 =>
      obtain ⟨-, P, w, c, rfl, w1, w5, c6⟩ := hmk h4.1
      rw [setm_app] at h
      have hE : isE (w, c, 0) = false := by simp [isE]; omega
      have hE2 : ∀ m, isE (w, c, m) = false := fun m => by simp [isE]; omega
      refine ih (i + 1) _ M false false (by omega) ?_ ?_ ?_ ?_ (fun e => by cases e) (fun e => by cases e) h
      · rw [take_s hlt, ht]
        rw [ptx_app, ptx_app, ptx_one, ptx_one]
        rw [itx_mark w1 w5 h4.2]
        simp
      · refine mem_snoc (fun r hr => hk r (List.mem_append_left _ hr)) ⟨Or.inr (Or.inl ⟨w1, w5⟩), c6, by show (if _ then 1 else 2) ≤ 2; split <;> omega, fun e => ?_⟩
        rw [hE2] at e
        cases e
      · rw [(nit_I (hE2 _)).1]
        rw [(nit_I hE).1] at hit
        exact hit
      · show nen (P ++ [_] ++ [(0, 0, 0)]) ≤ 8
        rw [(nit_E rfl).2, (nit_I (hE2 _)).2]
        rw [(nit_I hE).2] at hen'
        exact hen'
    next h4 =>
    split at h
    · next h5 =>
      have h5' := isNam_r h5
      have hE : isE (T.getD i 0 - 55, 0, 0) = true := by simp only [isE, decide_eq_true_eq]; omega
      refine ih (i + 1) _ M false true (by omega) ?_ ?_ ?_ ?_ (fun _ => ⟨D, _, rfl, hE⟩) (fun e => by cases e) h
      · rw [take_s hlt, ht, ptx_app, ptx_one]
        rw [itx_tail h5'.1]
        simp
      · exact mem_snoc hk ⟨Or.inr (Or.inr (by show 10 ≤ T.getD i 0 - 55 ∧ T.getD i 0 - 55 < 16; omega)), Nat.succ_pos _, Nat.zero_le _, fun _ => rfl⟩
      · rw [(nit_E hE).1]
        exact hit
      · show nen (D ++ [_]) ≤ 8
        rw [(nit_E hE).2]
        exact hen'
    next h5 =>
    split at h
    · next h6 =>
      refine ih (i + 1) _ M true false (by omega) ?_ (mem_snoc hk ⟨Or.inr (Or.inl (by decide)), by decide, by decide, fun _ => rfl⟩) ?_ (hI _ rfl) (fun e => by cases e) (fun _ => ⟨rfl, D, 1, 0, rfl, by decide⟩) h
      · rw [take_s hlt, ht, ptx_app, ptx_one, h6.2]
        simp [itx, mkx]
      · rw [(nit_I rfl).1]
        exact h6.1
    next h6 =>
    split at h
    · next h7 =>
      have h7' := isLab_r h7.2
      split at h
      · cases h
      next h8 =>
      split at h
      · cases h
      next h9 =>
      split at h
      · cases h
      next h10 =>
      have h8 : T.getD (i + 1) 0 = 91 := Classical.not_not.mp h8
      have h9 : isNam (T.getD (i + 2) 0) = true := by simpa using h9
      have h9' := isNam_r h9
      have h10 : T.getD (i + 3) 0 = 93 := Classical.not_not.mp h10
      have hl3 := lt_of_getD h10 (by decide)
      have hE : isE (T.getD i 0 - 95, T.getD (i + 2) 0 - 65, 0) = false := by simp only [isE, decide_eq_false_iff_not]; omega
      refine ih (i + 4) _ M true false (by omega) ?_ (mem_snoc hk ⟨Or.inr (Or.inl (by show 1 ≤ T.getD i 0 - 95 ∧ T.getD i 0 - 95 ≤ 5; omega)), by show T.getD (i + 2) 0 - 65 < 6; omega, Nat.zero_le _, fun _ => rfl⟩) ?_ (hI _ hE) (fun e => by cases e) (fun _ => ⟨rfl, D, _, _, rfl, by omega, by omega, by omega⟩) h
      · have e1 : T.take (i + 4) = T.take i ++ [T.getD i 0, 91, T.getD (i + 2) 0, 93] := by
          rw [show i + 4 = i + 3 + 1 from rfl, take_s hl3, show i + 3 = i + 2 + 1 from rfl, take_s (show i + 2 < T.length by omega), show i + 2 = i + 1 + 1 from rfl, take_s (show i + 1 < T.length by omega), take_s hlt, h8, show i + 1 + 1 + 1 = i + 3 from rfl, h10]
          simp
        rw [e1, ht, ptx_app, ptx_one, itx_lab h7'.1 h7'.2 h9'.1]
        simp
      · rw [(nit_I hE).1]
        exact h7.1
    · cases h
/-- the items that a text has -/
def isIt (c : Nat) : Bool := decide (c = 35) || isLab c
def nIt (T : List Nat) : Nat := (T.filter isIt).length
theorem nIt_app (A B : List Nat) : nIt (A ++ B) = nIt A + nIt B := by simp [nIt]
theorem nIt_itx {r : Rt} (h : okR r) : nIt (itx r) = nit [r] := by
  obtain ⟨w, c, m⟩ := r
  obtain ⟨h1, h2, h3, -⟩ := h
  have h1 : w = 0 ∨ (1 ≤ w ∧ w ≤ 5) ∨ (10 ≤ w ∧ w < 16) := h1
  have h2 : c < 6 := h2
  have hm : ∀ m, nIt (mkx m) = 0 := by
    intro m
    unfold mkx
    split
    · rfl
    · split <;> rfl
  unfold itx
  rcases h1 with e | e | e
  · subst e
    rfl
  · rw [(nen_I (show isE (w, c, m) = false by simp [isE]; omega)).2, if_neg (by show ¬ w = 0; omega)]
    split
    · rw [show (35 :: mkx m) = [35] ++ mkx m from rfl, nIt_app, hm]
      rfl
    · next q =>
      have q : ¬ w = 1 := q
      rw [if_pos (by show w < 10; omega), nIt_app, hm]
      have hw : isIt (w + 95) = true := by simp [isIt, isLab]; omega
      have hc : isIt (c + 65) = false := by simp [isIt, isLab]; omega
      simp [nIt, hw, hc]
      decide
  · rw [(nen_E (show isE (w, c, m) = true by simp [isE]; omega)).2, if_neg (by show ¬ w = 0; omega), if_neg (by show ¬ w = 1; omega), if_neg (by show ¬ w < 10; omega)]
    have hc : isIt (w + 55) = false := by simp [isIt, isLab]; omega
    simp [nIt, hc]
    decide
theorem nIt_ptx : ∀ (D : List Rt), (∀ r ∈ D, okR r) → nIt (ptx D) = nit D
  | [], _ => rfl
  | r :: D, h => by
    rw [show ptx (r :: D) = itx r ++ ptx D from List.flatMap_cons, nIt_app, nIt_itx (h r List.mem_cons_self), nIt_ptx D (fun q hq => h q (List.mem_cons_of_mem _ hq)), show r :: D = [r] ++ D from rfl, nit_app]
theorem nIt_text {T : List Nat} {D : List Rt} {a : Nat} (h : T ++ [124] = [a, 61] ++ ptx D) (ha : isNam a = true) (hD : okD D) : nIt T = nit D := by
  have e : nIt (T ++ [124]) = nIt ([a, 61] ++ ptx D) := by rw [h]
  rw [nIt_app, nIt_app, nIt_ptx D hD.1] at e
  have ha' := isNam_r ha
  have h2 : nIt [a, 61] = 0 := by
    have h3 : isIt a = false := by simp [isIt, isLab]; omega
    simp [nIt, h3]
    decide
  rw [h2] at e
  have h4 : nIt [124] = 0 := rfl
  omega
/-- the rests of a definition, each with its name where it is a whole alternative -/
def tg (n : Nat) : Bool → List Rt → List (Rt × Nat)
  | _, [] => []
  | b, r :: D => (r, if b then n else 99) :: tg n (isE r) D
def st (b : Bool) (D : List Rt) : Bool := match D.getLast? with
  | none => b
  | some x => isE x
theorem tg_snoc (n : Nat) (x : Rt) : ∀ (b : Bool) (D : List Rt), tg n b (D ++ [x]) = tg n b D ++ [(x, if st b D then n else 99)]
  | b, [] => rfl
  | b, [y] => rfl
  | b, y :: z :: D => by
    show (y, _) :: tg n (isE y) (z :: D ++ [x]) = (y, _) :: (tg n (isE y) (z :: D) ++ _)
    rw [tg_snoc n x (isE y) (z :: D)]
    rw [show st b (y :: z :: D) = st (isE y) (z :: D) by unfold st; rw [List.getLast?_cons_cons, List.getLast?_eq_some_getLast (show z :: D ≠ [] by simp)]]
theorem st_snoc (b : Bool) (D : List Rt) (x : Rt) : st b (D ++ [x]) = isE x := by
  unfold st
  simp
theorem tg_len (n : Nat) : ∀ (b : Bool) (D : List Rt), (tg n b D).length = D.length
  | b, [] => rfl
  | b, y :: D => by
    show (tg n (isE y) D).length + 1 = _
    rw [tg_len]
    rfl
theorem tg_mem {n : Nat} {e : Rt × Nat} : ∀ {b : Bool} {D : List Rt}, e ∈ tg n b D → e.1 ∈ D
  | b, y :: D, h => by
    rcases List.mem_cons.mp (show e ∈ (y, _) :: tg n (isE y) D from h) with q | q
    · rw [q]
      exact List.mem_cons_self
    · exact List.mem_cons_of_mem _ (tg_mem q)
def allD (D : Nat → List Rt) (n : Nat) : List (Rt × Nat) := (List.range n).flatMap (fun k => tg k true (D k))
theorem allD_s (D : Nat → List Rt) (n : Nat) : allD D (n + 1) = allD D n ++ tg n true (D n) := by
  unfold allD
  rw [List.range_succ, List.flatMap_append]
  simp
def Sof (L : List (Rt × Nat)) : Rs := (L.length, fun r => (L.getD r ((0, 0, 0), 99)).1.1, fun r => (L.getD r ((0, 0, 0), 99)).1.2.1, fun r => (L.getD r ((0, 0, 0), 99)).1.2.2, fun r => (L.getD r ((0, 0, 0), 99)).2)
def SD (D : Nat → List Rt) : Rs := Sof (allD D 6)
def sumN (f : Nat → Nat) (n : Nat) : Nat := ((List.range n).map f).sum
theorem sumN_s (f : Nat → Nat) (n : Nat) : sumN f (n + 1) = sumN f n + f n := by
  unfold sumN
  rw [List.range_succ, List.map_append, List.sum_append]
  simp
theorem len_ni (D : List Rt) : D.length = nit D + nen D := by
  induction D with
  | nil => rfl
  | cons r D ih =>
    rw [show r :: D = [r] ++ D from rfl, nit_app, nen_app, List.length_append, ih]
    cases h : isE r with
    | true =>
      rw [(nen_E h).1, (nen_E h).2, List.length_singleton]
      omega
    | false =>
      rw [(nen_I h).1, (nen_I h).2, List.length_singleton]
      omega
/-- all definitions, as they are kept -/
def okDs (D : Nat → List Rt) : Prop := (∀ n, n < 6 → D n = [] ∨ okD (D n)) ∧ sumN (fun n => nit (D n)) 6 ≤ 16
theorem allD_len {D : Nat → List Rt} (h : ∀ n, n < 6 → D n = [] ∨ okD (D n)) : ∀ n, n ≤ 6 → (allD D n).length ≤ sumN (fun n => nit (D n)) n + 8 * n
  | 0, _ => Nat.zero_le _
  | n + 1, hn => by
    rw [allD_s, List.length_append, sumN_s, tg_len, len_ni]
    have ih := allD_len h n (by omega)
    have : nen (D n) ≤ 8 := by
      rcases h n (by omega) with e | e
      · rw [e]
        exact Nat.zero_le _
      · exact e.2.2.1
    omega
theorem allD_mem {D : Nat → List Rt} (h : ∀ n, n < 6 → D n = [] ∨ okD (D n)) : ∀ n, n ≤ 6 → ∀ e ∈ allD D n, okR e.1
  | 0, _, e, he => by cases he
  | n + 1, hn, e, he => by
    rw [allD_s] at he
    rcases List.mem_append.mp he with q | q
    · exact allD_mem h n (by omega) e q
    · rcases h n (by omega) with e2 | e2
      · rw [e2] at q
        cases q
      · exact e2.1 _ (tg_mem q)
theorem allD_last {D : Nat → List Rt} (h : ∀ n, n < 6 → D n = [] ∨ okD (D n)) : ∀ n, n ≤ 6 → allD D n = [] ∨ ∃ P x, allD D n = P ++ [x] ∧ isE x.1 = true
  | 0, _ => Or.inl rfl
  | n + 1, hn => by
    rw [allD_s]
    rcases h n (by omega) with e | e
    · rw [e]
      show allD D n ++ [] = [] ∨ ∃ P x, allD D n ++ [] = P ++ [x] ∧ isE x.1 = true
      rw [List.append_nil]
      exact allD_last h n (by omega)
    · obtain ⟨-, -, -, P, x, e1, e2⟩ := e
      right
      rw [e1, tg_snoc, ← List.append_assoc]
      exact ⟨_, _, rfl, e2⟩
theorem okS_SD {D : Nat → List Rt} (h : okDs D) : okS (SD D) := by
  have hl := allD_len h.1 6 (by omega)
  have h2 := h.2
  refine ⟨by show (allD D 6).length ≤ 64; omega, fun r hr => ?_⟩
  have hr : r < (allD D 6).length := hr
  have hm := allD_mem h.1 6 (by omega) _ (List.getElem_mem hr)
  have e : (allD D 6).getD r ((0, 0, 0), 99) = (allD D 6)[r] := by
    rw [List.getD_eq_getElem?_getD, List.getElem?_eq_getElem hr]
    rfl
  obtain ⟨m1, m2, m3, m4⟩ := hm
  show (((allD D 6).getD r ((0, 0, 0), 99)).1.1 = 0 ∨ _ ∨ _) ∧ ((allD D 6).getD r ((0, 0, 0), 99)).1.2.1 < 6 ∧ ((allD D 6).getD r ((0, 0, 0), 99)).1.2.2 ≤ 2
  show (((allD D 6).getD r ((0, 0, 0), 99)).1.1 = 0 ∨ (1 ≤ ((allD D 6).getD r ((0, 0, 0), 99)).1.1 ∧ ((allD D 6).getD r ((0, 0, 0), 99)).1.1 ≤ 5 ∧ r + 1 < (allD D 6).length) ∨ (10 ≤ ((allD D 6).getD r ((0, 0, 0), 99)).1.1 ∧ ((allD D 6).getD r ((0, 0, 0), 99)).1.1 < 16)) ∧ _
  rw [e]
  refine ⟨?_, m2, m3⟩
  rcases m1 with q | q | q
  · exact Or.inl q
  · refine Or.inr (Or.inl ⟨q.1, q.2, ?_⟩)
    rcases Nat.lt_or_ge (r + 1) (allD D 6).length with z | z
    · exact z
    · exfalso
      rcases allD_last h.1 6 (by omega) with y | ⟨P, x, y1, y2⟩
      · rw [y] at hr
        cases hr
      · have hlen : (allD D 6).length = P.length + 1 := by rw [y1, List.length_append]; rfl
        have : (allD D 6)[r] = x := by
          have hrP : r = P.length := by omega
          have e3 : (allD D 6)[r]? = some x := by rw [y1, hrP, List.getElem?_append_right (Nat.le_refl _), Nat.sub_self]; rfl
          rw [List.getElem?_eq_getElem hr] at e3
          exact Option.some.inj e3
        rw [this] at q
        have y2 := of_decide_eq_true y2
        omega
  · exact Or.inr (Or.inr q)
