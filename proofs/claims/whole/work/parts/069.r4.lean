/-! the class: a function's object; reading a function -/
def fOb : List Nat := [46, 52, 58, 64]
/-- a Function object at o -/
def isFn (mr : Nat → Nat → Option Nat) (o : Nat) : Prop := (46 ≤ o ∧ o ≤ 64) ∧ hs_kind o = (false, 2, 0) ∧ hs_kind (o + 1) = (true, 0, 6) ∧ hs_kind (o + 2) = (true, 0, 6) ∧ hs_kind (o + 3) = (true, 0, 6) ∧ hs_kind (o + 4) = (true, 0, 7) ∧ hs_kind (o + 5) = (true, 0, 80) ∧ mr o 4 = some (o + 1) ∧ mr o 5 = some (o + 2) ∧ mr o 6 = some (o + 3) ∧ mr o 7 = some (o + 4) ∧ mr o 8 = some (o + 5)
theorem isFn_of {mr : Nat → Nat → Option Nat} (hR : SR mr) {o : Nat} (h : o ∈ fOb) : isFn mr o := by
  simp only [fOb, List.mem_cons, List.not_mem_nil, or_false] at h
  rcases h with e | e | e | e <;> subst e <;> exact ⟨by decide, rfl, rfl, rfl, rfl, rfl, rfl, hR _ _ _ rfl, hR _ _ _ rfl, hR _ _ _ rfl, hR _ _ _ rfl, hR _ _ _ rfl⟩
def fp (p : Nat) : Nat := if p = 0 then 5 else fx p
theorem fp_r {p : Nat} (h : p ≤ 5) : fp p ≤ 5 ∧ (fp p < 4 ↔ 2 ≤ p) ∧ (fp p = 4 ↔ p = 1) ∧ (fp p = 5 ↔ p = 0) := by
  have : p = 0 ∨ p = 1 ∨ p = 2 ∨ p = 3 ∨ p = 4 ∨ p = 5 := by omega
  rcases this with e | e | e | e | e | e <;> subst e <;> decide
def ntk (C : List Cl) : Nat := (C.map (fun c => c.2.length)).sum
theorem ntk_app (A B : List Cl) : ntk (A ++ B) = ntk A + ntk B := by simp [ntk]
theorem ntk_one (c : Cl) : ntk [c] = c.2.length := by simp [ntk]
/-- it holds the clauses C -/
def CA (mi : Nat → Nat → Int32) (o : Nat) (C : List Cl) : Prop := mi o 3 = nI C.length ∧ mi (o + 4) 0 = nI 0 ∧ ∀ P c R, C = P ++ c :: R → mi (o + 1) P.length = nI (fp c.1.1) ∧ (2 ≤ c.1.1 → mi (o + 2) P.length = nI c.1.2.1) ∧ (1 ≤ c.1.1 → mi (o + 3) P.length = nI c.1.2.2) ∧ mi (o + 4) P.length = nI (ntk P) ∧ mi (o + 4) (P.length + 1) = nI (ntk P + c.2.length) ∧ ∀ j, j < c.2.length → mi (o + 5) (ntk P + j) = nI (c.2.getD j 0)
theorem snoc_splitG {α : Type} {D P R : List α} {x r : α} (h : D ++ [x] = P ++ r :: R) : (R = [] ∧ P = D ∧ r = x) ∨ ∃ R', R = R' ++ [x] ∧ D = P ++ r :: R' := by
  by_cases hR : R = []
  · subst hR
    left
    have h1 := List.append_inj' h rfl
    exact ⟨rfl, h1.1.symm, by simpa using h1.2.symm⟩
  · right
    obtain ⟨R', y, rfl⟩ : ∃ R' y, R = R' ++ [y] := ⟨R.dropLast, R.getLast hR, (List.dropLast_concat_getLast hR).symm⟩
    rw [show P ++ r :: (R' ++ [y]) = (P ++ r :: R') ++ [y] by simp] at h
    have h1 := List.append_inj' h rfl
    have h2 : x = y := by simpa using h1.2
    exact ⟨R', by rw [h2], h1.1⟩
theorem CA_start {mi : Nat → Nat → Int32} {o : Nat} {C : List Cl} (h : CA mi o C) : mi (o + 4) C.length = nI (ntk C) := by
  by_cases hC : C = []
  · subst hC
    exact h.2.1
  · obtain ⟨P, c, rfl⟩ : ∃ P c, C = P ++ [c] := ⟨C.dropLast, C.getLast hC, (List.dropLast_concat_getLast hC).symm⟩
    have := (h.2.2 P c [] rfl).2.2.2.2.1
    rw [List.length_append, ntk_app, ntk_one]
    exact this
theorem CA_le {C P R : List Cl} {c : Cl} (h : C = P ++ c :: R) : P.length + 1 ≤ C.length ∧ ntk P + c.2.length ≤ ntk C := by
  rw [h, List.length_append, List.length_cons, ntk_app, show c :: R = [c] ++ R from rfl, ntk_app, ntk_one]
  omega
def caU (mi : Nat → Nat → Int32) (o n : Nat) (f x y s : Int32) : Nat → Nat → Int32 := up2 (up2 (up2 (up2 (up2 mi (o + 1) n f) (o + 2) n x) (o + 3) n y) (o + 4) (n + 1) s) o 3 (nI (n + 1))
theorem CA_clause {mi : Nat → Nat → Int32} {o : Nat} {C : List Cl} (h : CA mi o C) {p : Nat × Nat × Nat} {f x y : Int32} (hf : f = nI (fp p.1)) (hx : 2 ≤ p.1 → x = nI p.2.1) (hy : 1 ≤ p.1 → y = nI p.2.2) : CA (caU mi o C.length f x y (nI (ntk C))) o (C ++ [(p, [])]) := by
  have hst := CA_start h
  obtain ⟨h1, h2, h3⟩ := h
  refine ⟨?_, ?_, fun P c R hs => ?_⟩
  · rw [List.length_append]
    unfold caU up2
    rw [if_pos ⟨rfl, rfl⟩]
    rfl
  · rw [← h2]
    unfold caU up2
    rw [if_neg (by omega), if_neg (by omega), if_neg (by omega), if_neg (by omega), if_neg (by omega)]
  · rcases snoc_splitG hs with ⟨rfl, rfl, rfl⟩ | ⟨R', rfl, hD⟩
    · refine ⟨?_, fun q => ?_, fun q => ?_, ?_, ?_, fun j hj => by cases hj⟩
      · rw [← hf]
        unfold caU up2
        rw [if_neg (by omega), if_neg (by omega), if_neg (by omega), if_neg (by omega), if_pos ⟨rfl, rfl⟩]
      · rw [← hx q]
        unfold caU up2
        rw [if_neg (by omega), if_neg (by omega), if_neg (by omega), if_pos ⟨rfl, rfl⟩]
      · rw [← hy q]
        unfold caU up2
        rw [if_neg (by omega), if_neg (by omega), if_pos ⟨rfl, rfl⟩]
      · rw [← hst]
        unfold caU up2
        rw [if_neg (by omega), if_neg (by omega), if_neg (by omega), if_neg (by omega), if_neg (by omega)]
      · unfold caU up2
        rw [if_neg (by omega), if_pos ⟨rfl, rfl⟩]
        rfl
    · have hle := CA_le hD
      have u : ∀ a i, a ≠ o → (a ≠ o + 1 ∨ i ≠ C.length) → (a ≠ o + 2 ∨ i ≠ C.length) → (a ≠ o + 3 ∨ i ≠ C.length) → (a ≠ o + 4 ∨ i ≠ C.length + 1) → caU mi o C.length f x y (nI (ntk C)) a i = mi a i := by
        intro a i q1 q2 q3 q4 q5
        unfold caU up2
        rw [if_neg (by omega), if_neg (by omega), if_neg (by omega), if_neg (by omega), if_neg (by omega)]
      rw [u (o + 1) _ (by omega) (by omega) (by omega) (by omega) (by omega), u (o + 2) _ (by omega) (by omega) (by omega) (by omega) (by omega), u (o + 3) _ (by omega) (by omega) (by omega) (by omega) (by omega), u (o + 4) P.length (by omega) (by omega) (by omega) (by omega) (by omega), u (o + 4) (P.length + 1) (by omega) (by omega) (by omega) (by omega) (by omega)]
      obtain ⟨g1, g2, g3, g4, g5, g6⟩ := h3 P c R' hD
      refine ⟨g1, g2, g3, g4, g5, fun j hj => ?_⟩
      rw [u (o + 5) _ (by omega) (by omega) (by omega) (by omega) (by omega)]
      exact g6 j hj
def tkU (mi : Nat → Nat → Int32) (o n e : Nat) (k : Int32) : Nat → Nat → Int32 := up2 (up2 mi (o + 5) e k) (o + 4) n (nI (e + 1))
theorem CA_token {mi : Nat → Nat → Int32} {o : Nat} {C : List Cl} {p : Nat × Nat × Nat} {K : List Nat} (h : CA mi o (C ++ [(p, K)])) (k : Nat) : CA (tkU mi o (C.length + 1) (ntk C + K.length) (nI k)) o (C ++ [(p, K ++ [k])]) := by
  obtain ⟨h1, h2, h3⟩ := h
  refine ⟨?_, ?_, fun P c R hs => ?_⟩
  · rw [List.length_append] at h1 ⊢
    rw [show tkU mi o (C.length + 1) (ntk C + K.length) (nI k) o 3 = mi o 3 by unfold tkU; rw [up2_off _ _ _ (by omega), up2_off _ _ _ (by omega)]]
    exact h1
  · rw [← h2]
    unfold tkU up2
    rw [if_neg (by omega), if_neg (by omega)]
  · have u : ∀ a i, (a ≠ o + 5 ∨ i ≠ ntk C + K.length) → (a ≠ o + 4 ∨ i ≠ C.length + 1) → tkU mi o (C.length + 1) (ntk C + K.length) (nI k) a i = mi a i := by
      intro a i q1 q2
      unfold tkU up2
      rw [if_neg (by omega), if_neg (by omega)]
    rcases snoc_splitG hs with ⟨rfl, rfl, rfl⟩ | ⟨R', rfl, hD⟩
    · obtain ⟨g1, g2, g3, g4, g5, g6⟩ := h3 P (p, K) [] rfl
      rw [u (o + 1) _ (by omega) (by omega), u (o + 2) _ (by omega) (by omega), u (o + 3) _ (by omega) (by omega), u (o + 4) P.length (by omega) (by omega)]
      refine ⟨g1, g2, g3, g4, ?_, fun j hj => ?_⟩
      · show _ = nI (ntk P + (K ++ [k]).length)
        rw [List.length_append]
        unfold tkU up2
        rw [if_pos ⟨rfl, rfl⟩]
        rfl
      · have hj : j < K.length + 1 := by
          have : j < (K ++ [k]).length := hj
          rw [List.length_append] at this
          exact this
        rcases Nat.lt_succ_iff_lt_or_eq.mp hj with q | q
        · rw [u (o + 5) _ (by omega) (by omega)]
          show _ = nI ((K ++ [k]).getD j 0)
          rw [getD_app1 _ _ q]
          exact g6 j q
        · subst q
          show _ = nI ((K ++ [k]).getD K.length 0)
          rw [show (K ++ [k]).getD K.length 0 = k by have := getD_app2 K [k] 0; rw [Nat.add_zero] at this; exact this]
          unfold tkU up2
          rw [if_neg (by omega), if_pos ⟨rfl, rfl⟩]
    · have hle := CA_le hD
      obtain ⟨g1, g2, g3, g4, g5, g6⟩ := h3 P c (R' ++ [(p, K)]) (by rw [hD]; simp)
      rw [u (o + 1) _ (by omega) (by omega), u (o + 2) _ (by omega) (by omega), u (o + 3) _ (by omega) (by omega), u (o + 4) P.length (by omega) (by omega), u (o + 4) (P.length + 1) (by omega) (by omega)]
      refine ⟨g1, g2, g3, g4, g5, fun j hj => ?_⟩
      rw [u (o + 5) _ (by omega) (by omega)]
      exact g6 j hj
/-- what reading a function's clauses may change -/
def FF (o : Nat) (mi mi' : Nat → Nat → Int32) : Prop := (∀ a, (a < o ∨ o + 5 < a) → a ≠ 82 → mi' a = mi a) ∧ (∀ j, j ≠ 2 → j ≠ 3 → mi' 82 j = mi 82 j) ∧ ∀ j, j ≠ 3 → mi' o j = mi o j
theorem FF.rf {o : Nat} {mi : Nat → Nat → Int32} : FF o mi mi := ⟨fun _ _ _ => rfl, fun _ _ _ => rfl, fun _ _ => rfl⟩
theorem FF.tr {o : Nat} {mi mi' mi'' : Nat → Nat → Int32} (h : FF o mi mi') (h' : FF o mi' mi'') : FF o mi mi'' := ⟨fun a h1 h2 => (h'.1 a h1 h2).trans (h.1 a h1 h2), fun j h1 h2 => (h'.2.1 j h1 h2).trans (h.2.1 j h1 h2), fun j hj => (h'.2.2 j hj).trans (h.2.2 j hj)⟩
theorem FF_at {o : Nat} {mi : Nat → Nat → Int32} {x : Int32} {j : Nat} (hj : j = 2 ∨ j = 3) (ho : o ≤ 64) : FF o mi (up2 mi 82 j x) := ⟨fun a _ h => up2_off _ _ _ h, fun i h1 h2 => by unfold up2; rw [if_neg (by omega)], fun i _ => by rw [up2_off _ _ _ (by omega)]⟩
theorem FF_up {o k j : Nat} {mi : Nat → Nat → Int32} {x : Int32} (hk : o + 1 ≤ k ∧ k ≤ o + 5) (ho : o ≤ 64) : FF o mi (up2 mi k j x) := ⟨fun a h1 _ => up2_off _ _ _ (by omega), fun i _ _ => by rw [up2_off _ _ _ (by omega)], fun i _ => by rw [up2_off _ _ _ (by omega)]⟩
theorem FF_ca {o n : Nat} {mi : Nat → Nat → Int32} {f x y s : Int32} (ho : o ≤ 64) : FF o mi (caU mi o n f x y s) := by
  refine ⟨fun a h1 _ => ?_, fun i _ _ => ?_, fun i hi => ?_⟩
  · unfold caU
    rw [up2_off _ _ _ (by omega), up2_off _ _ _ (by omega), up2_off _ _ _ (by omega), up2_off _ _ _ (by omega), up2_off _ _ _ (by omega)]
  · unfold caU
    rw [up2_off _ _ _ (by omega), up2_off _ _ _ (by omega), up2_off _ _ _ (by omega), up2_off _ _ _ (by omega), up2_off _ _ _ (by omega)]
  · unfold caU up2
    rw [if_neg (by omega), if_neg (by omega), if_neg (by omega), if_neg (by omega), if_neg (by omega)]
theorem FF_tk {o n e : Nat} {mi : Nat → Nat → Int32} {k : Int32} (ho : o ≤ 64) : FF o mi (tkU mi o n e k) := (FF_up (by omega) ho).tr (FF_up (by omega) ho)
theorem FF.rd {o : Nat} {mi mi' : Nat → Nat → Int32} {mr : Nat → Nat → Option Nat} {cap : Nat} {T : List Nat} (h : FF o mi mi') (ho : 46 ≤ o) (hr : rd 1 cap T mi mr) : rd 1 cap T mi' mr := by
  obtain ⟨r1, r2, r3, r4, r5, r6, r7⟩ := hr
  refine ⟨r1, r2, r3, r4, by rw [h.2.1 1 (by decide) (by decide)]; exact r5, fun i hi => ?_, r7⟩
  rw [h.1 1 (by omega) (by decide)]
  exact r6 i hi
theorem CA_at {o : Nat} {mi : Nat → Nat → Int32} {x : Int32} {j : Nat} {C : List Cl} (ho : o ≤ 64) (h : CA mi o C) : CA (up2 mi 82 j x) o C := by
  unfold CA
  rw [up2_off _ _ _ (show o ≠ 82 by omega), up2_off _ _ _ (show o + 1 ≠ 82 by omega), up2_off _ _ _ (show o + 2 ≠ 82 by omega), up2_off _ _ _ (show o + 3 ≠ 82 by omega), up2_off _ _ _ (show o + 4 ≠ 82 by omega), up2_off _ _ _ (show o + 5 ≠ 82 by omega)]
  exact h
section R5
variable {l : Launch} {d : Nat} {ml : Nat → Nat → Int64} {mr : Nat → Nat → Option Nat} {cap o : Nat} {T : List Nat}
theorem c_F_addClause (mi : Nat → Nat → Int32) (hFn : isFn mr o) (C : List Cl) (hA : CA mi o C) (h6 : C.length < 6) (f x y : Int32) : am_T l d M_F_addClause 0 [some (.ref o), some (.int f), some (.int x), some (.int y)] [] (hm mi ml mr) 0 0 (fun r h' => r = none ∧ h' = hm (caU mi o C.length f x y (nI (ntk C))) ml mr) := by
  obtain ⟨o64, k0, k1, k2, k3, k4, k5, r4, r5, r6, r7, r8⟩ := hFn
  have hst := CA_start hA
  have hn := hA.1
  refine am_aload_n rfl rfl ?_
  refine ho_getI rfl (by first | rfl | assumption) rfl ?_
  rw [hn]
  refine am_bipush (v := nI 6) rfl (by decide) ?_
  refine ho_icmp_ge rfl (by omega) (by omega) (fun z => absurd z (by omega)) (fun _ => ?_)
  refine am_aload_n rfl rfl ?_
  refine ho_getR rfl (by first | rfl | assumption) rfl (by first | assumption | exact hR _ _ _ rfl) ?_
  refine am_aload_n rfl rfl ?_
  refine ho_getI rfl (by first | rfl | assumption) rfl ?_
  rw [hn]
  refine am_iload_n rfl rfl ?_
  refine ho_iastore rfl (by first | rfl | assumption) (by omega) ?_
  refine am_aload_n rfl rfl ?_
  refine ho_getR rfl (by first | rfl | assumption) rfl (by first | assumption | exact hR _ _ _ rfl) ?_
  refine am_aload_n rfl rfl ?_
  refine ho_getI rfl (by first | rfl | assumption) rfl ?_
  rw [up2_off _ _ _ (show o ≠ o + 1 by omega), hn]
  refine am_iload_n rfl rfl ?_
  refine ho_iastore rfl (by first | rfl | assumption) (by omega) ?_
  refine am_aload_n rfl rfl ?_
  refine ho_getR rfl (by first | rfl | assumption) rfl (by first | assumption | exact hR _ _ _ rfl) ?_
  refine am_aload_n rfl rfl ?_
  refine ho_getI rfl (by first | rfl | assumption) rfl ?_
  rw [up2_off _ _ _ (show o ≠ o + 2 by omega), up2_off _ _ _ (show o ≠ o + 1 by omega), hn]
  refine am_iload_n rfl rfl ?_
  refine ho_iastore rfl (by first | rfl | assumption) (by omega) ?_
  refine am_aload_n rfl rfl ?_
  refine ho_getR rfl (by first | rfl | assumption) rfl (by first | assumption | exact hR _ _ _ rfl) ?_
  refine am_aload_n rfl rfl ?_
  refine ho_getI rfl (by first | rfl | assumption) rfl ?_
  rw [up2_off _ _ _ (show o ≠ o + 3 by omega), up2_off _ _ _ (show o ≠ o + 2 by omega), up2_off _ _ _ (show o ≠ o + 1 by omega), hn]
  refine am_iconst (v := nI 1) rfl (by decide) ?_
  first | refine ho_addn rfl ?_ | refine am_iadd rfl ?_
  refine am_aload_n rfl rfl ?_
  refine ho_getR rfl (by first | rfl | assumption) rfl (by first | assumption | exact hR _ _ _ rfl) ?_
  refine am_aload_n rfl rfl ?_
  refine ho_getI rfl (by first | rfl | assumption) rfl ?_
  rw [up2_off _ _ _ (show o ≠ o + 3 by omega), up2_off _ _ _ (show o ≠ o + 2 by omega), up2_off _ _ _ (show o ≠ o + 1 by omega), hn]
  refine ho_iaload rfl k4 (by omega) ?_
  rw [up2_off _ _ _ (show o + 4 ≠ o + 3 by omega), up2_off _ _ _ (show o + 4 ≠ o + 2 by omega), up2_off _ _ _ (show o + 4 ≠ o + 1 by omega), hst]
  refine ho_iastore rfl (by first | rfl | assumption) (by omega) ?_
  refine am_aload_n rfl rfl ?_
  refine am_dup rfl rfl ?_
  refine ho_getI rfl (by first | rfl | assumption) rfl ?_
  rw [up2_off _ _ _ (show o ≠ o + 4 by omega), up2_off _ _ _ (show o ≠ o + 3 by omega), up2_off _ _ _ (show o ≠ o + 2 by omega), up2_off _ _ _ (show o ≠ o + 1 by omega), hn]
  refine am_iconst (v := nI 1) rfl (by decide) ?_
  first | refine ho_addn rfl ?_ | refine am_iadd rfl ?_
  refine ho_putI rfl (by first | rfl | assumption) rfl rfl ?_
  exact am_return rfl rfl ⟨rfl, rfl⟩
theorem c_F_addToken (mi : Nat → Nat → Int32) (hFn : isFn mr o) (C : List Cl) (p : Nat × Nat × Nat) (K : List Nat) (hA : CA mi o (C ++ [(p, K)])) (h6 : C.length < 6) (h80 : ntk C + K.length < 80) (k : Int32) : am_T l d M_F_addToken 0 [some (.ref o), some (.int k), none] [] (hm mi ml mr) 0 0 (fun r h' => r = none ∧ h' = hm (tkU mi o (C.length + 1) (ntk C + K.length) k) ml mr) := by
  obtain ⟨o64, k0, k1, k2, k3, k4, k5, r4, r5, r6, r7, r8⟩ := hFn
  have hst := CA_start hA
  have hn := hA.1
  rw [List.length_append, List.length_singleton] at hst hn
  rw [ntk_app, ntk_one] at hst
  refine am_aload_n rfl rfl ?_
  refine ho_getR rfl (by first | rfl | assumption) rfl (by first | assumption | exact hR _ _ _ rfl) ?_
  refine am_aload_n rfl rfl ?_
  refine ho_getI rfl (by first | rfl | assumption) rfl ?_
  rw [hn]
  refine ho_iaload rfl k4 (by omega) ?_
  rw [hst]
  refine am_istore_n rfl (Nat.le_of_ble_eq_true rfl) ?_
  show am_T _ _ _ _ [_, _, some _] _ _ _ _ _
  refine am_iload_n rfl rfl ?_
  refine am_bipush (v := nI 80) rfl (by decide) ?_
  refine ho_icmp_ge rfl (by show ntk C + K.length < _; omega) (by omega) (fun z => absurd (show 80 ≤ ntk C + K.length from z) (by omega)) (fun _ => ?_)
  refine am_aload_n rfl rfl ?_
  refine ho_getR rfl (by first | rfl | assumption) rfl (by first | assumption | exact hR _ _ _ rfl) ?_
  refine am_iload_n rfl rfl ?_
  refine am_iload_n rfl rfl ?_
  refine ho_iastore rfl k5 (by show ntk C + K.length < _; omega) ?_
  refine am_aload_n rfl rfl ?_
  refine ho_getR rfl (by first | rfl | assumption) rfl (by first | assumption | exact hR _ _ _ rfl) ?_
  refine am_aload_n rfl rfl ?_
  refine ho_getI rfl (by first | rfl | assumption) rfl ?_
  rw [up2_off _ _ _ (show o ≠ o + 5 by omega), hn]
  refine am_iload_n rfl rfl ?_
  refine am_iconst (v := nI 1) rfl (by decide) ?_
  first | refine ho_addn rfl ?_ | refine am_iadd rfl ?_
  refine ho_iastore rfl k4 (by omega) ?_
  exact am_return rfl rfl ⟨rfl, rfl⟩
end R5
