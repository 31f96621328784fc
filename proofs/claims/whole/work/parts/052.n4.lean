/-! functions: tokens, clauses, texts, reading -/
/-- a clause: what its pattern begins with (0 empty, 1 number, 2 .. 5 label), X, Y; its tokens -/
abbrev Cl : Type := (Nat × Nat × Nat) × List Nat
def ttx (k : Nat) : List Nat := if 256 ≤ k then [102 + (k - 256) / 2, 40, 120 + k % 2, 41] else if isLab k then [k, 91] else [k]
def ktx (K : List Nat) : List Nat := K.flatMap ttx
theorem ktx_app (A B : List Nat) : ktx (A ++ B) = ktx A ++ ktx B := List.flatMap_append
theorem ktx_one (k : Nat) : ktx [k] = ttx k := by simp [ktx]
def patx (p : Nat × Nat × Nat) : List Nat := if p.1 = 0 then [46] else if p.1 = 1 then [35, p.2.2 + 65] else [p.1 + 95, 91, p.2.1 + 65, 93, p.2.2 + 65]
def cltx (c : Cl) : List Nat := 47 :: (patx c.1 ++ 45 :: ktx c.2)
def ctx (C : List Cl) : List Nat := C.flatMap cltx
theorem ctx_app (A B : List Cl) : ctx (A ++ B) = ctx A ++ ctx B := List.flatMap_append
theorem ctx_one (c : Cl) : ctx [c] = cltx c := by simp [ctx]
/-- how many brackets are open behind tokens -/
def kd : Nat → List Nat → Option Nat
  | d, [] => some d
  | d, k :: K => if k = 93 then (if d = 0 then none else kd (d - 1) K) else if isLab k then kd (d + 1) K else kd d K
theorem kd_app (A B : List Nat) : ∀ d, kd d (A ++ B) = (kd d A).bind (fun e => kd e B) := by
  induction A with
  | nil => exact fun d => rfl
  | cons k A ih =>
    intro d
    show (if k = 93 then (if d = 0 then none else kd (d - 1) (A ++ B)) else if isLab k then kd (d + 1) (A ++ B) else kd d (A ++ B)) = (if k = 93 then (if d = 0 then none else kd (d - 1) A) else if isLab k then kd (d + 1) A else kd d A).bind _
    split
    · split
      · rfl
      · exact ih _
    · split
      · exact ih _
      · exact ih _
def isPa (k : Nat) : Bool := isDig k || isLab k || decide (k = 35)
def npa (K : List Nat) : Nat := (K.filter isPa).length
theorem npa_app (A B : List Nat) : npa (A ++ B) = npa A + npa B := by simp [npa]
/-- a token that may stand under a pattern that begins with p -/
def okTk (p k : Nat) : Prop := isDig k = true ∨ (k = 35 ∧ p = 1) ∨ isLab k = true ∨ k = 93 ∨ (k = 120 ∧ 2 ≤ p) ∨ (k = 121 ∧ 1 ≤ p) ∨ (256 ≤ k ∧ k < 262 ∧ 1 ≤ p ∧ (k % 2 = 1 ∨ 2 ≤ p))
/-- behind an end only a bracket -/
def isEnd (k : Nat) : Bool := decide (k = 120 ∨ k = 121 ∨ 256 ≤ k)
def eo : Bool → List Nat → Option Bool
  | e, [] => some e
  | e, k :: K => if k = 93 then eo false K else if e then none else eo (isEnd k) K
theorem eo_app (A B : List Nat) : ∀ e, eo e (A ++ B) = (eo e A).bind (fun x => eo x B) := by
  induction A with
  | nil => exact fun e => rfl
  | cons k A ih =>
    intro e
    show (if k = 93 then eo false (A ++ B) else if e then none else eo (isEnd k) (A ++ B)) = (if k = 93 then eo false A else if e then none else eo (isEnd k) A).bind _
    split
    · exact ih _
    · split
      · rfl
      · exact ih _
def okCl (c : Cl) : Prop := c.1.1 ≤ 5 ∧ c.1.2.1 < 6 ∧ c.1.2.2 < 6 ∧ (∀ k ∈ c.2, okTk c.1.1 k) ∧ kd 0 c.2 = some 0 ∧ npa c.2 ≤ 12 ∧ eo false c.2 ≠ none
/-- reading a result: fuel, place, brackets, parts, has it an end, the tokens so far -/
def rScan (T : List Nat) (p : Nat) : Nat → Nat → Nat → Nat → Bool → List Nat → Nat ⊕ (Nat × List Nat)
  | 0, i, _, _, _, _ => .inl i
  | g + 1, i, d, n, e, K => if T.length ≤ i then (if 0 < d then .inl i else .inr (i, K))
    else if T.getD i 0 = 47 ∧ d = 0 then .inr (i, K)
    else if T.getD i 0 = 93 ∧ 0 < d then rScan T p g (i + 1) (d - 1) n false (K ++ [93])
    else if e = true then .inl i
    else if n < 12 ∧ (isDig (T.getD i 0) = true ∨ (T.getD i 0 = 35 ∧ p = 1)) then rScan T p g (i + 1) d (n + 1) false (K ++ [T.getD i 0])
    else if n < 12 ∧ isLab (T.getD i 0) = true then (if T.getD (i + 1) 0 ≠ 91 then .inl (i + 1) else rScan T p g (i + 2) (d + 1) (n + 1) false (K ++ [T.getD i 0]))
    else if (T.getD i 0 = 120 ∧ 2 ≤ p) ∨ (T.getD i 0 = 121 ∧ 1 ≤ p) then rScan T p g (i + 1) d n true (K ++ [T.getD i 0])
    else if isFun (T.getD i 0) = false ∨ p = 0 then .inl i
    else if T.getD (i + 1) 0 ≠ 40 then .inl (i + 1)
    else if ¬ (T.getD (i + 2) 0 = 121 ∨ (T.getD (i + 2) 0 = 120 ∧ 2 ≤ p)) then .inl (i + 2)
    else if T.getD (i + 3) 0 ≠ 41 then .inl (i + 3)
    else rScan T p g (i + 4) d n true (K ++ [256 + 2 * (T.getD i 0 - 102) + (if T.getD (i + 2) 0 = 121 then 1 else 0)])
/-- reading a pattern: the place of the stroke behind it, and the pattern -/
def pScan (T : List Nat) (i : Nat) : Nat ⊕ (Nat × Nat × Nat × Nat) :=
  if T.getD i 0 = 46 then .inr (i + 1, 0, 0, 0)
  else if T.getD i 0 = 35 then (if isNam (T.getD (i + 1) 0) = true then .inr (i + 2, 1, 0, T.getD (i + 1) 0 - 65) else .inl (i + 1))
  else if isLab (T.getD i 0) = false then .inl i
  else if T.getD (i + 1) 0 ≠ 91 then .inl (i + 1)
  else if isNam (T.getD (i + 2) 0) = false then .inl (i + 2)
  else if T.getD (i + 3) 0 ≠ 93 then .inl (i + 3)
  else if isNam (T.getD (i + 4) 0) = false then .inl (i + 4)
  else .inr (i + 5, T.getD i 0 - 95, T.getD (i + 2) 0 - 65, T.getD (i + 4) 0 - 65)
/-- one clause, from its stroke on -/
def clScan (T : List Nat) (i : Nat) : Nat ⊕ (Nat × Cl) :=
  if T.getD i 0 ≠ 47 then .inl i else match pScan T (i + 1) with
    | .inl s => .inl s
    | .inr (j, p) => if T.getD j 0 ≠ 45 then .inl j else match rScan T p.1 81 (j + 1) 0 0 false [] with
      | .inl s => .inl s
      | .inr (q, K) => .inr (q, (p, K))
def cScan (T : List Nat) : Nat → Nat → List Cl → Nat ⊕ List Cl
  | 0, i, C => if T.length ≤ i then .inr C else .inl i
  | g + 1, i, C => if T.length ≤ i ∧ C ≠ [] then .inr C else match clScan T i with
    | .inl s => .inl s
    | .inr (q, c) => cScan T g q (C ++ [c])
def fScan (T : List Nat) : Nat ⊕ (Nat × Nat × List Cl) :=
  if T.getD 1 0 ≠ 58 then .inl 1 else if isNam (T.getD 2 0) = false then .inl 2 else if T.getD 3 0 ≠ 62 then .inl 3 else if isNam (T.getD 4 0) = false then .inl 4 else
    match cScan T 6 5 [] with
      | .inl s => .inl s
      | .inr C => .inr (T.getD 2 0 - 65, T.getD 4 0 - 65, C)
theorem isFun_r {c : Nat} (h : isFun c = true) : 102 ≤ c ∧ c ≤ 104 := of_decide_eq_true h
theorem isDig_r {c : Nat} (h : isDig c = true) : 48 ≤ c ∧ c ≤ 57 := of_decide_eq_true h
theorem lt_of_nam {T : List Nat} {i : Nat} (h : isNam (T.getD i 0) = true) : i < T.length := lt_of_getD rfl (by have := isNam_r h; omega)
theorem ttx_sm {k : Nat} (h : k < 256) (h2 : isLab k = false) : ttx k = [k] := by
  unfold ttx
  rw [if_neg (by omega), h2]
  rfl
theorem ttx_lab {k : Nat} (h2 : isLab k = true) : ttx k = [k, 91] := by
  have := isLab_r h2
  unfold ttx
  rw [if_neg (by omega), if_pos h2]
theorem rScan_ok (T pre : List Nat) (p : Nat) : ∀ (g i d n : Nat) (e : Bool) (K : List Nat) (j : Nat) (M : List Nat), i ≤ T.length → T.take i = pre ++ ktx K → (∀ k ∈ K, okTk p k) → kd 0 K = some d → npa K ≤ n → n ≤ 12 → rScan T p g i d n e K = .inr (j, M) → j ≤ T.length ∧ T.take j = pre ++ ktx M ∧ (∀ k ∈ M, okTk p k) ∧ kd 0 M = some 0 ∧ npa M ≤ 12 ∧ i ≤ j := by
  intro g
  induction g with
  | zero =>
    intro i d n e K j M _ _ _ _ _ _ h
    cases h
  | succ g ih =>
    intro i d n e K j M hi ht hk hd hn hn2 h
    have snoc : ∀ k, okTk p k → ∀ q ∈ K ++ [k], okTk p q := by
      intro k hk2 q hq
      rcases List.mem_append.mp hq with z | z
      · exact hk q z
      · rw [List.mem_singleton.mp z]
        exact hk2
    have hkd : ∀ k, kd 0 (K ++ [k]) = kd d [k] := fun k => by rw [kd_app, hd]; rfl
    rw [rScan] at h
    by_cases h1 : T.length ≤ i
    · rw [if_pos h1] at h
      by_cases h2 : 0 < d
      · rw [if_pos h2] at h
        cases h
      · rw [if_neg h2] at h
        cases h
        exact ⟨hi, ht, hk, by rw [hd]; congr 1; omega, by omega, Nat.le_refl _⟩
    rw [if_neg h1] at h
    have hlt : i < T.length := by omega
    by_cases h2 : T.getD i 0 = 47 ∧ d = 0
    · rw [if_pos h2] at h
      cases h
      exact ⟨hi, ht, hk, by rw [hd, h2.2], by omega, Nat.le_refl _⟩
    rw [if_neg h2] at h
    by_cases h3 : T.getD i 0 = 93 ∧ 0 < d
    · rw [if_pos h3] at h
      have := ih (i + 1) (d - 1) n false _ j M (by omega) (by rw [take_s hlt, ht, ktx_app, ktx_one, h3.1, ttx_sm (by decide) (by decide)]; simp) (snoc 93 (by simp [okTk])) (by rw [hkd]; simp [kd]; omega) (by rw [npa_app, show npa [93] = 0 by decide]; exact hn) hn2 h
      exact ⟨this.1, this.2.1, this.2.2.1, this.2.2.2.1, this.2.2.2.2.1, by omega⟩
    rw [if_neg h3] at h
    by_cases h4 : e = true
    · rw [if_pos h4] at h
      cases h
    rw [if_neg h4] at h
    by_cases h5 : n < 12 ∧ (isDig (T.getD i 0) = true ∨ (T.getD i 0 = 35 ∧ p = 1))
    · rw [if_pos h5] at h
      have hc : (48 ≤ T.getD i 0 ∧ T.getD i 0 ≤ 57) ∨ T.getD i 0 = 35 := h5.2.imp isDig_r (fun q => q.1)
      have hnl : isLab (T.getD i 0) = false := by
        simp only [isLab, decide_eq_false_iff_not]
        omega
      have := ih (i + 1) d (n + 1) false _ j M (by omega) (by rw [take_s hlt, ht, ktx_app, ktx_one, ttx_sm (by omega) hnl]; simp) (snoc _ (h5.2.elim Or.inl (fun q => Or.inr (Or.inl q)))) (by rw [hkd]; unfold kd; rw [if_neg (by omega), hnl]; rfl) (by rw [npa_app]; have : npa [T.getD i 0] ≤ 1 := List.length_filter_le _ _; omega) (by omega) h
      exact ⟨this.1, this.2.1, this.2.2.1, this.2.2.2.1, this.2.2.2.2.1, by omega⟩
    rw [if_neg h5] at h
    by_cases h6 : n < 12 ∧ isLab (T.getD i 0) = true
    · rw [if_pos h6] at h
      by_cases h7 : T.getD (i + 1) 0 ≠ 91
      · rw [if_pos h7] at h
        cases h
      rw [if_neg h7] at h
      have h7 : T.getD (i + 1) 0 = 91 := Classical.not_not.mp h7
      have hl2 := lt_of_getD h7 (by decide)
      have hl := isLab_r h6.2
      have := ih (i + 2) (d + 1) (n + 1) false _ j M (by omega) (by rw [show i + 2 = i + 1 + 1 from rfl, take_s hl2, take_s hlt, ht, ktx_app, ktx_one, ttx_lab h6.2, h7]; simp) (snoc _ (Or.inr (Or.inr (Or.inl h6.2)))) (by rw [hkd]; unfold kd; rw [if_neg (by omega), if_pos h6.2]; rfl) (by rw [npa_app]; have : npa [T.getD i 0] ≤ 1 := List.length_filter_le _ _; omega) (by omega) h
      exact ⟨this.1, this.2.1, this.2.2.1, this.2.2.2.1, this.2.2.2.2.1, by omega⟩
    rw [if_neg h6] at h
    by_cases h7 : (T.getD i 0 = 120 ∧ 2 ≤ p) ∨ (T.getD i 0 = 121 ∧ 1 ≤ p)
    · rw [if_pos h7] at h
      have hnl : isLab (T.getD i 0) = false := by
        simp only [isLab, decide_eq_false_iff_not]
        omega
      have hnp : npa [T.getD i 0] = 0 := by
        have : isPa (T.getD i 0) = false := by
          unfold isPa
          rw [hnl, show isDig (T.getD i 0) = false by simp only [isDig, decide_eq_false_iff_not]; omega, show decide (T.getD i 0 = 35) = false by rw [decide_eq_false_iff_not]; omega]
          rfl
        unfold npa
        rw [List.filter_cons_of_neg (by rw [this]; decide)]
        rfl
      have := ih (i + 1) d n true _ j M (by omega) (by rw [take_s hlt, ht, ktx_app, ktx_one, ttx_sm (by omega) hnl]; simp) (snoc _ (h7.elim (fun q => Or.inr (Or.inr (Or.inr (Or.inr (Or.inl q))))) (fun q => Or.inr (Or.inr (Or.inr (Or.inr (Or.inr (Or.inl q)))))))) (by rw [hkd]; unfold kd; rw [if_neg (by omega), hnl]; rfl) (by rw [npa_app, hnp]; exact hn) hn2 h
      exact ⟨this.1, this.2.1, this.2.2.1, this.2.2.2.1, this.2.2.2.2.1, by omega⟩
    rw [if_neg h7] at h
    by_cases h8 : isFun (T.getD i 0) = false ∨ p = 0
    · rw [if_pos h8] at h
      cases h
    rw [if_neg h8] at h
    by_cases h9 : T.getD (i + 1) 0 ≠ 40
    · rw [if_pos h9] at h
      cases h
    rw [if_neg h9] at h
    by_cases h10 : ¬ (T.getD (i + 2) 0 = 121 ∨ (T.getD (i + 2) 0 = 120 ∧ 2 ≤ p))
    · rw [if_pos h10] at h
      cases h
    rw [if_neg h10] at h
    by_cases h11 : T.getD (i + 3) 0 ≠ 41
    · rw [if_pos h11] at h
      cases h
    rw [if_neg h11] at h
    have h9 : T.getD (i + 1) 0 = 40 := Classical.not_not.mp h9
    have h10 := Classical.not_not.mp h10
    have h11 : T.getD (i + 3) 0 = 41 := Classical.not_not.mp h11
    have hl3 := lt_of_getD h11 (by decide)
    have hf : isFun (T.getD i 0) = true := by
      cases hq : isFun (T.getD i 0)
      · exact absurd (Or.inl hq) h8
      · rfl
    have hf' := isFun_r hf
    have hp : ¬ p = 0 := fun q => h8 (Or.inr q)
    have e4 : T.take (i + 4) = T.take i ++ [T.getD i 0, 40, T.getD (i + 2) 0, 41] := by
      rw [show i + 4 = i + 3 + 1 from rfl, take_s hl3, show i + 3 = i + 2 + 1 from rfl, take_s (show i + 2 < T.length by omega), show i + 2 = i + 1 + 1 from rfl, take_s (show i + 1 < T.length by omega), take_s hlt, h9, show i + 1 + 1 + 1 = i + 3 from rfl, h11]
      simp
    have key : ∀ a b : Nat, 102 ≤ a → a ≤ 104 → (b = 121 ∨ b = 120) → (256 ≤ 256 + 2 * (a - 102) + (if b = 121 then 1 else 0) ∧ 256 + 2 * (a - 102) + (if b = 121 then 1 else 0) < 262) ∧ ttx (256 + 2 * (a - 102) + (if b = 121 then 1 else 0)) = [a, 40, b, 41] ∧ (256 + 2 * (a - 102) + (if b = 121 then 1 else 0)) % 2 = (if b = 121 then 1 else 0) := by
      intro a b a1 a2 hb
      obtain ⟨u, rfl⟩ : ∃ u, a = u + 102 := ⟨a - 102, by omega⟩
      rcases hb with rfl | rfl
      · rw [if_pos rfl]
        refine ⟨by omega, ?_, by omega⟩
        unfold ttx
        rw [if_pos (by omega)]
        congr 1
        · omega
        · congr 1
          congr 1
          omega
      · rw [if_neg (by decide)]
        refine ⟨by omega, ?_, by omega⟩
        unfold ttx
        rw [if_pos (by omega)]
        congr 1
        · omega
        · congr 1
          congr 1
          omega
    obtain ⟨k1, k2, k3⟩ := key (T.getD i 0) (T.getD (i + 2) 0) hf'.1 hf'.2 (h10.imp id (fun q => q.1))
    have hnl : isLab (256 + 2 * (T.getD i 0 - 102) + (if T.getD (i + 2) 0 = 121 then 1 else 0)) = false := by
      simp only [isLab, decide_eq_false_iff_not]
      omega
    have hnp : npa [256 + 2 * (T.getD i 0 - 102) + (if T.getD (i + 2) 0 = 121 then 1 else 0)] = 0 := by
      have : isPa (256 + 2 * (T.getD i 0 - 102) + (if T.getD (i + 2) 0 = 121 then 1 else 0)) = false := by
        unfold isPa
        rw [hnl, show isDig (256 + 2 * (T.getD i 0 - 102) + (if T.getD (i + 2) 0 = 121 then 1 else 0)) = false by simp only [isDig, decide_eq_false_iff_not]; omega, show decide (256 + 2 * (T.getD i 0 - 102) + (if T.getD (i + 2) 0 = 121 then 1 else 0) = 35) = false by rw [decide_eq_false_iff_not]; omega]
        rfl
      unfold npa
      rw [List.filter_cons_of_neg (by rw [this]; decide)]
      rfl
    have hok : okTk p (256 + 2 * (T.getD i 0 - 102) + (if T.getD (i + 2) 0 = 121 then 1 else 0)) := by
      refine Or.inr (Or.inr (Or.inr (Or.inr (Or.inr (Or.inr ⟨k1.1, k1.2, by omega, ?_⟩)))))
      rw [k3]
      rcases h10 with q | q
      · rw [if_pos q]
        exact Or.inl rfl
      · exact Or.inr q.2
    have := ih (i + 4) d n true _ j M (by omega) (by rw [e4, ht, ktx_app, ktx_one, k2]; simp) (snoc _ hok) (by rw [hkd]; unfold kd; rw [if_neg (by omega), hnl]; rfl) (by rw [npa_app, hnp]; exact hn) hn2 h
    exact ⟨this.1, this.2.1, this.2.2.1, this.2.2.2.1, this.2.2.2.2.1, by omega⟩
theorem pScan_ok {T : List Nat} {i j : Nat} {p : Nat × Nat × Nat} (h : pScan T i = .inr (j, p)) : T.take j = T.take i ++ patx p ∧ j ≤ T.length ∧ i < j ∧ p.1 ≤ 5 ∧ p.2.1 < 6 ∧ p.2.2 < 6 := by
  unfold pScan at h
  by_cases h1 : T.getD i 0 = 46
  · rw [if_pos h1] at h
    cases h
    have hl := lt_of_getD h1 (by decide)
    exact ⟨by rw [take_s hl, h1]; rfl, by omega, by omega, by decide, by decide, by decide⟩
  rw [if_neg h1] at h
  by_cases h2 : T.getD i 0 = 35
  · rw [if_pos h2] at h
    by_cases h3 : isNam (T.getD (i + 1) 0) = true
    · rw [if_pos h3] at h
      cases h
      have hl := lt_of_nam h3
      have h3' := isNam_r h3
      refine ⟨?_, by omega, by omega, by show 1 ≤ 5; omega, by show 0 < 6; omega, by show T.getD (i + 1) 0 - 65 < 6; omega⟩
      rw [show i + 2 = i + 1 + 1 from rfl, take_s hl, take_s (show i < T.length by omega), h2]
      show _ = _ ++ [35, T.getD (i + 1) 0 - 65 + 65]
      rw [show T.getD (i + 1) 0 - 65 + 65 = T.getD (i + 1) 0 by omega]
      simp
    · rw [if_neg h3] at h
      cases h
  rw [if_neg h2] at h
  by_cases h3 : isLab (T.getD i 0) = false
  · rw [if_pos h3] at h
    cases h
  rw [if_neg h3] at h
  by_cases h4 : T.getD (i + 1) 0 ≠ 91
  · rw [if_pos h4] at h
    cases h
  rw [if_neg h4] at h
  by_cases h5 : isNam (T.getD (i + 2) 0) = false
  · rw [if_pos h5] at h
    cases h
  rw [if_neg h5] at h
  by_cases h6 : T.getD (i + 3) 0 ≠ 93
  · rw [if_pos h6] at h
    cases h
  rw [if_neg h6] at h
  by_cases h7 : isNam (T.getD (i + 4) 0) = false
  · rw [if_pos h7] at h
    cases h
  rw [if_neg h7] at h
  cases h
  have h3 : isLab (T.getD i 0) = true := by simpa using h3
  have h5 : isNam (T.getD (i + 2) 0) = true := by simpa using h5
  have h7 : isNam (T.getD (i + 4) 0) = true := by simpa using h7
  have h4 : T.getD (i + 1) 0 = 91 := Classical.not_not.mp h4
  have h6 : T.getD (i + 3) 0 = 93 := Classical.not_not.mp h6
  have h3' := isLab_r h3
  have h5' := isNam_r h5
  have h7' := isNam_r h7
  have hl := lt_of_nam h7
  refine ⟨?_, by omega, by omega, by show T.getD i 0 - 95 ≤ 5; omega, by show T.getD (i + 2) 0 - 65 < 6; omega, by show T.getD (i + 4) 0 - 65 < 6; omega⟩
  have e5 : T.take (i + 5) = T.take i ++ [T.getD i 0, 91, T.getD (i + 2) 0, 93, T.getD (i + 4) 0] := by
    rw [show i + 5 = i + 4 + 1 from rfl, take_s hl, show i + 4 = i + 3 + 1 from rfl, take_s (show i + 3 < T.length by omega), show i + 3 = i + 2 + 1 from rfl, take_s (show i + 2 < T.length by omega), show i + 2 = i + 1 + 1 from rfl, take_s (show i + 1 < T.length by omega), take_s (show i < T.length by omega), h4, show i + 1 + 1 + 1 = i + 3 from rfl, h6]
    simp
  rw [e5]
  unfold patx
  rw [if_neg (by show ¬ T.getD i 0 - 95 = 0; omega), if_neg (by show ¬ T.getD i 0 - 95 = 1; omega)]
  show _ = _ ++ [T.getD i 0 - 95 + 95, 91, T.getD (i + 2) 0 - 65 + 65, 93, T.getD (i + 4) 0 - 65 + 65]
  rw [show T.getD i 0 - 95 + 95 = T.getD i 0 by omega, show T.getD (i + 2) 0 - 65 + 65 = T.getD (i + 2) 0 by omega, show T.getD (i + 4) 0 - 65 + 65 = T.getD (i + 4) 0 by omega]
theorem rScan_end (T : List Nat) (p : Nat) : ∀ (g i d n : Nat) (e : Bool) (K : List Nat) (j : Nat) (M : List Nat), eo false K = some e → rScan T p g i d n e K = .inr (j, M) → eo false M ≠ none := by
  intro g
  induction g with
  | zero =>
    intro i d n e K j M _ h
    cases h
  | succ g ih =>
    intro i d n e K j M he h
    have hs : ∀ k, eo false (K ++ [k]) = eo e [k] := fun k => by rw [eo_app, he]; rfl
    rw [rScan] at h
    by_cases h1 : T.length ≤ i
    · rw [if_pos h1] at h
      by_cases h2 : 0 < d
      · rw [if_pos h2] at h
        cases h
      · rw [if_neg h2] at h
        cases h
        rw [he]
        exact fun q => by cases q
    rw [if_neg h1] at h
    by_cases h2 : T.getD i 0 = 47 ∧ d = 0
    · rw [if_pos h2] at h
      cases h
      rw [he]
      exact fun q => by cases q
    rw [if_neg h2] at h
    by_cases h3 : T.getD i 0 = 93 ∧ 0 < d
    · rw [if_pos h3] at h
      exact ih _ _ _ _ _ _ _ (by rw [hs]; rfl) h
    rw [if_neg h3] at h
    by_cases h4 : e = true
    · rw [if_pos h4] at h
      cases h
    rw [if_neg h4] at h
    have h4 : e = false := by
      cases e with
      | true => exact absurd rfl h4
      | false => rfl
    subst h4
    by_cases h5 : n < 12 ∧ (isDig (T.getD i 0) = true ∨ (T.getD i 0 = 35 ∧ p = 1))
    · rw [if_pos h5] at h
      have hc : (48 ≤ T.getD i 0 ∧ T.getD i 0 ≤ 57) ∨ T.getD i 0 = 35 := h5.2.imp isDig_r (fun q => q.1)
      refine ih _ _ _ _ _ _ _ ?_ h
      rw [hs]
      unfold eo eo
      rw [if_neg (by omega), if_neg (by decide), show isEnd (T.getD i 0) = false from decide_eq_false (by omega)]
    rw [if_neg h5] at h
    by_cases h6 : n < 12 ∧ isLab (T.getD i 0) = true
    · rw [if_pos h6] at h
      by_cases h7 : T.getD (i + 1) 0 ≠ 91
      · rw [if_pos h7] at h
        cases h
      rw [if_neg h7] at h
      have hl := isLab_r h6.2
      refine ih _ _ _ _ _ _ _ ?_ h
      rw [hs]
      unfold eo eo
      rw [if_neg (by omega), if_neg (by decide), show isEnd (T.getD i 0) = false from decide_eq_false (by omega)]
    rw [if_neg h6] at h
    by_cases h7 : (T.getD i 0 = 120 ∧ 2 ≤ p) ∨ (T.getD i 0 = 121 ∧ 1 ≤ p)
    · rw [if_pos h7] at h
      refine ih _ _ _ _ _ _ _ ?_ h
      rw [hs]
      unfold eo eo
      rw [if_neg (by omega), if_neg (by decide), show isEnd (T.getD i 0) = true from decide_eq_true (by omega)]
    rw [if_neg h7] at h
    by_cases h8 : isFun (T.getD i 0) = false ∨ p = 0
    · rw [if_pos h8] at h
      cases h
    rw [if_neg h8] at h
    by_cases h9 : T.getD (i + 1) 0 ≠ 40
    · rw [if_pos h9] at h
      cases h
    rw [if_neg h9] at h
    by_cases h10 : ¬ (T.getD (i + 2) 0 = 121 ∨ (T.getD (i + 2) 0 = 120 ∧ 2 ≤ p))
    · rw [if_pos h10] at h
      cases h
    rw [if_neg h10] at h
    by_cases h11 : T.getD (i + 3) 0 ≠ 41
    · rw [if_pos h11] at h
      cases h
    rw [if_neg h11] at h
    refine ih _ _ _ _ _ _ _ ?_ h
    rw [hs]
    unfold eo eo
    rw [if_neg (by omega), if_neg (by decide), show isEnd _ = true from decide_eq_true (Or.inr (Or.inr (by omega)))]
theorem clScan_ok {T : List Nat} {i q : Nat} {c : Cl} (h : clScan T i = .inr (q, c)) : T.take q = T.take i ++ cltx c ∧ q ≤ T.length ∧ i < q ∧ okCl c := by
  unfold clScan at h
  by_cases h1 : T.getD i 0 ≠ 47
  · rw [if_pos h1] at h
    cases h
  rw [if_neg h1] at h
  have h1 : T.getD i 0 = 47 := Classical.not_not.mp h1
  have hl := lt_of_getD h1 (by decide)
  cases hp : pScan T (i + 1) with
  | inl s =>
    rw [hp] at h
    cases h
  | inr jp =>
    obtain ⟨j, p⟩ := jp
    rw [hp] at h
    obtain ⟨p1, p2, p3, p4, p5, p6⟩ := pScan_ok hp
    simp only at h
    by_cases h2 : T.getD j 0 ≠ 45
    · rw [if_pos h2] at h
      cases h
    rw [if_neg h2] at h
    have h2 : T.getD j 0 = 45 := Classical.not_not.mp h2
    have hl2 := lt_of_getD h2 (by decide)
    cases hr : rScan T p.1 81 (j + 1) 0 0 false [] with
    | inl s =>
      rw [hr] at h
      cases h
    | inr qK =>
      obtain ⟨q', K⟩ := qK
      rw [hr] at h
      cases h
      obtain ⟨r1, r2, r3, r4, r5, r6⟩ := rScan_ok T (T.take (j + 1)) p.1 81 (j + 1) 0 0 false [] q K (by omega) (by simp [ktx]) (fun k hk => by cases hk) rfl (Nat.le_refl _) (by omega) hr
      refine ⟨?_, r1, by omega, p4, p5, p6, r3, r4, r5, rScan_end T p.1 81 (j + 1) 0 0 false [] q K rfl hr⟩
      rw [r2, take_s hl2, p1, take_s hl, h1, h2]
      simp [cltx]
theorem cScan_ok {T hd : List Nat} : ∀ (g i : Nat) (C M : List Cl), i ≤ T.length → T.take i = hd ++ ctx C → (∀ c ∈ C, okCl c) → cScan T g i C = .inr M → (C ≠ [] ∨ g ≠ 0) → T = hd ++ ctx M ∧ (∀ c ∈ M, okCl c) ∧ M ≠ [] ∧ M.length ≤ C.length + g := by
  intro g
  induction g with
  | zero =>
    intro i C M hi ht hC h h0
    unfold cScan at h
    by_cases h1 : T.length ≤ i
    · rw [if_pos h1] at h
      cases h
      rw [List.take_of_length_le h1] at ht
      exact ⟨ht, hC, h0.resolve_right (fun q => q rfl), Nat.le_refl _⟩
    · rw [if_neg h1] at h
      cases h
  | succ g ih =>
    intro i C M hi ht hC h h0
    unfold cScan at h
    by_cases h1 : T.length ≤ i ∧ C ≠ []
    · rw [if_pos h1] at h
      cases h
      rw [List.take_of_length_le h1.1] at ht
      exact ⟨ht, hC, h1.2, by omega⟩
    rw [if_neg h1] at h
    cases hc : clScan T i with
    | inl s =>
      rw [hc] at h
      cases h
    | inr qc =>
      obtain ⟨q, c⟩ := qc
      rw [hc] at h
      obtain ⟨c1, c2, c3, c4⟩ := clScan_ok hc
      have := ih q (C ++ [c]) M c2 (by rw [c1, ht, ctx_app, ctx_one]; simp) (fun x hx => by
        rcases List.mem_append.mp hx with z | z
        · exact hC x z
        · rw [List.mem_singleton.mp z]
          exact c4) h (Or.inl (by simp))
      refine ⟨this.1, this.2.1, this.2.2.1, ?_⟩
      have h3 := this.2.2.2
      rw [List.length_append, List.length_singleton] at h3
      omega
/-- a function as it is kept: input, output, clauses -/
abbrev Fn : Type := Nat × Nat × List Cl
def okF (F : Fn) : Prop := F.1 < 6 ∧ F.2.1 < 6 ∧ (∀ c ∈ F.2.2, okCl c) ∧ F.2.2 ≠ [] ∧ F.2.2.length ≤ 6
def ftx (a : Nat) (F : Fn) : List Nat := [a, 58, F.1 + 65, 62, F.2.1 + 65] ++ ctx F.2.2
theorem fScan_ok {T : List Nat} {F : Fn} (h : fScan T = .inr F) : T = ftx (T.getD 0 0) F ∧ okF F := by
  unfold fScan at h
  by_cases h1 : T.getD 1 0 ≠ 58
  · rw [if_pos h1] at h
    cases h
  rw [if_neg h1] at h
  by_cases h2 : isNam (T.getD 2 0) = false
  · rw [if_pos h2] at h
    cases h
  rw [if_neg h2] at h
  by_cases h3 : T.getD 3 0 ≠ 62
  · rw [if_pos h3] at h
    cases h
  rw [if_neg h3] at h
  by_cases h4 : isNam (T.getD 4 0) = false
  · rw [if_pos h4] at h
    cases h
  rw [if_neg h4] at h
  have h1 : T.getD 1 0 = 58 := Classical.not_not.mp h1
  have h2 : isNam (T.getD 2 0) = true := by simpa using h2
  have h3 : T.getD 3 0 = 62 := Classical.not_not.mp h3
  have h4 : isNam (T.getD 4 0) = true := by simpa using h4
  have h2' := isNam_r h2
  have h4' := isNam_r h4
  have hl := lt_of_nam h4
  cases hc : cScan T 6 5 [] with
  | inl s =>
    rw [hc] at h
    cases h
  | inr C =>
    rw [hc] at h
    cases h
    have e5 : T.take 5 = [T.getD 0 0, 58, T.getD 2 0, 62, T.getD 4 0] := by
      rw [show (5 : Nat) = 4 + 1 from rfl, take_s hl, show (4 : Nat) = 3 + 1 from rfl, take_s (show 3 < T.length by omega), show (3 : Nat) = 2 + 1 from rfl, take_s (show 2 < T.length by omega), show (2 : Nat) = 1 + 1 from rfl, take_s (show 1 < T.length by omega), show (1 : Nat) = 0 + 1 from rfl, take_s (show 0 < T.length by omega)]
      simp only [Nat.reduceAdd, h1, h3]
      simp
    have := cScan_ok 6 5 [] C (by omega) (by simp [ctx]; rfl) (fun c hc => by cases hc) hc (Or.inr (by decide))
    refine ⟨?_, by show T.getD 2 0 - 65 < 6; omega, by show T.getD 4 0 - 65 < 6; omega, this.2.1, this.2.2.1, ?_⟩
    · have h5 := this.1
      rw [e5] at h5
      unfold ftx
      show _ = [T.getD 0 0, 58, T.getD 2 0 - 65 + 65, 62, T.getD 4 0 - 65 + 65] ++ ctx C
      rw [show T.getD 2 0 - 65 + 65 = T.getD 2 0 by omega, show T.getD 4 0 - 65 + 65 = T.getD 4 0 by omega]
      exact h5
    · have := this.2.2.2
      simpa using this
