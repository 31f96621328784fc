/-! first texts: hedges by their text, order of texts -/
/-- the text of a hedge by what it begins with, its content's text and its tail's -/
def ftx2 (f : Nat) (tc tw : List Nat) : List Nat := if f = 1 then 48 :: tw else (f + 95) :: 91 :: (tc ++ 93 :: tw)
/-- a hedge: is it not empty; its mask, its size, its text (all numbers 0) -/
def HT {M : Type} (k0 : M) (bf : Nat → M → M → M) (e : Bool) (m : M) (s : Nat) (t : List Nat) : Prop := ∀ X : Bool → M → Nat → List Nat → Prop, X false k0 0 [] → (∀ (f : Nat) (a b : Bool) (c w : M) (sc sw : Nat) (tc tw : List Nat), 1 ≤ f → f ≤ 5 → X a c sc tc → X b w sw tw → X true (bf f c w) (1 + sw + (if f = 1 then 0 else sc)) (ftx2 f tc tw)) → X e m s t
theorem HT.emp {M : Type} {k0 : M} {bf : Nat → M → M → M} : HT k0 bf false k0 0 [] := fun X h1 _ => h1
theorem HT.node {M : Type} {k0 : M} {bf : Nat → M → M → M} (f : Nat) (a b : Bool) (c w : M) (sc sw : Nat) (tc tw : List Nat) (f1 : 1 ≤ f) (f5 : f ≤ 5) (hc : HT k0 bf a c sc tc) (hw : HT k0 bf b w sw tw) : HT k0 bf true (bf f c w) (1 + sw + (if f = 1 then 0 else sc)) (ftx2 f tc tw) := fun X h1 h2 => h2 f a b c w sc sw tc tw f1 f5 (hc X h1 h2) (hw X h1 h2)
theorem HT.ind {M : Type} {k0 : M} {bf : Nat → M → M → M} {motive : (e : Bool) → (m : M) → (s : Nat) → (t : List Nat) → HT k0 bf e m s t → Prop} (emp : motive false k0 0 [] HT.emp) (node : ∀ (f : Nat) (a b : Bool) (c w : M) (sc sw : Nat) (tc tw : List Nat) (f1 : 1 ≤ f) (f5 : f ≤ 5) (hc : HT k0 bf a c sc tc) (hw : HT k0 bf b w sw tw), motive a c sc tc hc → motive b w sw tw hw → motive true (bf f c w) (1 + sw + (if f = 1 then 0 else sc)) (ftx2 f tc tw) (HT.node f a b c w sc sw tc tw f1 f5 hc hw)) {e : Bool} {m : M} {s : Nat} {t : List Nat} (h : HT k0 bf e m s t) : motive e m s t h := by
  obtain ⟨h', hmo⟩ := h (fun e m s t => ∃ h : HT k0 bf e m s t, motive e m s t h) ⟨HT.emp, emp⟩ (fun f a b c w sc sw tc tw f1 f5 ⟨hc, ihc⟩ ⟨hw, ihw⟩ => ⟨_, node f a b c w sc sw tc tw f1 f5 hc hw ihc ihw⟩)
  exact hmo
theorem HT.cas {M : Type} {k0 : M} {bf : Nat → M → M → M} {motive : (e : Bool) → (m : M) → (s : Nat) → (t : List Nat) → HT k0 bf e m s t → Prop} (emp : motive false k0 0 [] HT.emp) (node : ∀ (f : Nat) (a b : Bool) (c w : M) (sc sw : Nat) (tc tw : List Nat) (f1 : 1 ≤ f) (f5 : f ≤ 5) (hc : HT k0 bf a c sc tc) (hw : HT k0 bf b w sw tw), motive true (bf f c w) (1 + sw + (if f = 1 then 0 else sc)) (ftx2 f tc tw) (HT.node f a b c w sc sw tc tw f1 f5 hc hw)) {e : Bool} {m : M} {s : Nat} {t : List Nat} (h : HT k0 bf e m s t) : motive e m s t h := HT.ind emp (fun f a b c w sc sw tc tw f1 f5 hc hw _ _ => node f a b c w sc sw tc tw f1 f5 hc hw) h
/-- a text that comes before another -/
def sn : List Nat → List Nat → Bool
  | x :: a, y :: b => if x = y then sn a b else decide (x < y)
  | _, _ => false
theorem sn_irr : ∀ a, sn a a = false
  | [] => rfl
  | x :: a => by
    show (if x = x then sn a a else _) = false
    rw [if_pos rfl, sn_irr a]
theorem sn_tr : ∀ a b c, sn a b = true → sn b c = true → sn a c = true
  | [], _, _, h, _ => by cases h
  | _ :: _, [], _, h, _ => by cases h
  | _ :: _, _ :: _, [], _, h => by cases h
  | x :: a, y :: b, z :: c, h1, h2 => by
    have h1 : (if x = y then sn a b else decide (x < y)) = true := h1
    have h2 : (if y = z then sn b c else decide (y < z)) = true := h2
    show (if x = z then sn a c else decide (x < z)) = true
    by_cases e1 : x = y
    · subst e1
      rw [if_pos rfl] at h1
      by_cases e2 : x = z
      · rw [if_pos e2] at h2 ⊢
        exact sn_tr a b c h1 h2
      · rw [if_neg e2] at h2 ⊢
        exact h2
    · rw [if_neg e1] at h1
      have h1 := of_decide_eq_true h1
      by_cases e2 : y = z
      · subst e2
        rw [if_neg e1]
        exact decide_eq_true h1
      · rw [if_neg e2] at h2
        have h2 := of_decide_eq_true h2
        rw [if_neg (by omega)]
        exact decide_eq_true (by omega)
/-- neither before the other: one begins the other -/
theorem sn_tot : ∀ a b, sn a b = false → sn b a = false → (∃ u, b = a ++ u) ∨ ∃ u, a = b ++ u
  | [], b, _, _ => Or.inl ⟨b, rfl⟩
  | x :: a, [], _, _ => Or.inr ⟨x :: a, rfl⟩
  | x :: a, y :: b, h1, h2 => by
    have h1 : (if x = y then sn a b else decide (x < y)) = false := h1
    have h2 : (if y = x then sn b a else decide (y < x)) = false := h2
    by_cases e : x = y
    · subst e
      rw [if_pos rfl] at h1 h2
      rcases sn_tot a b h1 h2 with ⟨u, rfl⟩ | ⟨u, rfl⟩
      · exact Or.inl ⟨u, rfl⟩
      · exact Or.inr ⟨u, rfl⟩
    · rw [if_neg e] at h1
      rw [if_neg (fun q => e q.symm)] at h2
      have h1 := of_decide_eq_false h1
      have h2 := of_decide_eq_false h2
      omega
theorem sn_app (p a b : List Nat) : sn (p ++ a) (p ++ b) = sn a b := by
  induction p with
  | nil => rfl
  | cons x p ih =>
    show (if x = x then sn (p ++ a) (p ++ b) else _) = _
    rw [if_pos rfl, ih]
/-- a difference inside stays one, whatever follows -/
theorem sn_ext : ∀ (a b u v : List Nat), sn a b = true → sn (a ++ u) (b ++ v) = true
  | [], _, _, _, h => by cases h
  | _ :: _, [], _, _, h => by cases h
  | x :: a, y :: b, u, v, h => by
    have h : (if x = y then sn a b else decide (x < y)) = true := h
    show (if x = y then sn (a ++ u) (b ++ v) else decide (x < y)) = true
    by_cases e : x = y
    · rw [if_pos e] at h ⊢
      exact sn_ext a b u v h
    · rw [if_neg e] at h ⊢
      exact h
section T1
variable {M : Type} {k0 : M} {bf : Nat → M → M → M}
theorem ftx2_head (f : Nat) (tc tw : List Nat) (h1 : 1 ≤ f) (h5 : f ≤ 5) : ∃ x r, ftx2 f tc tw = x :: r ∧ x ≠ 93 := by
  unfold ftx2
  split
  · exact ⟨48, tw, rfl, by decide⟩
  · exact ⟨f + 95, _, rfl, by omega⟩
theorem HT_br {e : Bool} {m : M} {s : Nat} {t : List Nat} (h : HT k0 bf e m s t) : ∀ {e' : Bool} {m' : M} {s' : Nat} {t' : List Nat}, HT k0 bf e' m' s' t' → ∀ x x', t ++ 93 :: x = t' ++ 93 :: x' → t = t' ∧ x = x' ∧ s = s' := by
  induction h using HT.ind with
  | emp =>
    intro e' m' s' t' h' x x' heq
    cases h' using HT.cas with
    | emp => exact ⟨rfl, by simpa using heq, rfl⟩
    | node f a b c w sc sw tc tw f1 f5 hc hw =>
      obtain ⟨y, r, e, hy⟩ := ftx2_head f tc tw f1 f5
      rw [e] at heq
      simp at heq
      exact absurd heq.1.symm hy
  | node f a b c w sc sw tc tw f1 f5 hc hw ihc ihw =>
    intro e' m' s' t' h' x x' heq
    cases h' using HT.cas with
    | emp =>
      obtain ⟨y, r, e, hy⟩ := ftx2_head f tc tw f1 f5
      rw [e] at heq
      simp at heq
      exact absurd heq.1 hy
    | node f' a' b' c' w' sc' sw' tc' tw' f1' f5' hc' hw' =>
      unfold ftx2 at heq
      by_cases e1 : f = 1
      · by_cases e2 : f' = 1
        · rw [if_pos e1, if_pos e2] at heq
          obtain ⟨g1, g2, g3⟩ := ihw hw' x x' (by simpa using heq)
          subst e1 e2
          subst g1
          refine ⟨rfl, g2, ?_⟩
          rw [if_pos rfl, if_pos rfl, g3]
        · rw [if_pos e1, if_neg e2] at heq
          simp at heq <;> omega
      · by_cases e2 : f' = 1
        · rw [if_neg e1, if_pos e2] at heq
          simp at heq <;> omega
        · rw [if_neg e1, if_neg e2] at heq
          simp at heq
          obtain ⟨g0, heq⟩ := heq
          subst g0
          obtain ⟨g1, g2, g3⟩ := ihc hc' _ _ heq
          subst g1
          obtain ⟨k1, k2, k3⟩ := ihw hw' _ _ g2
          subst k1
          refine ⟨rfl, k2, ?_⟩
          rw [if_neg e1, if_neg e1, g3, k3]
theorem HT_pos {m : M} {s : Nat} {t : List Nat} (h : HT k0 bf true m s t) : 1 ≤ s := by
  cases h using HT.cas with
  | node f a b c w sc sw tc tw f1 f5 hc hw => omega
theorem HT_zero {m : M} {s : Nat} {t : List Nat} (h : HT k0 bf false m s t) : m = k0 ∧ s = 0 ∧ t = [] := by
  cases h using HT.cas with
  | emp => exact ⟨rfl, rfl, rfl⟩
/-- texts of hedges of one size never begin one another -/
theorem HT_pre {e : Bool} {m : M} {s : Nat} {t : List Nat} (h : HT k0 bf e m s t) : ∀ {e' : Bool} {m' : M} {t' : List Nat}, HT k0 bf e' m' s t' → ∀ u u', t ++ u = t' ++ u' → t = t' ∧ u = u' := by
  induction h using HT.ind with
  | emp =>
    intro e' m' t' h' u u' heq
    cases e' with
    | true => exact absurd (HT_pos h') (by omega)
    | false =>
      obtain ⟨-, -, rfl⟩ := HT_zero h'
      exact ⟨rfl, heq⟩
  | node f a b c w sc sw tc tw f1 f5 hc hw ihc ihw =>
    intro e' m' t' h' u u' heq
    generalize hs : 1 + sw + (if f = 1 then 0 else sc) = s at h'
    cases h' using HT.cas with
    | emp => omega
    | node f' a' b' c' w' sc' sw' tc' tw' f1' f5' hc' hw' =>
      unfold ftx2 at heq
      by_cases e1 : f = 1
      · by_cases e2 : f' = 1
        · subst e1 e2
          rw [if_pos rfl, if_pos rfl] at heq hs
          have e3 : sw = sw' := by omega
          subst e3
          obtain ⟨g1, g2⟩ := ihw hw' u u' (by simpa using heq)
          subst g1
          exact ⟨rfl, g2⟩
        · rw [if_pos e1, if_neg e2] at heq
          simp at heq <;> omega
      · by_cases e2 : f' = 1
        · rw [if_neg e1, if_pos e2] at heq
          simp at heq <;> omega
        · rw [if_neg e1, if_neg e2] at heq
          simp at heq
          obtain ⟨g0, heq⟩ := heq
          subst g0
          obtain ⟨g1, g2, g3⟩ := HT_br hc hc' _ _ heq
          subst g1 g3
          rw [if_neg e1] at hs
          have e3 : sw = sw' := by omega
          subst e3
          obtain ⟨k1, k2⟩ := ihw hw' _ _ g2
          subst k1
          exact ⟨rfl, k2⟩
/-- the order is total on texts of one size -/
theorem HT_tot {e e' : Bool} {m m' : M} {s : Nat} {t t' : List Nat} (h : HT k0 bf e m s t) (h' : HT k0 bf e' m' s t') (h1 : sn t t' = false) (h2 : sn t' t = false) : t = t' := by
  rcases sn_tot t t' h1 h2 with ⟨u, hu⟩ | ⟨u, hu⟩
  · exact (HT_pre h h' u [] (by rw [List.append_nil]; exact hu.symm)).1
  · exact (HT_pre h h' [] u (by rw [List.append_nil]; exact hu)).1
/-- first parts make a first whole -/
theorem ftx2_le {f : Nat} {a a' b b' : Bool} {c c' w w' : M} {sc sw : Nat} {tc tc' tw tw' : List Nat} (hc : HT k0 bf a c sc tc) (hc' : HT k0 bf a' c' sc tc') (hw : HT k0 bf b w sw tw) (hw' : HT k0 bf b' w' sw tw') (h1 : sn tc' tc = false) (h2 : sn tw' tw = false) : sn (ftx2 f tc' tw') (ftx2 f tc tw) = false := by
  unfold ftx2
  by_cases e1 : f = 1
  · rw [if_pos e1, if_pos e1]
    show (if 48 = 48 then sn tw' tw else _) = false
    rw [if_pos rfl, h2]
  · rw [if_neg e1, if_neg e1]
    have e : ∀ x y : List Nat, sn ((f + 95) :: 91 :: x) ((f + 95) :: 91 :: y) = sn x y := fun x y => sn_app [f + 95, 91] x y
    rw [e]
    cases hq : sn tc tc' with
    | true =>
      cases hz : sn (tc' ++ 93 :: tw') (tc ++ 93 :: tw) with
      | false => rfl
      | true =>
        have := sn_tr _ _ _ (sn_ext tc tc' (93 :: tw) (93 :: tw') hq) hz
        rw [sn_irr] at this
        cases this
    | false =>
      have := HT_tot hc hc' hq h1
      subst this
      rw [sn_app]
      show (if 93 = 93 then sn tw' tw else _) = false
      rw [if_pos rfl, h2]
/-- the first text of a kind, at size s -/
def FT (k0 : M) (bf : Nat → M → M → M) (e : Bool) (m : M) (s : Nat) (t : List Nat) : Prop := HT k0 bf e m s t ∧ ∀ t', HT k0 bf e m s t' → sn t' t = false
theorem FT_uniq {e : Bool} {m : M} {s : Nat} {t t' : List Nat} (h : FT k0 bf e m s t) (h' : FT k0 bf e m s t') : t = t' := HT_tot h.1 h'.1 (h'.2 t h.1) (h.2 t' h'.1)
theorem FT_emp : FT k0 bf false k0 0 [] := ⟨.emp, fun t' h => by obtain ⟨-, -, rfl⟩ := HT_zero h; rfl⟩
theorem HT_len {e : Bool} {m : M} {s : Nat} {t : List Nat} (h : HT k0 bf e m s t) : t.length ≤ 3 * s := by
  induction h using HT.ind with
  | emp => exact Nat.le_refl _
  | node f a b c w sc sw tc tw f1 f5 hc hw ihc ihw =>
    unfold ftx2
    split
    · simp
      omega
    · simp
      omega
end T1
