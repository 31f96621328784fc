/-! running: how often functions are applied; what it depends on -/
theorem wr_cnt {N : Nd} {o : Option Nat} {n : Nat} {AP : Nat → Option Nat → Nat → Nd → Nat → RR} (hAP : ∀ φ q d out a out' a', AP φ q d out a = .inl (out', a') → out.length ≤ out'.length ∧ a' ≤ a + n * (1 + (out'.length - out.length))) : ∀ (K : List Nat) (δ : Nat) (e : Bool) (d : Nat) (out : Nd) (a : Nat) (out' : Nd) (a' : Nat), kd δ K = some 0 → eo e K ≠ none → wr N AP o K d out a = .inl (out', a') → out.length ≤ out'.length ∧ a' ≤ a + n * ((out'.length - out.length) + δ + (if e then 0 else 1)) := by
  intro K
  induction K with
  | nil =>
    intro δ e d out a out' a' _ _ h
    cases h
    exact ⟨Nat.le_refl _, Nat.le_add_right _ _⟩
  | cons k K ih =>
    intro δ e d out a out' a' hk he h
    unfold kd at hk
    unfold eo at he
    unfold wr at h
    by_cases h93 : k = 93
    · rw [if_pos h93] at hk he h
      by_cases h0 : δ = 0
      · rw [if_pos h0] at hk
        cases hk
      rw [if_neg h0] at hk
      obtain ⟨g1, g2⟩ := ih _ _ _ _ _ _ _ hk he h
      refine ⟨g1, Nat.le_trans g2 (Nat.add_le_add_left (Nat.mul_le_mul_left n ?_) a)⟩
      show _ + _ + 1 ≤ _
      omega
    rw [if_neg h93] at hk he h
    cases e with
    | true =>
      rw [if_pos rfl] at he
      exact absurd rfl he
    | false =>
    rw [if_neg (by decide)] at he
    show _ ∧ _ ≤ a + n * (_ + _ + 1)
    by_cases h256 : 256 ≤ k
    · rw [if_pos h256] at h
      rw [show isLab k = false by simp only [isLab, decide_eq_false_iff_not]; omega, if_neg (by decide)] at hk
      rw [show isEnd k = true from decide_eq_true (Or.inr (Or.inr h256))] at he
      cases hA : AP ((k - 256) / 2) (prt N o k) d out a using RR.cas with
      | stuck =>
        rw [hA] at h
        cases h
      | full =>
        rw [hA] at h
        cases h
      | ok o1 a1 =>
        rw [hA] at h
        obtain ⟨f1, f2⟩ := hAP _ _ _ _ _ _ _ hA
        obtain ⟨g1, g2⟩ := ih _ _ _ _ _ _ _ hk he h
        refine ⟨Nat.le_trans f1 g1, ?_⟩
        have g2 : a' ≤ a1 + n * (out'.length - o1.length + δ + 0) := g2
        have e1 : n * (out'.length - out.length + δ + 1) = n * (1 + (o1.length - out.length)) + n * (out'.length - o1.length + δ + 0) := by
          rw [← Nat.mul_add]
          congr 1
          omega
        rw [e1]
        omega
    rw [if_neg h256] at h
    by_cases hxy : k = 120 ∨ k = 121
    · rw [if_pos hxy] at h
      rw [show isLab k = false by simp only [isLab, decide_eq_false_iff_not]; omega, if_neg (by decide)] at hk
      cases hw : wL out (seg N (prt N o k) d) with
      | none =>
        rw [hw] at h
        cases h
      | some o1 =>
        rw [hw] at h
        have hl : out.length ≤ o1.length := by
          rw [(wL_len _ _ _ hw).1, List.length_append]
          omega
        obtain ⟨g1, g2⟩ := ih _ _ _ _ _ _ _ hk he h
        refine ⟨Nat.le_trans hl g1, Nat.le_trans g2 (Nat.add_le_add_left (Nat.mul_le_mul_left n ?_) a)⟩
        have : (if isEnd k = true then 0 else 1) ≤ 1 := by split <;> omega
        omega
    rw [if_neg hxy] at h
    cases hw : wL out [(if k = 35 then cd N (o.getD 0) else k, d)] with
    | none =>
      rw [hw] at h
      cases h
    | some o1 =>
      rw [hw] at h
      have hl : o1.length = out.length + 1 := by
        rw [(wL_len _ _ _ hw).1, List.length_append]
        rfl
      have h3 : (if isEnd k = true then 0 else 1) ≤ 1 := by split <;> omega
      by_cases hlab : isLab k = true
      · rw [if_pos hlab] at hk
        obtain ⟨g1, g2⟩ := ih _ _ _ _ _ _ _ hk he h
        refine ⟨by omega, Nat.le_trans g2 (Nat.add_le_add_left (Nat.mul_le_mul_left n ?_) a)⟩
        omega
      · rw [if_neg hlab] at hk
        obtain ⟨g1, g2⟩ := ih _ _ _ _ _ _ _ hk he h
        refine ⟨by omega, Nat.le_trans g2 (Nat.add_le_add_left (Nat.mul_le_mul_left n ?_) a)⟩
        omega
theorem ap_cnt {S : Rs} {N : Nd} {f : Nat → Int64} {F : Nat → Fn} (hF : ∀ φ, (F φ).2.2 = [] ∨ okF (F φ)) : ∀ (n φ : Nat) (o : Option Nat) (d : Nat) (out : Nd) (a : Nat) (out' : Nd) (a' : Nat), ap S N f F n φ o d out a = .inl (out', a') → out.length ≤ out'.length ∧ a' ≤ a + n * (1 + (out'.length - out.length)) := by
  intro n
  induction n with
  | zero =>
    intro φ o d out a out' a' h
    cases h
  | succ n ih =>
    intro φ o d out a out' a' h
    unfold ap at h
    cases hc : choF S N f (F φ).2.2 o with
    | none =>
      rw [hc] at h
      cases h
    | some j =>
      rw [hc] at h
      obtain ⟨c1, c2, c3⟩ := choF_p hc
      have hokF : okF (F φ) := (hF φ).resolve_left (fun q => by rw [q] at c1; cases c1)
      have hok := clA_ok hokF c1
      obtain ⟨g1, g2⟩ := wr_cnt (n := n) ih _ 0 false d out (a + 1) out' a' hok.2.2.2.2.1 hok.2.2.2.2.2.2 h
      refine ⟨g1, ?_⟩
      have g2 : a' ≤ a + 1 + n * (out'.length - out.length + 0 + 1) := g2
      rw [Nat.succ_mul, show 1 + (out'.length - out.length) = out'.length - out.length + 0 + 1 by omega]
      omega
theorem wr_congr {N : Nd} {o : Option Nat} {AP AQ : Nat → Option Nat → Nat → Nd → Nat → RR} (hAP : ∀ φ q d out a, (∀ i, q = some i → i < N.length) → AP φ q d out a = AQ φ q d out a) : ∀ (K : List Nat) (d : Nat) (out : Nd) (a : Nat), wr N AP o K d out a = wr N AQ o K d out a := by
  intro K
  induction K with
  | nil => exact fun _ _ _ => rfl
  | cons k K ih =>
    intro d out a
    unfold wr
    rw [hAP _ (prt N o k) d out a (fun i hi => (prt_lt i hi).1)]
    simp only [ih]
theorem choF_congr {S : Rs} {N : Nd} {f g : Nat → Int64} (hfg : ∀ j, j < N.length → f j = g j) (C : List Cl) (o : Option Nat) (ho : ∀ i, o = some i → i < N.length) : choF S N f C o = choF S N g C o := by
  cases o with
  | none => rfl
  | some i =>
    have om_c : ∀ q : Option Nat, (∀ i, q = some i → i < N.length) → om S f q = om S g q := by
      intro q hq
      cases q with
      | none => rfl
      | some j => exact hfg j (hq j rfl)
    show chs S C _ (tb (om S f _)) (tb (om S f _)) = chs S C _ (tb (om S g _)) (tb (om S g _))
    rw [om_c (contN N i) (fun j hj => (contN_gt hj).2), om_c (behN N i) (fun j hj => (behN_gt hj).2)]
theorem ap_congr {S : Rs} {N : Nd} {f g : Nat → Int64} {F : Nat → Fn} (hfg : ∀ j, j < N.length → f j = g j) : ∀ (n φ : Nat) (o : Option Nat) (d : Nat) (out : Nd) (a : Nat), (∀ i, o = some i → i < N.length) → ap S N f F n φ o d out a = ap S N g F n φ o d out a := by
  intro n
  induction n with
  | zero => exact fun _ _ _ _ _ _ => rfl
  | succ n ih =>
    intro φ o d out a ho
    unfold ap
    rw [choF_congr hfg _ o ho]
    cases choF S N g (F φ).2.2 o with
    | none => rfl
    | some j => exact wr_congr ih _ _ _ _
def o0 (N : Nd) : Option Nat := if N.length = 0 then none else some 0
theorem o0_lt {N : Nd} : ∀ i, o0 N = some i → i < N.length := by
  intro i h
  unfold o0 at h
  split at h
  · cases h
  · cases h
    omega
theorem ap_fin {S : Rs} {N : Nd} (hN : okN 0 N) {f : Nat → Int64} {F : Nat → Fn} (hF : ∀ φ, (F φ).2.2 = [] ∨ okF (F φ)) {φ : Nat} {out : Nd} {a : Nat} (h : ap S N f F 13 φ (o0 N) 0 [] 0 = .inl (out, a)) : okN 0 out ∧ out.length ≤ 20 ∧ a ≤ 273 := by
  obtain ⟨h1, h2, -⟩ := ap_ok hN hF 13 φ (o0 N) 0 [] 0 out a o0_lt trivial (Nat.zero_le _) (Nat.zero_le _) h
  obtain ⟨-, h3⟩ := ap_cnt hF 13 φ (o0 N) 0 [] 0 out a h
  have h3 : a ≤ 0 + 13 * (1 + (out.length - 0)) := h3
  exact ⟨h1, h2, by omega⟩
