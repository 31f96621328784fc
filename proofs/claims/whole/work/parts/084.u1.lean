/-! running a function: what is written -/
abbrev RR : Type := (Nd × Nat) ⊕ Bool
theorem RR.cas {motive : RR → Prop} (ok : ∀ (out : Nd) (a : Nat), motive (Sum.inl (out, a))) (stuck : motive (Sum.inr true)) (full : motive (Sum.inr false)) (r : RR) : motive r := by
  rcases r with ⟨out, a⟩ | b
  · exact ok out a
  · cases b with
    | true => exact stuck
    | false => exact full
def isX (k : Nat) : Bool := decide (k = 120 ∨ (256 ≤ k ∧ k % 2 = 0))
def prt (N : Nd) (o : Option Nat) (k : Nat) : Option Nat := match o with
  | none => none
  | some i => if isX k then contN N i else behN N i
/-- the nodes of the hedge that begins at node i, from node m on -/
def segM (N : Nd) (i d : Nat) : Nat → Nat → Nd
  | 0, _ => []
  | g + 1, m => if m < N.length ∧ dp N i ≤ dp N m then (cd N m, dp N m - dp N i + d) :: segM N i d g (m + 1) else []
def seg (N : Nd) (o : Option Nat) (d : Nat) : Nd := match o with
  | none => []
  | some i => segM N i d (N.length + 1) i
def wL : Nd → Nd → Option Nd
  | out, [] => some out
  | out, x :: M => if out.length < 20 then wL (out ++ [x]) M else none
def wr (N : Nd) (ap : Nat → Option Nat → Nat → Nd → Nat → RR) (o : Option Nat) : List Nat → Nat → Nd → Nat → RR
  | [], _, out, a => .inl (out, a)
  | k :: K, d, out, a => if k = 93 then wr N ap o K (d - 1) out a
    else if 256 ≤ k then (match ap ((k - 256) / 2) (prt N o k) d out a with
      | .inl (out', a') => wr N ap o K d out' a'
      | .inr true => .inr true
      | .inr false => .inr false)
    else if k = 120 ∨ k = 121 then (match wL out (seg N (prt N o k) d) with
      | some out' => wr N ap o K d out' a
      | none => .inr false)
    else (match wL out [(if k = 35 then cd N (o.getD 0) else k, d)] with
      | some out' => wr N ap o K (d + lb k) out' a
      | none => .inr false)
/-- the clause that a function chooses for a part -/
noncomputable def choF (S : Rs) (N : Nd) (f : Nat → Int64) (C : List Cl) (o : Option Nat) : Option Nat := match o with
  | none => chs S C 0 (fun _ => false) (fun _ => false)
  | some i => chs S C (kn (cd N i)) (tb (om S f (contN N i))) (tb (om S f (behN N i)))
noncomputable def ap (S : Rs) (N : Nd) (f : Nat → Int64) (F : Nat → Fn) : Nat → Nat → Option Nat → Nat → Nd → Nat → RR
  | 0, _, _, _, _, _ => .inr true
  | n + 1, φ, o, d, out, a => match choF S N f (F φ).2.2 o with
    | none => .inr true
    | some j => wr N (ap S N f F n) o (clA (F φ).2.2 j).2 d out (a + 1)
theorem chs_0 {S : Rs} {C : List Cl} {i b i' b' : Nat → Bool} : chs S C 0 i b = chs S C 0 i' b' := by
  have : ∀ (C : List Cl) k, chsG S 0 i b k C = chsG S 0 i' b' k C := by
    intro C
    induction C with
    | nil => exact fun _ => rfl
    | cons c C ih =>
      intro k
      unfold chsG
      rw [ih (k + 1)]
      have : mtch S c.1 0 i b = mtch S c.1 0 i' b' := rfl
      rw [this]
  exact this C 0
theorem chsG_m {S : Rs} {f : Nat} {i b : Nat → Bool} : ∀ {k : Nat} {C : List Cl} {j : Nat}, chsG S f i b k C = some j → mtch S (clA C (j - k)).1 f i b = true
  | k, [], j, h => by cases h
  | k, c :: C, j, h => by
    unfold chsG at h
    split at h
    · next q =>
      cases h
      rw [Nat.sub_self]
      exact q
    · have h1 := chsG_lt h
      have h2 := chsG_m h
      rw [show j - k = (j - (k + 1)) + 1 by omega]
      exact h2
theorem chs_p {S : Rs} {f : Nat} {i b : Nat → Bool} {C : List Cl} {j : Nat} (h : chs S C f i b = some j) : (clA C j).1.1 = f := by
  have := chsG_m h
  rw [Nat.sub_zero] at this
  unfold mtch at this
  rw [Bool.and_eq_true] at this
  exact of_decide_eq_true this.1
theorem choF_p {S : Rs} {N : Nd} {f : Nat → Int64} {C : List Cl} {o : Option Nat} {j : Nat} (h : choF S N f C o = some j) : j < C.length ∧ (o = none ↔ (clA C j).1.1 = 0) ∧ ∀ i, o = some i → (clA C j).1.1 = kn (cd N i) := by
  cases o with
  | none =>
    have h : chs S C 0 _ _ = some j := h
    exact ⟨chs_lt h, ⟨fun _ => chs_p h, fun _ => rfl⟩, fun i hi => by cases hi⟩
  | some i =>
    have h : chs S C _ _ _ = some j := h
    have h1 := chs_p h
    have h2 := kn_range (c := cd N i)
    exact ⟨chs_lt h, ⟨fun q => (by cases q), fun q => (by omega)⟩, fun k hk => (by cases hk; exact h1)⟩
/-- writing keeps a hedge -/
theorem wL_len : ∀ (M out out' : Nd), wL out M = some out' → out' = out ++ M ∧ (out.length ≤ 20 → out'.length ≤ 20)
  | [], out, out', h => by
    cases h
    exact ⟨(List.append_nil _).symm, fun q => q⟩
  | x :: M, out, out', h => by
    unfold wL at h
    split at h
    · next q =>
      obtain ⟨h1, h2⟩ := wL_len M _ _ h
      refine ⟨by rw [h1]; simp, fun _ => h2 (by rw [List.length_append]; show out.length + 1 ≤ 20; omega)⟩
    · cases h
theorem segM_ok {N : Nd} (hN : okN 0 N) {i d : Nat} : ∀ (g m : Nat) (out out' : Nd), okN 0 out → i < m → (∃ P, out = P ++ [(cd N (m - 1), dp N (m - 1) - dp N i + d)]) → dp N i ≤ dp N (m - 1) → wL out (segM N i d g m) = some out' → okN 0 out' ∧ d ≤ edp out'
  | 0, m, out, out', ho, him, ⟨P, hP⟩, hd, h => by
    cases h
    refine ⟨ho, ?_⟩
    rw [hP, edp_app]
    show d ≤ dp N (m - 1) - dp N i + d + _
    omega
  | g + 1, m, out, out', ho, him, ⟨P, hP⟩, hd, h => by
    unfold segM at h
    by_cases q : m < N.length ∧ dp N i ≤ dp N m
    · rw [if_pos q] at h
      unfold wL at h
      split at h
      · refine segM_ok hN (i := i) (d := d) g (m + 1) (out ++ [(cd N m, dp N m - dp N i + d)]) out' (okN_snoc0.mpr ⟨ho, ?_, cd_nod N 0 m hN q.1⟩) (by omega) ⟨out, by rw [Nat.add_sub_cancel]⟩ (by rw [Nat.add_sub_cancel]; exact q.2) h
        rw [hP, edp_app]
        show dp N m - dp N i + d ≤ dp N (m - 1) - dp N i + d + lb (cd N (m - 1))
        have := dp_step N 0 (m - 1) hN (by omega)
        rw [show m - 1 + 1 = m by omega] at this
        omega
      · cases h
    · rw [if_neg q] at h
      cases h
      refine ⟨ho, ?_⟩
      rw [hP, edp_app]
      show d ≤ dp N (m - 1) - dp N i + d + _
      omega
theorem seg_ok {N : Nd} (hN : okN 0 N) {o : Option Nat} (ho : ∀ i, o = some i → i < N.length) {d : Nat} {out out' : Nd} (hout : okN 0 out) (hd : d ≤ edp out) (h : wL out (seg N o d) = some out') : okN 0 out' ∧ d ≤ edp out' := by
  cases o with
  | none =>
    cases h
    exact ⟨hout, hd⟩
  | some i =>
    have hi := ho i rfl
    have h : wL out (segM N i d (N.length + 1) i) = some out' := h
    rw [segM, if_pos ⟨hi, Nat.le_refl _⟩] at h
    unfold wL at h
    split at h
    · refine segM_ok hN (i := i) (d := d) N.length (i + 1) (out ++ [(cd N i, dp N i - dp N i + d)]) out' (okN_snoc0.mpr ⟨hout, by show dp N i - dp N i + d ≤ edp out; omega, cd_nod N 0 i hN hi⟩) (by omega) ⟨out, by rw [Nat.add_sub_cancel]⟩ (by rw [Nat.add_sub_cancel]; exact Nat.le_refl _) h
    · cases h
theorem prt_lt {N : Nd} {o : Option Nat} {k : Nat} : ∀ j, prt N o k = some j → j < N.length ∧ ∀ i, o = some i → i < j := by
  intro j h
  cases o with
  | none => cases h
  | some i =>
    have h : (if isX k then contN N i else behN N i) = some j := h
    split at h
    · have := contN_gt h
      exact ⟨this.2, fun i hi => by cases hi; exact this.1⟩
    · have := behN_gt h
      exact ⟨this.2, fun i hi => by cases hi; exact this.1⟩
/-- writing a result keeps a hedge, and comes back to its depth -/
theorem wr_ok {N : Nd} (hN : okN 0 N) {AP : Nat → Option Nat → Nat → Nd → Nat → RR} {o : Option Nat} (p : Nat) (ho : ∀ i, o = some i → i < N.length ∧ p = kn (cd N i)) (ho2 : o = none → p = 0)
    (hAP : ∀ φ q d out a out' a', (∀ i, q = some i → i < N.length) → okN 0 out → out.length ≤ 20 → d ≤ edp out → AP φ q d out a = .inl (out', a') → okN 0 out' ∧ out'.length ≤ 20 ∧ d ≤ edp out') :
    ∀ (K : List Nat) (e e' d : Nat) (out : Nd) (a : Nat) (out' : Nd) (a' : Nat), (∀ k ∈ K, okTk p k) → kd e K = some e' → e ≤ d → okN 0 out → out.length ≤ 20 → d ≤ edp out → wr N AP o K d out a = .inl (out', a') → okN 0 out' ∧ out'.length ≤ 20 ∧ d - e + e' ≤ edp out' := by
  intro K
  induction K with
  | nil =>
    intro e e' d out a out' a' hK hkd he hout hl hd h
    cases hkd
    cases h
    exact ⟨hout, hl, by omega⟩
  | cons k K ih =>
    intro e e' d out a out' a' hK hkd he hout hl hd h
    have hk := hK k List.mem_cons_self
    have hK2 : ∀ k ∈ K, okTk p k := fun x hx => hK x (List.mem_cons_of_mem _ hx)
    unfold wr at h
    unfold kd at hkd
    by_cases h1 : k = 93
    · rw [if_pos h1] at h hkd
      by_cases h0 : e = 0
      · rw [if_pos h0] at hkd
        cases hkd
      · rw [if_neg h0] at hkd
        have := ih (e - 1) e' (d - 1) out a out' a' hK2 hkd (by omega) hout hl (by omega) h
        exact ⟨this.1, this.2.1, by omega⟩
    rw [if_neg h1] at h hkd
    by_cases h2 : 256 ≤ k
    · rw [if_pos h2] at h
      rw [show isLab k = false by simp only [isLab, decide_eq_false_iff_not]; omega] at hkd
      have hkd : kd e K = some e' := hkd
      cases hA : AP ((k - 256) / 2) (prt N o k) d out a using RR.cas with
      | ok o2 a2 =>
        rw [hA] at h
        obtain ⟨g1, g2, g3⟩ := hAP _ _ _ _ _ _ _ (fun i hi => (prt_lt i hi).1) hout hl hd hA
        exact ih e e' d o2 a2 out' a' hK2 hkd he g1 g2 g3 h
      | stuck =>
        rw [hA] at h
        cases h
      | full =>
        rw [hA] at h
        cases h
    rw [if_neg h2] at h
    by_cases h3 : k = 120 ∨ k = 121
    · rw [if_pos h3] at h
      rw [show isLab k = false by simp only [isLab, decide_eq_false_iff_not]; omega] at hkd
      have hkd : kd e K = some e' := hkd
      cases hw : wL out (seg N (prt N o k) d) with
      | none =>
        rw [hw] at h
        cases h
      | some o2 =>
        rw [hw] at h
        obtain ⟨g1, g2⟩ := seg_ok hN (fun i hi => (prt_lt i hi).1) hout hd hw
        exact ih e e' d o2 a out' a' hK2 hkd he g1 ((wL_len _ _ _ hw).2 hl) g2 h
    rw [if_neg h3] at h
    cases hw : wL out [(if k = 35 then cd N (o.getD 0) else k, d)] with
    | none =>
      rw [hw] at h
      cases h
    | some o2 =>
      rw [hw] at h
      obtain ⟨g1, g2⟩ := wL_len _ _ _ hw
      have hnod : isNod (if k = 35 then cd N (o.getD 0) else k) = true ∧ lb (if k = 35 then cd N (o.getD 0) else k) = lb k := by
        by_cases h35 : k = 35
        · rw [if_pos h35, h35]
          have hp1 : p = 1 := by
            rcases hk with q | q | q | q | q | q | q
            · have := isDig_r q
              omega
            · exact q.2
            · have := isLab_r q
              omega
            all_goals omega
          cases ho3 : o with
          | none =>
            have := ho2 ho3
            omega
          | some i =>
            obtain ⟨i1, i2⟩ := ho i ho3
            have hn := cd_nod N 0 i hN i1
            refine ⟨hn, ?_⟩
            show lb (cd N i) = lb 35
            have : isLab (cd N i) = false := by
              cases hq : isLab (cd N i) with
              | false => rfl
              | true =>
                unfold kn at i2
                rw [if_pos hq] at i2
                have := isLab_r hq
                omega
            unfold lb
            rw [this]
            rfl
        · rw [if_neg h35]
          refine ⟨?_, rfl⟩
          unfold isNod
          rcases hk with q | q | q | q | q | q | q
          · rw [q]
            rfl
          · omega
          · rw [q, Bool.or_true]
          all_goals omega
      have hg1 : okN 0 o2 ∧ d + lb k ≤ edp o2 := by
        rw [g1]
        refine ⟨okN_snoc0.mpr ⟨hout, hd, hnod.1⟩, ?_⟩
        rw [edp_app]
        show d + lb k ≤ d + lb (if k = 35 then cd N (o.getD 0) else k)
        rw [hnod.2]
        exact Nat.le_refl _
      by_cases hl2 : isLab k = true
      · rw [if_pos hl2] at hkd
        have hlb : lb k = 1 := by unfold lb; rw [if_pos hl2]
        rw [hlb] at h hg1
        have := ih (e + 1) e' (d + 1) o2 a out' a' hK2 hkd (by omega) hg1.1 (g2 hl) hg1.2 h
        exact ⟨this.1, this.2.1, by omega⟩
      · rw [if_neg hl2] at hkd
        have hlb : lb k = 0 := by unfold lb; rw [if_neg hl2]
        rw [hlb] at h hg1
        exact ih e e' d o2 a out' a' hK2 hkd he hg1.1 (g2 hl) hg1.2 h
theorem ap_ok {S : Rs} {N : Nd} (hN : okN 0 N) {f : Nat → Int64} {F : Nat → Fn} (hF : ∀ φ, (F φ).2.2 = [] ∨ okF (F φ)) : ∀ (n φ : Nat) (o : Option Nat) (d : Nat) (out : Nd) (a : Nat) (out' : Nd) (a' : Nat), (∀ i, o = some i → i < N.length) → okN 0 out → out.length ≤ 20 → d ≤ edp out → ap S N f F n φ o d out a = .inl (out', a') → okN 0 out' ∧ out'.length ≤ 20 ∧ d ≤ edp out' := by
  intro n
  induction n with
  | zero =>
    intro φ o d out a out' a' _ _ _ _ h
    cases h
  | succ n ih =>
    intro φ o d out a out' a' ho hout hl hd h
    unfold ap at h
    cases hc : choF S N f (F φ).2.2 o with
    | none =>
      rw [hc] at h
      cases h
    | some j =>
      rw [hc] at h
      obtain ⟨c1, c2, c3⟩ := choF_p hc
      have hokF : okF (F φ) := (hF φ).resolve_left (fun q => by rw [q] at c1; cases c1)
      have hok := clA_ok hokF c1
      have := wr_ok hN (AP := ap S N f F n) (o := o) (clA (F φ).2.2 j).1.1 (fun i hi => ⟨ho i hi, c3 i hi⟩) (fun q => c2.mp q) (fun φ q d out a out' a' h1 h2 h3 h4 h5 => ih φ q d out a out' a' h1 h2 h3 h4 h5) (clA (F φ).2.2 j).2 0 0 d out (a + 1) out' a' hok.2.2.2.1 hok.2.2.2.2.1 (Nat.zero_le _) hout hl hd h
      exact ⟨this.1, this.2.1, by omega⟩
