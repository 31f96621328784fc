/-! the reference: belongs, as a least closed set -/
theorem inN_mono {S : Rs} {X Y : Nat → Bool} {n : Nat} (h : ∀ r, r < S.1 → X r = true → Y r = true) (hx : inN S X n = true) : inN S Y n = true := by
  obtain ⟨r, h1, h2, h3⟩ := inN_iff.mp hx
  exact inN_iff.mpr ⟨r, h1, h2, h r h1 h3⟩
theorem mayB_mono {S : Rs} {f : Nat} {i b X Y : Nat → Bool} (hS : okS S) (h : ∀ r, r < S.1 → X r = true → Y r = true) {r : Nat} (hr : r < S.1) (hx : mayB S f i b X r = true) : mayB S f i b Y r = true := by
  obtain ⟨k1, -, -⟩ := hS.2 r hr
  unfold mayB at hx ⊢
  split
  · next h1 =>
    rw [if_pos h1] at hx
    exact hx
  · next h1 =>
    rw [if_neg h1] at hx
    split
    · next h2 =>
      rw [if_pos h2] at hx
      exact inN_mono h hx
    · next h2 =>
      rw [if_neg h2] at hx
      simp only [Bool.or_eq_true, Bool.and_eq_true] at hx ⊢
      rcases hx with hx | hx
      · exact Or.inl ⟨hx.1, h _ (by omega) hx.2⟩
      · exact Or.inr hx
/-- the least set of rests that is closed -/
def Lfp (S : Rs) (f : Nat) (i b : Nat → Bool) (r : Nat) : Prop := r < S.1 ∧ ∀ X : Nat → Bool, (∀ q, q < S.1 → mayB S f i b X q = true → X q = true) → X r = true
noncomputable def ofB (p : Nat → Prop) : Int64 := ⟨⟨BitVec.ofNat 64 ((List.range 64).foldl (fun a r => a ||| (if Classical.propDecidable (p r) |>.decide then 2 ^ r else 0)) 0)⟩⟩
theorem fold_bit (g : Nat → Bool) : ∀ (n r : Nat), ((List.range n).foldl (fun a r => a ||| (if g r then 2 ^ r else 0)) 0).testBit r = (decide (r < n) && g r)
  | 0, r => by simp
  | n + 1, r => by
    rw [List.range_succ, List.foldl_append, List.foldl_cons, List.foldl_nil, Nat.testBit_or, fold_bit g n r]
    by_cases h : r = n
    · subst h
      cases hg : g r <;> simp [Nat.testBit_two_pow_self]
    · have : (if g n = true then 2 ^ n else 0).testBit r = false := by
        split
        · exact Nat.testBit_two_pow_of_ne (Ne.symm h)
        · simp
      rw [this, Bool.or_false]
      by_cases h2 : r < n
      · simp [h2, show r < n + 1 by omega]
      · simp [h2, show ¬ r < n + 1 by omega]
theorem tb_ofB (p : Nat → Prop) {r : Nat} (h : r < 64) : tb (ofB p) r = true ↔ p r := by
  have e : tb (ofB p) r = ((Classical.propDecidable (p r)).decide) := by
    show (BitVec.ofNat 64 _).getLsbD r = _
    rw [BitVec.getLsbD_ofNat, fold_bit (fun r => (Classical.propDecidable (p r)).decide) 64 r]
    simp [h]
  rw [e]
  exact @decide_eq_true_iff (p r) (Classical.propDecidable (p r))
theorem ofB_eq {p : Nat → Prop} {m : Int64} (h : ∀ r, r < 64 → (tb m r = true ↔ p r)) : m = ofB p := by
  apply tb_ext
  intro r hr
  have h1 := h r hr
  have h2 := tb_ofB p hr
  cases q1 : tb m r <;> cases q2 : tb (ofB p) r <;> simp_all
noncomputable def belF (S : Rs) (f : Nat) (i b : Nat → Bool) : Int64 := ofB (Lfp S f i b)
def unset (S : Rs) (m : Int64) : Nat := ((List.range S.1).filter (fun r => !tb m r)).length
theorem filter_lt {α : Type} (p q : α → Bool) : ∀ (L : List α), (∀ x ∈ L, p x = true → q x = true) → (∃ x ∈ L, q x = true ∧ p x = false) → (L.filter p).length < (L.filter q).length
  | [], _, h => by obtain ⟨x, hx, -⟩ := h; cases hx
  | a :: L, hpq, h => by
    have hle : (L.filter p).length ≤ (L.filter q).length := by
      have : L.filter p = (L.filter q).filter p := by
        rw [List.filter_filter]
        apply List.filter_congr
        intro x hx
        have := hpq x (List.mem_cons_of_mem _ hx)
        cases hp : p x
        · simp
        · simp [this hp]
      rw [this]
      exact List.length_filter_le _ _
    rw [List.filter_cons, List.filter_cons]
    obtain ⟨x, hx, h1, h2⟩ := h
    rcases List.mem_cons.mp hx with e | e
    · subst e
      rw [if_neg (by rw [h2]; decide), if_pos h1, List.length_cons]
      omega
    · have ih := filter_lt p q L (fun y hy => hpq y (List.mem_cons_of_mem _ hy)) ⟨x, e, h1, h2⟩
      have ha := hpq a List.mem_cons_self
      by_cases hp : p a = true
      · rw [if_pos hp, if_pos (ha hp), List.length_cons, List.length_cons]
        omega
      · rw [if_neg hp]
        split
        · rw [List.length_cons]
          omega
        · exact ih
theorem unset_lt {S : Rs} {m : Int64} {r : Nat} (hr : r < S.1) (h64 : S.1 ≤ 64) (h : tb m r = false) : unset S (m ||| (1 <<< ((nI r).toInt64 &&& 63))) < unset S m := by
  refine filter_lt _ _ _ (fun x _ hx => ?_) ⟨r, List.mem_range.mpr hr, by rw [h]; rfl, ?_⟩
  · rw [tb_or, Bool.not_eq_true', Bool.or_eq_false_iff] at hx
    rw [hx.1]
    rfl
  · rw [tb_or, tb_bit (by omega), decide_eq_true rfl, Bool.or_true]
    rfl
def am_drop (ls : List (Option Value)) (ks : List Nat) : List (Option Value) := ks.foldl (fun a k => a.set k none) ls
theorem am_drops {l : Launch} {d : Nat} {M : am_M} {pc : Nat} {st : List Value} {h : am_H} {kc ks : Nat} {Q : Option Value → am_H → Prop} : ∀ (is : List Nat) {ls : List (Option Value)}, am_T l d M pc (am_drop ls is) st h kc ks Q → am_T l d M pc ls st h kc ks Q
  | [], ls, k => k
  | i :: is, ls, k => by
    refine am_less (ls' := ls.set i none) List.length_set (fun j v hv => ?_) (am_drops is (ls := ls.set i none) k)
    rw [List.getElem?_set] at hv
    by_cases e : i = j
    · rw [if_pos e] at hv
      split at hv <;> cases hv
    · rw [if_neg e] at hv
      exact hv
theorem nI_m1 (x : Int32) : x + Int32.ofInt (-1) = x - nI 1 := by
  rw [Int32.sub_eq_add_neg]
  rfl
section M4
variable {l : Launch} {d : Nat} {mi : Nat → Nat → Int32} {ml : Nat → Nat → Int64} {mr : Nat → Nat → Option Nat} {h : am_H} {S : Rs}
/-- one pass over the rests, from above -/
theorem c_m_belongs_pass (hR : SR mr) (hS : okS S) (hr : repS S mi) (f : Nat) (hf : f ≤ 5) (i b m0 : Int64) {Q : Option Value → am_H → Prop}
    (hout : ∀ (m : Int64) (more : Bool), (∀ r, tb m r = true → Lfp S f (tb i) (tb b) r) → unset S m ≤ unset S m0 → (more = true → unset S m < unset S m0) → (more = false → ∀ r, r < S.1 → tb m r = false → mayB S f (tb i) (tb b) (tb m) r = false) →
      am_T l (d + 2) M_m_belongs 6 [some (.ref 116), some (.int (fI f)), some (.long i), none, some (.long b), none, some (.long m), none, some (.int (bI more)), none] [] (hm mi ml mr) 0 0 Q) :
    ∀ (k : Nat) (m : Int64) (more : Bool), k ≤ S.1 → (∀ r, tb m r = true → Lfp S f (tb i) (tb b) r) → unset S m ≤ unset S m0 → (more = true → unset S m < unset S m0) → (more = false → ∀ r, k ≤ r → r < S.1 → tb m r = false → mayB S f (tb i) (tb b) (tb m) r = false) →
      am_T l (d + 2) M_m_belongs 22 [some (.ref 116), some (.int (fI f)), some (.long i), none, some (.long b), none, some (.long m), none, some (.int (bI more)), some (.int (nI k - nI 1))] [] (hm mi ml mr) 0 0 Q := by
  have h64 := hS.1
  intro k
  induction k with
  | zero =>
    intro m more hk h1 h2 h3 h4
    refine am_iload rfl rfl ?_
    refine am_if_lt rfl (fun _ => ?_) (fun q => absurd (by decide) q)
    refine am_goto rfl ?_
    refine am_drops [9] ?_
    exact hout m more h1 h2 h3 (fun e r => h4 e r (Nat.zero_le _))
  | succ k ih =>
    intro m more hk h1 h2 h3 h4
    rw [show nI (k + 1) - nI 1 = nI k from nI_pred k]
    have next : ∀ (m' : Int64) (more' : Bool), (∀ r, tb m' r = true → Lfp S f (tb i) (tb b) r) → unset S m' ≤ unset S m0 → (more' = true → unset S m' < unset S m0) → (more' = false → ∀ r, k ≤ r → r < S.1 → tb m' r = false → mayB S f (tb i) (tb b) (tb m') r = false) →
        am_T l (d + 2) M_m_belongs 66 [some (.ref 116), some (.int (fI f)), some (.long i), none, some (.long b), none, some (.long m'), none, some (.int (bI more')), some (.int (nI k))] [] (hm mi ml mr) 0 0 Q := by
      intro m' more' g1 g2 g3 g4
      refine am_iinc rfl rfl (nI_m1 _) ?_
      show am_T _ _ _ _ [_, _, _, _, _, _, _, _, _, some _] _ _ _ _ _
      refine am_goto rfl ?_
      exact ih m' more' (by omega) g1 g2 g3 g4
    refine am_iload rfl rfl ?_
    refine am_if_lt rfl (fun q => absurd q (nI_pos (by omega))) (fun _ => ?_)
    refine am_lload rfl rfl ?_
    refine am_iload rfl rfl ?_
    refine am_lshr rfl rfl ?_
    refine am_lconst (v := 1) rfl (by decide) ?_
    refine am_land rfl ?_
    refine am_lconst (v := 0) rfl (by decide) ?_
    refine am_lcmp rfl ?_
    refine am_if_ne rfl (fun q => ?_) (fun q => ?_)
    · have hset : tb m k = true := by
        cases ht : tb m k
        · exact absurd ((tb_test0 (by omega)).mpr ht) q
        · rfl
      refine next m more h1 h2 h3 (fun e r hkr hrS hz => ?_)
      rcases Nat.eq_or_lt_of_le hkr with e2 | e2
      · subst e2
        rw [hset] at hz
        cases hz
      · exact h4 e r e2 hrS hz
    have hno : tb m k = false := (tb_test0 (by omega)).mp q
    refine am_aload_n rfl rfl ?_
    refine am_iload rfl rfl ?_
    refine am_iload_n rfl rfl ?_
    refine am_lload_n rfl rfl ?_
    refine am_lload rfl rfl ?_
    refine am_lload rfl rfl ?_
    refine ho_cv5 rfl (by first | rfl | assumption) rfl (Nat.le_of_ble_eq_true rfl) (Nat.le_of_ble_eq_true rfl) (c_m_may hR hS hr k f (by omega) hf i b m) ?_
    rintro v h' ⟨rfl, rfl⟩
    refine am_if_eq rfl (fun q2 => ?_) (fun q2 => ?_)
    · have q2 := (bI_eq _).mp q2
      refine next m more h1 h2 h3 (fun e r hkr hrS hz => ?_)
      rcases Nat.eq_or_lt_of_le hkr with e2 | e2
      · subst e2
        exact q2
      · exact h4 e r e2 hrS hz
    · have q2 := (bI_ne _).mp q2
      refine am_lload rfl rfl ?_
      refine am_lconst (v := 1) rfl (by decide) ?_
      refine am_iload rfl rfl ?_
      refine am_lshl rfl rfl ?_
      refine am_lor rfl ?_
      refine am_lstore rfl (Nat.le_of_ble_eq_true rfl) ?_
      show am_T _ _ _ _ [_, _, _, _, _, _, some _, none, _, _] _ _ _ _ _
      refine am_iconst (v := nI 1) rfl (by decide) ?_
      refine am_istore rfl (Nat.le_of_ble_eq_true rfl) ?_
      show am_T _ _ _ _ [_, _, _, _, _, _, _, _, some _, _] _ _ _ _ _
      have hlt := unset_lt (S := S) (m := m) (r := k) (by omega) h64 hno
      refine next _ true (fun r hr' => ?_) (by omega) (fun _ => by omega) (fun e => by cases e)
      rw [tb_or, tb_bit (by omega), Bool.or_eq_true] at hr'
      rcases hr' with g | g
      · exact h1 r g
      · have e : r = k := of_decide_eq_true g
        subst e
        refine ⟨by omega, fun X hX => hX r (by omega) (mayB_mono hS (fun q hq hm => (h1 q hm).2 X hX) (by omega) q2)⟩
theorem c_m_belongs_loop (hR : SR mr) (hS : okS S) (hr : repS S mi) (f : Nat) (hf : f ≤ 5) (i b : Int64) : ∀ (n : Nat) (m : Int64) (more : Bool), unset S m + (if more then 1 else 0) ≤ n → (∀ r, tb m r = true → Lfp S f (tb i) (tb b) r) → (more = false → ∀ r, r < S.1 → tb m r = false → mayB S f (tb i) (tb b) (tb m) r = false) →
    am_T l (d + 2) M_m_belongs 6 [some (.ref 116), some (.int (fI f)), some (.long i), none, some (.long b), none, some (.long m), none, some (.int (bI more)), none] [] (hm mi ml mr) 0 0 (fun v h' => v = some (.long (belF S f (tb i) (tb b))) ∧ h' = hm mi ml mr) := by
  have h64 := hS.1
  have done : ∀ m : Int64, (∀ r, tb m r = true → Lfp S f (tb i) (tb b) r) → (∀ r, r < S.1 → tb m r = false → mayB S f (tb i) (tb b) (tb m) r = false) → m = belF S f (tb i) (tb b) := by
    intro m h1 h2
    refine ofB_eq (fun r hr => ⟨h1 r, fun hp => ?_⟩)
    refine hp.2 (tb m) (fun q hq hm => ?_)
    cases ht : tb m q
    · rw [h2 q hq ht] at hm
      cases hm
    · rfl
  intro n
  induction n with
  | zero =>
    intro m more hn h1 h2
    have hmo : more = false := by cases more <;> simp at hn <;> rfl
    subst hmo
    refine am_iload rfl rfl ?_
    refine am_if_eq rfl (fun _ => ?_) (fun q => absurd rfl q)
    refine am_lload rfl rfl ?_
    exact am_lreturn rfl rfl ⟨by rw [done m h1 (h2 rfl)], rfl⟩
  | succ n ih =>
    intro m more hn h1 h2
    refine am_iload rfl rfl ?_
    refine am_if_eq rfl (fun q => ?_) (fun q => ?_)
    · refine am_lload rfl rfl ?_
      exact am_lreturn rfl rfl ⟨by rw [done m h1 (h2 ((bI_eq _).mp q))], rfl⟩
    have hmo := (bI_ne _).mp q
    subst hmo
    refine am_iconst (v := nI 0) rfl (by decide) ?_
    refine am_istore rfl (Nat.le_of_ble_eq_true rfl) ?_
    show am_T _ _ _ _ [_, _, _, _, _, _, _, _, some _, _] _ _ _ _ _
    refine am_aload_n rfl rfl ?_
    refine ho_getI rfl (by first | rfl | assumption) rfl ?_
    rw [hr.1]
    refine am_iconst (v := nI 1) rfl (by decide) ?_
    refine am_isub rfl ?_
    refine am_istore rfl (Nat.le_of_ble_eq_true rfl) ?_
    show am_T _ _ _ _ [_, _, _, _, _, _, _, _, _, some _] _ _ _ _ _
    refine c_m_belongs_pass hR hS hr f hf i b m (fun m' more' g1 g2 g3 g4 => ?_) S.1 m false (Nat.le_refl _) h1 (Nat.le_refl _) (fun e => by cases e) (fun _ r g1 g2 => by omega)
    refine ih m' more' ?_ g1 g4
    simp only [if_true] at hn
    cases more' with
    | false => simp; omega
    | true => have := g3 rfl; simp; omega
theorem c_m_belongs (hR : SR mr) (hS : okS S) (hr : repS S mi) (f : Nat) (hf : f ≤ 5) (i b : Int64) : am_T l (d + 2) M_m_belongs 0 [some (.ref 116), some (.int (fI f)), some (.long i), none, some (.long b), none, none, none, none, none] [] (hm mi ml mr) 0 0 (fun v h' => v = some (.long (belF S f (tb i) (tb b))) ∧ h' = hm mi ml mr) := by
  refine am_lconst (v := 0) rfl (by decide) ?_
  refine am_lstore rfl (Nat.le_of_ble_eq_true rfl) ?_
  show am_T _ _ _ _ [_, _, _, _, _, _, some _, none, _, _] _ _ _ _ _
  refine am_iconst (v := nI 1) rfl (by decide) ?_
  refine am_istore rfl (Nat.le_of_ble_eq_true rfl) ?_
  show am_T _ _ _ _ [_, _, _, _, _, _, _, _, some _, _] _ _ _ _ _
  exact c_m_belongs_loop hR hS hr f hf i b (unset S 0 + 1) 0 true (by simp) (fun r q => by rw [tb_0] at q; cases q) (fun e => by cases e)
end M4
