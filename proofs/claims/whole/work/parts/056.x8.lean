/-! the class: a definition's object; rebuild -/
def dOb : List Nat := [3, 9, 15, 21, 27, 33, 39]
/-- a Definition object at o -/
def isDf (mr : Nat → Nat → Option Nat) (o : Nat) : Prop := o ≤ 39 ∧ hs_kind o = (false, 1, 0) ∧ hs_kind (o + 1) = (true, 0, 8) ∧ hs_kind (o + 2) = (true, 0, 8) ∧ hs_kind (o + 3) = (true, 0, 16) ∧ hs_kind (o + 4) = (true, 0, 16) ∧ hs_kind (o + 5) = (true, 2, 16) ∧ mr o 3 = some (o + 1) ∧ mr o 4 = some (o + 2) ∧ mr o 5 = some (o + 3) ∧ mr o 6 = some (o + 4) ∧ mr o 7 = some (o + 5)
theorem isDf_of {mr : Nat → Nat → Option Nat} (hR : SR mr) {o : Nat} (h : o ∈ dOb) : isDf mr o := by
  simp only [dOb, List.mem_cons, List.not_mem_nil, or_false] at h
  rcases h with e | e | e | e | e | e | e <;> subst e <;> exact ⟨by decide, rfl, rfl, rfl, rfl, rfl, rfl, hR _ _ _ rfl, hR _ _ _ rfl, hR _ _ _ rfl, hR _ _ _ rfl, hR _ _ _ rfl⟩
def mkc (m : Nat) : Nat := if m = 1 then 42 else if m = 2 then 63 else 32
def tlI (w : Nat) : Int32 := if w = 0 then -1 else nI (w - 10)
/-- it holds the rests D -/
def DA (mi : Nat → Nat → Int32) (o : Nat) (D : List Rt) : Prop := mi o 1 = nI (nen D) ∧ mi o 2 = nI (nit D) ∧ ∀ P r R, D = P ++ r :: R → (isE r = true → mi (o + 1) (nen P) = nI (nit P) ∧ mi (o + 2) (nen P) = tlI r.1) ∧ (isE r = false → mi (o + 3) (nit P) = nI (fx r.1) ∧ (2 ≤ r.1 → mi (o + 4) (nit P) = nI r.2.1) ∧ mi (o + 5) (nit P) = nI (mkc r.2.2))
/-- the places of the items -/
def ipsF : Nat → List (Rt × Nat) → List Nat
  | _, [] => []
  | q, e :: L => if isE e.1 then ipsF (q + 1) L else q :: ipsF (q + 1) L
theorem ipsF_app (B : List (Rt × Nat)) : ∀ (A : List (Rt × Nat)) (q : Nat), ipsF q (A ++ B) = ipsF q A ++ ipsF (q + A.length) B
  | [], q => rfl
  | e :: A, q => by
    show (if isE e.1 then ipsF (q + 1) (A ++ B) else q :: ipsF (q + 1) (A ++ B)) = (if isE e.1 then ipsF (q + 1) A else q :: ipsF (q + 1) A) ++ _
    rw [ipsF_app B A (q + 1), List.length_cons, show q + 1 + A.length = q + (A.length + 1) by omega]
    split <;> rfl
def ips (L : List (Rt × Nat)) : List Nat := ipsF 0 L
theorem ips_E {L : List (Rt × Nat)} {e : Rt × Nat} (h : isE e.1 = true) : ips (L ++ [e]) = ips L := by
  unfold ips
  rw [ipsF_app]
  show _ ++ (if isE e.1 then [] else _) = _
  rw [if_pos h, List.append_nil]
theorem ips_I {L : List (Rt × Nat)} {e : Rt × Nat} (h : isE e.1 = false) : ips (L ++ [e]) = ips L ++ [L.length] := by
  unfold ips
  rw [ipsF_app, Nat.zero_add]
  show _ ++ (if isE e.1 then [] else [L.length]) = _
  rw [h]
  rfl
theorem ipsF_len : ∀ (L : List (Rt × Nat)) (q : Nat), (ipsF q L).length = nit (L.map (fun e => e.1))
  | [], q => rfl
  | e :: L, q => by
    show (if isE e.1 then ipsF (q + 1) L else q :: ipsF (q + 1) L).length = nit ([e.1] ++ L.map (fun e => e.1))
    rw [nit_app, ← ipsF_len L (q + 1)]
    cases h : isE e.1 with
    | true =>
      rw [if_pos rfl, (nen_E h).2]
      omega
    | false =>
      rw [if_neg (by decide), (nen_I h).2, List.length_cons]
      omega
theorem ipsF_mem : ∀ (L : List (Rt × Nat)) (q r : Nat), r ∈ ipsF q L ↔ q ≤ r ∧ r < q + L.length ∧ isE (L.getD (r - q) ((0, 0, 0), 99)).1 = false
  | [], q, r => by
    constructor
    · intro h
      cases h
    · rintro ⟨h1, h2, -⟩
      exact absurd h2 (by simp; omega)
  | e :: L, q, r => by
    have ih := ipsF_mem L (q + 1) r
    show r ∈ (if isE e.1 then ipsF (q + 1) L else q :: ipsF (q + 1) L) ↔ _
    rw [List.length_cons]
    have hget : q < r → ((e :: L).getD (r - q) ((0, 0, 0), 99)) = L.getD (r - (q + 1)) ((0, 0, 0), 99) := by
      intro h
      rw [show r - q = (r - (q + 1)) + 1 by omega]
      rfl
    have hz : ((e :: L).getD (q - q) ((0, 0, 0), 99)) = e := by rw [Nat.sub_self]; rfl
    cases h : isE e.1 with
    | true =>
      rw [if_pos rfl, ih]
      constructor
      · rintro ⟨a, b, c⟩
        exact ⟨by omega, by omega, by rw [hget (by omega)]; exact c⟩
      · rintro ⟨a, b, c⟩
        rcases Nat.eq_or_lt_of_le a with z | z
        · subst z
          rw [hz, h] at c
          cases c
        · rw [hget z] at c
          exact ⟨z, by omega, c⟩
    | false =>
      rw [if_neg (by decide), List.mem_cons, ih]
      constructor
      · rintro (z | ⟨a, b, c⟩)
        · subst z
          exact ⟨Nat.le_refl _, by omega, by rw [hz]; exact h⟩
        · exact ⟨by omega, by omega, by rw [hget (by omega)]; exact c⟩
      · rintro ⟨a, b, c⟩
        rcases Nat.eq_or_lt_of_le a with z | z
        · exact Or.inl z.symm
        · rw [hget z] at c
          exact Or.inr ⟨z, by omega, c⟩
theorem ips_lt {L : List (Rt × Nat)} {j : Nat} (h : j < (ips L).length) : (ips L).getD j 0 < L.length ∧ isE (L.getD ((ips L).getD j 0) ((0, 0, 0), 99)).1 = false := by
  have hm : (ips L).getD j 0 ∈ ips L := by
    rw [List.getD_eq_getElem?_getD, List.getElem?_eq_getElem h]
    exact List.getElem_mem h
  have := (ipsF_mem L 0 _).mp hm
  rw [Nat.zero_add, Nat.sub_zero] at this
  exact this.2
theorem bit_s {L : List (Rt × Nat)} {e : Rt × Nat} (p : Rt × Nat → Prop) [DecidablePred p] (r : Nat) : decide (r < (L ++ [e]).length ∧ p ((L ++ [e]).getD r ((0, 0, 0), 99))) = (decide (r < L.length ∧ p (L.getD r ((0, 0, 0), 99))) || decide (r = L.length ∧ p e)) := by
  rw [List.length_append, List.length_singleton]
  rcases Nat.lt_trichotomy r L.length with h | h | h
  · rw [Sof_at h]
    by_cases hp : p (L.getD r ((0, 0, 0), 99))
    · rw [decide_eq_true ⟨by omega, hp⟩, decide_eq_true ⟨h, hp⟩]
      rfl
    · rw [decide_eq_false (fun q => hp q.2), decide_eq_false (fun q => hp q.2), decide_eq_false (fun q => by omega)]
      rfl
  · subst h
    rw [Sof_new]
    by_cases hp : p e
    · rw [decide_eq_true ⟨by omega, hp⟩, decide_eq_true (p := _ ∧ p e) ⟨rfl, hp⟩, Bool.or_true]
    · rw [decide_eq_false (fun q => hp q.2), decide_eq_false (fun q => by omega), decide_eq_false (p := _ ∧ p e) (fun q => hp q.2)]
      rfl
  · rw [decide_eq_false (fun q => by omega), decide_eq_false (fun q => by omega), decide_eq_false (fun q => by omega)]
    rfl
theorem wo_s {L : List (Rt × Nat)} {e : Rt × Nat} (k r : Nat) : woS (Sof (L ++ [e])) k r = (woS (Sof L) k r || decide (r = L.length ∧ e.2 = k)) := bit_s (fun e => e.2 = k) r
theorem tl_s {L : List (Rt × Nat)} {e : Rt × Nat} (k r : Nat) : tlS (Sof (L ++ [e])) k r = (tlS (Sof L) k r || decide (r = L.length ∧ e.1.1 = 10 + k)) := bit_s (fun e => e.1.1 = 10 + k) r
theorem sk_s {L : List (Rt × Nat)} {e : Rt × Nat} (r : Nat) : skS (Sof (L ++ [e])) r = (skS (Sof L) r || decide (r = L.length ∧ 1 ≤ e.1.1 ∧ e.1.1 ≤ 5 ∧ 0 < e.1.2.2)) := bit_s (fun e => 1 ≤ e.1.1 ∧ e.1.1 ≤ 5 ∧ 0 < e.1.2.2) r
theorem en_s {L : List (Rt × Nat)} {e : Rt × Nat} (r : Nat) : enS (Sof (L ++ [e])) r = (enS (Sof L) r || decide (r = L.length ∧ e.1.1 = 0)) := bit_s (fun e => e.1.1 = 0) r
/-- one item of the class's rests -/
def IT (L : List (Rt × Nat)) (q j : Nat) (mi : Nat → Nat → Int32) (ml : Nat → Nat → Int64) : Prop := mi 85 j = nI (fx (L.getD q ((0, 0, 0), 99)).1.1) ∧ (2 ≤ (L.getD q ((0, 0, 0), 99)).1.1 → mi 86 j = nI (L.getD q ((0, 0, 0), 99)).1.2.1) ∧ tb (ml 88 j) = one (q + 1) ∧ tb (ml 87 j) = (fun r => decide (r = q ∧ (L.getD q ((0, 0, 0), 99)).1.2.2 = 1))
/-- the class's rests hold the first ones; pd: the next one is a whole of this name -/
def pX (L : List (Rt × Nat)) (pd : Option Nat) (mi : Nat → Nat → Int32) (ml : Nat → Nat → Int64) : Prop :=
  mi 84 0 = nI (ips L).length ∧ (∀ j, j < (ips L).length → IT L ((ips L).getD j 0) j mi ml) ∧
  (∀ k, k < 6 → ∀ r, tb (ml 90 k) r = (woS (Sof L) k r || decide (r = L.length ∧ pd = some k))) ∧
  (∀ k, k < 6 → ∀ r, tb (ml 91 k) r = tlS (Sof L) k r) ∧ (∀ r, tb (ml 84 8) r = skS (Sof L) r) ∧ ∀ r, tb (ml 84 9) r = enS (Sof L) r
def Fb (mi mi' : Nat → Nat → Int32) (ml ml' : Nat → Nat → Int64) : Prop := (∀ a, a ≠ 84 → a ≠ 85 → a ≠ 86 → mi' a = mi a) ∧ ∀ a, a ≠ 84 → a ≠ 87 → a ≠ 88 → a ≠ 89 → a ≠ 90 → a ≠ 91 → ml' a = ml a
theorem Fb.rf {mi : Nat → Nat → Int32} {ml : Nat → Nat → Int64} : Fb mi mi ml ml := ⟨fun _ _ _ _ => rfl, fun _ _ _ _ _ _ _ => rfl⟩
theorem Fb.tr {mi mi' mi'' : Nat → Nat → Int32} {ml ml' ml'' : Nat → Nat → Int64} (h : Fb mi mi' ml ml') (h' : Fb mi' mi'' ml' ml'') : Fb mi mi'' ml ml'' :=
  ⟨fun a h1 h2 h3 => (h'.1 a h1 h2 h3).trans (h.1 a h1 h2 h3), fun a h1 h2 h3 h4 h5 h6 => (h'.2 a h1 h2 h3 h4 h5 h6).trans (h.2 a h1 h2 h3 h4 h5 h6)⟩
theorem Fb.keep {mi mi' : Nat → Nat → Int32} {ml ml' : Nat → Nat → Int64} (h : Fb mi mi' ml ml') {o : Nat} (ho : o ≤ 39) {D : List Rt} (hD : DA mi o D) : DA mi' o D := by
  unfold DA
  rw [h.1 o (by omega) (by omega) (by omega), h.1 (o + 1) (by omega) (by omega) (by omega), h.1 (o + 2) (by omega) (by omega) (by omega), h.1 (o + 3) (by omega) (by omega) (by omega), h.1 (o + 4) (by omega) (by omega) (by omega), h.1 (o + 5) (by omega) (by omega) (by omega)]
  exact hD
theorem pX_pend {L : List (Rt × Nat)} {mi : Nat → Nat → Int32} {ml : Nat → Nat → Int64} (h : pX L none mi ml) {n : Nat} {w : Int64} (hw : ∀ r, tb w r = (tb (ml 90 n) r || decide (r = L.length))) (hn : n < 6) : pX L (some n) mi (up2 ml 90 n w) := by
  obtain ⟨h1, h2, h3, h4, h5, h6⟩ := h
  refine ⟨h1, fun j hj => ?_, fun k hk r => ?_, fun k hk r => ?_, fun r => ?_, fun r => ?_⟩
  · unfold IT
    rw [up2_off _ _ _ (show (88 : Nat) ≠ 90 by decide), up2_off _ _ _ (show (87 : Nat) ≠ 90 by decide)]
    exact h2 j hj
  · by_cases e : k = n
    · subst e
      rw [show up2 ml 90 k w 90 k = w by simp [up2], hw, h3 k hk r]
      by_cases e2 : r = L.length
      · simp [e2]
      · simp [e2]
    · rw [show up2 ml 90 n w 90 k = ml 90 k by unfold up2; rw [if_neg (by omega)], h3 k hk r, decide_eq_false (fun q => by cases q.2), decide_eq_false (fun q => e (Option.some.inj q.2).symm)]
  · rw [up2_off _ _ _ (show (91 : Nat) ≠ 90 by decide)]
    exact h4 k hk r
  · rw [up2_off _ _ _ (show (84 : Nat) ≠ 90 by decide)]
    exact h5 r
  · rw [up2_off _ _ _ (show (84 : Nat) ≠ 90 by decide)]
    exact h6 r
theorem wo_pd {pd : Option Nat} {n k : Nat} (b : Bool) (hb : pd = if b then some n else none) (hk : k < 6) (r q : Nat) : decide (r = q ∧ pd = some k) = decide (r = q ∧ (if b then n else 99) = k) := by
  subst hb
  cases b with
  | true => simp
  | false =>
    rw [decide_eq_false (fun z => by cases z.2), decide_eq_false (fun z => ?_)]
    have : (99 : Nat) = k := z.2
    omega
theorem pX_item {L : List (Rt × Nat)} {mi mi' : Nat → Nat → Int32} {ml ml' : Nat → Nat → Int64} {n : Nat} {b : Bool} (h : pX L (if b then some n else none) mi ml) {r : Rt} (hok : okR r) (hE : isE r = false)
    (i1 : mi' 84 0 = nI ((ips L).length + 1)) (i2 : ∀ j, j < (ips L).length → mi' 85 j = mi 85 j ∧ mi' 86 j = mi 86 j) (i3 : mi' 85 (ips L).length = nI (fx r.1)) (i4 : 2 ≤ r.1 → mi' 86 (ips L).length = nI r.2.1)
    (l1 : ∀ j, j < (ips L).length → ml' 87 j = ml 87 j ∧ ml' 88 j = ml 88 j) (l2 : tb (ml' 87 (ips L).length) = fun q => decide (q = L.length ∧ r.2.2 = 1)) (l3 : tb (ml' 88 (ips L).length) = one (L.length + 1)) (l4 : ml' 90 = ml 90) (l5 : ml' 91 = ml 91) (l6 : ml' 84 9 = ml 84 9) (l7 : ∀ q, tb (ml' 84 8) q = (tb (ml 84 8) q || decide (q = L.length ∧ 0 < r.2.2))) :
    pX (L ++ [(r, if b then n else 99)]) none mi' ml' := by
  obtain ⟨h1, h2, h3, h4, h5, h6⟩ := h
  have hI := ips_I (L := L) (e := (r, if b then n else 99)) hE
  have hw : 1 ≤ r.1 ∧ r.1 ≤ 5 := by
    have h0 := of_decide_eq_false hE
    rcases hok.1 with q | q | q
    · exact absurd (Or.inl q) h0
    · exact q
    · exact absurd (Or.inr q.1) h0
  refine ⟨?_, fun j hj => ?_, fun k hk q => ?_, fun k hk q => ?_, fun q => ?_, fun q => ?_⟩
  · rw [hI, List.length_append]
    exact i1
  · rw [hI] at hj ⊢
    rw [List.length_append, List.length_singleton] at hj
    rcases Nat.lt_succ_iff_lt_or_eq.mp hj with z | z
    · have hq := ips_lt z
      have e1 : (ips L ++ [L.length]).getD j 0 = (ips L).getD j 0 := getD_app1 _ _ z
      unfold IT
      rw [e1, Sof_at hq.1, (i2 j z).1, (i2 j z).2, (l1 j z).1, (l1 j z).2]
      exact h2 j z
    · subst z
      have e1 : (ips L ++ [L.length]).getD (ips L).length 0 = L.length := by
        have := getD_app2 (ips L) [L.length] 0
        rw [Nat.add_zero] at this
        exact this
      unfold IT
      rw [e1, Sof_new]
      exact ⟨i3, i4, l3, l2⟩
  · rw [l4, h3 k hk q, wo_s, wo_pd b rfl hk, decide_eq_false (p := _ ∧ none = some k) (fun z => by cases z.2), Bool.or_false]
  · rw [l5, h4 k hk q, tl_s, decide_eq_false (fun z => by have : r.1 = 10 + k := z.2; omega), Bool.or_false]
  · rw [l7, h5 q, sk_s]
    congr 1
    by_cases z : q = L.length ∧ 0 < r.2.2
    · rw [decide_eq_true z, decide_eq_true ⟨z.1, hw.1, hw.2, z.2⟩]
    · rw [decide_eq_false z, decide_eq_false (fun y => z ⟨y.1, y.2.2.2⟩)]
  · rw [l6, h6 q, en_s, decide_eq_false (fun z => by have : r.1 = 0 := z.2; omega), Bool.or_false]
theorem pX_end {L : List (Rt × Nat)} {mi : Nat → Nat → Int32} {ml ml' : Nat → Nat → Int64} {n : Nat} {b : Bool} (h : pX L (if b then some n else none) mi ml) {r : Rt} (hE : isE r = true)
    (l1 : ml' 87 = ml 87) (l2 : ml' 88 = ml 88) (l4 : ml' 90 = ml 90) (l5 : ∀ k, k < 6 → ∀ q, tb (ml' 91 k) q = (tb (ml 91 k) q || decide (q = L.length ∧ r.1 = 10 + k))) (l6 : ∀ q, tb (ml' 84 9) q = (tb (ml 84 9) q || decide (q = L.length ∧ r.1 = 0))) (l7 : ml' 84 8 = ml 84 8) :
    pX (L ++ [(r, if b then n else 99)]) none mi ml' := by
  obtain ⟨h1, h2, h3, h4, h5, h6⟩ := h
  have hI := ips_E (L := L) (e := (r, if b then n else 99)) hE
  have hw : r.1 = 0 ∨ 10 ≤ r.1 := of_decide_eq_true hE
  refine ⟨?_, fun j hj => ?_, fun k hk q => ?_, fun k hk q => ?_, fun q => ?_, fun q => ?_⟩
  · rw [hI]
    exact h1
  · rw [hI] at hj ⊢
    have hq := ips_lt hj
    unfold IT
    rw [Sof_at hq.1, l1, l2]
    exact h2 j hj
  · rw [l4, h3 k hk q, wo_s, wo_pd b rfl hk, decide_eq_false (p := _ ∧ none = some k) (fun z => by cases z.2), Bool.or_false]
  · rw [l5 k hk, h4 k hk q, tl_s]
  · rw [l7, h5 q, sk_s, decide_eq_false (fun z => by have : 1 ≤ r.1 ∧ r.1 ≤ 5 ∧ 0 < r.2.2 := z.2; omega), Bool.or_false]
  · rw [l6, h6 q, en_s]
section X8
variable {l : Launch} {d : Nat} {mr : Nat → Nat → Option Nat} {o : Nat}
theorem c_S_addItem (hR : SR mr) (hDf : isDf mr o) (mi : Nat → Nat → Int32) (ml : Nat → Nat → Int64) (n it q c : Nat) (hn : mi 84 0 = nI n) (hn16 : n < 16) (hit : it < 16) (hq : q + 1 < 64) (hc : mi (o + 5) it = nI c) (hc2 : c < 127) : am_T l d M_S_addItem 0 [some (.ref 84), some (.ref o), some (.int (nI it)), some (.int (nI q)), none, none] [] (hm mi ml mr) 0 0
    (fun r h' => r = none ∧ ∃ b2 b3 b4 : Int64, (tb b2 = fun r => decide (r = q ∧ c = 42)) ∧ tb b3 = one (q + 1) ∧ (∀ r, tb b4 r = (tb (ml 84 8) r || decide (r = q ∧ c ≠ 32))) ∧ h' = hm (up2 (up2 (up2 mi 85 n (mi (o + 3) it)) 86 n (mi (o + 4) it)) 84 0 (nI (n + 1))) (up2 (up2 (up2 ml 87 n b2) 88 n b3) 84 8 b4) mr) := by
  obtain ⟨o39, k0, k1, k2, k3, k4, k5, r3, r4, r5, r6, r7⟩ := hDf
  refine am_aload_n rfl rfl ?_
  refine ho_getI rfl (by first | rfl | assumption) rfl ?_
  refine am_bipush (v := nI 16) rfl (by decide) ?_
  rw [hn]
  refine ho_icmp_lt rfl (by omega) (by omega) (fun _ => ?_) (fun z => absurd hn16 z)
  refine am_lconst (v := 1) rfl (by decide) ?_
  refine am_iload_n rfl rfl ?_
  refine am_lshl rfl rfl ?_
  refine am_lstore rfl (Nat.le_of_ble_eq_true rfl) ?_
  show am_T _ _ _ _ [_, _, _, _, some _, none] _ _ _ _ _
  refine am_aload_n rfl rfl ?_
  refine ho_getR rfl (by first | rfl | assumption) rfl (by first | assumption | exact hR _ _ _ rfl) ?_
  refine am_aload_n rfl rfl ?_
  refine ho_getI rfl (by first | rfl | assumption) rfl ?_
  rw [hn]
  refine am_aload_n rfl rfl ?_
  refine ho_getR rfl (by first | rfl | assumption) rfl (by first | assumption | exact hR _ _ _ rfl) ?_
  refine am_iload_n rfl rfl ?_
  refine ho_iaload rfl (by first | rfl | assumption) (by omega) ?_
  refine ho_iastore rfl (by first | rfl | assumption) (by omega) ?_
  refine am_aload_n rfl rfl ?_
  refine ho_getR rfl (by first | rfl | assumption) rfl (by first | assumption | exact hR _ _ _ rfl) ?_
  refine am_aload_n rfl rfl ?_
  refine ho_getI rfl (by first | rfl | assumption) rfl ?_
  rw [up2_off _ _ _ (show (84 : Nat) ≠ 85 by decide), hn]
  refine am_aload_n rfl rfl ?_
  refine ho_getR rfl (by first | rfl | assumption) rfl (by first | assumption | exact hR _ _ _ rfl) ?_
  refine am_iload_n rfl rfl ?_
  refine ho_iaload rfl (by first | rfl | assumption) (by omega) ?_
  rw [up2_off _ _ _ (show o + 4 ≠ 85 by omega)]
  refine ho_iastore rfl (by first | rfl | assumption) (by omega) ?_
  refine am_aload_n rfl rfl ?_
  refine ho_getR rfl (by first | rfl | assumption) rfl (by first | assumption | exact hR _ _ _ rfl) ?_
  refine am_aload_n rfl rfl ?_
  refine ho_getI rfl (by first | rfl | assumption) rfl ?_
  rw [up2_off _ _ _ (show (84 : Nat) ≠ 86 by decide), up2_off _ _ _ (show (84 : Nat) ≠ 85 by decide), hn]
  refine am_aload_n rfl rfl ?_
  refine ho_getR rfl (by first | rfl | assumption) rfl (by first | assumption | exact hR _ _ _ rfl) ?_
  refine am_iload_n rfl rfl ?_
  refine ho_caload rfl (by first | rfl | assumption) (by omega) ?_
  rw [up2_off _ _ _ (show o + 5 ≠ 86 by omega), up2_off _ _ _ (show o + 5 ≠ 85 by omega), hc]
  refine am_bipush (v := nI 42) rfl (by decide) ?_
  have s70 : ∀ b2 : Int64, (tb b2 = fun r => decide (r = q ∧ c = 42)) → am_T l d M_S_addItem 70 [some (.ref 84), some (.ref o), some (.int (nI it)), some (.int (nI q)), some (.long (1 <<< ((nI q).toInt64 &&& 63))), none] [.long b2, .int (nI n), .ref 87] (hm (up2 (up2 mi 85 n (mi (o + 3) it)) 86 n (mi (o + 4) it)) ml mr) 0 0 (fun r h' => r = none ∧ ∃ b2 b3 b4 : Int64, (tb b2 = fun r => decide (r = q ∧ c = 42)) ∧ tb b3 = one (q + 1) ∧ (∀ r, tb b4 r = (tb (ml 84 8) r || decide (r = q ∧ c ≠ 32))) ∧ h' = hm (up2 (up2 (up2 mi 85 n (mi (o + 3) it)) 86 n (mi (o + 4) it)) 84 0 (nI (n + 1))) (up2 (up2 (up2 ml 87 n b2) 88 n b3) 84 8 b4) mr) := by
    intro b2 hb2
    refine ho_lastore rfl (by first | rfl | assumption) (by omega) ?_
    refine am_aload_n rfl rfl ?_
    refine ho_getR rfl (by first | rfl | assumption) rfl (by first | assumption | exact hR _ _ _ rfl) ?_
    refine am_aload_n rfl rfl ?_
    refine ho_getI rfl (by first | rfl | assumption) rfl ?_
    rw [up2_off _ _ _ (show (84 : Nat) ≠ 86 by decide), up2_off _ _ _ (show (84 : Nat) ≠ 85 by decide), hn]
    refine am_lload rfl rfl ?_
    refine am_iconst (v := nI 1) rfl (by decide) ?_
    refine am_lshl rfl rfl ?_
    refine ho_lastore rfl (by first | rfl | assumption) (by omega) ?_
    refine am_aload_n rfl rfl ?_
    refine am_dup rfl rfl ?_
    refine ho_getL rfl (by first | rfl | assumption) rfl ?_
    refine am_aload_n rfl rfl ?_
    refine ho_getR rfl (by first | rfl | assumption) rfl (by first | assumption | exact hR _ _ _ rfl) ?_
    refine am_iload_n rfl rfl ?_
    refine ho_caload rfl (by first | rfl | assumption) (by omega) ?_
    rw [up2_off _ _ _ (show o + 5 ≠ 86 by omega), up2_off _ _ _ (show o + 5 ≠ 85 by omega), hc]
    refine am_bipush (v := nI 32) rfl (by decide) ?_
    have hb3 : tb ((1 <<< ((nI q).toInt64 &&& 63) : Int64) <<< ((nI 1).toInt64 &&& 63)) = one (q + 1) := by
      funext r
      rw [tb_shl _ (by omega)]
      unfold one
      by_cases e : r = q + 1
      · subst e
        rw [decide_eq_true (show q + 1 < 64 by omega), decide_eq_true (show 1 ≤ q + 1 by omega), Nat.add_sub_cancel, tb_bit (by omega), decide_eq_true rfl, decide_eq_true rfl]
        rfl
      · rw [decide_eq_false e]
        by_cases e2 : 1 ≤ r
        · rw [tb_bit (by omega), decide_eq_false (show ¬ r - 1 = q by omega), Bool.and_false, Bool.and_false]
        · rw [decide_eq_false e2, Bool.false_and, Bool.and_false]
    have s106 : ∀ x : Int64, (∀ r, tb x r = decide (r = q ∧ c ≠ 32)) → am_T l d M_S_addItem 106 [some (.ref 84), some (.ref o), some (.int (nI it)), some (.int (nI q)), some (.long (1 <<< ((nI q).toInt64 &&& 63))), none] [.long x, .long (up2 (up2 ml 87 n b2) 88 n ((1 <<< ((nI q).toInt64 &&& 63) : Int64) <<< ((nI 1).toInt64 &&& 63)) 84 8), .ref 84] (hm (up2 (up2 mi 85 n (mi (o + 3) it)) 86 n (mi (o + 4) it)) (up2 (up2 ml 87 n b2) 88 n ((1 <<< ((nI q).toInt64 &&& 63) : Int64) <<< ((nI 1).toInt64 &&& 63))) mr) 0 0 (fun r h' => r = none ∧ ∃ b2 b3 b4 : Int64, (tb b2 = fun r => decide (r = q ∧ c = 42)) ∧ tb b3 = one (q + 1) ∧ (∀ r, tb b4 r = (tb (ml 84 8) r || decide (r = q ∧ c ≠ 32))) ∧ h' = hm (up2 (up2 (up2 mi 85 n (mi (o + 3) it)) 86 n (mi (o + 4) it)) 84 0 (nI (n + 1))) (up2 (up2 (up2 ml 87 n b2) 88 n b3) 84 8 b4) mr) := by
      intro x hx
      rw [up2_off _ _ _ (show (84 : Nat) ≠ 88 by decide), up2_off _ _ _ (show (84 : Nat) ≠ 87 by decide)]
      refine am_lor rfl ?_
      refine ho_putL rfl (by first | rfl | assumption) rfl ?_
      refine am_aload_n rfl rfl ?_
      refine am_dup rfl rfl ?_
      refine ho_getI rfl (by first | rfl | assumption) rfl ?_
      rw [up2_off _ _ _ (show (84 : Nat) ≠ 86 by decide), up2_off _ _ _ (show (84 : Nat) ≠ 85 by decide), hn]
      refine am_iconst (v := nI 1) rfl (by decide) ?_
      first | refine ho_addn rfl ?_ | refine am_iadd rfl ?_
      refine ho_putI rfl (by first | rfl | assumption) rfl rfl ?_
      exact am_return rfl rfl ⟨rfl, b2, _, _, hb2, hb3, fun r => by rw [tb_or, hx], rfl⟩
    refine ho_icmp_ne rfl (by omega) (by omega) (fun z => ?_) (fun z => ?_)
    · refine am_lload rfl rfl ?_
      exact s106 _ (fun r => by rw [tb_bit (by omega)]; by_cases e : r = q <;> simp [e, z])
    · refine am_lconst (v := 0) rfl (by decide) ?_
      refine am_goto rfl ?_
      exact s106 _ (fun r => by rw [tb_0]; simp [z])
  refine ho_icmp_ne rfl (by omega) (by omega) (fun z => ?_) (fun z => ?_)
  · refine am_lconst (v := 0) rfl (by decide) ?_
    exact s70 _ (by funext r; rw [tb_0]; simp [z])
  · refine am_lload rfl rfl ?_
    refine am_goto rfl ?_
    exact s70 _ (by funext r; rw [tb_bit (by omega)]; by_cases e : r = q <;> simp [e, z])
end X8
