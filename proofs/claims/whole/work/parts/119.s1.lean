/-! first texts found by offering -/
def ofr (o : Option (List Nat)) (t : List Nat) : Option (List Nat) := match o with
  | none => some t
  | some u => if sn t u = true then some t else some u
theorem ofr_in {o : Option (List Nat)} {t u : List Nat} (h : ofr o t = some u) : u = t ∨ o = some u := by
  cases o with
  | none => exact Or.inl (Option.some.inj h).symm
  | some x =>
    unfold ofr at h
    simp only at h
    split at h
    · exact Or.inl (Option.some.inj h).symm
    · exact Or.inr h
/-- what was not before the old one isn't before the new one -/
theorem ofr_old {x t u : List Nat} (h : sn u x = false) : ∃ y, ofr (some x) t = some y ∧ sn u y = false := by
  unfold ofr
  by_cases q : sn t x = true
  · refine ⟨t, by simp only; rw [if_pos q], ?_⟩
    cases hz : sn u t with
    | false => rfl
    | true =>
      rw [sn_tr u t x hz q] at h
      cases h
  · exact ⟨x, by simp only; rw [if_neg q], h⟩
theorem ofr_new (o : Option (List Nat)) (t : List Nat) : ∃ y, ofr o t = some y ∧ sn t y = false := by
  cases o with
  | none => exact ⟨t, rfl, sn_irr t⟩
  | some x =>
    unfold ofr
    by_cases q : sn t x = true
    · exact ⟨t, by simp only; rw [if_pos q], sn_irr t⟩
    · exact ⟨x, by simp only; rw [if_neg q], by simpa using q⟩
section S1
variable {S : Rs} {km : Nat → Int64} {cnt s : Nat} {v : Nat → Nat} {o o0 : Nat → Option (List Nat)} {Q Q' : Nat → Nat → Nat → Prop}
theorem HT.hsz {e : Bool} {m : Int64} {n : Nat} {t : List Nat} (h : HT (K0 S) (bfS S) e m n t) : (e = true → HSz S m n) ∧ (e = false → m = K0 S ∧ n = 0) := by
  induction h using HT.ind with
  | emp => exact ⟨fun q => (by cases q), fun _ => ⟨rfl, rfl⟩⟩
  | node f a b c w sc sw tc tw f1 f5 hc hw ihc ihw =>
    refine ⟨fun _ => ?_, fun q => by cases q⟩
    have hc' : (c = K0 S ∧ sc = 0) ∨ HSz S c sc := by
      cases a with
      | true => exact Or.inr (ihc.1 rfl)
      | false => exact Or.inl (ihc.2 rfl)
    have hw' : (w = K0 S ∧ sw = 0) ∨ HSz S w sw := by
      cases b with
      | true => exact Or.inr (ihw.1 rfl)
      | false => exact Or.inl (ihw.2 rfl)
    exact HSz.step f1 f5 hc' hw'
theorem HSz.ht {m : Int64} {n : Nat} (h : HSz S m n) : ∃ t, HT (K0 S) (bfS S) true m n t := by
  refine h (fun m n => ∃ t, HT (K0 S) (bfS S) true m n t) ?_
  intro f f1 f5 c w sc sw hc hw
  have p : ∀ {c : Int64} {sc : Nat}, ((c = K0 S ∧ sc = 0) ∨ ∃ t, HT (K0 S) (bfS S) true c sc t) → ∃ e t, HT (K0 S) (bfS S) e c sc t := by
    rintro c sc (⟨rfl, rfl⟩ | ⟨t, ht⟩)
    · exact ⟨false, [], .emp⟩
    · exact ⟨true, t, ht⟩
  obtain ⟨a, tc, h1⟩ := p hc
  obtain ⟨b, tw, h2⟩ := p hw
  exact ⟨_, HT.node f a b c w sc sw tc tw f1 f5 h1 h2⟩
/-- a cut of size s of kind k -/
def CutP (S : Rs) (km : Nat → Int64) (cnt : Nat) (v : Nat → Nat) (s f c w k : Nat) : Prop := 1 ≤ f ∧ f ≤ 5 ∧ c < cnt ∧ w < cnt ∧ km k = bfS S f (km c) (km w) ∧ s = 1 + v w + (if f = 1 then 0 else v c)
def cutT (o : Nat → Option (List Nat)) (f c w : Nat) : List Nat := ftx2 f ((o c).getD []) ((o w).getD [])
/-- all kinds of less than s nodes have their first texts -/
def Dn (S : Rs) (km : Nat → Int64) (cnt : Nat) (v : Nat → Nat) (s : Nat) (o : Nat → Option (List Nat)) : Prop := o 0 = some [] ∧ ∀ k, 1 ≤ k → k < cnt → (v k < s → ∃ t, o k = some t ∧ FT (K0 S) (bfS S) true (km k) (v k) t) ∧ (s ≤ v k → o k = none)
/-- while the cuts of size s are offered -/
def Mid (S : Rs) (km : Nat → Int64) (cnt : Nat) (v : Nat → Nat) (s : Nat) (o0 : Nat → Option (List Nat)) (Q : Nat → Nat → Nat → Prop) (o : Nat → Option (List Nat)) : Prop := o 0 = some [] ∧ ∀ k, 1 ≤ k → k < cnt → (v k < s → o k = o0 k) ∧ (s < v k → o k = none) ∧ (v k = s → (∀ t, o k = some t → ∃ f c w, CutP S km cnt v s f c w k ∧ t = cutT o0 f c w) ∧ ∀ f c w, Q f c w → CutP S km cnt v s f c w k → ∃ t, o k = some t ∧ sn (cutT o0 f c w) t = false)
theorem Mid.to (h : Mid S km cnt v s o0 Q o) (hq : ∀ f c w k, 1 ≤ k → k < cnt → v k = s → CutP S km cnt v s f c w k → Q' f c w → ∃ c', Q f c' w ∧ CutP S km cnt v s f c' w k ∧ cutT o0 f c' w = cutT o0 f c w) : Mid S km cnt v s o0 Q' o := by
  refine ⟨h.1, fun k h1 h2 => ?_⟩
  obtain ⟨a1, a2, a3⟩ := h.2 k h1 h2
  refine ⟨a1, a2, fun e => ⟨(a3 e).1, fun f c w g1 g2 => ?_⟩⟩
  obtain ⟨c', b1, b2, b3⟩ := hq f c w k h1 h2 e g2 g1
  rw [← b3]
  exact (a3 e).2 f c' w b1 b2
theorem Mid.offer (hE : KE S km cnt) (h : Mid S km cnt v s o0 Q o) {f c w k : Nat} (h1 : 1 ≤ k) (hk : k < cnt) (hv : v k = s) (hc : CutP S km cnt v s f c w k) : Mid S km cnt v s o0 (fun f' c' w' => Q f' c' w' ∨ (f' = f ∧ c' = c ∧ w' = w)) (upD o k (ofr (o k) (cutT o0 f c w))) := by
  refine ⟨?_, fun j j1 j2 => ?_⟩
  · show (if 0 = k then _ else o 0) = _
    rw [if_neg (by omega)]
    exact h.1
  obtain ⟨a1, a2, a3⟩ := h.2 j j1 j2
  by_cases e : j = k
  · subst e
    have eq : upD o j (ofr (o j) (cutT o0 f c w)) j = ofr (o j) (cutT o0 f c w) := by
      show (if j = j then _ else _) = _
      rw [if_pos rfl]
    rw [eq]
    refine ⟨fun q => by omega, fun q => by omega, fun _ => ⟨fun t ht => ?_, fun f' c' w' hq hc' => ?_⟩⟩
    · rcases ofr_in ht with g | g
      · exact ⟨f, c, w, hc, g⟩
      · exact (a3 hv).1 t g
    · rcases hq with hq | ⟨rfl, rfl, rfl⟩
      · obtain ⟨t, b1, b2⟩ := (a3 hv).2 f' c' w' hq hc'
        rw [b1]
        exact ofr_old b2
      · exact ofr_new _ _
  · have eq : upD o k (ofr (o k) (cutT o0 f c w)) j = o j := by
      show (if j = k then _ else _) = _
      rw [if_neg e]
    rw [eq]
    refine ⟨a1, a2, fun q => ⟨(a3 q).1, fun f' c' w' hq hc' => ?_⟩⟩
    rcases hq with hq | ⟨rfl, rfl, rfl⟩
    · exact (a3 q).2 f' c' w' hq hc'
    · have em : km j = km k := hc'.2.2.2.2.1.trans hc.2.2.2.2.1.symm
      exact absurd (hE.inj j2 hk (by rw [decide_eq_false (by omega), decide_eq_false (by omega)]) em) e
theorem Mid.skip (h : Mid S km cnt v s o0 Q o) {f c w : Nat} (hn : ∀ k, 1 ≤ k → k < cnt → v k = s → ¬ CutP S km cnt v s f c w k) : Mid S km cnt v s o0 (fun f' c' w' => Q f' c' w' ∨ (f' = f ∧ c' = c ∧ w' = w)) o := by
  refine h.to (fun f' c' w' k h1 h2 hv hc hq => ?_)
  rcases hq with hq | ⟨rfl, rfl, rfl⟩
  · exact ⟨c', hq, hc, rfl⟩
  · exact absurd hc (hn k h1 h2 hv)
theorem Dn.mid (h : Dn S km cnt v s o) : Mid S km cnt v s o (fun _ _ _ => False) o :=
  ⟨h.1, fun k h1 h2 => ⟨fun _ => rfl, fun q => (h.2 k h1 h2).2 (by omega), fun e => ⟨fun t ht => (by rw [(h.2 k h1 h2).2 (by omega)] at ht; cases ht), fun _ _ _ q => q.elim⟩⟩⟩
theorem v_pos (hE : KE S km cnt) (hF : FinV S km cnt v) {k : Nat} (h1 : 1 ≤ k) (hk : k < cnt) : 1 ≤ v k := by
  rw [hF k h1 hk]
  obtain ⟨f, c, t, sc, st, -, -, -, -, -, e⟩ := (lsz_ok (hE.2.2.2.1 k h1 hk)).1.inv
  omega
theorem Dn_1 (hE : KE S km cnt) (hF : FinV S km cnt v) : Dn S km cnt v 1 (fun k => if k = 0 then some [] else none) := by
  refine ⟨rfl, fun k h1 hk => ⟨fun q => ?_, fun _ => ?_⟩⟩
  · have := v_pos hE hF h1 hk
    omega
  · show (if k = 0 then _ else _) = _
    rw [if_neg (by omega)]
/-- a kind that has its text -/
theorem Dn.at (hE : KE S km cnt) (hv0 : v 0 = 0) (h : Dn S km cnt v s o) {c : Nat} (hc : c < cnt) (hs : v c < s) : FT (K0 S) (bfS S) (decide (c ≠ 0)) (km c) (v c) ((o c).getD []) := by
  rcases Nat.eq_zero_or_pos c with e | e
  · subst e
    rw [h.1, hE.2.2.1, hv0]
    exact FT_emp
  · obtain ⟨t, h1, h2⟩ := (h.2 c e hc).1 hs
    rw [h1, decide_eq_true (by omega)]
    exact h2
/-- a hedge's kind among the kinds -/
theorem HT_kind (hE : KE S km cnt) (hv0 : v 0 = 0) (hF : FinV S km cnt v) {e : Bool} {m : Int64} {n : Nat} {t : List Nat} (h : HT (K0 S) (bfS S) e m n t) : ∃ k, k < cnt ∧ km k = m ∧ decide (k ≠ 0) = e ∧ v k ≤ n ∧ (e = false → n = 0) := by
  cases e with
  | false =>
    obtain ⟨rfl, rfl⟩ := h.hsz.2 rfl
    exact ⟨0, hE.1, hE.2.2.1, rfl, by omega, fun _ => rfl⟩
  | true =>
    have hz := h.hsz.1 rfl
    obtain ⟨k, k1, k2, k3⟩ := hE.2.2.2.2.1 m hz.reach
    refine ⟨k, k2, k3, decide_eq_true (by omega), ?_, fun q => by cases q⟩
    rw [hF k k1 k2, k3]
    exact (lsz_ok hz.reach).2 n hz
theorem HT_of (hE : KE S km cnt) {c : Nat} (hc : c < cnt) : ∃ n t, HT (K0 S) (bfS S) (decide (c ≠ 0)) (km c) n t := by
  rcases Nat.eq_zero_or_pos c with e | e
  · subst e
    rw [hE.2.2.1]
    exact ⟨0, [], .emp⟩
  · rw [decide_eq_true (by omega)]
    obtain ⟨n, hn⟩ := (hE.2.2.2.1 c e hc).hsz
    obtain ⟨t, ht⟩ := hn.ht
    exact ⟨n, t, ht⟩
/-- the text of a cut is a hedge's -/
theorem CutP.ht (hE : KE S km cnt) (hv0 : v 0 = 0) (h0 : Dn S km cnt v s o0) {f c w k : Nat} (hc : CutP S km cnt v s f c w k) : HT (K0 S) (bfS S) true (km k) s (cutT o0 f c w) := by
  obtain ⟨f1, f5, c1, w1, em, es⟩ := hc
  have hw := (h0.at hE hv0 w1 (by omega)).1
  rw [em, es]
  by_cases e : f = 1
  · subst e
    obtain ⟨n, t, ht⟩ := HT_of hE c1
    have := HT.node 1 _ _ _ _ _ _ _ _ (by decide) (by decide) ht hw
    exact this
  · have hcc := (h0.at hE hv0 c1 (by rw [if_neg e] at es; omega)).1
    have := HT.node f _ _ _ _ _ _ _ _ f1 f5 hcc hw
    rw [if_neg e] at this ⊢
    exact this
theorem Mid.fin (hE : KE S km cnt) (hv0 : v 0 = 0) (hF : FinV S km cnt v) (h0 : Dn S km cnt v s o0) (h : Mid S km cnt v s o0 (fun _ _ _ => True) o) : Dn S km cnt v (s + 1) o := by
  refine ⟨h.1, fun k k1 k2 => ⟨fun q => ?_, fun q => (h.2 k k1 k2).2.1 (by omega)⟩⟩
  obtain ⟨a1, a2, a3⟩ := h.2 k k1 k2
  by_cases hlt : v k < s
  · rw [a1 hlt]
    exact (h0.2 k k1 k2).1 hlt
  have hv : v k = s := by omega
  obtain ⟨a4, a5⟩ := a3 hv
  have hre := hE.2.2.2.1 k k1 k2
  have hl := lsz_ok hre
  rw [← hF k k1 k2, hv] at hl
  -- every hedge of this kind and size is a cut
  have key0 : ∀ m1 s1 t', HT (K0 S) (bfS S) true m1 s1 t' → km k = m1 → s = s1 → ∃ f c w, CutP S km cnt v s f c w k ∧ sn t' (cutT o0 f c w) = false := by
    intro m1 s1 t' ht' hm1 hs1
    cases ht' using HT.cas with
    | node f a b c w sc sw tc tw f1 f5 hc hw =>
      obtain ⟨ic, c1, c2, c3, c4, c5⟩ := HT_kind hE hv0 hF hc
      obtain ⟨iw, w1, w2, w3, w4, w5⟩ := HT_kind hE hv0 hF hw
      have zc : (km ic = K0 S ∧ v ic = 0) ∨ HSz S (km ic) (v ic) := by
        rcases Nat.eq_zero_or_pos ic with e | e
        · subst e
          exact Or.inl ⟨hE.2.2.1, hv0⟩
        · rw [hF ic e c1]
          exact Or.inr (lsz_ok (hE.2.2.2.1 ic e c1)).1
      have zw : (km iw = K0 S ∧ v iw = 0) ∨ HSz S (km iw) (v iw) := by
        rcases Nat.eq_zero_or_pos iw with e | e
        · subst e
          exact Or.inl ⟨hE.2.2.1, hv0⟩
        · rw [hF iw e w1]
          exact Or.inr (lsz_ok (hE.2.2.2.1 iw e w1)).1
      have hz := HSz.step (S := S) f1 f5 zc zw
      rw [c2, w2] at hz
      have hle := hl.2 _ (by rw [hm1]; exact hz)
      have hcut : s = 1 + v iw + (if f = 1 then 0 else v ic) := by
        by_cases e : f = 1
        · rw [if_pos e] at hle hs1 ⊢
          omega
        · rw [if_neg e] at hle hs1 ⊢
          omega
      have ew : v iw = sw := by
        by_cases e : f = 1
        · rw [if_pos e] at hcut hs1
          omega
        · rw [if_neg e] at hcut hs1
          omega
      have hFw := h0.at hE hv0 w1 (by omega)
      rw [w3, w2, ew] at hFw
      refine ⟨f, ic, iw, ⟨f1, f5, c1, w1, by rw [hm1, c2, w2], hcut⟩, ?_⟩
      by_cases e : f = 1
      · subst e
        exact ftx2_le (f := 1) (tc := tc) hc hc hFw.1 hw (sn_irr tc) (hFw.2 tw hw)
      · rw [if_neg e] at hcut hs1
        have ec : v ic = sc := by omega
        have hFc := h0.at hE hv0 c1 (by omega)
        rw [c3, c2, ec] at hFc
        exact ftx2_le hFc.1 hc hFw.1 hw (hFc.2 tc hc) (hFw.2 tw hw)
  have key : ∀ t', HT (K0 S) (bfS S) true (km k) s t' → ∃ f c w, CutP S km cnt v s f c w k ∧ sn t' (cutT o0 f c w) = false := fun t' h => key0 _ _ t' h rfl rfl
  obtain ⟨t0, ht0⟩ := hl.1.ht
  obtain ⟨f, c, w, hc, -⟩ := key t0 ht0
  obtain ⟨t, e1, -⟩ := a5 f c w trivial hc
  obtain ⟨f', c', w', hc', et⟩ := a4 t e1
  have hT := hc'.ht hE hv0 h0
  rw [← et] at hT
  refine ⟨t, e1, by rw [hv]; exact hT, fun t' ht' => ?_⟩
  rw [hv] at ht'
  obtain ⟨g, c2, w2, hc2, b1⟩ := key t' ht'
  obtain ⟨t2, b2, b3⟩ := a5 g c2 w2 trivial hc2
  rw [e1] at b2
  cases b2
  cases hq : sn t' t with
  | false => rfl
  | true =>
    have hT2 := hc2.ht hE hv0 h0
    cases hz : sn (cutT o0 g c2 w2) t' with
    | true =>
      rw [sn_tr _ _ _ hz hq] at b3
      cases b3
    | false =>
      have := HT_tot ht' hT2 b1 hz
      rw [← this, hq] at b3
      cases b3
/-- a cut's text is short enough -/
theorem CutP.len (hE : KE S km cnt) (hv0 : v 0 = 0) (h0 : Dn S km cnt v s o0) {f c w k : Nat} (hc : CutP S km cnt v s f c w k) : (cutT o0 f c w).length ≤ 3 * s := HT_len (hc.ht hE hv0 h0)
end S1
