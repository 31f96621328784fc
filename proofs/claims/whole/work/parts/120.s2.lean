/-! first texts: read, and the first of several kinds -/
theorem hScan_ht {M : Type} {k0 : M} {bf : Nat → M → M → M} {e : Bool} {m : M} {s : Nat} {t : List Nat} (h : HT k0 bf e m s t) : ∀ (P R : List Nat) (g d : Nat) (N : Nd), t.length ≤ g → N.length + s ≤ 12 → ∃ g' N', g ≤ g' + t.length ∧ N'.length = N.length + s ∧ hScan (P ++ (t ++ R)) g P.length d N = hScan (P ++ (t ++ R)) g' (P.length + t.length) d N' := by
  induction h using HT.ind with
  | emp =>
    intro P R g d N hg hN
    exact ⟨g, N, by simp, rfl, rfl⟩
  | node f a b c w sc sw tc tw f1 f5 hc hw ihc ihw =>
    intro P R g d N hg hN
    by_cases e : f = 1
    · subst e
      rw [if_pos rfl] at hN ⊢
      have et : ftx2 1 tc tw = 48 :: tw := rfl
      rw [et] at hg ⊢
      have hlen : (48 :: tw).length = tw.length + 1 := rfl
      rw [hlen] at hg ⊢
      obtain ⟨g1, rfl⟩ : ∃ g1, g = g1 + 1 := ⟨g - 1, by omega⟩
      have eT : P ++ ((48 :: tw) ++ R) = (P ++ [48]) ++ (tw ++ R) := by simp
      have h0 : (P ++ ((48 :: tw) ++ R)).getD P.length 0 = 48 := by
        have := getD_app2 P ((48 :: tw) ++ R) 0
        simpa using this
      obtain ⟨g', N', b1, b2, b3⟩ := ihw (P ++ [48]) R g1 d (N ++ [(48, d)]) (by omega) (by simp; omega)
      refine ⟨g', N', by omega, by rw [b2]; simp; omega, ?_⟩
      rw [show hScan (P ++ ((48 :: tw) ++ R)) (g1 + 1) P.length d N = hScan (P ++ ((48 :: tw) ++ R)) g1 (P.length + 1) d (N ++ [(48, d)]) by
        rw [hScan, if_neg (by simp), h0, if_neg (by omega), if_pos ⟨by omega, rfl⟩]]
      rw [eT]
      have e1 : (P ++ [48]).length = P.length + 1 := by simp
      rw [e1] at b3
      rw [b3]
      congr 1
      omega
    · rw [if_neg e] at hN ⊢
      have et : ftx2 f tc tw = (f + 95) :: 91 :: (tc ++ 93 :: tw) := by
        unfold ftx2
        rw [if_neg e]
      rw [et] at hg ⊢
      have hlen : ((f + 95) :: 91 :: (tc ++ 93 :: tw)).length = tc.length + tw.length + 3 := by simp; omega
      rw [hlen] at hg ⊢
      obtain ⟨g1, rfl⟩ : ∃ g1, g = g1 + 1 := ⟨g - 1, by omega⟩
      generalize hT : P ++ (((f + 95) :: 91 :: (tc ++ 93 :: tw)) ++ R) = T
      have h0 : T.getD P.length 0 = f + 95 := by
        rw [← hT]
        have := getD_app2 P (((f + 95) :: 91 :: (tc ++ 93 :: tw)) ++ R) 0
        simpa using this
      have h1 : T.getD (P.length + 1) 0 = 91 := by
        rw [← hT, getD_app2]
        rfl
      have eT : T = (P ++ [f + 95, 91]) ++ (tc ++ (93 :: (tw ++ R))) := by rw [← hT]; simp
      have eT2 : T = (P ++ [f + 95, 91] ++ tc ++ [93]) ++ (tw ++ R) := by rw [← hT]; simp
      have hL : T.length = P.length + (tc.length + tw.length + 3) + R.length := by rw [← hT]; simp; omega
      have l1 : (P ++ [f + 95, 91]).length = P.length + 2 := by simp
      have l2 : (P ++ [f + 95, 91] ++ tc ++ [93]).length = P.length + 2 + tc.length + 1 := by simp; omega
      obtain ⟨g2, N2, b1, b2, b3⟩ := ihc (P ++ [f + 95, 91]) (93 :: (tw ++ R)) g1 (d + 1) (N ++ [(f + 95, d)]) (by omega) (by simp; omega)
      rw [← eT, l1] at b3
      have h2 : T.getD (P.length + 2 + tc.length) 0 = 93 := by
        rw [eT, show P.length + 2 + tc.length = (P ++ [f + 95, 91]).length + (tc.length + 0) by simp, getD_app2, getD_app2]
        rfl
      have hn2 : N2.length = N.length + 1 + sc := by rw [b2]; simp
      obtain ⟨g3, rfl⟩ : ∃ g3, g2 = g3 + 1 := ⟨g2 - 1, by omega⟩
      obtain ⟨g', N', c1, c2, c3⟩ := ihw (P ++ [f + 95, 91] ++ tc ++ [93]) R g3 d N2 (by omega) (by omega)
      rw [← eT2, l2] at c3
      refine ⟨g', N', by omega, by omega, ?_⟩
      have d0 : isDig (f + 95) = false := by simp only [isDig, decide_eq_false_iff_not]; omega
      have d1 : isLab (f + 95) = true := by simp only [isLab, decide_eq_true_eq]; omega
      rw [show hScan T (g1 + 1) P.length d N = hScan T g1 (P.length + 2) (d + 1) (N ++ [(f + 95, d)]) by
        rw [hScan, if_neg (by omega), h0, if_neg (by omega), if_neg (by rw [d0]; simp), if_pos ⟨by omega, d1⟩, if_pos h1]]
      rw [b3, show hScan T (g3 + 1) (P.length + 2 + tc.length) (d + 1) N2 = hScan T g3 (P.length + 2 + tc.length + 1) d N2 by
        rw [hScan, if_neg (by omega), if_pos ⟨h2, by omega⟩]
        rfl]
      rw [c3]
      congr 1
      omega
/-- a first text is read as a hedge -/
theorem ht_read {M : Type} {k0 : M} {bf : Nat → M → M → M} {e : Bool} {m : M} {s : Nat} {t : List Nat} (h : HT k0 bf e m s t) (hs : s ≤ 12) : ∃ N, hScan t (t.length + 1) 0 0 [] = .inr N ∧ t = tx N 0 ∧ okN 0 N ∧ N.length ≤ 12 := by
  obtain ⟨g', N', b1, b2, b3⟩ := hScan_ht h [] [] (t.length + 1) 0 [] (by omega) (by simpa using hs)
  rw [List.append_nil, List.nil_append] at b3
  obtain ⟨g2, rfl⟩ : ∃ g2, g' = g2 + 1 := ⟨g' - 1, by omega⟩
  have e : hScan t (t.length + 1) 0 0 [] = .inr N' := by
    have b3 : hScan t (t.length + 1) 0 0 [] = hScan t (g2 + 1) (0 + t.length) 0 N' := b3
    rw [b3, hScan, if_pos (by omega), if_pos rfl]
  have := hScan_ok t _ 0 0 [] N' (Nat.zero_le _) rfl trivial (Nat.zero_le _) (Nat.zero_le _) e
  exact ⟨N', e, this⟩
theorem HT_ok {M : Type} {k0 : M} {bf : Nat → M → M → M} {e : Bool} {m : M} {s : Nat} {t : List Nat} (h : HT k0 bf e m s t) : okT t := by
  induction h using HT.ind with
  | emp => intro c hc; cases hc
  | node f a b c w sc sw tc tw f1 f5 hc hw ihc ihw =>
    intro x hx
    unfold ftx2 at hx
    split at hx
    · rcases List.mem_cons.mp hx with e | e
      · omega
      · exact ihw x e
    · rcases List.mem_cons.mp hx with e | e
      · omega
      rcases List.mem_cons.mp e with e | e
      · omega
      rcases List.mem_append.mp e with e | e
      · exact ihc x e
      rcases List.mem_cons.mp e with e | e
      · omega
      · exact ihw x e
def Tk (o : Nat → Option (List Nat)) (k : Nat) : List Nat := (o k).getD []
/-- the first text of those kinds below i that are due -/
def Pk (p : Nat → Bool) (v : Nat → Nat) (z : Nat) (o : Nat → Option (List Nat)) (i : Nat) (b : Option Nat) : Prop := match b with
  | none => ∀ k, k < i → p k = true → v k ≠ z
  | some b => b < i ∧ p b = true ∧ v b = z ∧ ∀ k, k < i → p k = true → v k = z → sn (Tk o k) (Tk o b) = false
section S2
variable {p p' : Nat → Bool} {v w : Nat → Nat} {z i : Nat} {o o' : Nat → Option (List Nat)}
theorem Pk_0 : Pk p v z o 0 none := fun k hk => absurd hk (Nat.not_lt_zero _)
theorem lt_sx {k i : Nat} (h : k < i + 1) : k < i ∨ k = i := by omega
theorem Pk_skip {b : Option Nat} (h : Pk p v z o i b) (hn : ¬ (p i = true ∧ v i = z)) : Pk p v z o (i + 1) b := by
  cases b with
  | none =>
    intro k hk hp
    rcases lt_sx hk with q | rfl
    · exact h k q hp
    · exact fun e => hn ⟨hp, e⟩
  | some b =>
    obtain ⟨a1, a2, a3, a4⟩ := h
    refine ⟨by omega, a2, a3, fun k hk hp hv => ?_⟩
    rcases lt_sx hk with q | rfl
    · exact a4 k q hp hv
    · exact absurd ⟨hp, hv⟩ hn
theorem Pk_take0 (h : Pk p v z o i none) (hp : p i = true) (hv : v i = z) : Pk p v z o (i + 1) (some i) := by
  refine ⟨by omega, hp, hv, fun k hk hp' hv' => ?_⟩
  rcases lt_sx hk with q | rfl
  · exact absurd hv' (h k q hp')
  · exact sn_irr _
theorem Pk_take {b : Nat} (h : Pk p v z o i (some b)) (hp : p i = true) (hv : v i = z) (hs : sn (Tk o i) (Tk o b) = true) : Pk p v z o (i + 1) (some i) := by
  refine ⟨by omega, hp, hv, fun k hk hp' hv' => ?_⟩
  rcases lt_sx hk with q | rfl
  · cases hz : sn (Tk o k) (Tk o i) with
    | false => rfl
    | true =>
      have := h.2.2.2 k q hp' hv'
      rw [sn_tr _ _ _ hz hs] at this
      cases this
  · exact sn_irr _
theorem Pk_keep {b : Nat} (h : Pk p v z o i (some b)) (hs : sn (Tk o i) (Tk o b) = false) : Pk p v z o (i + 1) (some b) := by
  obtain ⟨a1, a2, a3, a4⟩ := h
  refine ⟨by omega, a2, a3, fun k hk hp' hv' => ?_⟩
  rcases lt_sx hk with q | rfl
  · exact a4 k q hp' hv'
  · exact hs
variable {S : Rs} {km kx : Nat → Int64} {cm cx : Nat}
theorem Dn.tk (hE : KE S km cm) (hv0 : v 0 = 0) (h : Dn S km cm v 13 o) {c : Nat} (hc : c < cm) (hs : v c ≤ 12) : FT (K0 S) (bfS S) (decide (c ≠ 0)) (km c) (v c) (Tk o c) := h.at hE hv0 hc (by omega)
/-- both pick one text -/
theorem pick_same (hE : KE S km cm) (hE' : KE S kx cx) (hv0 : v 0 = 0) (hw0 : w 0 = 0) (h1 : SK km v cm kx w cx) (h2 : SK kx w cx km v cm) (hD : Dn S km cm v 13 o) (hD' : Dn S kx cx w 13 o') (hz : z ≤ 12) (P : Int64 → Bool) (hp : ∀ k, k < cm → p k = P (km k)) (hp' : ∀ k, k < cx → p' k = P (kx k)) {b b' : Nat} (hb : Pk p v z o cm (some b)) (hb' : Pk p' w z o' cx (some b')) : Tk o b = Tk o' b' := by
  obtain ⟨a1, a2, a3, a4⟩ := hb
  obtain ⟨c1, c2, c3, c4⟩ := hb'
  have F1 := hD.tk hE hv0 a1 (by omega)
  have F2 := hD'.tk hE' hw0 c1 (by omega)
  -- the other's kind on each side
  obtain ⟨j, j1, j2, j3, j4⟩ := h1 b a1
  obtain ⟨i, i1, i2, i3, i4⟩ := h2 b' c1
  have e1 : Tk o' j = Tk o b := by
    have := hD'.tk hE' hw0 j1 (by omega)
    rw [j2, j3] at this
    have ee : decide (j ≠ 0) = decide (b ≠ 0) := by
      by_cases q : b = 0
      · rw [decide_eq_false (by omega), decide_eq_false (by omega)]
      · rw [decide_eq_true (by omega), decide_eq_true (by omega)]
    rw [ee] at this
    exact FT_uniq this F1
  have e2 : Tk o i = Tk o' b' := by
    have := hD.tk hE hv0 i1 (by omega)
    rw [i2, i3] at this
    have ee : decide (i ≠ 0) = decide (b' ≠ 0) := by
      by_cases q : b' = 0
      · rw [decide_eq_false (by omega), decide_eq_false (by omega)]
      · rw [decide_eq_true (by omega), decide_eq_true (by omega)]
    rw [ee] at this
    exact FT_uniq this F2
  have g1 := c4 j j1 (by rw [hp' j j1, j2, ← hp b a1]; exact a2) (by omega)
  have g2 := a4 i i1 (by rw [hp i i1, i2, ← hp' b' c1]; exact c2) (by omega)
  rw [e1] at g1
  rw [e2] at g2
  have H1 := F1.1
  have H2 := F2.1
  rw [a3] at H1
  rw [c3] at H2
  exact HT_tot H1 H2 g1 g2
/-- a row of texts in memory -/
def TR (mc mn : Nat → Int32) (k : Nat) (o : Option (List Nat)) : Prop := match o with
  | none => mn k = -1
  | some t => t.length ≤ 36 ∧ okT t ∧ mn k = nI t.length ∧ ∀ i, i < t.length → mc (36 * k + i) = nI (t.getD i 0)
def TS (mc mn : Nat → Int32) (cnt : Nat) (o : Nat → Option (List Nat)) : Prop := ∀ k, k < cnt → TR mc mn k (o k)
theorem sn_at (A B : List Nat) (i : Nat) : sn (A.drop i) (B.drop i) = if i < A.length ∧ i < B.length then (if A.getD i 0 = B.getD i 0 then sn (A.drop (i + 1)) (B.drop (i + 1)) else decide (A.getD i 0 < B.getD i 0)) else false := by
  by_cases h1 : i < A.length
  · by_cases h2 : i < B.length
    · rw [if_pos ⟨h1, h2⟩, List.drop_eq_getElem_cons h1, List.drop_eq_getElem_cons h2, sn]
      simp [List.getD_eq_getElem?_getD, List.getElem?_eq_getElem h1, List.getElem?_eq_getElem h2]
    · rw [if_neg (fun q => h2 q.2), List.drop_eq_nil_of_le (as := B) (by omega)]
      cases A.drop i <;> rfl
  · rw [if_neg (fun q => h1 q.1), List.drop_eq_nil_of_le (as := A) (by omega)]
    rfl
end S2
