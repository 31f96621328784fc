/-! the invariant of both objects -/
/-- what both hold: the pad, the definitions, the functions, the document, the value -/
abbrev Sta : Type := List Nat × (Nat → List Rt) × (Nat → Fn) × Nd × Nd
abbrev Sta.T (s : Sta) : List Nat := s.1
abbrev Sta.D (s : Sta) : Nat → List Rt := s.2.1
abbrev Sta.F (s : Sta) : Nat → Fn := s.2.2.1
abbrev Sta.N (s : Sta) : Nd := s.2.2.2.1
abbrev Sta.V (s : Sta) : Nd := s.2.2.2.2
abbrev Sta.setT (s : Sta) (T : List Nat) : Sta := (T, s.D, s.F, s.N, s.V)
abbrev Sta.setD (s : Sta) (D : Nat → List Rt) : Sta := (s.T, D, s.F, s.N, s.V)
abbrev Sta.setF (s : Sta) (F : Nat → Fn) : Sta := (s.T, s.D, F, s.N, s.V)
abbrev Sta.setN (s : Sta) (N : Nd) : Sta := (s.T, s.D, s.F, N, s.V)
abbrev Sta.setV (s : Sta) (V : Nd) : Sta := (s.T, s.D, s.F, s.N, V)
abbrev Sta.setNV (s : Sta) (N V : Nd) : Sta := (s.T, s.D, s.F, N, V)
def okSta (s : Sta) : Prop := (s.T.length ≤ 80 ∧ okT s.T) ∧ okDs s.D ∧ (∀ f, ((s.F f).2.2 = [] ∨ okF (s.F f)) ∧ ntk (s.F f).2.2 ≤ 80) ∧ (okN 0 s.N ∧ s.N.length ≤ 12) ∧ okN 0 s.V ∧ s.V.length ≤ 20
def fTx (f : Nat) (F : Fn) : List Nat := if F.2.2.length = 0 then [] else ftx (102 + f) F
def MF (F : Nat → Fn) (mi : Nat → Nat → Int32) : Prop := ∀ f, f < 3 → EN mi (6 + f) (fTx f (F f))
/-- the reference holds it -/
def MI (s : Sta) (mi : Nat → Nat → Int32) (ml : Nat → Nat → Int64) : Prop := PM s.T mi ∧ MD s.D mi ∧ MF s.F mi ∧ MC s.D mi ml ∧ (txt mi 120 (tx s.N 0) ∧ mi 116 5 = nI (tx s.N 0).length) ∧ txt mi 121 (tx s.V 0) ∧ mi 116 7 = nI (tx s.V 0).length
def PX (T : List Nat) (mi : Nat → Nat → Int32) : Prop := mi 0 1 = nI T.length ∧ txt mi 1 T
def XD (D : Nat → List Rt) (mi : Nat → Nat → Int32) (mr : Nat → Nat → Option Nat) : Prop := ∃ od : Nat → Nat, (∀ n, n < 7 → od n ∈ dOb) ∧ (∀ a b, a < 7 → b < 7 → od a = od b → a = b) ∧ (∀ n, n < 6 → mr 2 n = some (od n)) ∧ mr 0 3 = some (od 6) ∧ ∀ n, n < 6 → mi (od n) 0 = bI (decide (D n ≠ [])) ∧ (D n ≠ [] → DA mi (od n) (D n))
def XF (F : Nat → Fn) (mi : Nat → Nat → Int32) (mr : Nat → Nat → Option Nat) : Prop := ∃ oF : Nat → Nat, (∀ n, n < 4 → oF n ∈ fOb) ∧ (∀ a b, a < 4 → b < 4 → oF a = oF b → a = b) ∧ (∀ n, n < 3 → mr 45 n = some (oF n)) ∧ mr 0 5 = some (oF 3) ∧ ∀ n, n < 3 → mi (oF n) 0 = bI (decide ((F n).2.2.length ≠ 0)) ∧ ((F n).2.2.length ≠ 0 → FA mi (oF n) (F n))
def XH (N V : Nd) (mi : Nat → Nat → Int32) (mr : Nat → Nat → Option Nat) : Prop := ∃ td tw, (td = 70 ∨ td = 73) ∧ (tw = 76 ∨ tw = 79) ∧ mr 0 6 = some td ∧ mr 0 7 = some (143 - td) ∧ mr 0 8 = some tw ∧ mr 0 9 = some (155 - tw) ∧ HA mi td N ∧ HA mi tw V
def XR (D : Nat → List Rt) (mi : Nat → Nat → Int32) (ml : Nat → Nat → Int64) : Prop := ∃ ip n, repX (SD D) ip n mi ml ∧ ∃ kb : Bool, mi 93 1 = bI kb ∧ (kb = true → ∃ cnt tm, XKn (SD D) ip n cnt tm mi ml)
noncomputable def bfS (S : Rs) (f : Nat) (c w : Int64) : Int64 := belF S f (tb c) (tb w)
/-- the class's first texts -/
def TXK (S : Rs) (cnt : Nat) (mi : Nat → Nat → Int32) (ml : Nat → Nat → Int64) : Prop := mi 104 0 = nI 0 ∧ ∀ k, 1 ≤ k → k < cnt → lsz S (ml 94 k) ≤ 12 → ∃ t, FT (K0 S) (bfS S) true (ml 94 k) (lsz S (ml 94 k)) t ∧ mi 104 k = nI t.length ∧ ∀ i, i < t.length → mi 103 (36 * k + i) = nI (t.getD i 0)
def XT (D : Nat → List Rt) (mi : Nat → Nat → Int32) (ml : Nat → Nat → Int64) : Prop := ∃ tk : Bool, mi 102 1 = bI tk ∧ (tk = true → mi 93 1 = bI true ∧ ∃ cnt, mi 93 3 = nI cnt ∧ cnt ≤ 40 ∧ TXK (SD D) cnt mi ml)
/-- the class holds it -/
def XI (s : Sta) (mi : Nat → Nat → Int32) (ml : Nat → Nat → Int64) (mr : Nat → Nat → Option Nat) : Prop := PX s.T mi ∧ XD s.D mi mr ∧ XF s.F mi mr ∧ XH s.N s.V mi mr ∧ XR s.D mi ml ∧ (∀ i, i < 161 → mi 100 i = 0) ∧ XT s.D mi ml
def Inv2 (mi : Nat → Nat → Int32) (ml : Nat → Nat → Int64) (mr : Nat → Nat → Option Nat) : Prop := SR mr ∧ ∃ s, okSta s ∧ MI s mi ml ∧ XI s mi ml mr
section I1
variable {mi mi' : Nat → Nat → Int32} {ml ml' : Nat → Nat → Int64} {mr mr' : Nat → Nat → Option Nat} {s : Sta}
theorem txt_to {a : Nat} {T : List Nat} (h : txt mi a T) (e : mi' a = mi a) : txt mi' a T := fun i hi => by rw [e]; exact h i hi
theorem EN_to {n : Nat} {T : List Nat} (h : EN mi n T) (e1 : mi' 118 = mi 118) (e2 : mi' 119 = mi 119) : EN mi' n T := by
  unfold EN at h ⊢
  rw [e1, e2]
  exact h
theorem MC_to {D : Nat → List Rt} (h : MC D mi ml) (hi : ∀ a, 123 ≤ a → a < 130 → mi' a = mi a) (h11 : mi' 116 11 = mi 116 11) (h12 : mi' 116 12 = mi 116 12) (h18 : mi' 116 18 = mi 116 18) (hl : ml' 127 = ml 127) (hl2 : ml' 128 = ml 128) (hl3 : ml' 116 17 = ml 116 17) : MC D mi' ml' := by
  obtain ⟨kb, a, b⟩ := h
  refine ⟨kb, by rw [h11]; exact a, fun q => ?_⟩
  obtain ⟨c1, cnt, c2⟩ := b q
  refine ⟨?_, cnt, c2.to h18 (hi 129 (by decide) (by decide)) hl hl2 hl3⟩
  unfold repS at c1 ⊢
  rw [h12, hi 123 (by decide) (by decide), hi 124 (by decide) (by decide), hi 125 (by decide) (by decide), hi 126 (by decide) (by decide)]
  exact c1
theorem MD_to {D : Nat → List Rt} (h : MD D mi) (e1 : mi' 118 = mi 118) (e2 : mi' 119 = mi 119) : MD D mi' := by
  obtain ⟨T, hT⟩ := h
  exact ⟨T, fun n hn => ⟨EN_to (hT n hn).1 e1 e2, (hT n hn).2⟩⟩
theorem MI_to (h : MI s mi ml) (hi : ∀ a, 116 ≤ a → mi' a = mi a) (hl : ∀ a, 116 ≤ a → ml' a = ml a) : MI s mi' ml' := by
  obtain ⟨a1, a2, a3, a4, ⟨a5, a6⟩, a7, a8⟩ := h
  have e116 := hi 116 (by decide)
  refine ⟨?_, MD_to a2 (hi 118 (by decide)) (hi 119 (by decide)), fun f hf => EN_to (a3 f hf) (hi 118 (by decide)) (hi 119 (by decide)), MC_to a4 (fun a h _ => hi a (by omega)) (by rw [e116]) (by rw [e116]) (by rw [e116]) (hl 127 (by decide)) (hl 128 (by decide)) (by rw [hl 116 (by decide)]), ⟨txt_to a5 (hi 120 (by decide)), by rw [e116]; exact a6⟩, txt_to a7 (hi 121 (by decide)), by rw [e116]; exact a8⟩
  obtain ⟨b1, b2, b3, b4⟩ := a1
  exact ⟨txt_to b1 (hi 117 (by decide)), by rw [e116]; exact b2, b3, b4⟩
theorem DA_to {o : Nat} {D : List Rt} (h : DA mi o D) (hi : ∀ a, o ≤ a → a ≤ o + 5 → mi' a = mi a) : DA mi' o D := by
  unfold DA at h ⊢
  rw [hi o (by omega) (by omega), hi (o + 1) (by omega) (by omega), hi (o + 2) (by omega) (by omega), hi (o + 3) (by omega) (by omega), hi (o + 4) (by omega) (by omega), hi (o + 5) (by omega) (by omega)]
  exact h
theorem FA_to {o : Nat} {F : Fn} (h : FA mi o F) (hi : ∀ a, o ≤ a → a ≤ o + 5 → mi' a = mi a) : FA mi' o F := by
  unfold FA CA at h ⊢
  rw [hi o (by omega) (by omega), hi (o + 1) (by omega) (by omega), hi (o + 2) (by omega) (by omega), hi (o + 3) (by omega) (by omega), hi (o + 4) (by omega) (by omega), hi (o + 5) (by omega) (by omega)]
  exact h
theorem HA_to {t : Nat} {N : Nd} (h : HA mi t N) (e0 : mi' t = mi t) (e1 : mi' (t + 1) = mi (t + 1)) (e2 : mi' (t + 2) = mi (t + 2)) : HA mi' t N := by
  unfold HA at h ⊢
  rw [e0, e1, e2]
  exact h
theorem dOb_r {o : Nat} (h : o ∈ dOb) : 3 ≤ o ∧ o ≤ 39 := by
  simp only [dOb, List.mem_cons, List.not_mem_nil, or_false] at h
  omega
theorem fOb_r {o : Nat} (h : o ∈ fOb) : 46 ≤ o ∧ o ≤ 64 := by
  simp only [fOb, List.mem_cons, List.not_mem_nil, or_false] at h
  omega
theorem XD_to {D : Nat → List Rt} (h : XD D mi mr) (hi : ∀ a, 3 ≤ a → a ≤ 44 → mi' a = mi a) (hr : mr' 2 = mr 2) (hr2 : mr' 0 3 = mr 0 3) : XD D mi' mr' := by
  obtain ⟨od, a1, a2, a3, a4, a5⟩ := h
  refine ⟨od, a1, a2, by rw [hr]; exact a3, by rw [hr2]; exact a4, fun n hn => ?_⟩
  have := dOb_r (a1 n (by omega))
  refine ⟨by rw [hi _ (by omega) (by omega)]; exact (a5 n hn).1, fun q => DA_to ((a5 n hn).2 q) (fun a h1 h2 => hi a (by omega) (by omega))⟩
theorem XF_to {F : Nat → Fn} (h : XF F mi mr) (hi : ∀ a, 46 ≤ a → a ≤ 69 → mi' a = mi a) (hr : mr' 45 = mr 45) (hr2 : mr' 0 5 = mr 0 5) : XF F mi' mr' := by
  obtain ⟨od, a1, a2, a3, a4, a5⟩ := h
  refine ⟨od, a1, a2, by rw [hr]; exact a3, by rw [hr2]; exact a4, fun n hn => ?_⟩
  have := fOb_r (a1 n (by omega))
  refine ⟨by rw [hi _ (by omega) (by omega)]; exact (a5 n hn).1, fun q => FA_to ((a5 n hn).2 q) (fun a h1 h2 => hi a (by omega) (by omega))⟩
theorem XKn_to {S : Rs} {ip : Nat → Nat} {n cnt : Nat} {tm : Bool} (h : XKn S ip n cnt tm mi ml) (e2 : mi' 93 2 = mi 93 2) (e3 : mi' 93 3 = mi 93 3) (e4 : mi' 93 4 = mi 93 4) (e96 : mi' 96 = mi 96) (e98 : mi' 98 = mi 98) (e99 : mi' 99 = mi 99) (l94 : ml' 94 = ml 94) (l95 : ml' 95 = ml 95) (l101 : ml' 101 = ml 101) : XKn S ip n cnt tm mi' ml' := by
  obtain ⟨L, h1, h2⟩ := h
  refine ⟨L, ?_, fun e => ?_⟩
  · unfold XK at h1 ⊢
    rw [e2, e3, e4, e96, l94]
    exact h1
  · have := h2 e
    unfold XAll LL XJ XV at this ⊢
    rw [e96, e98, e99, l94, l95, l101]
    exact this
theorem repX_to {S : Rs} {ip : Nat → Nat} {n : Nat} (h : repX S ip n mi ml) (e84 : mi' 84 = mi 84) (e85 : mi' 85 = mi 85) (e86 : mi' 86 = mi 86) (hl : ∀ a, 84 ≤ a → a ≤ 91 → ml' a = ml a) : repX S ip n mi' ml' := by
  unfold repX at h ⊢
  rw [e84, e85, e86, hl 84 (by omega) (by omega), hl 87 (by omega) (by omega), hl 88 (by omega) (by omega), hl 89 (by omega) (by omega), hl 90 (by omega) (by omega), hl 91 (by omega) (by omega)]
  exact h
theorem XR_to {D : Nat → List Rt} (h : XR D mi ml) (hi : ∀ a, 84 ≤ a → a ≤ 99 → mi' a = mi a) (hl : ∀ a, 84 ≤ a → a ≤ 101 → a ≠ 92 → ml' a = ml a) : XR D mi' ml' := by
  obtain ⟨ip, n, a1, kb, a2, a3⟩ := h
  have e93 := hi 93 (by omega) (by omega)
  refine ⟨ip, n, repX_to a1 (hi 84 (by omega) (by omega)) (hi 85 (by omega) (by omega)) (hi 86 (by omega) (by omega)) (fun a h1 h2 => hl a h1 (by omega) (by omega)), kb, by rw [e93]; exact a2, fun q => ?_⟩
  obtain ⟨cnt, tm, a4⟩ := a3 q
  exact ⟨cnt, tm, XKn_to a4 (by rw [e93]) (by rw [e93]) (by rw [e93]) (hi 96 (by omega) (by omega)) (hi 98 (by omega) (by omega)) (hi 99 (by omega) (by omega)) (hl 94 (by omega) (by omega) (by omega)) (hl 95 (by omega) (by omega) (by omega)) (hl 101 (by omega) (by omega) (by omega))⟩
theorem XT_to {D : Nat → List Rt} (h : XT D mi ml) (e1 : mi' 102 1 = mi 102 1) (e2 : mi' 93 1 = mi 93 1) (e3 : mi' 93 3 = mi 93 3) (e103 : mi' 103 = mi 103) (e104 : mi' 104 = mi 104) (l94 : ml' 94 = ml 94) : XT D mi' ml' := by
  obtain ⟨tk, a1, a2⟩ := h
  refine ⟨tk, by rw [e1]; exact a1, fun q => ?_⟩
  obtain ⟨b1, cnt, b2, b3, b4⟩ := a2 q
  refine ⟨by rw [e2]; exact b1, cnt, by rw [e3]; exact b2, b3, ?_⟩
  unfold TXK at b4 ⊢
  rw [e103, e104, l94]
  exact b4
theorem XI_to (h : XI s mi ml mr) (hi : ∀ a, a < 116 → mi' a = mi a) (hl : ∀ a, a < 116 → ml' a = ml a) : XI s mi' ml' mr := by
  obtain ⟨⟨a0, a1⟩, a2, a3, ⟨td, tw, b1, b2, b3, b4, b5, b6, b7, b8⟩, a5, a6, a7⟩ := h
  refine ⟨⟨by rw [hi 0 (by decide)]; exact a0, txt_to a1 (hi 1 (by decide))⟩, XD_to a2 (fun a _ h => hi a (by omega)) rfl rfl, XF_to a3 (fun a _ h => hi a (by omega)) rfl rfl, ⟨td, tw, b1, b2, b3, b4, b5, b6, HA_to b7 (hi _ (by omega)) (hi _ (by omega)) (hi _ (by omega)), HA_to b8 (hi _ (by omega)) (hi _ (by omega)) (hi _ (by omega))⟩, XR_to a5 (fun a _ h => hi a (by omega)) (fun a _ h _ => hl a (by omega)), fun i q => by rw [hi 100 (by decide)]; exact a6 i q, XT_to a7 (by rw [hi 102 (by decide)]) (by rw [hi 93 (by decide)]) (by rw [hi 93 (by decide)]) (hi 103 (by decide)) (hi 104 (by decide)) (hl 94 (by decide))⟩
end I1
