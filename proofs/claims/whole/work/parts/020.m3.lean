/-! the reference: inName, may, belongs -/
/-- a system of rests: how many; what (0 end, 1 number, 2 .. 5 label, 10 + n tail), content, mark (1 *, 2 ?), whole (n, or 99) -/
abbrev Rs : Type := Nat × (Nat → Nat) × (Nat → Nat) × (Nat → Nat) × (Nat → Nat)
def woI (w : Nat) : Int32 := if w < 6 then nI w else -1
def okS (S : Rs) : Prop := S.1 ≤ 64 ∧ ∀ r, r < S.1 → (S.2.1 r = 0 ∨ (1 ≤ S.2.1 r ∧ S.2.1 r ≤ 5 ∧ r + 1 < S.1) ∨ (10 ≤ S.2.1 r ∧ S.2.1 r < 16)) ∧ S.2.2.1 r < 6 ∧ S.2.2.2.1 r ≤ 2
def repS (S : Rs) (mi : Nat → Nat → Int32) : Prop := mi 116 12 = nI S.1 ∧ ∀ r, r < S.1 → mi 123 r = nI (S.2.1 r) ∧ (2 ≤ S.2.1 r → S.2.1 r ≤ 5 → mi 124 r = nI (S.2.2.1 r)) ∧ mi 125 r = nI (S.2.2.2.1 r) ∧ mi 126 r = woI (S.2.2.2.2 r)
def inN (S : Rs) (m : Nat → Bool) (n : Nat) : Bool := (List.range S.1).any (fun r => decide (S.2.2.2.2 r = n) && m r)
/-- what a hedge begins with: 0 nothing, 1 number, 2 .. 5 label -/
def mayB (S : Rs) (f : Nat) (inside behind X : Nat → Bool) (r : Nat) : Bool :=
  if S.2.1 r = 0 then decide (f = 0) else if 10 ≤ S.2.1 r then inN S X (S.2.1 r - 10) else
    (decide (0 < S.2.2.2.1 r) && X (r + 1)) || ((decide (f = S.2.1 r) && (decide (f = 1) || inN S inside (S.2.2.1 r))) && (behind (r + 1) || (decide (S.2.2.2.1 r = 1) && behind r)))
def fI (f : Nat) : Int32 := if f = 0 then -1 else nI (f - 1)
theorem inN_iff {S : Rs} {m : Nat → Bool} {n : Nat} : inN S m n = true ↔ ∃ r, r < S.1 ∧ S.2.2.2.2 r = n ∧ m r = true := by
  simp [inN, List.any_eq_true]
theorem inN_take {S : Rs} {m : Nat → Bool} {n : Nat} (r : Nat) : (List.range (r + 1)).any (fun r => decide (S.2.2.2.2 r = n) && m r) = ((List.range r).any (fun r => decide (S.2.2.2.2 r = n) && m r) || (decide (S.2.2.2.2 r = n) && m r)) := by
  rw [List.range_succ, List.any_append]
  simp
theorem woI_eq {w n : Nat} (hn : n < 6) : woI w = nI n ↔ w = n := by
  unfold woI
  by_cases h : w < 6
  · rw [if_pos h]
    exact nI_eq (by omega) (by omega)
  · rw [if_neg h]
    constructor
    · intro q
      have h1 : (-1 : Int32).toInt = (nI n).toInt := by rw [q]
      rw [nI_toInt (by omega)] at h1
      have h2 : (-1 : Int32).toInt = -1 := by decide
      omega
    · omega
section M3
variable {l : Launch} {d : Nat} {mi : Nat → Nat → Int32} {ml : Nat → Nat → Int64} {mr : Nat → Nat → Option Nat} {h : am_H} {S : Rs}
theorem c_m_inName_loop (hR : SR mr) (hS : okS S) (hr : repS S mi) (mask : Int64) (n : Nat) (hn : n < 6) : ∀ (k r : Nat), r + k = S.1 → am_T l d M_m_inName 6 [some (.ref 116), some (.long mask), none, some (.int (nI n)), some (.int (bI ((List.range r).any (fun r => decide (S.2.2.2.2 r = n) && tb mask r)))), some (.int (nI r))] [] (hm mi ml mr) 0 0 (fun v h' => v = some (.int (bI (inN S (tb mask) n))) ∧ h' = hm mi ml mr) := by
  have h64 := hS.1
  intro k
  induction k with
  | zero =>
    intro r hk
    refine am_iload rfl rfl ?_
    refine am_aload_n rfl rfl ?_
    refine ho_getI rfl (by first | rfl | assumption) rfl ?_
    rw [hr.1]
    refine ho_icmp_ge rfl (by omega) (by omega) (fun h1 => ?_) (fun h1 => absurd (by omega) h1)
    refine am_iload rfl rfl ?_
    exact am_zreturn rfl rfl (bI_01 _) ⟨by rw [show r = S.1 by omega]; rfl, rfl⟩
  | succ k ih =>
    intro r hk
    have next : ∀ c : Bool, c = ((List.range r).any (fun r => decide (S.2.2.2.2 r = n) && tb mask r) || (decide (S.2.2.2.2 r = n) && tb mask r)) → am_T l d M_m_inName 47 [some (.ref 116), some (.long mask), none, some (.int (nI n)), some (.int (bI ((List.range r).any (fun r => decide (S.2.2.2.2 r = n) && tb mask r)))), some (.int (nI r))] [.int (bI c)] (hm mi ml mr) 0 0 (fun v h' => v = some (.int (bI (inN S (tb mask) n))) ∧ h' = hm mi ml mr) := by
      intro c hc
      refine am_istore rfl (Nat.le_of_ble_eq_true rfl) ?_
      show am_T _ _ _ _ [_, _, _, _, some _, _] _ _ _ _ _
      refine am_iinc rfl rfl (nI_inc1 _) ?_
      show am_T _ _ _ _ [_, _, _, _, _, some _] _ _ _ _ _
      refine am_goto rfl ?_
      rw [hc, ← inN_take]
      exact ih (r + 1) (by omega)
    refine am_iload rfl rfl ?_
    refine am_aload_n rfl rfl ?_
    refine ho_getI rfl (by first | rfl | assumption) rfl ?_
    rw [hr.1]
    refine ho_icmp_ge rfl (by omega) (by omega) (fun h1 => absurd h1 (by omega)) (fun h1 => ?_)
    refine am_iload rfl rfl ?_
    refine am_if_ne rfl (fun h2 => ?_) (fun h2 => ?_)
    · refine am_iconst (v := nI 1) rfl (by decide) ?_
      refine am_goto rfl ?_
      exact next true (by rw [(bI_ne _).mp h2]; rfl)
    have h2 := (bI_eq _).mp h2
    refine am_aload_n rfl rfl ?_
    refine ho_getR rfl (by first | rfl | assumption) rfl (by first | assumption | exact hR _ _ _ rfl) ?_
    refine am_iload rfl rfl ?_
    refine ho_iaload rfl (by first | rfl | assumption) (by omega) ?_
    rw [(hr.2 r (by omega)).2.2.2]
    refine am_iload_n rfl rfl ?_
    refine am_icmp_ne rfl (fun h3 => ?_) (fun h3 => ?_)
    · refine am_iconst (v := nI 0) rfl (by decide) ?_
      exact next false (by rw [h2, show decide (S.2.2.2.2 r = n) = false from decide_eq_false (fun q => h3 ((woI_eq hn).mpr q))]; rfl)
    have h3 := (woI_eq hn).mp h3
    refine am_lload_n rfl rfl ?_
    refine am_iload rfl rfl ?_
    refine am_lshr rfl rfl ?_
    refine am_lconst (v := 1) rfl (by decide) ?_
    refine am_land rfl ?_
    refine am_lconst (v := 1) rfl (by decide) ?_
    refine am_lcmp rfl ?_
    refine am_if_ne rfl (fun h4 => ?_) (fun h4 => ?_)
    · refine am_iconst (v := nI 0) rfl (by decide) ?_
      exact next false (by
        have : tb mask r = false := by
          cases ht : tb mask r
          · rfl
          · exact absurd ((tb_test (by omega)).mpr ht) h4
        rw [h2, this, Bool.and_false]; rfl)
    · refine am_iconst (v := nI 1) rfl (by decide) ?_
      refine am_goto rfl ?_
      exact next true (by rw [(tb_test (by omega)).mp h4, h3]; simp)
theorem c_m_inName (hR : SR mr) (hS : okS S) (hr : repS S mi) (mask : Int64) (n : Nat) (hn : n < 6) : am_T l d M_m_inName 0 [some (.ref 116), some (.long mask), none, some (.int (nI n)), none, none] [] (hm mi ml mr) 0 0 (fun v h' => v = some (.int (bI (inN S (tb mask) n))) ∧ h' = hm mi ml mr) := by
  refine am_iconst (v := nI 0) rfl (by decide) ?_
  refine am_istore rfl (Nat.le_of_ble_eq_true rfl) ?_
  show am_T _ _ _ _ [_, _, _, _, some _, _] _ _ _ _ _
  refine am_iconst (v := nI 0) rfl (by decide) ?_
  refine am_istore rfl (Nat.le_of_ble_eq_true rfl) ?_
  show am_T _ _ _ _ [_, _, _, _, _, some _] _ _ _ _ _
  exact c_m_inName_loop hR hS hr mask n hn S.1 0 (by omega)
theorem fI_neg {f : Nat} (hf : f ≤ 5) : 0 ≤ fI f ↔ ¬ f = 0 := by
  unfold fI
  by_cases h : f = 0
  · rw [if_pos h]
    simp [h]
  · rw [if_neg h]
    simp [h]
    exact nI_pos' (by omega)
theorem fI_eq {f w : Nat} (hf : f ≤ 5) (hw : w < 100) : fI f + nI 1 = nI w ↔ f = w := by
  unfold fI
  by_cases h : f = 0
  · rw [if_pos h, show (-1 : Int32) + nI 1 = nI 0 by decide, nI_eq (by omega) (by omega)]
    omega
  · rw [if_neg h, nI_add, nI_eq (by omega) (by omega)]
    omega
theorem fI_0 {f : Nat} (hf : f ≤ 5) : fI f = 0 ↔ f = 1 := by
  unfold fI
  by_cases h : f = 0
  · rw [if_pos h]
    simp [h]
  · rw [if_neg h, show (0 : Int32) = nI 0 from rfl, nI_eq (by omega) (by omega)]
    omega
theorem fI_le {f : Nat} (hf : f ≤ 5) : fI f ≤ 0 ↔ f ≤ 1 := by
  unfold fI
  by_cases h : f = 0
  · rw [if_pos h]
    simp [h]
  · rw [if_neg h, show (0 : Int32) = nI 0 from rfl, nI_leI (by omega) (by omega)]
    omega
theorem c_m_may (hR : SR mr) (hS : okS S) (hr : repS S mi) (r f : Nat) (hrr : r < S.1) (hf : f ≤ 5) (inside behind mask : Int64) : am_T l (d + 1) M_m_may 0 [some (.ref 116), some (.int (nI r)), some (.int (fI f)), some (.long inside), none, some (.long behind), none, some (.long mask), none, none, none] [] (hm mi ml mr) 0 0 (fun v h' => v = some (.int (bI (mayB S f (tb inside) (tb behind) (tb mask) r))) ∧ h' = hm mi ml mr) := by
  have h64 := hS.1
  obtain ⟨e1, e2, e3, e4⟩ := hr.2 r hrr
  obtain ⟨k1, k2, k3⟩ := hS.2 r hrr
  refine am_aload_n rfl rfl ?_
  refine ho_getR rfl (by first | rfl | assumption) rfl (by first | assumption | exact hR _ _ _ rfl) ?_
  refine am_iload_n rfl rfl ?_
  refine ho_iaload rfl (by first | rfl | assumption) (by omega) ?_
  rw [e1]
  refine am_if_ne rfl (fun h1 => ?_) (fun h1 => ?_)
  case refine_2 =>
    have h1 : S.2.1 r = 0 := (nI_eq (by omega) (by omega)).mp (h1.trans (rfl : (0 : Int32) = nI 0))
    have em : mayB S f (tb inside) (tb behind) (tb mask) r = decide (f = 0) := by unfold mayB; rw [if_pos h1]
    rw [em]
    refine am_iload_n rfl rfl ?_
    refine am_if_ge rfl (fun h2 => ?_) (fun h2 => ?_)
    · refine am_iconst (v := nI 0) rfl (by decide) ?_
      exact am_zreturn rfl rfl (Or.inl rfl) ⟨by rw [decide_eq_false ((fI_neg hf).mp h2)]; rfl, rfl⟩
    · refine am_iconst (v := nI 1) rfl (by decide) ?_
      refine am_goto rfl ?_
      exact am_zreturn rfl rfl (Or.inr rfl) ⟨by rw [decide_eq_true (by rcases Decidable.em (f = 0) with q | q; exact q; exact absurd ((fI_neg hf).mpr q) h2)]; rfl, rfl⟩
  have h1 : ¬ S.2.1 r = 0 := fun q => h1 (by rw [q]; rfl)
  refine am_aload_n rfl rfl ?_
  refine ho_getR rfl (by first | rfl | assumption) rfl (by first | assumption | exact hR _ _ _ rfl) ?_
  refine am_iload_n rfl rfl ?_
  refine ho_iaload rfl (by first | rfl | assumption) (by omega) ?_
  rw [e1]
  refine am_bipush (v := nI 10) rfl (by decide) ?_
  refine ho_icmp_lt rfl (by omega) (by omega) (fun h2 => ?_) (fun h2 => ?_)
  case refine_2 =>
    have em : mayB S f (tb inside) (tb behind) (tb mask) r = inN S (tb mask) (S.2.1 r - 10) := by unfold mayB; rw [if_neg h1, if_pos (by omega)]
    rw [em]
    refine am_aload_n rfl rfl ?_
    refine am_lload rfl rfl ?_
    refine am_aload_n rfl rfl ?_
    refine ho_getR rfl (by first | rfl | assumption) rfl (by first | assumption | exact hR _ _ _ rfl) ?_
    refine am_iload_n rfl rfl ?_
    refine ho_iaload rfl (by first | rfl | assumption) (by omega) ?_
    rw [e1]
    refine am_bipush (v := nI 10) rfl (by decide) ?_
    first | refine ho_subn rfl (by omega) ?_ | refine am_isub rfl ?_
    refine ho_cv2 rfl (by first | rfl | assumption) rfl (Nat.le_of_ble_eq_true rfl) (Nat.le_of_ble_eq_true rfl) (c_m_inName hR hS hr mask (S.2.1 r - 10) (by omega)) ?_
    rintro v h' ⟨rfl, rfl⟩
    exact am_zreturn rfl rfl (bI_01 _) ⟨rfl, rfl⟩
  have hr1 : r + 1 < S.1 := by omega
  have em : mayB S f (tb inside) (tb behind) (tb mask) r = ((decide (0 < S.2.2.2.1 r) && tb mask (r + 1)) || ((decide (f = S.2.1 r) && (decide (f = 1) || inN S (tb inside) (S.2.2.1 r))) && (tb behind (r + 1) || (decide (S.2.2.2.1 r = 1) && tb behind r)))) := by
    unfold mayB
    rw [if_neg h1, if_neg (by omega)]
  rw [em]
  -- behind the first test
  have b70 : (decide (0 < S.2.2.2.1 r) && tb mask (r + 1)) = false → am_T l (d + 1) M_m_may 70 [some (.ref 116), some (.int (nI r)), some (.int (fI f)), some (.long inside), none, some (.long behind), none, some (.long mask), none, none, none] [] (hm mi ml mr) 0 0 (fun v h' => v = some (.int (bI ((decide (0 < S.2.2.2.1 r) && tb mask (r + 1)) || ((decide (f = S.2.1 r) && (decide (f = 1) || inN S (tb inside) (S.2.2.1 r))) && (tb behind (r + 1) || (decide (S.2.2.2.1 r = 1) && tb behind r)))))) ∧ h' = hm mi ml mr) := by
    intro hz
    rw [hz, Bool.false_or]
    have b150 : ∀ (fb gb : Bool), fb = (decide (f = S.2.1 r) && (decide (f = 1) || inN S (tb inside) (S.2.2.1 r))) → gb = (tb behind (r + 1) || (decide (S.2.2.2.1 r = 1) && tb behind r)) → am_T l (d + 1) M_m_may 150 [some (.ref 116), some (.int (nI r)), some (.int (fI f)), some (.long inside), none, some (.long behind), none, some (.long mask), none, some (.int (bI fb)), none] [.int (bI gb)] (hm mi ml mr) 0 0 (fun v h' => v = some (.int (bI ((decide (f = S.2.1 r) && (decide (f = 1) || inN S (tb inside) (S.2.2.1 r))) && (tb behind (r + 1) || (decide (S.2.2.2.1 r = 1) && tb behind r))))) ∧ h' = hm mi ml mr) := by
      intro fb gb hfb hgb
      rw [← hfb, ← hgb]
      refine am_istore rfl (Nat.le_of_ble_eq_true rfl) ?_
      show am_T _ _ _ _ [_, _, _, _, _, _, _, _, _, _, some _] _ _ _ _ _
      refine am_iload rfl rfl ?_
      refine am_if_eq rfl (fun q1 => ?_) (fun q1 => ?_)
      · refine am_iconst (v := nI 0) rfl (by decide) ?_
        exact am_zreturn rfl rfl (Or.inl rfl) ⟨by rw [(bI_eq _).mp q1]; rfl, rfl⟩
      refine am_iload rfl rfl ?_
      refine am_if_eq rfl (fun q2 => ?_) (fun q2 => ?_)
      · refine am_iconst (v := nI 0) rfl (by decide) ?_
        exact am_zreturn rfl rfl (Or.inl rfl) ⟨by rw [(bI_eq _).mp q2, Bool.and_false]; rfl, rfl⟩
      · refine am_iconst (v := nI 1) rfl (by decide) ?_
        refine am_goto rfl ?_
        exact am_zreturn rfl rfl (Or.inr rfl) ⟨by rw [(bI_ne _).mp q1, (bI_ne _).mp q2]; rfl, rfl⟩
    have b109 : ∀ (fb : Bool), fb = (decide (f = S.2.1 r) && (decide (f = 1) || inN S (tb inside) (S.2.2.1 r))) → am_T l (d + 1) M_m_may 109 [some (.ref 116), some (.int (nI r)), some (.int (fI f)), some (.long inside), none, some (.long behind), none, some (.long mask), none, none, none] [.int (bI fb)] (hm mi ml mr) 0 0 (fun v h' => v = some (.int (bI ((decide (f = S.2.1 r) && (decide (f = 1) || inN S (tb inside) (S.2.2.1 r))) && (tb behind (r + 1) || (decide (S.2.2.2.1 r = 1) && tb behind r))))) ∧ h' = hm mi ml mr) := by
      intro fb hfb
      refine am_istore rfl (Nat.le_of_ble_eq_true rfl) ?_
      show am_T _ _ _ _ [_, _, _, _, _, _, _, _, _, some _, _] _ _ _ _ _
      refine am_lload rfl rfl ?_
      refine am_iload_n rfl rfl ?_
      refine am_iconst (v := nI 1) rfl (by decide) ?_
      first | refine ho_addn rfl ?_ | refine am_iadd rfl ?_
      refine am_lshr rfl rfl ?_
      refine am_lconst (v := 1) rfl (by decide) ?_
      refine am_land rfl ?_
      refine am_lconst (v := 1) rfl (by decide) ?_
      refine am_lcmp rfl ?_
      refine am_if_eq rfl (fun q1 => ?_) (fun q1 => ?_)
      · refine am_iconst (v := nI 1) rfl (by decide) ?_
        refine am_goto rfl ?_
        exact b150 fb true hfb (by rw [(tb_test (by omega)).mp q1]; rfl)
      have hb1 : tb behind (r + 1) = false := by
        cases ht : tb behind (r + 1)
        · rfl
        · exact absurd ((tb_test (by omega)).mpr ht) q1
      refine am_aload_n rfl rfl ?_
      refine ho_getR rfl (by first | rfl | assumption) rfl (by first | assumption | exact hR _ _ _ rfl) ?_
      refine am_iload_n rfl rfl ?_
      refine ho_iaload rfl (by first | rfl | assumption) (by omega) ?_
      rw [e3]
      refine am_iconst (v := nI 1) rfl (by decide) ?_
      refine ho_icmp_ne rfl (by omega) (by omega) (fun q2 => ?_) (fun q2 => ?_)
      · refine am_iconst (v := nI 0) rfl (by decide) ?_
        exact b150 fb false hfb (by rw [hb1, decide_eq_false q2]; rfl)
      refine am_lload rfl rfl ?_
      refine am_iload_n rfl rfl ?_
      refine am_lshr rfl rfl ?_
      refine am_lconst (v := 1) rfl (by decide) ?_
      refine am_land rfl ?_
      refine am_lconst (v := 1) rfl (by decide) ?_
      refine am_lcmp rfl ?_
      refine am_if_ne rfl (fun q3 => ?_) (fun q3 => ?_)
      · refine am_iconst (v := nI 0) rfl (by decide) ?_
        have hb2 : tb behind r = false := by
          cases ht : tb behind r
          · rfl
          · exact absurd ((tb_test (by omega)).mpr ht) q3
        exact b150 fb false hfb (by rw [hb1, hb2, Bool.and_false]; rfl)
      · refine am_iconst (v := nI 1) rfl (by decide) ?_
        refine am_goto rfl ?_
        exact b150 fb true hfb (by rw [decide_eq_true q2, (tb_test (by omega)).mp q3, hb1]; rfl)
    refine am_iload_n rfl rfl ?_
    refine am_iconst (v := nI 1) rfl (by decide) ?_
    refine am_iadd rfl ?_
    refine am_aload_n rfl rfl ?_
    refine ho_getR rfl (by first | rfl | assumption) rfl (by first | assumption | exact hR _ _ _ rfl) ?_
    refine am_iload_n rfl rfl ?_
    refine ho_iaload rfl (by first | rfl | assumption) (by omega) ?_
    rw [e1]
    refine am_icmp_ne rfl (fun q1 => ?_) (fun q1 => ?_)
    · refine am_iconst (v := nI 0) rfl (by decide) ?_
      exact b109 false (by rw [decide_eq_false (fun z => q1 ((fI_eq hf (by omega)).mpr z))]; rfl)
    have q1 := (fI_eq hf (by omega)).mp q1
    refine am_iload_n rfl rfl ?_
    refine am_if_eq rfl (fun q2 => ?_) (fun q2 => ?_)
    · refine am_iconst (v := nI 1) rfl (by decide) ?_
      refine am_goto rfl ?_
      exact b109 true (by rw [decide_eq_true q1, decide_eq_true ((fI_0 hf).mp q2)]; rfl)
    refine am_iload_n rfl rfl ?_
    refine am_if_le rfl (fun q3 => ?_) (fun q3 => ?_)
    · exact absurd ((fI_0 hf).mpr (by have := (fI_le hf).mp q3; omega)) q2
    have q3 : ¬ f ≤ 1 := fun z => q3 ((fI_le hf).mpr z)
    refine am_aload_n rfl rfl ?_
    refine am_lload_n rfl rfl ?_
    refine am_aload_n rfl rfl ?_
    refine ho_getR rfl (by first | rfl | assumption) rfl (by first | assumption | exact hR _ _ _ rfl) ?_
    refine am_iload_n rfl rfl ?_
    refine ho_iaload rfl (by first | rfl | assumption) (by omega) ?_
    rw [e2 (by omega) (by omega)]
    refine ho_cv2 rfl (by first | rfl | assumption) rfl (Nat.le_of_ble_eq_true rfl) (Nat.le_of_ble_eq_true rfl) (c_m_inName hR hS hr inside (S.2.2.1 r) k2) ?_
    rintro v h' ⟨rfl, rfl⟩
    refine am_if_eq rfl (fun q4 => ?_) (fun q4 => ?_)
    · refine am_iconst (v := nI 0) rfl (by decide) ?_
      exact b109 false (by rw [(bI_eq _).mp q4, decide_eq_false (show ¬ f = 1 by omega), Bool.or_false, Bool.and_false])
    · refine am_iconst (v := nI 1) rfl (by decide) ?_
      refine am_goto rfl ?_
      exact b109 true (by rw [(bI_ne _).mp q4, decide_eq_true q1, Bool.or_true]; rfl)
  refine am_aload_n rfl rfl ?_
  refine ho_getR rfl (by first | rfl | assumption) rfl (by first | assumption | exact hR _ _ _ rfl) ?_
  refine am_iload_n rfl rfl ?_
  refine ho_iaload rfl (by first | rfl | assumption) (by omega) ?_
  rw [e3]
  refine am_if_le rfl (fun q1 => ?_) (fun q1 => ?_)
  · have : S.2.2.2.1 r ≤ 0 := (nI_leI (by omega) (by omega)).mp q1
    exact b70 (by rw [decide_eq_false (by omega)]; rfl)
  have hmk : 0 < S.2.2.2.1 r := by
    rcases Nat.eq_zero_or_pos (S.2.2.2.1 r) with z | z
    · exact absurd (by rw [z]; decide) q1
    · exact z
  refine am_lload rfl rfl ?_
  refine am_iload_n rfl rfl ?_
  refine am_iconst (v := nI 1) rfl (by decide) ?_
  first | refine ho_addn rfl ?_ | refine am_iadd rfl ?_
  refine am_lshr rfl rfl ?_
  refine am_lconst (v := 1) rfl (by decide) ?_
  refine am_land rfl ?_
  refine am_lconst (v := 1) rfl (by decide) ?_
  refine am_lcmp rfl ?_
  refine am_if_ne rfl (fun q2 => ?_) (fun q2 => ?_)
  · refine b70 ?_
    cases ht : tb mask (r + 1)
    · rw [Bool.and_false]
    · exact absurd ((tb_test (by omega)).mpr ht) q2
  · refine am_iconst (v := nI 1) rfl (by decide) ?_
    exact am_zreturn rfl rfl (Or.inr rfl) ⟨by rw [decide_eq_true hmk, (tb_test (by omega)).mp q2]; rfl, rfl⟩
end M3
