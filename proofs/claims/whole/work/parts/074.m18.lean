/-! the reference: a function's text: sign, behind, clauses, clause, result, choice -/
/-- the clause that a function chooses -/
def mtch (S : Rs) (p : Nat × Nat × Nat) (f : Nat) (i b : Nat → Bool) : Bool := decide (p.1 = f) && ((decide (f < 2) || inN S i p.2.1) && (decide (f = 0) || inN S b p.2.2))
def chsG (S : Rs) (f : Nat) (i b : Nat → Bool) : Nat → List Cl → Option Nat
  | _, [] => none
  | k, c :: C => if mtch S c.1 f i b then some k else chsG S f i b (k + 1) C
def chs (S : Rs) (C : List Cl) (f : Nat) (i b : Nat → Bool) : Option Nat := chsG S f i b 0 C
theorem chsG_lt {S : Rs} {f : Nat} {i b : Nat → Bool} : ∀ {k : Nat} {C : List Cl} {j : Nat}, chsG S f i b k C = some j → k ≤ j ∧ j < k + C.length
  | k, [], j, h => by cases h
  | k, c :: C, j, h => by
    unfold chsG at h
    split at h
    · cases h
      rw [List.length_cons]
      omega
    · have := chsG_lt h
      rw [List.length_cons]
      omega
theorem chs_lt {S : Rs} {f : Nat} {i b : Nat → Bool} {C : List Cl} {j : Nat} (h : chs S C f i b = some j) : j < C.length := by
  have := chsG_lt h
  omega
section M18
variable {l : Launch} {d : Nat} {mi : Nat → Nat → Int32} {ml : Nat → Nat → Int64} {mr : Nat → Nat → Option Nat} {S : Rs}
theorem sgn_lt {T : List Nat} (hT : okT T) (i : Nat) : sgn T i < 127 := by
  unfold sgn
  split
  · exact okT_at hT i
  · decide
theorem c_m_sign (hR : SR mr) (f : Nat) (hf : f < 3) (T : List Nat) (hE : EN mi (6 + f) T) (i : Nat) (hi : i < 1000) : am_T l d M_m_sign 0 [some (.ref 116), some (.int (nI f)), some (.int (nI i))] [] (hm mi ml mr) 0 0 (fun r h' => r = some (.int (nI (sgn T i))) ∧ h' = hm mi ml mr) := by
  have h80 := hE.2.1
  refine am_iload_n rfl rfl ?_
  refine am_aload_n rfl rfl ?_
  refine ho_getR rfl (by first | rfl | assumption) rfl (by first | assumption | exact hR _ _ _ rfl) ?_
  refine am_bipush (v := nI 6) rfl (by decide) ?_
  refine am_iload_n rfl rfl ?_
  first | refine ho_addn rfl ?_ | refine am_iadd rfl ?_
  refine ho_iaload rfl (by first | rfl | assumption) (by omega) ?_
  rw [hE.1]
  refine ho_icmp_ge rfl (by omega) (by omega) (fun z => ?_) (fun z => ?_)
  · refine am_bipush (v := nI 47) rfl (by decide) ?_
    exact am_creturn rfl rfl (by decide) ⟨by unfold sgn; rw [if_neg (by omega)], rfl⟩
  · refine am_aload_n rfl rfl ?_
    refine ho_getR rfl (by first | rfl | assumption) rfl (by first | assumption | exact hR _ _ _ rfl) ?_
    refine am_bipush (v := nI 80) rfl (by decide) ?_
    refine am_bipush (v := nI 6) rfl (by decide) ?_
    refine am_iload_n rfl rfl ?_
    first | refine ho_addn rfl ?_ | refine am_iadd rfl ?_
    first | refine ho_muln rfl ?_ | refine am_imul rfl ?_
    refine am_iload_n rfl rfl ?_
    first | refine ho_addn rfl ?_ | refine am_iadd rfl ?_
    refine ho_caload rfl rfl (by omega) ?_
    rw [hE.2.2.2 i (by omega)]
    refine am_goto rfl ?_
    have hc := okT_at hE.2.2.1 i
    have hch : vp_nar .char (nI (T.getD i 0)) = nI (T.getD i 0) := am_char_nar (nI_pos' (by omega)) (by have := nI_le (a := T.getD i 0) (b := 65535) (by omega) (by omega); exact this)
    refine am_creturn rfl rfl ?_ ⟨by unfold sgn; rw [if_pos (by omega)], rfl⟩
    show Value.int (vp_nar .char (nI (T.getD i 0))) = _
    rw [hch]
theorem c_m_behind (hR : SR mr) (f : Nat) (hf : f < 3) (T : List Nat) (hE : EN mi (6 + f) T) (i j : Nat) (hij : i < j) (hj : j < 500) (h47 : sgn T j = 47) (hno : ∀ x, i < x → x < j → sgn T x ≠ 47) : am_T l (d + 1) M_m_behind 0 [some (.ref 116), some (.int (nI f)), some (.int (nI i)), none] [] (hm mi ml mr) 0 0 (fun r h' => r = some (.int (nI j)) ∧ h' = hm mi ml mr) := by
  have loop : ∀ (n x : Nat), x + n = j → i < x → am_T l (d + 1) M_m_behind 4 [some (.ref 116), some (.int (nI f)), some (.int (nI i)), some (.int (nI x))] [] (hm mi ml mr) 0 0 (fun r h' => r = some (.int (nI j)) ∧ h' = hm mi ml mr) := by
    intro n
    induction n with
    | zero =>
      intro x hx hix
      have e : x = j := by omega
      subst e
      refine am_aload_n rfl rfl ?_
      refine am_iload_n rfl rfl ?_
      refine am_iload_n rfl rfl ?_
      refine ho_cv2 rfl (by first | rfl | assumption) rfl (Nat.le_of_ble_eq_true rfl) (Nat.le_of_ble_eq_true rfl) (c_m_sign hR f hf T hE x (by omega)) ?_
      rintro v h' ⟨rfl, rfl⟩
      rw [h47]
      refine am_bipush (v := nI 47) rfl (by decide) ?_
      refine ho_icmp_eq rfl (by omega) (by omega) (fun _ => ?_) (fun z => absurd rfl z)
      refine am_iload_n rfl rfl ?_
      exact am_ireturn rfl rfl ⟨rfl, rfl⟩
    | succ n ih =>
      intro x hx hix
      have hlt := sgn_lt hE.2.2.1 x
      refine am_aload_n rfl rfl ?_
      refine am_iload_n rfl rfl ?_
      refine am_iload_n rfl rfl ?_
      refine ho_cv2 rfl (by first | rfl | assumption) rfl (Nat.le_of_ble_eq_true rfl) (Nat.le_of_ble_eq_true rfl) (c_m_sign hR f hf T hE x (by omega)) ?_
      rintro v h' ⟨rfl, rfl⟩
      refine am_bipush (v := nI 47) rfl (by decide) ?_
      refine ho_icmp_eq rfl (by omega) (by omega) (fun z => absurd z (hno x hix (by omega))) (fun _ => ?_)
      refine am_iinc rfl rfl (nI_inc1 _) ?_
      show am_T _ _ _ _ [_, _, _, some _] _ _ _ _ _
      refine am_goto rfl ?_
      exact ih (x + 1) (by omega) (by omega)
  refine am_iload_n rfl rfl ?_
  refine am_iconst (v := nI 1) rfl (by decide) ?_
  first | refine ho_addn rfl ?_ | refine am_iadd rfl ?_
  refine am_istore_n rfl (Nat.le_of_ble_eq_true rfl) ?_
  show am_T _ _ _ _ [_, _, _, some _] _ _ _ _ _
  exact loop (j - (i + 1)) (i + 1) (by omega) (by omega)
theorem cpos_bound {f : Nat} {F : Fn} (hE : EN mi (6 + f) (ftx (102 + f) F)) {k : Nat} (h : k < F.2.2.length) : cpos F.2.2 (k + 1) ≤ 80 := Nat.le_trans (cpos_lt _ F h) hE.2.1
theorem c_m_behind_cl (hR : SR mr) (f : Nat) (hf : f < 3) (F : Fn) (hF : okF F) (hE : EN mi (6 + f) (ftx (102 + f) F)) (k i : Nat) (hk : k < F.2.2.length) (h1 : cpos F.2.2 k ≤ i) (h2 : i < cpos F.2.2 (k + 1)) : am_T l (d + 1) M_m_behind 0 [some (.ref 116), some (.int (nI f)), some (.int (nI i)), none] [] (hm mi ml mr) 0 0 (fun r h' => r = some (.int (nI (cpos F.2.2 (k + 1)))) ∧ h' = hm mi ml mr) := by
  have hb := cpos_bound hE hk
  refine c_m_behind hR f hf _ hE i _ h2 (by omega) (sgn_cpos _ F (by omega)) (fun x a b => ?_)
  obtain ⟨j, rfl⟩ : ∃ j, x = cpos F.2.2 k + j := ⟨x - cpos F.2.2 k, by omega⟩
  rw [cpos_s _ hk] at b
  rw [sgn_cl _ F hk (by omega)]
  exact cltx_in (clA_ok hF hk) (by omega) (by omega)
theorem cpos_mono (C : List Cl) {k : Nat} (h : k < C.length) : cpos C k < cpos C (k + 1) := by
  rw [cpos_s C h, cltx_len]
  omega
theorem c_m_clauses (hR : SR mr) (f : Nat) (hf : f < 3) (F : Fn) (hF : okF F) (hE : EN mi (6 + f) (ftx (102 + f) F)) : am_T l (d + 2) M_m_clauses 0 [some (.ref 116), some (.int (nI f)), none, none] [] (hm mi ml mr) 0 0 (fun r h' => r = some (.int (nI F.2.2.length)) ∧ h' = hm mi ml mr) := by
  have h6 := hF.2.2.2.2
  have h80 := hE.2.1
  have loop : ∀ (n k : Nat), k + n = F.2.2.length → am_T l (d + 2) M_m_clauses 4 [some (.ref 116), some (.int (nI f)), some (.int (nI k)), some (.int (nI (cpos F.2.2 k)))] [] (hm mi ml mr) 0 0 (fun r h' => r = some (.int (nI F.2.2.length)) ∧ h' = hm mi ml mr) := by
    intro n
    induction n with
    | zero =>
      intro k hk
      have e : k = F.2.2.length := by omega
      subst e
      have hl := ftx_len (102 + f) F
      refine am_iload_n rfl rfl ?_
      refine am_aload_n rfl rfl ?_
      refine ho_getR rfl (by first | rfl | assumption) rfl (by first | assumption | exact hR _ _ _ rfl) ?_
      refine am_bipush (v := nI 6) rfl (by decide) ?_
      refine am_iload_n rfl rfl ?_
      first | refine ho_addn rfl ?_ | refine am_iadd rfl ?_
      refine ho_iaload rfl (by first | rfl | assumption) (by omega) ?_
      rw [hE.1]
      refine ho_icmp_ge rfl (by omega) (by omega) (fun _ => ?_) (fun z => absurd (by omega) z)
      refine am_iload_n rfl rfl ?_
      exact am_ireturn rfl rfl ⟨rfl, rfl⟩
    | succ n ih =>
      intro k hk
      have hlt : k < F.2.2.length := by omega
      have hb := cpos_lt (102 + f) F hlt
      have hm := cpos_mono F.2.2 hlt
      refine am_iload_n rfl rfl ?_
      refine am_aload_n rfl rfl ?_
      refine ho_getR rfl (by first | rfl | assumption) rfl (by first | assumption | exact hR _ _ _ rfl) ?_
      refine am_bipush (v := nI 6) rfl (by decide) ?_
      refine am_iload_n rfl rfl ?_
      first | refine ho_addn rfl ?_ | refine am_iadd rfl ?_
      refine ho_iaload rfl (by first | rfl | assumption) (by omega) ?_
      rw [hE.1]
      refine ho_icmp_ge rfl (by omega) (by omega) (fun z => absurd z (by omega)) (fun _ => ?_)
      refine am_iinc rfl rfl (nI_inc1 _) ?_
      show am_T _ _ _ _ [_, _, some _, _] _ _ _ _ _
      refine am_aload_n rfl rfl ?_
      refine am_iload_n rfl rfl ?_
      refine am_iload_n rfl rfl ?_
      refine ho_cv2 rfl (by first | rfl | assumption) rfl (Nat.le_of_ble_eq_true rfl) (Nat.le_of_ble_eq_true rfl) (c_m_behind_cl hR f hf F hF hE k (cpos F.2.2 k) hlt (Nat.le_refl _) hm) ?_
      rintro v h' ⟨rfl, rfl⟩
      refine am_istore_n rfl (Nat.le_of_ble_eq_true rfl) ?_
      show am_T _ _ _ _ [_, _, _, some _] _ _ _ _ _
      refine am_goto rfl ?_
      exact ih (k + 1) (by omega)
  refine am_iconst (v := nI 0) rfl (by decide) ?_
  refine am_istore_n rfl (Nat.le_of_ble_eq_true rfl) ?_
  show am_T _ _ _ _ [_, _, some _, _] _ _ _ _ _
  refine am_iconst (v := nI 5) rfl (by decide) ?_
  refine am_istore_n rfl (Nat.le_of_ble_eq_true rfl) ?_
  show am_T _ _ _ _ [_, _, _, some _] _ _ _ _ _
  exact loop F.2.2.length 0 (by omega)
theorem c_m_clause (hR : SR mr) (f : Nat) (hf : f < 3) (F : Fn) (hF : okF F) (hE : EN mi (6 + f) (ftx (102 + f) F)) (k : Nat) (hk : k < F.2.2.length) : am_T l (d + 2) M_m_clause 0 [some (.ref 116), some (.int (nI f)), some (.int (nI (k + 1))), none, none] [] (hm mi ml mr) 0 0 (fun r h' => r = some (.int (nI (cpos F.2.2 k))) ∧ h' = hm mi ml mr) := by
  have h6 := hF.2.2.2.2
  have loop : ∀ (n j : Nat), j + n = k → am_T l (d + 2) M_m_clause 5 [some (.ref 116), some (.int (nI f)), some (.int (nI (k + 1))), some (.int (nI (cpos F.2.2 j))), some (.int (nI (j + 1)))] [] (hm mi ml mr) 0 0 (fun r h' => r = some (.int (nI (cpos F.2.2 k))) ∧ h' = hm mi ml mr) := by
    intro n
    induction n with
    | zero =>
      intro j hj
      have e : j = k := by omega
      subst e
      refine am_iload rfl rfl ?_
      refine am_iload_n rfl rfl ?_
      refine ho_icmp_ge rfl (by omega) (by omega) (fun _ => ?_) (fun z => absurd (by omega) z)
      refine am_iload_n rfl rfl ?_
      exact am_ireturn rfl rfl ⟨rfl, rfl⟩
    | succ n ih =>
      intro j hj
      have hlt : j < F.2.2.length := by omega
      refine am_iload rfl rfl ?_
      refine am_iload_n rfl rfl ?_
      refine ho_icmp_ge rfl (by omega) (by omega) (fun z => absurd z (by omega)) (fun _ => ?_)
      refine am_aload_n rfl rfl ?_
      refine am_iload_n rfl rfl ?_
      refine am_iload_n rfl rfl ?_
      refine ho_cv2 rfl (by first | rfl | assumption) rfl (Nat.le_of_ble_eq_true rfl) (Nat.le_of_ble_eq_true rfl) (c_m_behind_cl hR f hf F hF hE j (cpos F.2.2 j) hlt (Nat.le_refl _) (cpos_mono F.2.2 hlt)) ?_
      rintro v h' ⟨rfl, rfl⟩
      refine am_istore_n rfl (Nat.le_of_ble_eq_true rfl) ?_
      show am_T _ _ _ _ [_, _, _, some _, _] _ _ _ _ _
      refine am_iinc rfl rfl (nI_inc1 _) ?_
      show am_T _ _ _ _ [_, _, _, _, some _] _ _ _ _ _
      refine am_goto rfl ?_
      exact ih (j + 1) (by omega)
  refine am_iconst (v := nI 5) rfl (by decide) ?_
  refine am_istore_n rfl (Nat.le_of_ble_eq_true rfl) ?_
  show am_T _ _ _ _ [_, _, _, some _, _] _ _ _ _ _
  refine am_iconst (v := nI 1) rfl (by decide) ?_
  refine am_istore rfl (Nat.le_of_ble_eq_true rfl) ?_
  show am_T _ _ _ _ [_, _, _, _, some _] _ _ _ _ _
  exact loop k 0 (by omega)
theorem c_m_result (hR : SR mr) (f : Nat) (hf : f < 3) (F : Fn) (hF : okF F) (hE : EN mi (6 + f) (ftx (102 + f) F)) (k : Nat) (hk : k < F.2.2.length) : am_T l (d + 3) M_m_result 0 [some (.ref 116), some (.int (nI f)), some (.int (nI (k + 1))), none] [] (hm mi ml mr) 0 0 (fun r h' => r = some (.int (nI (rpos F.2.2 k))) ∧ h' = hm mi ml mr) := by
  have hb := cpos_bound hE hk
  have hok := clA_ok hF hk
  have hre := rpos_end F.2.2 hk
  have hlen : (cltx (clA F.2.2 k)).length = 1 + ((patx (clA F.2.2 k).1).length + (1 + (ktx (clA F.2.2 k).2).length)) := cltx_len _
  have loop : ∀ (n j : Nat), j + n = 1 + (patx (clA F.2.2 k).1).length → am_T l (d + 3) M_m_result 7 [some (.ref 116), some (.int (nI f)), some (.int (nI (k + 1))), some (.int (nI (cpos F.2.2 k + j)))] [] (hm mi ml mr) 0 0 (fun r h' => r = some (.int (nI (rpos F.2.2 k))) ∧ h' = hm mi ml mr) := by
    have hrp : rpos F.2.2 k = cpos F.2.2 k + 1 + (patx (clA F.2.2 k).1).length + 1 := rfl
    intro n
    induction n with
    | zero =>
      intro j hj
      have e : j = 1 + (patx (clA F.2.2 k).1).length := by omega
      subst e
      refine am_aload_n rfl rfl ?_
      refine am_iload_n rfl rfl ?_
      refine am_iload_n rfl rfl ?_
      refine ho_cv2 rfl (by first | rfl | assumption) rfl (Nat.le_of_ble_eq_true rfl) (Nat.le_of_ble_eq_true rfl) (c_m_sign hR f hf _ hE (cpos F.2.2 k + (1 + (patx (clA F.2.2 k).1).length)) (by omega)) ?_
      rintro v h' ⟨rfl, rfl⟩
      rw [sgn_cl _ F hk (by omega), cltx_min]
      refine am_bipush (v := nI 45) rfl (by decide) ?_
      refine ho_icmp_eq rfl (by omega) (by omega) (fun _ => ?_) (fun z => absurd rfl z)
      refine am_iload_n rfl rfl ?_
      refine am_iconst (v := nI 1) rfl (by decide) ?_
      first | refine ho_addn rfl ?_ | refine am_iadd rfl ?_
      exact am_ireturn rfl rfl ⟨by rw [hrp]; congr 3; omega, rfl⟩
    | succ n ih =>
      intro j hj
      have hlt := sgn_lt hE.2.2.1 (cpos F.2.2 k + j)
      refine am_aload_n rfl rfl ?_
      refine am_iload_n rfl rfl ?_
      refine am_iload_n rfl rfl ?_
      refine ho_cv2 rfl (by first | rfl | assumption) rfl (Nat.le_of_ble_eq_true rfl) (Nat.le_of_ble_eq_true rfl) (c_m_sign hR f hf _ hE (cpos F.2.2 k + j) (by omega)) ?_
      rintro v h' ⟨rfl, rfl⟩
      refine am_bipush (v := nI 45) rfl (by decide) ?_
      refine ho_icmp_eq rfl (by omega) (by omega) (fun z => ?_) (fun _ => ?_)
      · exfalso
        rw [sgn_cl _ F hk (by omega)] at z
        cases j with
        | zero => exact absurd z (by show ¬ (47 : Nat) = 45; decide)
        | succ j =>
          rw [show j + 1 = 1 + j by omega, cltx_pat (by omega)] at z
          exact (patx_no ⟨hok.1, hok.2.1, hok.2.2.1⟩ _ (mem_getD (show j < (patx (clA F.2.2 k).1).length by omega))).2 z
      · refine am_iinc rfl rfl (nI_inc1 _) ?_
        show am_T _ _ _ _ [_, _, _, some _] _ _ _ _ _
        refine am_goto rfl ?_
        exact ih (j + 1) (by omega)
  refine am_aload_n rfl rfl ?_
  refine am_iload_n rfl rfl ?_
  refine am_iload_n rfl rfl ?_
  refine ho_cv2 rfl (by first | rfl | assumption) rfl (Nat.le_of_ble_eq_true rfl) (Nat.le_of_ble_eq_true rfl) (c_m_clause hR f hf F hF hE k hk) ?_
  rintro v h' ⟨rfl, rfl⟩
  refine am_istore_n rfl (Nat.le_of_ble_eq_true rfl) ?_
  show am_T _ _ _ _ [_, _, _, some _] _ _ _ _ _
  exact loop (1 + (patx (clA F.2.2 k).1).length) 0 (by omega)
def chI2 (o : Option Nat) : Nat := match o with
  | none => 0
  | some k => k + 1
theorem drop_cl (C : List Cl) {k : Nat} (h : k < C.length) : C.drop k = clA C k :: C.drop (k + 1) := drop_sC C h
theorem c_m_choice (hR : SR mr) (hS : okS S) (hr : repS S mi) (f : Nat) (hf : f < 3) (F : Fn) (hF : okF F) (hE : EN mi (6 + f) (ftx (102 + f) F)) (q : Nat) (hq : q ≤ 5) (i b : Int64) : am_T l (d + 3) M_m_choice 0 [some (.ref 116), some (.int (nI f)), some (.int (fI q)), some (.long i), none, some (.long b), none, none, none, none, none, none] [] (hm mi ml mr) 0 0 (fun r h' => r = some (.int (nI (chI2 (chs S F.2.2 q (tb i) (tb b))))) ∧ h' = hm mi ml mr) := by
  have h6 := hF.2.2.2.2
  have loop : ∀ (n k : Nat), k + n = F.2.2.length → am_T l (d + 3) M_m_choice 10 [some (.ref 116), some (.int (nI f)), some (.int (fI q)), some (.long i), none, some (.long b), none, some (.int (nI F.2.2.length)), some (.int (nI (k + 1))), none, none, none] [] (hm mi ml mr) 0 0 (fun r h' => r = some (.int (nI (chI2 (chsG S q (tb i) (tb b) k (F.2.2.drop k))))) ∧ h' = hm mi ml mr) := by
    intro n
    induction n with
    | zero =>
      intro k hk
      refine am_iload rfl rfl ?_
      refine am_iload rfl rfl ?_
      refine ho_icmp_gt rfl (by omega) (by omega) (fun _ => ?_) (fun z => absurd (by omega) z)
      refine am_iconst (v := nI 0) rfl (by decide) ?_
      exact am_ireturn rfl rfl ⟨by rw [List.drop_eq_nil_of_le (by omega)]; rfl, rfl⟩
    | succ n ih =>
      intro k hk
      have hlt : k < F.2.2.length := by omega
      have hok := clA_ok hF hlt
      have hb := cpos_bound hE hlt
      have hcs := cpos_s F.2.2 hlt
      have hlen := cltx_len (clA F.2.2 k)
      rw [drop_cl _ hlt]
      unfold chsG
      have hsg : ∀ j, j < (patx (clA F.2.2 k).1).length → sgn (ftx (102 + f) F) (cpos F.2.2 k + 1 + j) = (patx (clA F.2.2 k).1).getD j 0 := by
        intro j hj
        rw [show cpos F.2.2 k + 1 + j = cpos F.2.2 k + (1 + j) by omega, sgn_cl _ F hlt (by omega), cltx_pat hj]
      -- the answer of this clause
      have s175 : ∀ (m : Bool) (x9 x10 : Option Value), m = mtch S (clA F.2.2 k).1 q (tb i) (tb b) → am_T l (d + 3) M_m_choice 175 [some (.ref 116), some (.int (nI f)), some (.int (fI q)), some (.long i), none, some (.long b), none, some (.int (nI F.2.2.length)), some (.int (nI (k + 1))), x9, x10, some (.int (bI m))] [] (hm mi ml mr) 0 0 (fun r h' => r = some (.int (nI (chI2 (if mtch S (clA F.2.2 k).1 q (tb i) (tb b) = true then some k else chsG S q (tb i) (tb b) (k + 1) (F.2.2.drop (k + 1)))))) ∧ h' = hm mi ml mr) := by
        intro m x9 x10 hm'
        refine am_iload rfl rfl ?_
        refine am_if_eq rfl (fun z => ?_) (fun z => ?_)
        · rw [← hm', (bI_eq _).mp z, if_neg (by decide)]
          refine am_iinc rfl rfl (nI_inc1 _) ?_
          show am_T _ _ _ _ [_, _, _, _, _, _, _, _, some _, _, _, _] _ _ _ _ _
          refine am_goto rfl ?_
          refine am_drops [9, 10, 11] ?_
          exact ih (k + 1) (by omega)
        · rw [← hm', (bI_ne _).mp z, if_pos rfl]
          refine am_iload rfl rfl ?_
          exact am_ireturn rfl rfl ⟨rfl, rfl⟩
      rcases hcl : clA F.2.2 k with ⟨p, K⟩
      rw [hcl] at hok hlen hsg s175
      obtain ⟨p1, X, Y⟩ := p
      obtain ⟨o1, o2, o3, -⟩ := hok
      rw [hcl] at hcs
      have hlen : (cltx ((p1, X, Y), K)).length = 1 + ((patx (p1, X, Y)).length + (1 + (ktx K).length)) := hlen
      have o1 : p1 ≤ 5 := o1
      have o2 : X < 6 := o2
      have o3 : Y < 6 := o3
      refine am_iload rfl rfl ?_
      refine am_iload rfl rfl ?_
      refine ho_icmp_gt rfl (by omega) (by omega) (fun z => absurd z (by omega)) (fun _ => ?_)
      refine am_aload_n rfl rfl ?_
      refine am_iload_n rfl rfl ?_
      refine am_iload rfl rfl ?_
      refine ho_cv2 rfl (by first | rfl | assumption) rfl (Nat.le_of_ble_eq_true rfl) (Nat.le_of_ble_eq_true rfl) (c_m_clause hR f hf F hF hE k hlt) ?_
      rintro v h' ⟨rfl, rfl⟩
      refine am_iconst (v := nI 1) rfl (by decide) ?_
      first | refine ho_addn rfl ?_ | refine am_iadd rfl ?_
      refine am_istore rfl (Nat.le_of_ble_eq_true rfl) ?_
      show am_T _ _ _ _ [_, _, _, _, _, _, _, _, _, some _, _, _] _ _ _ _ _
      refine am_aload_n rfl rfl ?_
      refine am_iload_n rfl rfl ?_
      refine am_iload rfl rfl ?_
      refine ho_cv2 rfl (by first | rfl | assumption) rfl (Nat.le_of_ble_eq_true rfl) (Nat.le_of_ble_eq_true rfl) (c_m_sign hR f hf _ hE (cpos F.2.2 k + 1) (by omega)) ?_
      rintro v h' ⟨rfl, rfl⟩
      have hpl : 1 ≤ (patx (p1, X, Y)).length := by
        unfold patx
        split
        · decide
        · split
          · simp
          · simp
      have hs0 := hsg 0 (by show 0 < (patx (p1, X, Y)).length; omega)
      rw [Nat.add_zero] at hs0
      rw [hs0]
      have hp0 : (patx (p1, X, Y)).getD 0 0 = pch p1 := by
        unfold patx pch
        show (if p1 = 0 then [46] else if p1 = 1 then [35, Y + 65] else [p1 + 95, 91, X + 65, 93, Y + 65]).getD 0 0 = _
        split
        · rfl
        · split <;> rfl
      rw [hp0]
      obtain ⟨c1, c2, c3, c4⟩ := pch_r o1
      have s119 : ∀ m : Bool, (2 ≤ p1 → m = decide (p1 = q)) → (p1 < 2 → m = mtch S (p1, X, Y) q (tb i) (tb b)) → am_T l (d + 3) M_m_choice 112 [some (.ref 116), some (.int (nI f)), some (.int (fI q)), some (.long i), none, some (.long b), none, some (.int (nI F.2.2.length)), some (.int (nI (k + 1))), some (.int (nI (cpos F.2.2 k + 1))), some (.int (nI (pch p1))), none] [.int (bI m)] (hm mi ml mr) 0 0 (fun r h' => r = some (.int (nI (chI2 (if mtch S (p1, X, Y) q (tb i) (tb b) = true then some k else chsG S q (tb i) (tb b) (k + 1) (F.2.2.drop (k + 1)))))) ∧ h' = hm mi ml mr) := by
        intro m hm1 hm2
        refine am_istore rfl (Nat.le_of_ble_eq_true rfl) ?_
        show am_T _ _ _ _ [_, _, _, _, _, _, _, _, _, _, _, some _] _ _ _ _ _
        refine am_iload rfl rfl ?_
        refine am_if_eq rfl (fun z => ?_) (fun z => ?_)
        · have z := (bI_eq _).mp z
          subst z
          refine s175 false _ _ ?_
          rcases Nat.lt_or_ge p1 2 with w | w
          · exact hm2 w
          · have := hm1 w
            unfold mtch
            rw [← this]
            rfl
        have z := (bI_ne _).mp z
        subst z
        refine am_iload rfl rfl ?_
        refine ho_cs1 rfl rfl (Nat.le_of_ble_eq_true rfl) (Nat.le_of_ble_eq_true rfl) (c_m_label _ (by omega)) ?_
        rintro v h' ⟨rfl, rfl⟩
        refine am_if_eq rfl (fun y => ?_) (fun y => ?_)
        · have y := (bI_eq _).mp y
          have hlt2 : p1 < 2 := by
            rcases Nat.lt_or_ge p1 2 with w | w
            · exact w
            · rw [c2.mpr w] at y
              cases y
          exact s175 true _ _ (hm2 hlt2)
        have y := c2.mp ((bI_ne _).mp y)
        have hpq : p1 = q := of_decide_eq_true (hm1 y).symm
        have hpt : patx (p1, X, Y) = [p1 + 95, 91, X + 65, 93, Y + 65] := by
          unfold patx
          rw [if_neg (by show ¬ p1 = 0; omega), if_neg (by show ¬ p1 = 1; omega)]
        have hm3 : mtch S (p1, X, Y) q (tb i) (tb b) = (inN S (tb i) X && inN S (tb b) Y) := by
          unfold mtch
          rw [decide_eq_true (show (p1, X, Y).1 = q from hpq), decide_eq_false (show ¬ q < 2 by omega), decide_eq_false (show ¬ q = 0 by omega)]
          rfl
        have hsx := hsg 2 (by show 2 < (patx (p1, X, Y)).length; rw [hpt]; simp)
        have hsy := hsg 4 (by show 4 < (patx (p1, X, Y)).length; rw [hpt]; simp)
        rw [hpt] at hsx hsy
        have hsx : sgn (ftx (102 + f) F) (cpos F.2.2 k + 1 + 2) = X + 65 := hsx
        have hsy : sgn (ftx (102 + f) F) (cpos F.2.2 k + 1 + 4) = Y + 65 := hsy
        have hpl5 : (patx (p1, X, Y)).length = 5 := by rw [hpt]; rfl
        have s173 : ∀ m : Bool, m = (inN S (tb i) X && inN S (tb b) Y) → am_T l (d + 3) M_m_choice 173 [some (.ref 116), some (.int (nI f)), some (.int (fI q)), some (.long i), none, some (.long b), none, some (.int (nI F.2.2.length)), some (.int (nI (k + 1))), some (.int (nI (cpos F.2.2 k + 1))), some (.int (nI (pch p1))), some (.int (bI true))] [.int (bI m)] (hm mi ml mr) 0 0 (fun r h' => r = some (.int (nI (chI2 (if mtch S (p1, X, Y) q (tb i) (tb b) = true then some k else chsG S q (tb i) (tb b) (k + 1) (F.2.2.drop (k + 1)))))) ∧ h' = hm mi ml mr) := by
          intro m hm4
          refine am_istore rfl (Nat.le_of_ble_eq_true rfl) ?_
          show am_T _ _ _ _ [_, _, _, _, _, _, _, _, _, _, _, some _] _ _ _ _ _
          exact s175 m _ _ (by rw [hm3]; exact hm4)
        refine am_aload_n rfl rfl ?_
        refine am_lload_n rfl rfl ?_
        refine am_aload_n rfl rfl ?_
        refine am_iload_n rfl rfl ?_
        refine am_iload rfl rfl ?_
        refine am_iconst (v := nI 2) rfl (by decide) ?_
        first | refine ho_addn rfl ?_ | refine am_iadd rfl ?_
        refine ho_cv2 rfl (by first | rfl | assumption) rfl (Nat.le_of_ble_eq_true rfl) (Nat.le_of_ble_eq_true rfl) (c_m_sign hR f hf _ hE (cpos F.2.2 k + 1 + 2) (by omega)) ?_
        rintro v h' ⟨rfl, rfl⟩
        rw [hsx]
        refine am_bipush (v := nI 65) rfl (by decide) ?_
        first | refine ho_subn rfl (by omega) ?_ | refine am_isub rfl ?_
        rw [Nat.add_sub_cancel]
        refine ho_cv2 rfl (by first | rfl | assumption) rfl (Nat.le_of_ble_eq_true rfl) (Nat.le_of_ble_eq_true rfl) (c_m_inName hR hS hr i X o2) ?_
        rintro v h' ⟨rfl, rfl⟩
        refine am_if_eq rfl (fun w => ?_) (fun w => ?_)
        · refine am_iconst (v := nI 0) rfl (by decide) ?_
          exact s173 false (by rw [(bI_eq _).mp w]; rfl)
        refine am_aload_n rfl rfl ?_
        refine am_lload rfl rfl ?_
        refine am_aload_n rfl rfl ?_
        refine am_iload_n rfl rfl ?_
        refine am_iload rfl rfl ?_
        refine am_iconst (v := nI 4) rfl (by decide) ?_
        first | refine ho_addn rfl ?_ | refine am_iadd rfl ?_
        refine ho_cv2 rfl (by first | rfl | assumption) rfl (Nat.le_of_ble_eq_true rfl) (Nat.le_of_ble_eq_true rfl) (c_m_sign hR f hf _ hE (cpos F.2.2 k + 1 + 4) (by omega)) ?_
        rintro v h' ⟨rfl, rfl⟩
        rw [hsy]
        refine am_bipush (v := nI 65) rfl (by decide) ?_
        first | refine ho_subn rfl (by omega) ?_ | refine am_isub rfl ?_
        rw [Nat.add_sub_cancel]
        refine ho_cv2 rfl (by first | rfl | assumption) rfl (Nat.le_of_ble_eq_true rfl) (Nat.le_of_ble_eq_true rfl) (c_m_inName hR hS hr b Y o3) ?_
        rintro v h' ⟨rfl, rfl⟩
        refine am_if_eq rfl (fun u => ?_) (fun u => ?_)
        · refine am_iconst (v := nI 0) rfl (by decide) ?_
          exact s173 false (by rw [(bI_eq _).mp u, Bool.and_false])
        · refine am_iconst (v := nI 1) rfl (by decide) ?_
          refine am_goto rfl ?_
          exact s173 true (by rw [(bI_ne _).mp w, (bI_ne _).mp u]; rfl)
      refine am_istore rfl (Nat.le_of_ble_eq_true rfl) ?_
      show am_T _ _ _ _ [_, _, _, _, _, _, _, _, _, _, some _, _] _ _ _ _ _
      refine am_iload rfl rfl ?_
      refine am_bipush (v := nI 46) rfl (by decide) ?_
      refine ho_icmp_ne rfl (by omega) (by omega) (fun z => ?_) (fun z => ?_)
      case refine_2 =>
        have hp : p1 = 0 := c3.mp z
        have hm5 : mtch S (p1, X, Y) q (tb i) (tb b) = decide (q = 0) := by
          unfold mtch
          by_cases e : q = 0
          · rw [decide_eq_true (show (p1, X, Y).1 = q by show p1 = q; omega), decide_eq_true (show q < 2 by omega), decide_eq_true e]
            rfl
          · rw [decide_eq_false (show ¬ (p1, X, Y).1 = q by show ¬ p1 = q; omega), decide_eq_false e]
            rfl
        refine am_iload_n rfl rfl ?_
        refine am_if_ge rfl (fun y => ?_) (fun y => ?_)
        · have y := (fI_neg hq).mp y
          refine am_iconst (v := nI 0) rfl (by decide) ?_
          refine am_goto rfl ?_
          exact s119 false (fun w => by omega) (fun _ => by rw [hm5, decide_eq_false y])
        · have y : q = 0 := Classical.not_not.mp (fun e => y ((fI_neg hq).mpr e))
          refine am_iconst (v := nI 1) rfl (by decide) ?_
          refine am_goto rfl ?_
          exact s119 true (fun w => by omega) (fun _ => by rw [hm5, decide_eq_true y])
      refine am_iload rfl rfl ?_
      refine am_bipush (v := nI 35) rfl (by decide) ?_
      refine ho_icmp_ne rfl (by omega) (by omega) (fun y => ?_) (fun y => ?_)
      case refine_2 =>
        have hp : p1 = 1 := c4.mp y
        have hpt : patx (p1, X, Y) = [35, Y + 65] := by
          unfold patx
          rw [if_neg (by show ¬ p1 = 0; omega), if_pos hp]
        have hsy := hsg 1 (by show 1 < (patx (p1, X, Y)).length; rw [hpt]; simp)
        rw [hpt] at hsy
        have hsy : sgn (ftx (102 + f) F) (cpos F.2.2 k + 1 + 1) = Y + 65 := hsy
        have hm5 : mtch S (p1, X, Y) q (tb i) (tb b) = (decide (q = 1) && inN S (tb b) Y) := by
          unfold mtch
          by_cases e : q = 1
          · rw [decide_eq_true (show (p1, X, Y).1 = q by show p1 = q; omega), decide_eq_true (show q < 2 by omega), decide_eq_true e, decide_eq_false (show ¬ q = 0 by omega)]
            rfl
          · rw [decide_eq_false (show ¬ (p1, X, Y).1 = q by show ¬ p1 = q; omega), decide_eq_false e]
            rfl
        refine am_iload_n rfl rfl ?_
        refine am_if_ne rfl (fun x => ?_) (fun x => ?_)
        · have x : ¬ q = 1 := fun e => x ((fI_0 hq).mpr e)
          refine am_iconst (v := nI 0) rfl (by decide) ?_
          refine am_goto rfl ?_
          exact s119 false (fun w => by omega) (fun _ => by rw [hm5, decide_eq_false x]; rfl)
        have x := (fI_0 hq).mp x
        refine am_aload_n rfl rfl ?_
        refine am_lload rfl rfl ?_
        refine am_aload_n rfl rfl ?_
        refine am_iload_n rfl rfl ?_
        refine am_iload rfl rfl ?_
        refine am_iconst (v := nI 1) rfl (by decide) ?_
        first | refine ho_addn rfl ?_ | refine am_iadd rfl ?_
        refine ho_cv2 rfl (by first | rfl | assumption) rfl (Nat.le_of_ble_eq_true rfl) (Nat.le_of_ble_eq_true rfl) (c_m_sign hR f hf _ hE (cpos F.2.2 k + 1 + 1) (by omega)) ?_
        rintro v h' ⟨rfl, rfl⟩
        rw [hsy]
        refine am_bipush (v := nI 65) rfl (by decide) ?_
        first | refine ho_subn rfl (by omega) ?_ | refine am_isub rfl ?_
        rw [Nat.add_sub_cancel]
        refine ho_cv2 rfl (by first | rfl | assumption) rfl (Nat.le_of_ble_eq_true rfl) (Nat.le_of_ble_eq_true rfl) (c_m_inName hR hS hr b Y o3) ?_
        rintro v h' ⟨rfl, rfl⟩
        refine am_if_eq rfl (fun w => ?_) (fun w => ?_)
        · refine am_iconst (v := nI 0) rfl (by decide) ?_
          refine am_goto rfl ?_
          exact s119 false (fun w => by omega) (fun _ => by rw [hm5, (bI_eq _).mp w, Bool.and_false])
        · refine am_iconst (v := nI 1) rfl (by decide) ?_
          refine am_goto rfl ?_
          exact s119 true (fun w => by omega) (fun _ => by rw [hm5, (bI_ne _).mp w, decide_eq_true x]; rfl)
      have hp2 : 2 ≤ p1 := by
        have h0 : ¬ p1 = 0 := fun e => z (c3.mpr e)
        have h1 : ¬ p1 = 1 := fun e => y (c4.mpr e)
        omega
      have hpc : pch p1 = p1 + 95 := by
        unfold pch
        rw [if_neg (by omega), if_neg (by omega)]
      have hcmp : fI q = nI (pch p1 - 97 + 1) ↔ p1 = q := by
        rw [hpc, show p1 + 95 - 97 + 1 = p1 - 1 by omega]
        unfold fI
        by_cases e : q = 0
        · rw [if_pos e]
          have : ∀ k, k < 10 → ¬ (-1 : Int32) = nI k := by decide
          constructor
          · intro w
            exact absurd w (this _ (by omega))
          · omega
        · rw [if_neg e, nI_eq (by omega) (by omega)]
          omega
      refine am_iload_n rfl rfl ?_
      refine am_iload rfl rfl ?_
      refine am_bipush (v := nI 97) rfl (by decide) ?_
      refine ho_subn rfl (by omega) ?_
      refine am_iconst (v := nI 1) rfl (by decide) ?_
      refine ho_addn rfl ?_
      refine am_icmp_ne rfl (fun x => ?_) (fun x => ?_)
      · refine am_iconst (v := nI 0) rfl (by decide) ?_
        exact s119 false (fun _ => by rw [decide_eq_false (fun e => x (hcmp.mpr e))]) (fun w => by omega)
      · refine am_iconst (v := nI 1) rfl (by decide) ?_
        refine am_goto rfl ?_
        exact s119 true (fun _ => by rw [decide_eq_true (hcmp.mp x)]) (fun w => by omega)
  refine am_aload_n rfl rfl ?_
  refine am_iload_n rfl rfl ?_
  refine ho_cv1 rfl (by first | rfl | assumption) rfl (Nat.le_of_ble_eq_true rfl) (Nat.le_of_ble_eq_true rfl) (c_m_clauses hR f hf F hF hE) ?_
  rintro v h' ⟨rfl, rfl⟩
  refine am_istore rfl (Nat.le_of_ble_eq_true rfl) ?_
  show am_T _ _ _ _ [_, _, _, _, _, _, _, some _, _, _, _, _] _ _ _ _ _
  refine am_iconst (v := nI 1) rfl (by decide) ?_
  refine am_istore rfl (Nat.le_of_ble_eq_true rfl) ?_
  show am_T _ _ _ _ [_, _, _, _, _, _, _, _, some _, _, _, _] _ _ _ _ _
  exact loop F.2.2.length 0 (by omega)
end M18
