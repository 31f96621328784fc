/-! the reference: called -/
def chb (T : List Nat) (m : Nat) : Nat := T.foldl (fun m ch => if 102 ≤ ch ∧ ch ≤ 104 then m ||| 2 ^ (ch - 102) else m) m
theorem chb_app (A B : List Nat) (m : Nat) : chb (A ++ B) m = chb B (chb A m) := List.foldl_append
theorem chb_no {T : List Nat} (h : ∀ c ∈ T, ¬ (102 ≤ c ∧ c ≤ 104)) (m : Nat) : chb T m = m := by
  induction T with
  | nil => rfl
  | cons c T ih =>
    show chb T (if 102 ≤ c ∧ c ≤ 104 then _ else m) = m
    rw [if_neg (h c List.mem_cons_self)]
    exact ih (fun x hx => h x (List.mem_cons_of_mem _ hx))
theorem chb_tok {p k : Nat} (hk : okTk p k) (m : Nat) : chb (ttx k) m = if 256 ≤ k then m ||| 2 ^ ((k - 256) / 2) else m := by
  have hk262 := ti_sm hk
  by_cases h256 : 256 ≤ k
  · rw [if_pos h256, show ttx k = [102 + (k - 256) / 2] ++ [40, 120 + k % 2, 41] by unfold ttx; rw [if_pos h256]; rfl, chb_app, chb_no (T := [40, 120 + k % 2, 41]) (fun c hc => by
      simp only [List.mem_cons, List.not_mem_nil, or_false] at hc
      omega)]
    show (if 102 ≤ 102 + (k - 256) / 2 ∧ 102 + (k - 256) / 2 ≤ 104 then m ||| 2 ^ (102 + (k - 256) / 2 - 102) else m) = _
    rw [if_pos (by omega), show 102 + (k - 256) / 2 - 102 = (k - 256) / 2 by omega]
  · rw [if_neg h256]
    refine chb_no (fun c hc => ?_) m
    have hsm : ¬ (102 ≤ k ∧ k ≤ 104) := by
      rcases hk with q | q | q | q | q | q | q
      · have := isDig_r q
        omega
      · omega
      · have := isLab_r q
        omega
      all_goals omega
    unfold ttx at hc
    rw [if_neg h256] at hc
    split at hc
    · simp only [List.mem_cons, List.not_mem_nil, or_false] at hc
      rcases hc with rfl | rfl <;> omega
    · simp only [List.mem_cons, List.not_mem_nil, or_false] at hc
      rw [hc]
      exact hsm
theorem chb_ktx {p : Nat} : ∀ {K : List Nat}, (∀ k ∈ K, okTk p k) → ∀ m, chb (ktx K) m = cbs K m
  | [], _, _ => rfl
  | k :: K, h, m => by
    rw [show k :: K = [k] ++ K from rfl, ktx_app, ktx_one, chb_app, chb_tok (h k List.mem_cons_self), chb_ktx (fun x hx => h x (List.mem_cons_of_mem _ hx))]
    rfl
theorem chb_cl {c : Cl} (h : okCl c) (m : Nat) : chb (cltx c) m = cbs c.2 m := by
  have h1 := h.1
  have h2 := h.2.1
  have h3 := h.2.2.1
  rw [show cltx c = ([47] ++ patx c.1 ++ [45]) ++ ktx c.2 by simp [cltx], chb_app, chb_no (T := [47] ++ patx c.1 ++ [45]) (fun x hx => ?_), chb_ktx h.2.2.2.1]
  simp only [List.mem_append, List.mem_cons, List.not_mem_nil, or_false] at hx
  rcases hx with (rfl | hx) | rfl
  · omega
  · unfold patx at hx
    split at hx
    · simp only [List.mem_cons, List.not_mem_nil, or_false] at hx
      omega
    · split at hx
      · simp only [List.mem_cons, List.not_mem_nil, or_false] at hx
        omega
      · simp only [List.mem_cons, List.not_mem_nil, or_false] at hx
        omega
  · omega
theorem chb_ctx : ∀ {C : List Cl}, (∀ c ∈ C, okCl c) → ∀ m, chb (ctx C) m = cbs (allT C) m
  | [], _, _ => rfl
  | c :: C, h, m => by
    rw [show c :: C = [c] ++ C from rfl, ctx_app, ctx_one, chb_app, chb_cl (h c List.mem_cons_self), chb_ctx (fun x hx => h x (List.mem_cons_of_mem _ hx))]
    unfold cbs allT
    rw [← List.foldl_append]
    simp
section Q4
variable {l : Launch} {d : Nat} {mi : Nat → Nat → Int32} {ml : Nat → Nat → Int64} {mr : Nat → Nat → Option Nat} {F : Fn}
theorem c_m_called (hR : SR mr) (φ : Nat) (hφ : φ < 3) (hF : F.2.2 = [] ∨ okF F) (hE : EN mi (6 + φ) (fTx φ F)) : am_T l (d + 1) M_m_called 0 [some (.ref 116), some (.int (nI φ)), none, none, none] [] (hm mi ml mr) 0 0 (fun r h' => cbs (allT F.2.2) 0 < 8 ∧ r = some (.int (nI (cbs (allT F.2.2) 0))) ∧ h' = hm mi ml mr) := by
  have h80 := hE.2.1
  by_cases hz : F.2.2.length = 0
  · have e : F.2.2 = [] := List.length_eq_zero_iff.mp hz
    have e0 : (fTx φ F).length = 0 := fTx_len.mpr hz
    refine am_iconst (v := nI 0) rfl (by decide) ?_
    refine am_istore_n rfl (Nat.le_of_ble_eq_true rfl) ?_
    show am_T _ _ _ _ [_, _, some _, _, _] _ _ _ _ _
    refine am_iconst (v := nI 5) rfl (by decide) ?_
    refine am_istore_n rfl (Nat.le_of_ble_eq_true rfl) ?_
    show am_T _ _ _ _ [_, _, _, some _, _] _ _ _ _ _
    refine am_iload_n rfl rfl ?_
    refine am_aload_n rfl rfl ?_
    refine ho_getR rfl (by first | rfl | assumption) rfl (by first | assumption | exact hR _ _ _ rfl) ?_
    refine am_bipush (v := nI 6) rfl (by decide) ?_
    refine am_iload_n rfl rfl ?_
    first | refine ho_addn rfl ?_ | refine am_iadd rfl ?_
    refine ho_iaload rfl (by first | rfl | assumption) (by omega) ?_
    rw [hE.1, e0]
    refine ho_icmp_ge rfl (by omega) (by omega) (fun _ => ?_) (fun g => absurd (by omega) g)
    refine am_iload_n rfl rfl ?_
    rw [e]
    exact am_ireturn rfl rfl ⟨by decide, rfl, rfl⟩
  have hok := hF.resolve_left (fun q => hz (by rw [q]; rfl))
  rw [fTx_def hz] at hE h80
  have hsp : ftx (102 + φ) F = [102 + φ, 58, F.1 + 65, 62, F.2.1 + 65] ++ ctx F.2.2 := rfl
  have htl : (ftx (102 + φ) F).length = 5 + (ctx F.2.2).length := by
    rw [hsp, List.length_append]
    rfl
  have hch : ∀ m, chb (ctx F.2.2) m = cbs (allT F.2.2) m := chb_ctx hok.2.2.1
  rw [← hch 0]
  have hsg : ∀ i, i < (ctx F.2.2).length → sgn (ftx (102 + φ) F) (5 + i) = (ctx F.2.2).getD i 0 := by
    intro i hi
    unfold sgn
    rw [if_pos (by omega), hsp, List.getD_eq_getElem?_getD, List.getElem?_append_right (by show 5 ≤ 5 + i; omega), ← List.getD_eq_getElem?_getD]
    congr 1
    show 5 + i - 5 = i
    omega
  have h127 : ∀ c ∈ ctx F.2.2, c < 127 := fun c hc => hE.2.2.1 c (by rw [hsp]; exact List.mem_append_right _ hc)
  generalize ctx F.2.2 = T at hsg htl h127 ⊢
  have loop : ∀ (K2 K1 : List Nat) (m : Nat), T = K1 ++ K2 → m < 8 → am_T l (d + 1) M_m_called 4 [some (.ref 116), some (.int (nI φ)), some (.int (nI m)), some (.int (nI (5 + K1.length))), none] [] (hm mi ml mr) 0 0 (fun r h' => chb K2 m < 8 ∧ r = some (.int (nI (chb K2 m))) ∧ h' = hm mi ml mr) := by
    intro K2
    induction K2 with
    | nil =>
      intro K1 m hK hm8
      have hl : K1.length = T.length := by rw [hK, List.append_nil]
      refine am_iload_n rfl rfl ?_
      refine am_aload_n rfl rfl ?_
      refine ho_getR rfl (by first | rfl | assumption) rfl (by first | assumption | exact hR _ _ _ rfl) ?_
      refine am_bipush (v := nI 6) rfl (by decide) ?_
      refine am_iload_n rfl rfl ?_
      first | refine ho_addn rfl ?_ | refine am_iadd rfl ?_
      refine ho_iaload rfl (by first | rfl | assumption) (by omega) ?_
      rw [hE.1, htl, hl]
      refine ho_icmp_ge rfl (by omega) (by omega) (fun _ => ?_) (fun g => absurd (Nat.le_refl _) g)
      refine am_iload_n rfl rfl ?_
      exact am_ireturn rfl rfl ⟨hm8, rfl, rfl⟩
    | cons c K2 ih =>
      intro K1 m hK hm8
      have hKl : T.length = K1.length + (K2.length + 1) := by rw [hK, List.length_append, List.length_cons]
      have hc127 := h127 c (by rw [hK]; simp)
      have hgc : T.getD K1.length 0 = c := by
        rw [hK, List.getD_eq_getElem?_getD, List.getElem?_append_right (Nat.le_refl _), Nat.sub_self]
        rfl
      have hl1 : (K1 ++ [c]).length = K1.length + 1 := by rw [List.length_append]; rfl
      have nxt : ∀ m', m' < 8 → m' = (if 102 ≤ c ∧ c ≤ 104 then m ||| 2 ^ (c - 102) else m) → am_T l (d + 1) M_m_called 49 [some (.ref 116), some (.int (nI φ)), some (.int (nI m)), some (.int (nI (5 + K1.length))), none] [.int (nI m')] (hm mi ml mr) 0 0 (fun r h' => chb (c :: K2) m < 8 ∧ r = some (.int (nI (chb (c :: K2) m))) ∧ h' = hm mi ml mr) := by
        intro m' h8 hm'
        refine am_istore_n rfl (Nat.le_of_ble_eq_true rfl) ?_
        show am_T _ _ _ _ [_, _, some _, _, _] _ _ _ _ _
        refine am_iinc rfl rfl (nI_inc1 _) ?_
        show am_T _ _ _ _ [_, _, _, some _, _] _ _ _ _ _
        refine am_goto rfl ?_
        have := ih (K1 ++ [c]) m' (by rw [hK]; simp) h8
        rw [hl1, ← Nat.add_assoc] at this
        have e : chb (c :: K2) m = chb K2 m' := by
          rw [hm']
          rfl
        rw [e]
        exact this
      refine am_iload_n rfl rfl ?_
      refine am_aload_n rfl rfl ?_
      refine ho_getR rfl (by first | rfl | assumption) rfl (by first | assumption | exact hR _ _ _ rfl) ?_
      refine am_bipush (v := nI 6) rfl (by decide) ?_
      refine am_iload_n rfl rfl ?_
      first | refine ho_addn rfl ?_ | refine am_iadd rfl ?_
      refine ho_iaload rfl (by first | rfl | assumption) (by omega) ?_
      rw [hE.1, htl]
      refine ho_icmp_ge rfl (by omega) (by omega) (fun g => absurd g (by omega)) (fun _ => ?_)
      refine am_aload_n rfl rfl ?_
      refine am_iload_n rfl rfl ?_
      refine am_iload_n rfl rfl ?_
      refine ho_cv2 rfl (by first | rfl | assumption) rfl (Nat.le_of_ble_eq_true rfl) (Nat.le_of_ble_eq_true rfl) (c_m_sign hR φ hφ _ hE _ (by omega)) ?_
      rintro v h' ⟨rfl, rfl⟩
      rw [hsg _ (by omega), hgc]
      refine am_bipush (v := nI 102) rfl (by decide) ?_
      by_cases h102 : c < 102
      · refine am_isub rfl ?_
        have hneg := sub1_neg h102 (by omega)
        generalize nI c - nI 102 = y at hneg ⊢
        refine am_istore rfl (Nat.le_of_ble_eq_true rfl) ?_
        show am_T _ _ _ _ [_, _, _, _, some _] _ _ _ _ _
        refine am_iload rfl rfl ?_
        refine am_if_lt rfl (fun _ => ?_) (fun g => absurd hneg g)
        refine am_drops [4] ?_
        refine am_iload_n rfl rfl ?_
        exact nxt m hm8 (by rw [if_neg (by omega)])
      · refine ho_subn rfl (by omega) ?_
        refine am_istore rfl (Nat.le_of_ble_eq_true rfl) ?_
        show am_T _ _ _ _ [_, _, _, _, some _] _ _ _ _ _
        refine am_iload rfl rfl ?_
        refine am_if_lt rfl (fun g => absurd g (nI_pos (by omega))) (fun _ => ?_)
        refine am_iload rfl rfl ?_
        refine am_iconst (v := nI 2) rfl (by decide) ?_
        refine ho_icmp_gt rfl (by omega) (by omega) (fun g => ?_) (fun g => ?_)
        · refine am_drops [4] ?_
          refine am_iload_n rfl rfl ?_
          exact nxt m hm8 (by rw [if_neg (by omega)])
        · obtain ⟨o1, o2⟩ := or_bit3 m hm8 (c - 102) (by omega)
          refine am_iload_n rfl rfl ?_
          refine am_iconst (v := nI 1) rfl (by decide) ?_
          refine am_iload rfl rfl ?_
          refine am_ishl rfl ?_
          refine am_ior rfl ?_
          rw [o1]
          refine am_goto rfl ?_
          refine am_drops [4] ?_
          exact nxt _ o2 (by rw [if_pos (by omega)])
  refine am_iconst (v := nI 0) rfl (by decide) ?_
  refine am_istore_n rfl (Nat.le_of_ble_eq_true rfl) ?_
  show am_T _ _ _ _ [_, _, some _, _, _] _ _ _ _ _
  refine am_iconst (v := nI 5) rfl (by decide) ?_
  refine am_istore_n rfl (Nat.le_of_ble_eq_true rfl) ?_
  show am_T _ _ _ _ [_, _, _, some _, _] _ _ _ _ _
  exact loop T [] 0 rfl (by omega)
end Q4
