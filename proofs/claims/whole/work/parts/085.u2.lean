/-! the class: the runner -/
/-- what running into t may change -/
def Fu (t : Nat) (mi mi' : Nat → Nat → Int32) : Prop := ∀ a, a ≠ t → a ≠ t + 1 → a ≠ t + 2 → a ≠ 109 → mi' a = mi a
theorem Fu.rf {t : Nat} {mi : Nat → Nat → Int32} : Fu t mi mi := fun _ _ _ _ _ => rfl
theorem Fu.tr {t : Nat} {mi mi' mi'' : Nat → Nat → Int32} (h : Fu t mi mi') (h' : Fu t mi' mi'') : Fu t mi mi'' := fun a h1 h2 h3 h4 => (h' a h1 h2 h3 h4).trans (h a h1 h2 h3 h4)
/-- the part of a node -/
def pcN (N : Nd) (o : Option Nat) : Option Nat := match o with
  | none => none
  | some i => contN N i
def pbN (N : Nd) (o : Option Nat) : Option Nat := match o with
  | none => none
  | some i => behN N i
theorem prt_x {N : Nd} {o : Option Nat} {k : Nat} (h : isX k = true) : prt N o k = pcN N o := by
  cases o with
  | none => rfl
  | some i =>
    show (if isX k then _ else _) = _
    rw [if_pos h]
    rfl
theorem prt_y {N : Nd} {o : Option Nat} {k : Nat} (h : isX k = false) : prt N o k = pbN N o := by
  cases o with
  | none => rfl
  | some i =>
    show (if isX k then _ else _) = _
    rw [h]
    rfl
section U2
variable {l : Launch} {d : Nat} {ml : Nat → Nat → Int64} {mr : Nat → Nat → Option Nat} {S : Rs} {ip : Nat → Nat} {nn td t : Nat} {N : Nd} {F : Nat → Fn} {oF : Nat → Nat}
theorem c_H_contentOfO {mi : Nat → Nat → Int32} {cap : Nat} (hH : isH mr t cap) (hN : HA mi t N) (hl : N.length ≤ cap) (o : Option Nat) (ho : ∀ k, o = some k → k < N.length) : am_T l d M_H_contentOf 0 [some (.ref t), some (.int (noI o)), none] [] (hm mi ml mr) 0 0 (fun r h' => r = some (.int (noI (pcN N o))) ∧ h' = hm mi ml mr) := by
  cases o with
  | none => exact c_H_contentOfN hH
  | some k => exact c_H_contentOf hH hN hl k (ho k rfl)
theorem c_H_behindO {mi : Nat → Nat → Int32} {cap : Nat} (hH : isH mr t cap) (hN : HA mi t N) (hl : N.length ≤ cap) (o : Option Nat) (ho : ∀ k, o = some k → k < N.length) : am_T l d M_H_behind 0 [some (.ref t), some (.int (noI o)), none] [] (hm mi ml mr) 0 0 (fun r h' => r = some (.int (noI (pbN N o))) ∧ h' = hm mi ml mr) := by
  cases o with
  | none => exact c_H_behindN hH
  | some k => exact c_H_behind hH hN hl k (ho k rfl)
theorem pcN_lt {o : Option Nat} : ∀ k, pcN N o = some k → k < N.length := by
  intro k h
  cases o with
  | none => cases h
  | some i => exact (contN_gt h).2
theorem pbN_lt {o : Option Nat} : ∀ k, pbN N o = some k → k < N.length := by
  intro k h
  cases o with
  | none => cases h
  | some i => exact (behN_gt h).2
theorem c_F_isAboutX {h : am_H} (k : Nat) (hk : k < 300) : am_T l d M_F_isAboutX 0 [some (.int (nI k))] [] h 0 0 (fun r h' => r = some (.int (bI (isX k))) ∧ h' = h) := by
  have yes : isX k = true → am_T l d M_F_isAboutX 19 [some (.int (nI k))] [] h 0 0 (fun r h' => r = some (.int (bI (isX k))) ∧ h' = h) := by
    intro e
    refine am_iconst (v := nI 1) rfl (by decide) ?_
    refine am_goto rfl ?_
    exact am_zreturn rfl rfl (Or.inr rfl) ⟨by rw [e]; rfl, rfl⟩
  have no : isX k = false → am_T l d M_F_isAboutX 23 [some (.int (nI k))] [] h 0 0 (fun r h' => r = some (.int (bI (isX k))) ∧ h' = h) := by
    intro e
    refine am_iconst (v := nI 0) rfl (by decide) ?_
    exact am_zreturn rfl rfl (Or.inl rfl) ⟨by rw [e]; rfl, rfl⟩
  refine am_iload_n rfl rfl ?_
  refine am_bipush (v := nI 120) rfl (by decide) ?_
  refine ho_icmp_eq rfl (by omega) (by omega) (fun z => yes (decide_eq_true (Or.inl z))) (fun z => ?_)
  refine am_iload_n rfl rfl ?_
  refine am_sipush (v := nI 256) rfl (by decide) ?_
  refine ho_icmp_lt rfl (by omega) (by omega) (fun y => no (decide_eq_false (by omega))) (fun y => ?_)
  refine am_iload_n rfl rfl ?_
  refine am_iconst (v := nI 2) rfl (by decide) ?_
  refine am_irem rfl (nI_nz (by decide) (by decide)) ?_
  rw [nI_mod (by omega) (by omega)]
  refine am_if_ne rfl (fun x => no (decide_eq_false (fun q => ?_))) (fun x => yes (decide_eq_true (Or.inr ⟨by omega, ?_⟩)))
  · rcases q with q | q
    · exact z q
    · exact x (by rw [q.2]; rfl)
  · exact (nI_eq (by omega) (by omega)).mp (x.trans (rfl : (0 : Int32) = nI 0))
theorem c_F_calledBy {h : am_H} (k : Nat) (h1 : 256 ≤ k) (h2 : k < 262) : am_T l d M_F_calledBy 0 [some (.int (nI k)), none] [] h 0 0 (fun r h' => r = some (.int (nI ((k - 256) / 2))) ∧ h' = h) := by
  refine am_iload_n rfl rfl ?_
  refine am_sipush (v := nI 256) rfl (by decide) ?_
  first | refine ho_subn rfl (by omega) ?_ | refine am_isub rfl ?_
  refine am_iconst (v := nI 2) rfl (by decide) ?_
  refine am_idiv rfl (nI_nz (by decide) (by decide)) ?_
  rw [nI_div (by omega) (by omega)]
  refine am_istore_n rfl (Nat.le_of_ble_eq_true rfl) ?_
  show am_T _ _ _ _ [_, some _] _ _ _ _ _
  refine am_iload_n rfl rfl ?_
  refine am_if_lt rfl (fun z => absurd z (nI_pos (by omega))) (fun _ => ?_)
  refine am_iload_n rfl rfl ?_
  refine am_iconst (v := nI 3) rfl (by decide) ?_
  refine ho_icmp_ge rfl (by omega) (by omega) (fun z => absurd z (by omega)) (fun _ => ?_)
  refine am_iload_n rfl rfl ?_
  refine am_goto rfl ?_
  exact am_ireturn rfl rfl ⟨rfl, rfl⟩
theorem c_U_partFor {mi : Nat → Nat → Int32} (hsrc : mr 109 2 = some td) (hH : isH mr td 12) (hN : HA mi td N) (hl : N.length ≤ 12) (k : Nat) (hk : k < 300) (o : Option Nat) (ho : ∀ k, o = some k → k < N.length) : am_T l (d + 1) M_U_partFor 0 [some (.ref 109), some (.int (nI k)), some (.int (noI o))] [] (hm mi ml mr) 0 0 (fun r h' => r = some (.int (noI (prt N o k))) ∧ h' = hm mi ml mr) := by
  have hk0 := hH.1
  refine am_iload_n rfl rfl ?_
  refine ho_cs1 rfl rfl (Nat.le_of_ble_eq_true rfl) (Nat.le_of_ble_eq_true rfl) (c_F_isAboutX k hk) ?_
  rintro v h' ⟨rfl, rfl⟩
  refine am_if_eq rfl (fun z => ?_) (fun z => ?_)
  · refine am_aload_n rfl rfl ?_
    refine ho_getR rfl (by first | rfl | assumption) rfl (by first | assumption | exact hR _ _ _ rfl) ?_
    refine am_iload_n rfl rfl ?_
    refine ho_cv1 rfl (by first | rfl | assumption) rfl (Nat.le_of_ble_eq_true rfl) (Nat.le_of_ble_eq_true rfl) (c_H_behindO hH hN hl o ho) ?_
    rintro v h' ⟨rfl, rfl⟩
    exact am_ireturn rfl rfl ⟨by rw [prt_y ((bI_eq _).mp z)], rfl⟩
  · refine am_aload_n rfl rfl ?_
    refine ho_getR rfl (by first | rfl | assumption) rfl (by first | assumption | exact hR _ _ _ rfl) ?_
    refine am_iload_n rfl rfl ?_
    refine ho_cv1 rfl (by first | rfl | assumption) rfl (Nat.le_of_ble_eq_true rfl) (Nat.le_of_ble_eq_true rfl) (c_H_contentOfO hH hN hl o ho) ?_
    rintro v h' ⟨rfl, rfl⟩
    refine am_goto rfl ?_
    exact am_ireturn rfl rfl ⟨by rw [prt_x ((bI_ne _).mp z)], rfl⟩
theorem c_U_writeNode {mi : Nat → Nat → Int32} (hwr : mr 109 3 = some t) (hH : isH mr t 20) (ht : t ≠ 109 ∧ t + 1 ≠ 109 ∧ t + 2 ≠ 109) (out : Nd) (hA : HA mi t out) (hl : out.length ≤ 20) (c p : Nat) (hc : c < 127) (hp : p < 1000) : am_T l (d + 1) M_U_writeNode 0 [some (.ref 109), some (.int (nI c)), some (.int (nI p))] [] (hm mi ml mr) 0 0 (fun r h' => ∃ mi', h' = hm mi' ml mr ∧ Fu t mi mi' ∧ ((out.length < 20 ∧ r = some (.int (bI true)) ∧ HA mi' t (out ++ [(c, p)]) ∧ mi' 109 = mi 109) ∨ (¬ out.length < 20 ∧ r = some (.int (bI false)) ∧ mi' 109 5 = -5))) := by
  have hk0 := hH.1
  refine am_aload_n rfl rfl ?_
  refine ho_getR rfl (by first | rfl | assumption) rfl (by first | assumption | exact hR _ _ _ rfl) ?_
  refine am_iload_n rfl rfl ?_
  refine am_iload_n rfl rfl ?_
  by_cases hlt : out.length < 20
  · refine ho_cv2 rfl (by first | rfl | assumption) rfl (Nat.le_of_ble_eq_true rfl) (Nat.le_of_ble_eq_true rfl) (c_H_add hH out.length hA.1 hlt c p (by omega)) ?_
    rintro v h' ⟨rfl, rfl⟩
    refine am_if_eq rfl (fun z => by cases z) (fun _ => ?_)
    refine am_iconst (v := nI 1) rfl (by decide) ?_
    refine am_zreturn rfl rfl (Or.inr rfl) ⟨_, rfl, fun a h1 h2 h3 _ => by rw [up2_off _ _ _ h1, up2_off _ _ _ h3, up2_off _ _ _ h2], Or.inl ⟨hlt, rfl, HA_add hA hc hp, ?_⟩⟩
    rw [up2_off _ _ _ (by omega), up2_off _ _ _ (by omega), up2_off _ _ _ (by omega)]
  · have e : out.length = 20 := by omega
    refine ho_cv2 rfl (by first | rfl | assumption) rfl (Nat.le_of_ble_eq_true rfl) (Nat.le_of_ble_eq_true rfl) (c_H_addF hH (by rw [hA.1, e]) _ _) ?_
    rintro v h' ⟨rfl, rfl⟩
    refine am_if_eq rfl (fun _ => ?_) (fun z => absurd rfl z)
    refine am_aload_n rfl rfl ?_
    refine am_bipush (v := -5) rfl (by decide) ?_
    refine ho_putI rfl rfl rfl rfl ?_
    refine am_iconst (v := nI 0) rfl (by decide) ?_
    exact am_zreturn rfl rfl (Or.inl rfl) ⟨_, rfl, fun a _ _ _ h4 => up2_off _ _ _ h4, Or.inr ⟨hlt, rfl, by simp [up2]⟩⟩
theorem c_U_writeHedge (hsrc : mr 109 2 = some td) (hwr : mr 109 3 = some t) (hHd : isH mr td 12) (hH : isH mr t 20) (ht : t = 76 ∨ t = 79) (htd : td = 70 ∨ td = 73) (hl : N.length ≤ 12) (hNo : okN 0 N) (mi : Nat → Nat → Int32) (hN : HA mi td N) (out : Nd) (hA : HA mi t out) (h20 : out.length ≤ 20) (o : Option Nat) (ho : ∀ k, o = some k → k < N.length) (p : Nat) (hp : p < 500) : am_T l (d + 2) M_U_writeHedge 0 [some (.ref 109), some (.int (noI o)), some (.int (nI p)), none, none] [] (hm mi ml mr) 0 0 (fun r h' => ∃ mi', h' = hm mi' ml mr ∧ Fu t mi mi' ∧ match wL out (seg N o p) with
    | some out' => r = some (.int (bI true)) ∧ HA mi' t out' ∧ mi' 109 = mi 109
    | none => r = some (.int (bI false)) ∧ mi' 109 5 = -5) := by
  have hk0 := hHd.1
  have hk1 := hHd.2.1
  have hk2 := hHd.2.2.1
  have hr0 := hHd.2.2.2.1
  have hr1 := hHd.2.2.2.2.1
  refine am_iload_n rfl rfl ?_
  cases o with
  | none =>
    refine am_if_ge rfl (fun z => absurd z (by decide)) (fun _ => ?_)
    refine am_iconst (v := nI 1) rfl (by decide) ?_
    exact am_zreturn rfl rfl (Or.inr rfl) ⟨mi, rfl, Fu.rf, rfl, hA, rfl⟩
  | some i =>
    have hi := ho i rfl
    obtain ⟨⟨-, a2⟩, -, a4⟩ := hN.2 i hi
    refine am_if_ge rfl (fun _ => ?_) (fun z => absurd (nI_pos' (by omega)) z)
    show am_T l (d + 2) M_U_writeHedge 6 [_, some (.int (nI i)), _, _, _] _ _ _ _ _
    refine am_aload_n rfl rfl ?_
    refine ho_getR rfl (by first | rfl | assumption) rfl (by first | assumption | exact hR _ _ _ rfl) ?_
    refine ho_getR rfl (by first | rfl | assumption) rfl (by first | assumption | exact hR _ _ _ rfl) ?_
    refine am_iload_n rfl rfl ?_
    refine ho_iaload rfl (by first | rfl | assumption) (by omega) ?_
    rw [a2]
    refine am_istore_n rfl (Nat.le_of_ble_eq_true rfl) ?_
    show am_T _ _ _ _ [_, _, _, some _, _] _ _ _ _ _
    refine am_iload_n rfl rfl ?_
    refine am_istore rfl (Nat.le_of_ble_eq_true rfl) ?_
    show am_T _ _ _ _ [_, _, _, _, some _] _ _ _ _ _
    have loop : ∀ (g m : Nat) (out2 : Nd) (mi2 : Nat → Nat → Int32), N.length < m + g → i ≤ m → m ≤ N.length → HA mi2 t out2 → out2.length ≤ 20 → Fu t mi mi2 → mi2 109 = mi 109 → am_T l (d + 2) M_U_writeHedge 19 [some (.ref 109), some (.int (nI i)), some (.int (nI p)), some (.int (nI (dp N i))), some (.int (nI m))] [] (hm mi2 ml mr) 0 0 (fun r h' => ∃ mi', h' = hm mi' ml mr ∧ Fu t mi mi' ∧ match wL out2 (segM N i p g m) with
    | some out' => r = some (.int (bI true)) ∧ HA mi' t out' ∧ mi' 109 = mi 109
    | none => r = some (.int (bI false)) ∧ mi' 109 5 = -5) := by
      intro g
      induction g with
      | zero =>
        intro m out2 mi2 hg him hmN
        omega
      | succ g ih =>
        intro m out2 mi2 hg him hmN hA2 hl2 hF2 h109
        have hN2 : HA mi2 td N := HA_to hN (hF2 _ (by omega) (by omega) (by omega) (by omega)) (hF2 _ (by omega) (by omega) (by omega) (by omega)) (hF2 _ (by omega) (by omega) (by omega) (by omega))
        have fin : ¬ (m < N.length ∧ dp N i ≤ dp N m) → am_T l (d + 2) M_U_writeHedge 84 [some (.ref 109), some (.int (nI i)), some (.int (nI p)), some (.int (nI (dp N i))), some (.int (nI m))] [] (hm mi2 ml mr) 0 0 (fun r h' => ∃ mi', h' = hm mi' ml mr ∧ Fu t mi mi' ∧ match wL out2 (segM N i p (g + 1) m) with
    | some out' => r = some (.int (bI true)) ∧ HA mi' t out' ∧ mi' 109 = mi 109
    | none => r = some (.int (bI false)) ∧ mi' 109 5 = -5) := by
          intro q
          rw [segM, if_neg q]
          refine am_iconst (v := nI 1) rfl (by decide) ?_
          exact am_zreturn rfl rfl (Or.inr rfl) ⟨mi2, rfl, hF2, rfl, hA2, h109⟩
        refine am_iload rfl rfl ?_
        refine am_aload_n rfl rfl ?_
        refine ho_getR rfl (by first | rfl | assumption) rfl (by first | assumption | exact hR _ _ _ rfl) ?_
        refine ho_getI rfl (by first | rfl | assumption) rfl ?_
        rw [hN2.1]
        refine ho_icmp_ge rfl (by omega) (by omega) (fun z => fin (by omega)) (fun z => ?_)
        obtain ⟨⟨c1, c2⟩, c3, c4⟩ := hN2.2 m (by omega)
        refine am_aload_n rfl rfl ?_
        refine ho_getR rfl (by first | rfl | assumption) rfl (by first | assumption | exact hR _ _ _ rfl) ?_
        refine ho_getR rfl (by first | rfl | assumption) rfl (by first | assumption | exact hR _ _ _ rfl) ?_
        refine am_iload rfl rfl ?_
        refine ho_iaload rfl (by first | rfl | assumption) (by omega) ?_
        rw [c2]
        refine am_iload_n rfl rfl ?_
        refine ho_icmp_lt rfl (by omega) (by omega) (fun y => fin (by omega)) (fun y => ?_)
        rw [segM, if_pos ⟨by omega, by omega⟩, wL]
        refine am_aload_n rfl rfl ?_
        refine am_aload_n rfl rfl ?_
        refine ho_getR rfl (by first | rfl | assumption) rfl (by first | assumption | exact hR _ _ _ rfl) ?_
        refine ho_getR rfl (by first | rfl | assumption) rfl (by first | assumption | exact hR _ _ _ rfl) ?_
        refine am_iload rfl rfl ?_
        refine ho_caload rfl (by first | rfl | assumption) (by omega) ?_
        rw [c1]
        refine am_aload_n rfl rfl ?_
        refine ho_getR rfl (by first | rfl | assumption) rfl (by first | assumption | exact hR _ _ _ rfl) ?_
        refine ho_getR rfl (by first | rfl | assumption) rfl (by first | assumption | exact hR _ _ _ rfl) ?_
        refine am_iload rfl rfl ?_
        refine ho_iaload rfl (by first | rfl | assumption) (by omega) ?_
        rw [c2]
        refine am_iload_n rfl rfl ?_
        first | refine ho_subn rfl (by omega) ?_ | refine am_isub rfl ?_
        refine am_iload_n rfl rfl ?_
        first | refine ho_addn rfl ?_ | refine am_iadd rfl ?_
        have hdm := dp_le N 0 m hNo (by omega)
        refine ho_cv2 rfl (by first | rfl | assumption) rfl (Nat.le_of_ble_eq_true rfl) (Nat.le_of_ble_eq_true rfl) (c_U_writeNode hwr hH (by omega) out2 hA2 hl2 (cd N m) (dp N m - dp N i + p) c3 (by omega)) ?_
        rintro v h' ⟨mi3, rfl, hF3, ⟨g1, rfl, g2, g3⟩ | ⟨g1, rfl, g2⟩⟩
        · rw [if_pos g1]
          refine am_if_ne rfl (fun _ => ?_) (fun w => by cases w)
          refine am_iinc rfl rfl (nI_inc1 _) ?_
          show am_T _ _ _ _ [_, _, _, _, some _] _ _ _ _ _
          refine am_goto rfl ?_
          exact ih (m + 1) _ mi3 (by omega) (by omega) (by omega) g2 (by rw [List.length_append]; show out2.length + 1 ≤ 20; omega) (hF2.tr hF3) (g3.trans h109)
        · rw [if_neg g1]
          refine am_if_ne rfl (fun w => absurd rfl w) (fun _ => ?_)
          refine am_iconst (v := nI 0) rfl (by decide) ?_
          exact am_zreturn rfl rfl (Or.inl rfl) ⟨mi3, rfl, hF2.tr hF3, rfl, g2⟩
    exact loop (N.length + 1) i out mi (by omega) (Nat.le_refl _) (by omega) hA h20 Fu.rf rfl
/-- what the runner holds -/
def UC (S : Rs) (ip : Nat → Nat) (nn td : Nat) (N : Nd) (F : Nat → Fn) (oF : Nat → Nat) (mi : Nat → Nat → Int32) (ml : Nat → Nat → Int64) : Prop := HA mi td N ∧ repX S ip nn mi ml ∧ (∀ j, j < N.length → NM S N (ml 92) j) ∧ ∀ φ, φ < 3 → mi (oF φ) 0 = bI (decide ((F φ).2.2.length ≠ 0)) ∧ ((F φ).2.2.length ≠ 0 → FA mi (oF φ) (F φ))
theorem UC.to {mi mi' : Nat → Nat → Int32} (h : UC S ip nn td N F oF mi ml) (hF : Fu t mi mi') (ht : t = 76 ∨ t = 79) (htd : td = 70 ∨ td = 73) (hoF : ∀ n, n < 4 → oF n ∈ fOb) : UC S ip nn td N F oF mi' ml := by
  obtain ⟨h1, h2, h3, h4⟩ := h
  refine ⟨HA_to h1 (hF _ (by omega) (by omega) (by omega) (by omega)) (hF _ (by omega) (by omega) (by omega) (by omega)) (hF _ (by omega) (by omega) (by omega) (by omega)), repX_to h2 (hF _ (by omega) (by omega) (by omega) (by omega)) (hF _ (by omega) (by omega) (by omega) (by omega)) (hF _ (by omega) (by omega) (by omega) (by omega)) (fun _ _ _ => rfl), h3, fun φ hφ => ?_⟩
  have := fOb_r (hoF φ (by omega))
  exact ⟨by rw [hF _ (by omega) (by omega) (by omega) (by omega)]; exact (h4 φ hφ).1, fun q => FA_to ((h4 φ hφ).2 q) (fun a _ _ => hF a (by omega) (by omega) (by omega) (by omega))⟩
def uP (ml : Nat → Nat → Int64) (mr : Nat → Nat → Option Nat) (t : Nat) (mi : Nat → Nat → Int32) (R : RR) (r : Option Value) (h' : am_H) : Prop := ∃ mi', h' = hm mi' ml mr ∧ Fu t mi mi' ∧ match R with
  | .inl (out, a) => r = some (.int (bI true)) ∧ HA mi' t out ∧ mi' 109 4 = nI a ∧ mi' 109 5 = -4
  | .inr true => r = some (.int (bI false)) ∧ mi' 109 5 = -4
  | .inr false => r = some (.int (bI false)) ∧ mi' 109 5 = -5
theorem ti_sm {k p : Nat} (h : okTk p k) : k < 262 := by
  rcases h with h | h | h | h | h | h | h
  · have := isDig_r h
    omega
  · omega
  · have := isLab_r h
    omega
  · omega
  · omega
  · omega
  · exact h.2.1
theorem c_U_apply (hR : SR mr) (hS : okS S) (hsrc : mr 109 2 = some td) (hwr : mr 109 3 = some t) (hHd : isH mr td 12) (hH : isH mr t 20) (ht : t = 76 ∨ t = 79) (htd : td = 70 ∨ td = 73) (hl : N.length ≤ 12) (hNo : okN 0 N) (hoF : ∀ n, n < 4 → oF n ∈ fOb) (hrF : ∀ n, n < 3 → mr 45 n = some (oF n)) (hF : ∀ φ, ((F φ).2.2 = [] ∨ okF (F φ)) ∧ ntk (F φ).2.2 ≤ 80) : ∀ (n φ : Nat) (o : Option Nat) (p : Nat) (out : Nd) (a : Nat) (mi : Nat → Nat → Int32), φ < 3 → n ≤ 13 → (∀ i, o = some i → i < N.length ∧ 13 ≤ n + i) → 1 ≤ n → okN 0 out → out.length ≤ 20 → p ≤ edp out → UC S ip nn td N F oF mi ml → HA mi t out → mi 109 4 = nI a → mi 109 5 = -4 →
    am_T l (d + 2 * n + 4) M_U_apply 0 [some (.ref 109), some (.int (nI φ)), some (.int (noI o)), some (.int (nI p)), some (.int (nI (13 - n))), none, none, none, none, none, none] [] (hm mi ml mr) 0 0 (uP ml mr t mi (ap S N (ml 92) F n φ o p out a)) := by
  have hk0 := hHd.1
  intro n
  induction n with
  | zero =>
    intro φ o p out a mi _ _ _ h1
    omega
  | succ n ih =>
    intro φ o p out a mi hφ hn13 ho _ hout h20 hpe hUC hA ha hf
    have hFn := isFn_of hR (hoF φ (by omega))
    have hkF := hFn.2.1
    have hrφ := hrF φ hφ
    have hUC' := hUC
    obtain ⟨u1, u2, u3, u4⟩ := hUC'
    have hp20 : edp out ≤ 20 := by
      have := edp_le hout (Nat.le_refl out.length)
      rw [List.take_of_length_le (Nat.le_refl _)] at this
      omega
    unfold ap
    refine am_aload_n rfl rfl ?_
    refine am_dup rfl rfl ?_
    refine ho_getI rfl (by first | rfl | assumption) rfl ?_
    rw [ha]
    refine am_iconst (v := nI 1) rfl (by decide) ?_
    first | refine ho_addn rfl ?_ | refine am_iadd rfl ?_
    refine ho_putI rfl (by first | rfl | assumption) rfl rfl ?_
    refine am_aload_n rfl rfl ?_
    refine ho_getR rfl (by first | rfl | assumption) rfl (by first | assumption | exact hR _ _ _ rfl) ?_
    refine am_iload_n rfl rfl ?_
    refine ho_aaload rfl (by first | rfl | assumption) ⟨by decide, rfl⟩ (by omega) (by first | assumption | exact hR _ _ _ rfl) ?_
    refine am_astore rfl (Nat.le_of_ble_eq_true rfl) ?_
    show am_T _ _ _ _ [_, _, _, _, _, some _, _, _, _, _, _] _ _ _ _ _
    refine am_aload rfl rfl ?_
    refine ho_getI rfl (by first | rfl | assumption) rfl ?_
    rw [up2_off _ _ _ (show oF φ ≠ 109 by have := fOb_r (hoF φ (by omega)); omega), (u4 φ hφ).1]
    have hF1 : Fu t mi (up2 mi 109 4 (nI (a + 1))) := fun b _ _ _ h4 => up2_off _ _ _ h4
    have hf1 : up2 mi 109 4 (nI (a + 1)) 109 5 = -4 := by
      rw [← hf]
      unfold up2
      rw [if_neg (by omega)]
    have ha1 : up2 mi 109 4 (nI (a + 1)) 109 4 = nI (a + 1) := by simp [up2]
    have hUC1 := hUC.to hF1 ht htd hoF
    have hA1 : HA (up2 mi 109 4 (nI (a + 1))) t out := HA_to hA (up2_off _ _ _ (by omega)) (up2_off _ _ _ (by omega)) (up2_off _ _ _ (by omega))
    generalize up2 mi 109 4 (nI (a + 1)) = mi1 at hF1 hf1 ha1 hUC1 hA1 ⊢
    refine am_if_eq rfl (fun z => ?_) (fun z => ?_)
    · have z : (F φ).2.2.length = 0 := Classical.not_not.mp (of_decide_eq_false ((bI_eq _).mp z))
      have e : choF S N (ml 92) (F φ).2.2 o = none := by
        rw [List.length_eq_zero_iff.mp z]
        cases o <;> rfl
      rw [e]
      refine am_iconst (v := nI 0) rfl (by decide) ?_
      exact am_zreturn rfl rfl (Or.inl rfl) ⟨mi1, rfl, hF1, rfl, hf1⟩
    have z := of_decide_eq_true ((bI_ne _).mp z)
    have hokF : okF (F φ) := (hF φ).1.resolve_left (fun q => z (by rw [q]; rfl))
    refine am_iload rfl rfl ?_
    refine am_bipush (v := nI 40) rfl (by decide) ?_
    refine ho_icmp_lt rfl (by omega) (by omega) (fun _ => ?_) (fun y => absurd (by omega) y)
    obtain ⟨v1, v2, v3, v4⟩ := id hUC1
    refine am_aload_n rfl rfl ?_
    refine ho_getR rfl (by first | rfl | assumption) rfl (by first | assumption | exact hR _ _ _ rfl) ?_
    refine am_aload_n rfl rfl ?_
    refine ho_getR rfl (by first | rfl | assumption) rfl (by first | assumption | exact hR _ _ _ rfl) ?_
    refine am_iload_n rfl rfl ?_
    refine ho_cv1 rfl (by first | rfl | assumption) rfl (Nat.le_of_ble_eq_true rfl) (Nat.le_of_ble_eq_true rfl) (c_H_contentOfO hHd v1 hl o (fun k hk => (ho k hk).1)) ?_
    rintro v h' ⟨rfl, rfl⟩
    refine ho_cv1 rfl (by first | rfl | assumption) rfl (Nat.le_of_ble_eq_true rfl) (Nat.le_of_ble_eq_true rfl) (c_S_ofPart ml hR hS v2 (pcN N o) (fun k hk => by have := pcN_lt k hk; omega)) ?_
    rintro v h' ⟨rfl, rfl⟩
    refine am_lstore rfl (Nat.le_of_ble_eq_true rfl) ?_
    show am_T _ _ _ _ [_, _, _, _, _, _, some _, none, _, _, _] _ _ _ _ _
    refine am_aload_n rfl rfl ?_
    refine ho_getR rfl (by first | rfl | assumption) rfl (by first | assumption | exact hR _ _ _ rfl) ?_
    refine am_aload_n rfl rfl ?_
    refine ho_getR rfl (by first | rfl | assumption) rfl (by first | assumption | exact hR _ _ _ rfl) ?_
    refine am_iload_n rfl rfl ?_
    refine ho_cv1 rfl (by first | rfl | assumption) rfl (Nat.le_of_ble_eq_true rfl) (Nat.le_of_ble_eq_true rfl) (c_H_behindO hHd v1 hl o (fun k hk => (ho k hk).1)) ?_
    rintro v h' ⟨rfl, rfl⟩
    refine ho_cv1 rfl (by first | rfl | assumption) rfl (Nat.le_of_ble_eq_true rfl) (Nat.le_of_ble_eq_true rfl) (c_S_ofPart ml hR hS v2 (pbN N o) (fun k hk => by have := pbN_lt k hk; omega)) ?_
    rintro v h' ⟨rfl, rfl⟩
    refine am_lstore rfl (Nat.le_of_ble_eq_true rfl) ?_
    show am_T _ _ _ _ [_, _, _, _, _, _, _, _, some _, none, _] _ _ _ _ _
    refine am_aload_n rfl rfl ?_
    refine ho_getR rfl (by first | rfl | assumption) rfl (by first | assumption | exact hR _ _ _ rfl) ?_
    refine am_aload rfl rfl ?_
    refine am_aload_n rfl rfl ?_
    refine ho_getR rfl (by first | rfl | assumption) rfl (by first | assumption | exact hR _ _ _ rfl) ?_
    refine am_iload_n rfl rfl ?_
    -- the first node
    have hq : ∃ q, q ≤ 5 ∧ (am_T l (d + 2 * n + 5) M_H_firstOf 0 [some (.ref td), some (.int (noI o))] [] (hm mi1 ml mr) 0 0 (fun r h' => r = some (.int (nI (fp q))) ∧ h' = hm mi1 ml mr)) ∧ choF S N (ml 92) (F φ).2.2 o = chs S (F φ).2.2 q (tb (om S (ml 92) (pcN N o))) (tb (om S (ml 92) (pbN N o))) := by
      cases o with
      | none => exact ⟨0, by decide, c_H_firstOfN hHd v1, chs_0⟩
      | some i =>
        refine ⟨kn (cd N i), (kn_range).2, ?_, rfl⟩
        have := kn_range (c := cd N i)
        rw [show fp (kn (cd N i)) = fx (kn (cd N i)) by unfold fp; rw [if_neg (by omega)]]
        exact c_H_firstOf hHd v1 hl i (ho i rfl).1
    obtain ⟨q, hq5, hq1, hq2⟩ := hq
    refine ho_cv1 rfl (by first | rfl | assumption) rfl (Nat.le_of_ble_eq_true rfl) (Nat.le_of_ble_eq_true rfl) (hq1) ?_
    rintro v h' ⟨rfl, rfl⟩
    refine am_lload rfl rfl ?_
    refine am_lload rfl rfl ?_
    obtain ⟨-, -, hCA⟩ := (v4 φ hφ).2 z
    refine ho_cv4 rfl (by first | rfl | assumption) rfl (Nat.le_of_ble_eq_true rfl) (Nat.le_of_ble_eq_true rfl) (c_S_choose hR hS v2 hFn (F φ).2.2 hCA hokF.2.2.1 hokF.2.2.2.2 q hq5 (om S (ml 92) (pcN N o)) (om S (ml 92) (pbN N o))) ?_
    rintro v h' ⟨rfl, rfl⟩
    rw [← hq2]
    cases hc : choF S N (ml 92) (F φ).2.2 o with
    | none =>
      refine am_istore rfl (Nat.le_of_ble_eq_true rfl) ?_
      show am_T _ _ _ _ [_, _, _, _, _, _, _, _, _, _, some _] _ _ _ _ _
      refine am_iload rfl rfl ?_
      refine am_iconst (v := -1) rfl (by decide) ?_
      refine am_icmp_eq rfl (fun _ => ?_) (fun y => absurd rfl y)
      refine am_iconst (v := nI 0) rfl (by decide) ?_
      exact am_zreturn rfl rfl (Or.inl rfl) ⟨mi1, rfl, hF1, rfl, hf1⟩
    | some j =>
      obtain ⟨c1, c2, c3⟩ := choF_p hc
      have hok := clA_ok hokF c1
      have h6 := hokF.2.2.2.2
      show am_T _ _ _ _ _ (.int (nI j) :: _) _ _ _ (uP ml mr t mi (wr N (ap S N (ml 92) F n) o (clA (F φ).2.2 j).2 p out (a + 1)))
      refine am_istore rfl (Nat.le_of_ble_eq_true rfl) ?_
      show am_T _ _ _ _ [_, _, _, _, _, _, _, _, _, _, some _] _ _ _ _ _
      refine am_iload rfl rfl ?_
      refine am_iconst (v := -1) rfl (by decide) ?_
      refine am_icmp_eq rfl (fun y => absurd y (nI_ne_m1 (by omega))) (fun _ => ?_)
      refine am_aload_n rfl rfl ?_
      refine am_aload rfl rfl ?_
      refine am_iload rfl rfl ?_
      refine am_iload_n rfl rfl ?_
      refine am_iload_n rfl rfl ?_
      refine am_iload rfl rfl ?_
      -- the clause's place
      have hsp : (F φ).2.2 = (F φ).2.2.take j ++ clA (F φ).2.2 j :: (F φ).2.2.drop (j + 1) := by rw [← drop_sC _ c1, List.take_append_drop]
      have htl : ((F φ).2.2.take j).length = j := by rw [List.length_take]; omega
      have hTk := hok.2.2.2.1
      have hkd0 := hok.2.2.2.2.1
      have h80 : ntk ((F φ).2.2.take j) + (clA (F φ).2.2 j).2.length ≤ 80 := Nat.le_trans (CA_le hsp).2 (hF φ).2
      have hclause : ∀ mi' : Nat → Nat → Int32, UC S ip nn td N F oF mi' ml → mi' (oF φ + 4) j = nI (ntk ((F φ).2.2.take j)) ∧ mi' (oF φ + 4) (j + 1) = nI (ntk ((F φ).2.2.take j) + (clA (F φ).2.2 j).2.length) ∧ ∀ x, x < (clA (F φ).2.2 j).2.length → mi' (oF φ + 5) (ntk ((F φ).2.2.take j) + x) = nI ((clA (F φ).2.2 j).2.getD x 0) := by
        intro mi' hU
        obtain ⟨-, -, hC⟩ := (hU.2.2.2 φ hφ).2 z
        obtain ⟨-, -, -, e4, e5, e6⟩ := hC.2.2 _ _ _ hsp
        rw [htl] at e4 e5
        exact ⟨e4, e5, e6⟩
      generalize ntk ((F φ).2.2.take j) = st0 at h80 hclause
      generalize (clA (F φ).2.2 j).2 = KK at hTk hkd0 h80 hclause ⊢
      generalize hp1 : (clA (F φ).2.2 j).1.1 = p1 at c2 c3 hTk
      obtain ⟨-, -, -, -, -, k4, k5, -, -, -, r7, r8⟩ := id hFn
      have hwrite : ∀ (K2 K1 : List Nat) (e : Nat) (out2 : Nd) (a2 : Nat) (mi2 : Nat → Nat → Int32), KK = K1 ++ K2 → kd e K2 = some 0 → okN 0 out2 → out2.length ≤ 20 → p + e ≤ edp out2 → UC S ip nn td N F oF mi2 ml → HA mi2 t out2 → mi2 109 4 = nI a2 → mi2 109 5 = -4 → Fu t mi mi2 →
          am_T l (d + 2 * n + 5) M_U_writeResult 12 [some (.ref 109), some (.ref (oF φ)), some (.int (nI j)), some (.int (noI o)), some (.int (nI p)), some (.int (nI (13 - (n + 1)))), some (.int (nI (p + e))), some (.int (nI (st0 + K1.length))), none, none] [] (hm mi2 ml mr) 0 0 (uP ml mr t mi (wr N (ap S N (ml 92) F n) o K2 (p + e) out2 a2)) := by
        intro K2
        induction K2 with
        | nil =>
          intro K1 e out2 a2 mi2 hK hkd ho2 hl2 hpe2 hU2 hA2 ha2 hf2 hF2
          obtain ⟨g1, g2, g3⟩ := hclause mi2 hU2
          rw [List.append_nil] at hK
          have hlen : KK.length = K1.length := by rw [hK]
          refine am_iload rfl rfl ?_
          refine am_aload_n rfl rfl ?_
          refine ho_getR rfl (by first | rfl | assumption) rfl (by first | assumption | exact hR _ _ _ rfl) ?_
          refine am_iload_n rfl rfl ?_
          refine am_iconst (v := nI 1) rfl (by decide) ?_
          first | refine ho_addn rfl ?_ | refine am_iadd rfl ?_
          refine ho_iaload rfl k4 (by omega) ?_
          rw [g2]
          refine ho_icmp_ge rfl (by omega) (by omega) (fun _ => ?_) (fun w => absurd (by omega) w)
          refine am_iconst (v := nI 1) rfl (by decide) ?_
          exact am_zreturn rfl rfl (Or.inr rfl) ⟨mi2, rfl, hF2, rfl, hA2, ha2, hf2⟩
        | cons k K2 ih2 =>
          intro K1 e out2 a2 mi2 hK hkd ho2 hl2 hpe2 hU2 hA2 ha2 hf2 hF2
          obtain ⟨g1, g2, g3⟩ := hclause mi2 hU2
          obtain ⟨w1, w2, w3, w4⟩ := id hU2
          have hlen : KK.length = K1.length + (K2.length + 1) := by rw [hK, List.length_append]; rfl
          have hk : okTk p1 k := hTk k (by rw [hK]; simp)
          have hk262 := ti_sm hk
          have hK' : KK = (K1 ++ [k]) ++ K2 := by rw [hK]; simp
          have hgk : KK.getD K1.length 0 = k := by
            rw [hK]
            have := getD_app2 K1 (k :: K2) 0
            rw [Nat.add_zero] at this
            exact this
          have hp2 : edp out2 ≤ 20 := by
            have := edp_le ho2 (Nat.le_refl out2.length)
            rw [List.take_of_length_le (Nat.le_refl _)] at this
            omega
          -- the next token
          have s168 : ∀ (e' : Nat) (out3 : Nd) (a3 : Nat) (mi3 : Nat → Nat → Int32) (x8 : Int32), kd e' K2 = some 0 → okN 0 out3 → out3.length ≤ 20 → p + e' ≤ edp out3 → UC S ip nn td N F oF mi3 ml → HA mi3 t out3 → mi3 109 4 = nI a3 → mi3 109 5 = -4 → Fu t mi mi3 → am_T l (d + 2 * n + 5) M_U_writeResult 168 [some (.ref 109), some (.ref (oF φ)), some (.int (nI j)), some (.int (noI o)), some (.int (nI p)), some (.int (nI (13 - (n + 1)))), some (.int (nI (p + e'))), some (.int (nI (st0 + K1.length))), some (.int x8), some (.int (bI true))] [] (hm mi3 ml mr) 0 0 (uP ml mr t mi (wr N (ap S N (ml 92) F n) o K2 (p + e') out3 a3)) := by
            intro e' out3 a3 mi3 x8 b1 b2 b3 b4 b5 b6 b7 b8 b9
            refine am_iload rfl rfl ?_
            refine am_if_ne rfl (fun _ => ?_) (fun w => by cases w)
            refine am_iinc rfl rfl (nI_inc1 _) ?_
            show am_T _ _ _ _ [_, _, _, _, _, _, _, some _, _, _] _ _ _ _ _
            refine am_goto rfl ?_
            refine am_drops [8, 9] ?_
            have := ih2 (K1 ++ [k]) e' out3 a3 mi3 hK' b1 b2 b3 b4 b5 b6 b7 b8 b9
            rw [List.length_append, ← Nat.add_assoc] at this
            exact this
          have s168n : ∀ (R : RR) (x6 x8 : Int32) (mi3 : Nat → Nat → Int32), Fu t mi mi3 → (R = .inr true ∧ mi3 109 5 = -4 ∨ R = .inr false ∧ mi3 109 5 = -5) → am_T l (d + 2 * n + 5) M_U_writeResult 168 [some (.ref 109), some (.ref (oF φ)), some (.int (nI j)), some (.int (noI o)), some (.int (nI p)), some (.int (nI (13 - (n + 1)))), some (.int x6), some (.int (nI (st0 + K1.length))), some (.int x8), some (.int (bI false))] [] (hm mi3 ml mr) 0 0 (uP ml mr t mi R) := by
            intro R x6 x8 mi3 b1 b2
            refine am_iload rfl rfl ?_
            refine am_if_ne rfl (fun w => absurd rfl w) (fun _ => ?_)
            refine am_iconst (v := nI 0) rfl (by decide) ?_
            rcases b2 with ⟨rfl, b2⟩ | ⟨rfl, b2⟩
            · exact am_zreturn rfl rfl (Or.inl rfl) ⟨mi3, rfl, b1, rfl, b2⟩
            · exact am_zreturn rfl rfl (Or.inl rfl) ⟨mi3, rfl, b1, rfl, b2⟩
          refine am_iload rfl rfl ?_
          refine am_aload_n rfl rfl ?_
          refine ho_getR rfl (by first | rfl | assumption) rfl (by first | assumption | exact hR _ _ _ rfl) ?_
          refine am_iload_n rfl rfl ?_
          refine am_iconst (v := nI 1) rfl (by decide) ?_
          first | refine ho_addn rfl ?_ | refine am_iadd rfl ?_
          refine ho_iaload rfl k4 (by omega) ?_
          rw [g2]
          refine ho_icmp_ge rfl (by omega) (by omega) (fun w => absurd w (by omega)) (fun _ => ?_)
          refine am_aload_n rfl rfl ?_
          refine ho_getR rfl (by first | rfl | assumption) rfl (by first | assumption | exact hR _ _ _ rfl) ?_
          refine am_iload rfl rfl ?_
          refine ho_iaload rfl k5 (by omega) ?_
          rw [g3 K1.length (by omega), hgk]
          refine am_istore rfl (Nat.le_of_ble_eq_true rfl) ?_
          show am_T _ _ _ _ [_, _, _, _, _, _, _, _, some _, _] _ _ _ _ _
          refine am_iconst (v := nI 1) rfl (by decide) ?_
          refine am_istore rfl (Nat.le_of_ble_eq_true rfl) ?_
          show am_T _ _ _ _ [_, _, _, _, _, _, _, _, _, some _] _ _ _ _ _
          refine am_iload rfl rfl ?_
          refine am_bipush (v := nI 93) rfl (by decide) ?_
          unfold wr
          unfold kd at hkd
          refine ho_icmp_ne rfl (by omega) (by omega) (fun h1 => ?_) (fun h1 => ?_)
          case refine_2 =>
            rw [if_pos h1] at hkd ⊢
            by_cases h0 : e = 0
            · rw [if_pos h0] at hkd
              cases hkd
            rw [if_neg h0] at hkd
            obtain ⟨e', rfl⟩ : ∃ e', e = e' + 1 := ⟨e - 1, by omega⟩
            rw [show p + (e' + 1) - 1 = p + e' by omega]
            rw [show p + (e' + 1) = (p + e') + 1 by omega]
            refine am_iinc rfl rfl (nI_dec1 _) ?_
            show am_T _ _ _ _ [_, _, _, _, _, _, some _, _, _, _] _ _ _ _ _
            refine am_goto rfl ?_
            exact s168 e' out2 a2 mi2 _ hkd ho2 hl2 (by omega) hU2 hA2 ha2 hf2 hF2
          rw [if_neg h1] at hkd ⊢
          refine am_iload rfl rfl ?_
          refine am_sipush (v := nI 256) rfl (by decide) ?_
          refine ho_icmp_lt rfl (by omega) (by omega) (fun h2 => ?_) (fun h2 => ?_)
          case refine_2 =>
            rw [if_pos (show 256 ≤ k by omega)]
            rw [show isLab k = false by simp only [isLab, decide_eq_false_iff_not]; omega] at hkd
            have hkd : kd e K2 = some 0 := hkd
            have hcall : 1 ≤ p1 := by
              rcases hk with q | q | q | q | q | q | q
              · have := isDig_r q
                omega
              · omega
              · have := isLab_r q
                omega
              · omega
              · omega
              · omega
              · exact q.2.2.1
            have hoi : ∃ i, o = some i := by
              cases o with
              | none =>
                have := c2.mp rfl
                omega
              | some i => exact ⟨i, rfl⟩
            obtain ⟨i, hoi⟩ := hoi
            have hi13 := ho i hoi
            refine am_aload_n rfl rfl ?_
            refine am_iload rfl rfl ?_
            refine ho_cs1 rfl rfl (Nat.le_of_ble_eq_true rfl) (Nat.le_of_ble_eq_true rfl) (c_F_calledBy k (by omega) hk262) ?_
            rintro v h' ⟨rfl, rfl⟩
            refine am_aload_n rfl rfl ?_
            refine am_iload rfl rfl ?_
            refine am_iload_n rfl rfl ?_
            refine ho_cv2 rfl (by first | rfl | assumption) rfl (Nat.le_of_ble_eq_true rfl) (Nat.le_of_ble_eq_true rfl) (c_U_partFor hsrc hHd w1 hl k (by omega) o (fun k hk => (ho k hk).1)) ?_
            rintro v h' ⟨rfl, rfl⟩
            refine am_iload rfl rfl ?_
            refine am_iload rfl rfl ?_
            refine am_iconst (v := nI 1) rfl (by decide) ?_
            first | refine ho_addn rfl ?_ | refine am_iadd rfl ?_
            rw [show 13 - (n + 1) + 1 = 13 - n by omega]
            have hap := ih ((k - 256) / 2) (prt N o k) (p + e) out2 a2 mi2 (by omega) (by omega) (fun x hx => ⟨(prt_lt x hx).1, by have := (prt_lt x hx).2 i hoi; omega⟩) (by omega) ho2 hl2 hpe2 hU2 hA2 ha2 hf2
            refine ho_cv4 rfl (by first | rfl | assumption) rfl (Nat.le_of_ble_eq_true rfl) (Nat.le_of_ble_eq_true rfl) (hap) ?_
            have hapk := ap_ok (S := S) hNo (f := ml 92) (F := F) (fun φ => (hF φ).1) n ((k - 256) / 2) (prt N o k) (p + e) out2 a2
            cases hR : ap S N (ml 92) F n ((k - 256) / 2) (prt N o k) (p + e) out2 a2 using RR.cas with
            | ok out3 a3 =>
              rintro v h' ⟨mi3, rfl, b1, rfl, b2, b3, b4⟩
              obtain ⟨x1, x2, x3⟩ := hapk out3 a3 (fun x hx => (prt_lt x hx).1) ho2 hl2 hpe2 hR
              refine am_istore rfl (Nat.le_of_ble_eq_true rfl) ?_
              show am_T _ _ _ _ [_, _, _, _, _, _, _, _, _, some _] _ _ _ _ _
              refine am_goto rfl ?_
              exact s168 e out3 a3 mi3 _ hkd x1 x2 x3 (hU2.to b1 ht htd hoF) b2 b3 b4 (hF2.tr b1)
            | stuck =>
              rintro v h' ⟨mi3, rfl, b1, rfl, b2⟩
              refine am_istore rfl (Nat.le_of_ble_eq_true rfl) ?_
              show am_T _ _ _ _ [_, _, _, _, _, _, _, _, _, some _] _ _ _ _ _
              refine am_goto rfl ?_
              exact s168n _ _ _ mi3 (hF2.tr b1) (Or.inl ⟨rfl, b2⟩)
            | full =>
              rintro v h' ⟨mi3, rfl, b1, rfl, b2⟩
              refine am_istore rfl (Nat.le_of_ble_eq_true rfl) ?_
              show am_T _ _ _ _ [_, _, _, _, _, _, _, _, _, some _] _ _ _ _ _
              refine am_goto rfl ?_
              exact s168n _ _ _ mi3 (hF2.tr b1) (Or.inr ⟨rfl, b2⟩)
          rw [if_neg (show ¬ 256 ≤ k by omega)]
          have s99 : (k = 120 ∨ k = 121) → am_T l (d + 2 * n + 5) M_U_writeResult 99 [some (.ref 109), some (.ref (oF φ)), some (.int (nI j)), some (.int (noI o)), some (.int (nI p)), some (.int (nI (13 - (n + 1)))), some (.int (nI (p + e))), some (.int (nI (st0 + K1.length))), some (.int (nI k)), some (.int (nI 1))] [] (hm mi2 ml mr) 0 0 (uP ml mr t mi (if k = 120 ∨ k = 121 then (match wL out2 (seg N (prt N o k) (p + e)) with
      | some out' => wr N (ap S N (ml 92) F n) o K2 (p + e) out' a2
      | none => .inr false)
    else (match wL out2 [(if k = 35 then cd N (o.getD 0) else k, p + e)] with
      | some out' => wr N (ap S N (ml 92) F n) o K2 (p + e + lb k) out' a2
      | none => .inr false))) := by
            intro h3
            rw [if_pos h3]
            rw [show isLab k = false by simp only [isLab, decide_eq_false_iff_not]; omega] at hkd
            have hkd : kd e K2 = some 0 := hkd
            refine am_aload_n rfl rfl ?_
            refine am_aload_n rfl rfl ?_
            refine am_iload rfl rfl ?_
            refine am_iload_n rfl rfl ?_
            refine ho_cv2 rfl (by first | rfl | assumption) rfl (Nat.le_of_ble_eq_true rfl) (Nat.le_of_ble_eq_true rfl) (c_U_partFor hsrc hHd w1 hl k (by omega) o (fun k hk => (ho k hk).1)) ?_
            rintro v h' ⟨rfl, rfl⟩
            refine am_iload rfl rfl ?_
            refine ho_cv2 rfl (by first | rfl | assumption) rfl (Nat.le_of_ble_eq_true rfl) (Nat.le_of_ble_eq_true rfl) (c_U_writeHedge hsrc hwr hHd hH ht htd hl hNo mi2 w1 out2 hA2 hl2 (prt N o k) (fun x hx => (prt_lt x hx).1) (p + e) (by omega)) ?_
            cases hw : wL out2 (seg N (prt N o k) (p + e)) with
            | some out3 =>
              rintro v h' ⟨mi3, rfl, b1, rfl, b2, b3⟩
              obtain ⟨x1, x2⟩ := seg_ok hNo (fun x hx => (prt_lt x hx).1) ho2 hpe2 hw
              refine am_istore rfl (Nat.le_of_ble_eq_true rfl) ?_
              show am_T _ _ _ _ [_, _, _, _, _, _, _, _, _, some _] _ _ _ _ _
              refine am_goto rfl ?_
              exact s168 e out3 a2 mi3 _ hkd x1 ((wL_len _ _ _ hw).2 hl2) x2 (hU2.to b1 ht htd hoF) b2 (by rw [b3]; exact ha2) (by rw [b3]; exact hf2) (hF2.tr b1)
            | none =>
              rintro v h' ⟨mi3, rfl, b1, rfl, b2⟩
              refine am_istore rfl (Nat.le_of_ble_eq_true rfl) ?_
              show am_T _ _ _ _ [_, _, _, _, _, _, _, _, _, some _] _ _ _ _ _
              refine am_goto rfl ?_
              exact s168n _ _ _ mi3 (hF2.tr b1) (Or.inr ⟨rfl, b2⟩)
          refine am_iload rfl rfl ?_
          refine am_bipush (v := nI 120) rfl (by decide) ?_
          refine ho_icmp_eq rfl (by omega) (by omega) (fun h3 => s99 (Or.inl h3)) (fun h3 => ?_)
          refine am_iload rfl rfl ?_
          refine am_bipush (v := nI 121) rfl (by decide) ?_
          refine ho_icmp_ne rfl (by omega) (by omega) (fun h4 => ?_) (fun h4 => s99 (Or.inr h4))
          rw [if_neg (show ¬ (k = 120 ∨ k = 121) by omega)]
          -- a node
          have hnod : ∃ c, c = (if k = 35 then cd N (o.getD 0) else k) ∧ c < 127 ∧ isNod c = true ∧ lb c = lb k := by
            refine ⟨_, rfl, ?_⟩
            by_cases h35 : k = 35
            · rw [if_pos h35]
              have hp11 : p1 = 1 := by
                rcases hk with q | q | q | q | q | q | q
                · have := isDig_r q
                  omega
                · exact q.2
                · have := isLab_r q
                  omega
                all_goals omega
              cases hoq : o with
              | none =>
                have := c2.mp hoq
                omega
              | some i =>
                have hc3 := c3 i hoq
                have hn := cd_nod N 0 i hNo (ho i hoq).1
                refine ⟨(nod_br hn).2.2.1, hn, ?_⟩
                show lb (cd N i) = lb k
                have : isLab (cd N i) = false := by
                  cases hq : isLab (cd N i) with
                  | false => rfl
                  | true =>
                    unfold kn at hc3
                    rw [if_pos hq] at hc3
                    have := isLab_r hq
                    omega
                rw [h35]
                unfold lb
                rw [this]
                rfl
            · rw [if_neg h35]
              have hn : isNod k = true := by
                unfold isNod
                rcases hk with q | q | q | q | q | q | q
                · rw [q]
                  rfl
                · omega
                · rw [q, Bool.or_true]
                all_goals omega
              exact ⟨(nod_br hn).2.2.1, hn, rfl⟩
          obtain ⟨c, hc0, hc127, hcn, hclb⟩ := hnod
          rw [← hc0]
          have s143 : ∀ x : Int32, x = nI c → am_T l (d + 2 * n + 5) M_U_writeResult 143 [some (.ref 109), some (.ref (oF φ)), some (.int (nI j)), some (.int (noI o)), some (.int (nI p)), some (.int (nI (13 - (n + 1)))), some (.int (nI (p + e))), some (.int (nI (st0 + K1.length))), some (.int (nI k)), some (.int (nI 1))] [.int x, .ref 109] (hm mi2 ml mr) 0 0 (uP ml mr t mi (match wL out2 [(c, p + e)] with
      | some out' => wr N (ap S N (ml 92) F n) o K2 (p + e + lb k) out' a2
      | none => .inr false)) := by
            intro x hx
            subst hx
            refine am_iload rfl rfl ?_
            refine ho_cv2 rfl (by first | rfl | assumption) rfl (Nat.le_of_ble_eq_true rfl) (Nat.le_of_ble_eq_true rfl) (c_U_writeNode hwr hH (by omega) out2 hA2 hl2 c (p + e) hc127 (by omega)) ?_
            rintro v h' ⟨mi3, rfl, b1, hb⟩
            -- the depth
            have s166 : ∀ (b : Bool) (R : RR), (∀ x6 : Nat, x6 = p + e + lb k → am_T l (d + 2 * n + 5) M_U_writeResult 168 [some (.ref 109), some (.ref (oF φ)), some (.int (nI j)), some (.int (noI o)), some (.int (nI p)), some (.int (nI (13 - (n + 1)))), some (.int (nI x6)), some (.int (nI (st0 + K1.length))), some (.int (nI k)), some (.int (bI b))] [] (hm mi3 ml mr) 0 0 (uP ml mr t mi R)) → am_T l (d + 2 * n + 5) M_U_writeResult 150 [some (.ref 109), some (.ref (oF φ)), some (.int (nI j)), some (.int (noI o)), some (.int (nI p)), some (.int (nI (13 - (n + 1)))), some (.int (nI (p + e))), some (.int (nI (st0 + K1.length))), some (.int (nI k)), some (.int (bI b))] [] (hm mi3 ml mr) 0 0 (uP ml mr t mi R) := by
              intro b R hgo
              refine am_iload rfl rfl ?_
              refine am_iload rfl rfl ?_
              refine ho_cn1 rfl rfl (Nat.le_of_ble_eq_true rfl) (Nat.le_of_ble_eq_true rfl) (c_X_isLabel k (by omega)) ?_
              rintro v h' ⟨rfl, rfl⟩
              refine am_if_eq rfl (fun w => ?_) (fun w => ?_)
              · refine am_iconst (v := nI 0) rfl (by decide) ?_
                first | refine ho_addn rfl ?_ | refine am_iadd rfl ?_
                refine am_istore rfl (Nat.le_of_ble_eq_true rfl) ?_
                show am_T _ _ _ _ [_, _, _, _, _, _, some _, _, _, _] _ _ _ _ _
                exact hgo _ (by unfold lb; rw [(bI_eq _).mp w]; rfl)
              · refine am_iconst (v := nI 1) rfl (by decide) ?_
                refine am_goto rfl ?_
                first | refine ho_addn rfl ?_ | refine am_iadd rfl ?_
                refine am_istore rfl (Nat.le_of_ble_eq_true rfl) ?_
                show am_T _ _ _ _ [_, _, _, _, _, _, some _, _, _, _] _ _ _ _ _
                exact hgo _ (by unfold lb; rw [(bI_ne _).mp w]; rfl)
            unfold wL
            rcases hb with ⟨x1, rfl, x2, x3⟩ | ⟨x1, rfl, x2⟩
            · rw [if_pos x1]
              refine am_istore rfl (Nat.le_of_ble_eq_true rfl) ?_
              show am_T _ _ _ _ [_, _, _, _, _, _, _, _, _, some _] _ _ _ _ _
              refine s166 true _ (fun x6 hx6 => ?_)
              subst hx6
              have hpe3 : p + (e + lb k) ≤ edp (out2 ++ [(c, p + e)]) := by
                rw [edp_app]
                show p + (e + lb k) ≤ p + e + lb c
                omega
              have hkd3 : kd (e + lb k) K2 = some 0 := by
                unfold lb
                split at hkd
                · next q =>
                  rw [if_pos q]
                  exact hkd
                · next q =>
                  rw [if_neg q]
                  exact hkd
              have := s168 (e + lb k) (out2 ++ [(c, p + e)]) a2 mi3 (nI k) hkd3 (okN_snoc0.mpr ⟨ho2, hpe2, hcn⟩) (by rw [List.length_append]; show out2.length + 1 ≤ 20; omega) hpe3 (hU2.to b1 ht htd hoF) x2 (by rw [x3]; exact ha2) (by rw [x3]; exact hf2) (hF2.tr b1)
              rw [← Nat.add_assoc] at this
              exact this
            · rw [if_neg x1]
              refine am_istore rfl (Nat.le_of_ble_eq_true rfl) ?_
              show am_T _ _ _ _ [_, _, _, _, _, _, _, _, _, some _] _ _ _ _ _
              refine s166 false _ (fun x6 hx6 => ?_)
              exact s168n _ _ _ mi3 (hF2.tr b1) (Or.inr ⟨rfl, x2⟩)
          refine am_aload_n rfl rfl ?_
          refine am_iload rfl rfl ?_
          refine am_bipush (v := nI 35) rfl (by decide) ?_
          refine ho_icmp_ne rfl (by omega) (by omega) (fun h5 => ?_) (fun h5 => ?_)
          · refine am_iload rfl rfl ?_
            rw [if_neg h5] at hc0
            exact s143 _ (by rw [hc0])
          · rw [if_pos h5] at hc0
            refine am_iload_n rfl rfl ?_
            cases hoq : o with
            | none =>
              exfalso
              have := c2.mp hoq
              rcases hk with q | q | q | q | q | q | q
              · have := isDig_r q
                omega
              · omega
              · have := isLab_r q
                omega
              all_goals omega
            | some i =>
              subst hoq
              have hi := (ho i rfl).1
              obtain ⟨⟨y1, -⟩, -⟩ := w1.2 i hi
              have hkc := hHd.2.1
              have hrc := hHd.2.2.2.1
              refine am_if_lt rfl (fun w => absurd w (nI_pos (by omega))) (fun _ => ?_)
              show am_T l (d + 2 * n + 5) M_U_writeResult 129 [_, _, _, some (.int (nI i)), _, _, _, _, _, _] _ _ _ _ _
              refine am_aload_n rfl rfl ?_
              refine ho_getR rfl (by first | rfl | assumption) rfl (by first | assumption | exact hR _ _ _ rfl) ?_
              refine ho_getR rfl (by first | rfl | assumption) rfl (by first | assumption | exact hR _ _ _ rfl) ?_
              refine am_iload_n rfl rfl ?_
              refine ho_caload rfl (by first | rfl | assumption) (by omega) ?_
              rw [y1]
              refine am_goto rfl ?_
              have hc0 : c = cd N i := hc0
              exact s143 _ (by rw [hc0])
      have hfin : am_T l (d + 2 * n + 5) M_U_writeResult 0 [some (.ref 109), some (.ref (oF φ)), some (.int (nI j)), some (.int (noI o)), some (.int (nI p)), some (.int (nI (13 - (n + 1)))), none, none, none, none] [] (hm mi1 ml mr) 0 0 (uP ml mr t mi (wr N (ap S N (ml 92) F n) o KK p out (a + 1))) := by
        obtain ⟨g1, g2, g3⟩ := hclause mi1 hUC1
        refine am_iload rfl rfl ?_
        refine am_istore rfl (Nat.le_of_ble_eq_true rfl) ?_
        show am_T _ _ _ _ [_, _, _, _, _, _, some _, _, _, _] _ _ _ _ _
        refine am_aload_n rfl rfl ?_
        refine ho_getR rfl (by first | rfl | assumption) rfl (by first | assumption | exact hR _ _ _ rfl) ?_
        refine am_iload_n rfl rfl ?_
        refine ho_iaload rfl k4 (by omega) ?_
        rw [g1]
        refine am_istore rfl (Nat.le_of_ble_eq_true rfl) ?_
        show am_T _ _ _ _ [_, _, _, _, _, _, _, some _, _, _] _ _ _ _ _
        have := hwrite KK [] 0 out (a + 1) mi1 rfl hkd0 hout h20 hpe hUC1 hA1 ha1 hf1 hF1
        exact this
      refine ho_cv5 rfl (by first | rfl | assumption) rfl (Nat.le_of_ble_eq_true rfl) (Nat.le_of_ble_eq_true rfl) (hfin) ?_
      rintro v h' ⟨mi3, rfl, b1, hb⟩
      cases hR : wr N (ap S N (ml 92) F n) o KK p out (a + 1) using RR.cas with
      | ok out3 a3 =>
        rw [hR] at hb
        obtain ⟨rfl, hb⟩ := hb
        refine am_if_eq rfl (fun w => by cases w) (fun _ => ?_)
        refine am_iconst (v := nI 1) rfl (by decide) ?_
        refine am_goto rfl ?_
        exact am_zreturn rfl rfl (Or.inr rfl) ⟨mi3, rfl, b1, rfl, hb⟩
      | stuck =>
        rw [hR] at hb
        obtain ⟨rfl, hb⟩ := hb
        refine am_if_eq rfl (fun _ => ?_) (fun w => absurd rfl w)
        refine am_iconst (v := nI 0) rfl (by decide) ?_
        exact am_zreturn rfl rfl (Or.inl rfl) ⟨mi3, rfl, b1, rfl, hb⟩
      | full =>
        rw [hR] at hb
        obtain ⟨rfl, hb⟩ := hb
        refine am_if_eq rfl (fun _ => ?_) (fun w => absurd rfl w)
        refine am_iconst (v := nI 0) rfl (by decide) ?_
        exact am_zreturn rfl rfl (Or.inl rfl) ⟨mi3, rfl, b1, rfl, hb⟩
end U2
