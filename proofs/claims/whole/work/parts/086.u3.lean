/-! the reference: chosen, put, putHedge, the running -/
theorem fTx_def {φ : Nat} {F : Fn} (h : F.2.2.length ≠ 0) : fTx φ F = ftx (102 + φ) F := by
  unfold fTx
  rw [if_neg h]
theorem fTx_len {φ : Nat} {F : Fn} : (fTx φ F).length = 0 ↔ F.2.2.length = 0 := by
  unfold fTx
  by_cases h : F.2.2.length = 0
  · rw [if_pos h]
    simp [h]
  · rw [if_neg h]
    unfold ftx
    rw [List.length_append]
    constructor
    · intro q
      have : [102 + φ, 58, F.1 + 65, 62, F.2.1 + 65].length = 5 := rfl
      omega
    · intro q
      exact absurd q h
/-- the text that is written, and its nodes -/
def OTx (mi : Nat → Nat → Int32) (U : List Nat) (m : Nat) : Prop := mi 116 9 = nI U.length ∧ mi 116 10 = nI m ∧ txt mi 122 U
def Fp (mi mi' : Nat → Nat → Int32) : Prop := (∀ a, a ≠ 116 → a ≠ 122 → a ≠ 139 → a ≠ 140 → a ≠ 141 → mi' a = mi a) ∧ ∀ j, j ≠ 9 → j ≠ 10 → mi' 116 j = mi 116 j
theorem Fp.rf {mi : Nat → Nat → Int32} : Fp mi mi := ⟨fun _ _ _ _ _ _ => rfl, fun _ _ _ => rfl⟩
theorem Fp.tr {mi mi' mi'' : Nat → Nat → Int32} (h : Fp mi mi') (h' : Fp mi' mi'') : Fp mi mi'' := ⟨fun a h1 h2 h3 h4 h5 => (h'.1 a h1 h2 h3 h4 h5).trans (h.1 a h1 h2 h3 h4 h5), fun j h1 h2 => (h'.2 j h1 h2).trans (h.2 j h1 h2)⟩
/-- put changes but the text -/
def Fq (mi mi' : Nat → Nat → Int32) : Prop := (∀ a, a ≠ 116 → a ≠ 122 → mi' a = mi a) ∧ ∀ j, j ≠ 9 → j ≠ 10 → mi' 116 j = mi 116 j
theorem Fq.rf {mi : Nat → Nat → Int32} : Fq mi mi := ⟨fun _ _ _ => rfl, fun _ _ _ => rfl⟩
theorem Fq.tr {mi mi' mi'' : Nat → Nat → Int32} (h : Fq mi mi') (h' : Fq mi' mi'') : Fq mi mi'' := ⟨fun a h1 h2 => (h'.1 a h1 h2).trans (h.1 a h1 h2), fun j h1 h2 => (h'.2 j h1 h2).trans (h.2 j h1 h2)⟩
theorem Fq.p {mi mi' : Nat → Nat → Int32} (h : Fq mi mi') : Fp mi mi' := ⟨fun a h1 h2 _ _ _ => h.1 a h1 h2, h.2⟩
theorem len_tx60 {out : Nd} (h : okN 0 out) (h20 : out.length ≤ 20) {p : Nat} (hp : p ≤ edp out) : (tx out p).length + p ≤ 60 := by
  by_cases e : out = []
  · subst e
    have : p = 0 := Nat.le_zero.mp hp
    subst this
    decide
  · have h1 := len_tx out 0 p h e hp
    have h2 := nlb_le out
    have h3 : nxd out 0 = 0 := by
      cases out with
      | nil => rfl
      | cons x r =>
        have : x.2 ≤ 0 := h.1
        show x.2 = 0
        omega
    omega
section U3
variable {l : Launch} {d : Nat} {ml : Nat → Nat → Int64} {mr : Nat → Nat → Option Nat} {S : Rs} {N : Nd} {F : Nat → Fn}
theorem c_m_put (hR : SR mr) (mi : Nat → Nat → Int32) (U : List Nat) (m : Nat) (hO : OTx mi U m) (hU : U.length < 60) (hm20 : m ≤ 20) (c : Nat) (hc : c < 127) : am_T l (d + 2) M_m_put 0 [some (.ref 116), some (.int (nI c))] [] (hm mi ml mr) 0 0 (fun r h' => (isNod c = true ∧ m = 20 ∧ r = some (.int (bI false)) ∧ h' = hm mi ml mr) ∨ (¬ (isNod c = true ∧ m = 20) ∧ r = some (.int (bI true)) ∧ ∃ mi', h' = hm mi' ml mr ∧ OTx mi' (U ++ [c]) (m + (if isNod c then 1 else 0)) ∧ Fq mi mi')) := by
  obtain ⟨o1, o2, o3⟩ := hO
  have s19 : ¬ (isNod c = true ∧ m = 20) → am_T l (d + 2) M_m_put 19 [some (.ref 116), some (.int (nI c))] [] (hm mi ml mr) 0 0 (fun r h' => (isNod c = true ∧ m = 20 ∧ r = some (.int (bI false)) ∧ h' = hm mi ml mr) ∨ (¬ (isNod c = true ∧ m = 20) ∧ r = some (.int (bI true)) ∧ ∃ mi', h' = hm mi' ml mr ∧ OTx mi' (U ++ [c]) (m + (if isNod c then 1 else 0)) ∧ Fq mi mi')) := by
    intro hno
    refine am_aload_n rfl rfl ?_
    refine am_dup rfl rfl ?_
    refine ho_getI rfl (by first | rfl | assumption) rfl ?_
    rw [o2]
    refine am_iload_n rfl rfl ?_
    refine ho_cs1 rfl rfl (Nat.le_of_ble_eq_true rfl) (Nat.le_of_ble_eq_true rfl) (c_m_count c (by omega)) ?_
    rintro v h' ⟨rfl, rfl⟩
    have eb : bI (isNod c) = nI (if isNod c then 1 else 0) := by cases isNod c <;> rfl
    rw [eb]
    first | refine ho_addn rfl ?_ | refine am_iadd rfl ?_
    refine ho_putI rfl (by first | rfl | assumption) rfl rfl ?_
    refine am_aload_n rfl rfl ?_
    refine ho_getR rfl (by first | rfl | assumption) rfl (by first | assumption | exact hR _ _ _ rfl) ?_
    refine am_aload_n rfl rfl ?_
    refine ho_getI rfl (by first | rfl | assumption) rfl ?_
    rw [show up2 mi 116 10 (nI (m + if isNod c = true then 1 else 0)) 116 9 = nI U.length by rw [← o1]; unfold up2; rw [if_neg (by omega)]]
    refine am_iload_n rfl rfl ?_
    have hch : vp_nar .char (nI c) = nI c := am_char_nar (nI_pos' (by omega)) (by have := nI_le (a := c) (b := 65535) (by omega) (by omega); exact this)
    refine ho_castore rfl rfl (by omega) hch ?_
    refine am_aload_n rfl rfl ?_
    refine am_dup rfl rfl ?_
    refine ho_getI rfl (by first | rfl | assumption) rfl ?_
    rw [show up2 (up2 mi 116 10 (nI (m + if isNod c = true then 1 else 0))) 122 U.length (nI c) 116 9 = nI U.length by rw [← o1]; unfold up2; rw [if_neg (by omega), if_neg (by omega)]]
    refine am_iconst (v := nI 1) rfl (by decide) ?_
    first | refine ho_addn rfl ?_ | refine am_iadd rfl ?_
    refine ho_putI rfl (by first | rfl | assumption) rfl rfl ?_
    refine am_iconst (v := nI 1) rfl (by decide) ?_
    refine am_zreturn rfl rfl (Or.inr rfl) (Or.inr ⟨hno, rfl, _, rfl, ⟨?_, ?_, ?_⟩, ?_, ?_⟩)
    · rw [List.length_append]
      simp [up2]
    · unfold up2
      rw [if_neg (by omega), if_neg (by omega), if_pos ⟨rfl, rfl⟩]
    · refine txt_snoc o3 (fun i hi => ?_) ?_
      · unfold up2
        rw [if_neg (by omega), if_neg (by omega), if_neg (by omega)]
      · unfold up2
        rw [if_neg (by omega), if_pos ⟨rfl, rfl⟩]
    · intro a h1 h2
      rw [up2_off _ _ _ h1, up2_off _ _ _ h2, up2_off _ _ _ h1]
    · intro j h1 h2
      unfold up2
      rw [if_neg (by omega), if_neg (by omega), if_neg (by omega)]
  refine am_iload_n rfl rfl ?_
  refine ho_cs1 rfl rfl (Nat.le_of_ble_eq_true rfl) (Nat.le_of_ble_eq_true rfl) (c_m_count c (by omega)) ?_
  rintro v h' ⟨rfl, rfl⟩
  refine am_iconst (v := nI 1) rfl (by decide) ?_
  cases hn : isNod c with
  | false =>
    refine am_icmp_ne rfl (fun _ => ?_) (fun z => absurd z (by decide))
    rw [hn] at s19
    exact s19 (fun q => by cases q.1)
  | true =>
    refine am_icmp_ne rfl (fun z => absurd (by rfl) z) (fun _ => ?_)
    refine am_aload_n rfl rfl ?_
    refine ho_getI rfl (by first | rfl | assumption) rfl ?_
    rw [o2]
    refine am_bipush (v := nI 20) rfl (by decide) ?_
    rw [hn] at s19
    refine ho_icmp_ne rfl (by omega) (by omega) (fun z => s19 (fun q => z q.2)) (fun z => ?_)
    refine am_iconst (v := nI 0) rfl (by decide) ?_
    exact am_zreturn rfl rfl (Or.inl rfl) (Or.inl ⟨rfl, z, rfl, rfl⟩)
theorem c_m_put_full (hR : SR mr) (mi : Nat → Nat → Int32) {m : Nat} (ho : mi 116 10 = nI m) (hm20 : m = 20) (c : Nat) (hc : c < 127) (hn : isNod c = true) : am_T l (d + 2) M_m_put 0 [some (.ref 116), some (.int (nI c))] [] (hm mi ml mr) 0 0 (fun r h' => r = some (.int (bI false)) ∧ h' = hm mi ml mr) := by
  refine am_iload_n rfl rfl ?_
  refine ho_cs1 rfl rfl (Nat.le_of_ble_eq_true rfl) (Nat.le_of_ble_eq_true rfl) (c_m_count c (by omega)) ?_
  rintro v h' ⟨rfl, rfl⟩
  refine am_iconst (v := nI 1) rfl (by decide) ?_
  rw [hn]
  refine am_icmp_ne rfl (fun z => absurd (by rfl) z) (fun _ => ?_)
  refine am_aload_n rfl rfl ?_
  refine ho_getI rfl (by first | rfl | assumption) rfl ?_
  rw [ho]
  refine am_bipush (v := nI 20) rfl (by decide) ?_
  refine ho_icmp_ne rfl (by omega) (by omega) (fun z => absurd hm20 z) (fun _ => ?_)
  refine am_iconst (v := nI 0) rfl (by decide) ?_
  exact am_zreturn rfl rfl (Or.inl rfl) ⟨rfl, rfl⟩
theorem c_m_putHedge (hR : SR mr) (hNo : okN 0 N) (hl : N.length ≤ 12) (mi : Nat → Nat → Int32) (hTN : TNN N mi) (hT : txt mi 120 (tx N 0)) (hL : mi 116 5 = nI (tx N 0).length) (o : Option Nat) (ho : ∀ k, o = some k → k < N.length) (out : Nd) (p : Nat) (hout : okN 0 out) (h20 : out.length ≤ 20) (hp : p ≤ edp out) (hO : OTx mi (tx out p) out.length) : am_T l (d + 3) M_m_putHedge 0 [some (.ref 116), some (.int (noI o)), none, none, none] [] (hm mi ml mr) 0 0 (fun r h' => ∃ mi', h' = hm mi' ml mr ∧ Fq mi mi' ∧ match wL out (seg N o p) with
    | some out' => r = some (.int (bI true)) ∧ OTx mi' (tx out' p) out'.length
    | none => r = some (.int (bI false))) := by
  have h36 := len_tx0 hNo
  refine am_iconst (v := nI 0) rfl (by decide) ?_
  refine am_istore_n rfl (Nat.le_of_ble_eq_true rfl) ?_
  show am_T _ _ _ _ [_, _, some _, _, _] _ _ _ _ _
  refine am_iload_n rfl rfl ?_
  cases o with
  | none =>
    refine am_if_ge rfl (fun z => absurd z (by decide)) (fun _ => ?_)
    refine am_aload_n rfl rfl ?_
    refine ho_getI rfl (by first | rfl | assumption) rfl ?_
    rw [hL]
    refine am_goto rfl ?_
    refine am_istore_n rfl (Nat.le_of_ble_eq_true rfl) ?_
    show am_T _ _ _ _ [_, _, _, some _, _] _ _ _ _ _
    refine am_iload_n rfl rfl ?_
    refine am_aload_n rfl rfl ?_
    refine ho_getI rfl (by first | rfl | assumption) rfl ?_
    rw [hL]
    refine ho_icmp_ge rfl (by omega) (by omega) (fun _ => ?_) (fun z => absurd (Nat.le_refl _) z)
    refine am_iconst (v := nI 1) rfl (by decide) ?_
    exact am_zreturn rfl rfl (Or.inr rfl) ⟨mi, rfl, Fq.rf, rfl, hO⟩
  | some i =>
    have hi := ho i rfl
    refine am_if_ge rfl (fun _ => ?_) (fun z => absurd (nI_pos' (by omega)) z)
    show am_T l (d + 3) M_m_putHedge 13 [_, some (.int (nI i)), _, _, _] _ _ _ _ _
    refine am_aload_n rfl rfl ?_
    refine ho_getR rfl (by first | rfl | assumption) rfl (by first | assumption | exact hR _ _ _ rfl) ?_
    refine am_iload_n rfl rfl ?_
    refine ho_iaload rfl (by first | rfl | assumption) (by omega) ?_
    rw [(hTN.2 i hi).2.1]
    refine am_istore_n rfl (Nat.le_of_ble_eq_true rfl) ?_
    show am_T _ _ _ _ [_, _, _, some _, _] _ _ _ _ _
    have loop : ∀ (f m e g : Nat) (out2 : Nd) (mi2 : Nat → Nat → Int32), (tx N 0).length ≤ pl N m e + f → N.length < m + g → m ≤ N.length → dp N i ≤ e → nxd (N.drop m) 0 ≤ e → e ≤ edp (N.take m) → okN 0 out2 → out2.length ≤ 20 → p + (e - dp N i) ≤ edp out2 → OTx mi2 (tx out2 (p + (e - dp N i))) out2.length → Fq mi mi2 →
        am_T l (d + 3) M_m_putHedge 20 [some (.ref 116), some (.int (nI i)), some (.int (nI (e - dp N i))), some (.int (nI (pl N m e))), none] [] (hm mi2 ml mr) 0 0 (fun r h' => ∃ mi', h' = hm mi' ml mr ∧ Fq mi mi' ∧ match wL out2 (segM N i p g m) with
    | some out' => r = some (.int (bI true)) ∧ OTx mi' (tx out' p) out'.length
    | none => r = some (.int (bI false))) := by
      intro f
      induction f with
      | zero =>
        intro m e g out2 mi2 hf hg hmN h1 h2 h3 ho2 hl2 hpe hO2 hF2
        have hend : m = N.length ∧ e = 0 := by
          rcases Nat.lt_or_ge (nxd (N.drop m) 0) e with z | z
          · have := (pl_close N z h3).2.1
            omega
          · rcases Nat.lt_or_ge m N.length with y | y
            · have h4 : e = dp N m := by have := nxd_at N y; omega
              subst h4
              have := (pl_node N hNo y).2.1
              omega
            · have := nxd_end N y
              exact ⟨by omega, by omega⟩
        obtain ⟨rfl, rfl⟩ := hend
        obtain ⟨g', rfl⟩ : ∃ g', g = g' + 1 := ⟨g - 1, by omega⟩
        rw [segM, if_neg (fun q => by omega), pl_end]
        refine am_iload_n rfl rfl ?_
        refine am_aload_n rfl rfl ?_
        refine ho_getI rfl (by first | rfl | assumption) rfl ?_
        rw [hF2.2 5 (by decide) (by decide), hL]
        refine ho_icmp_ge rfl (by omega) (by omega) (fun _ => ?_) (fun z => absurd (Nat.le_refl _) z)
        refine am_iconst (v := nI 1) rfl (by decide) ?_
        rw [show 0 - dp N i = 0 by omega, Nat.add_zero] at hO2
        exact am_zreturn rfl rfl (Or.inr rfl) ⟨mi2, rfl, hF2, rfl, hO2⟩
      | succ f ih =>
        intro m e g out2 mi2 hf hg hmN h1 h2 h3 ho2 hl2 hpe hO2 hF2
        obtain ⟨g', rfl⟩ : ∃ g', g = g' + 1 := ⟨g - 1, by omega⟩
        have he12 : e ≤ 12 := by have := edp_le hNo hmN; omega
        have hlen60 := len_tx60 ho2 hl2 hpe
        have hL2 : mi2 116 5 = nI (tx N 0).length := by rw [hF2.2 5 (by decide) (by decide)]; exact hL
        have hT2 : ∀ x, x < (tx N 0).length → mi2 120 x = nI ((tx N 0).getD x 0) := fun x hx => by rw [hF2.1 120 (by decide) (by decide)]; exact hT x hx
        rcases Nat.lt_or_ge (nxd (N.drop m) 0) e with z | z
        · obtain ⟨p1, p2, p3⟩ := pl_close N z h3
          refine am_iload_n rfl rfl ?_
          refine am_aload_n rfl rfl ?_
          refine ho_getI rfl (by first | rfl | assumption) rfl ?_
          rw [hL2]
          refine ho_icmp_ge rfl (by omega) (by omega) (fun y => absurd y (by omega)) (fun _ => ?_)
          refine am_iload_n rfl rfl ?_
          refine am_if_lt rfl (fun y => absurd y (nI_pos (by omega))) (fun _ => ?_)
          refine am_aload_n rfl rfl ?_
          refine ho_getR rfl (by first | rfl | assumption) rfl (by first | assumption | exact hR _ _ _ rfl) ?_
          refine am_iload_n rfl rfl ?_
          refine ho_caload rfl rfl (by omega) ?_
          rw [hT2 _ p2, p1]
          refine am_istore rfl (Nat.le_of_ble_eq_true rfl) ?_
          show am_T _ _ _ _ [_, _, _, _, some _] _ _ _ _ _
          refine am_iload rfl rfl ?_
          refine am_bipush (v := nI 91) rfl (by decide) ?_
          refine ho_icmp_ne rfl (by omega) (by omega) (fun _ => ?_) (fun y => absurd y (by decide))
          refine am_iload rfl rfl ?_
          refine am_bipush (v := nI 93) rfl (by decide) ?_
          refine ho_icmp_ne rfl (by omega) (by omega) (fun y => absurd rfl y) (fun _ => ?_)
          rcases Nat.lt_or_ge (dp N i) e with y | y
          · obtain ⟨e', rfl⟩ : ∃ e', e = e' + 1 := ⟨e - 1, by omega⟩
            refine am_iload_n rfl rfl ?_
            refine am_iconst (v := nI 1) rfl (by decide) ?_
            first | refine ho_subn rfl (by omega) ?_ | refine am_isub rfl ?_
            refine am_goto rfl ?_
            refine am_istore_n rfl (Nat.le_of_ble_eq_true rfl) ?_
            show am_T _ _ _ _ [_, _, some _, _, _] _ _ _ _ _
            refine am_iload_n rfl rfl ?_
            rw [show e' + 1 - dp N i - 1 = e' - dp N i by omega]
            refine am_if_lt rfl (fun w => absurd w (nI_pos (by omega))) (fun _ => ?_)
            refine am_aload_n rfl rfl ?_
            refine am_iload rfl rfl ?_
            refine ho_cv1 rfl (by first | rfl | assumption) rfl (Nat.le_of_ble_eq_true rfl) (Nat.le_of_ble_eq_true rfl) (c_m_put hR mi2 _ _ hO2 (by omega) hl2 93 (by decide)) ?_
            rintro v h' (⟨w1, -⟩ | ⟨-, rfl, mi3, rfl, w2, w3⟩)
            · exact absurd w1 (by decide)
            refine am_if_ne rfl (fun _ => ?_) (fun w => by cases w)
            refine am_iinc rfl rfl (nI_inc1 _) ?_
            show am_T _ _ _ _ [_, _, _, some _, _] _ _ _ _ _
            refine am_goto rfl ?_
            refine am_drops [4] ?_
            rw [Nat.add_sub_cancel] at p3
            have etx : tx out2 (p + (e' + 1 - dp N i)) ++ [93] = tx out2 (p + (e' - dp N i)) := by
              rw [tx_close out2 (p + (e' - dp N i)) (by omega), show p + (e' - dp N i) + 1 = p + (e' + 1 - dp N i) by omega]
            have := ih m e' (g' + 1) out2 mi3 (by omega) hg hmN (by omega) (by omega) (by omega) ho2 hl2 (by omega) (by rw [← etx]; exact w2) (hF2.tr w3)
            rw [p3] at this
            exact this
          · have e0 : e - dp N i = 0 := by omega
            have heq : e = dp N i := by omega
            rw [segM, if_neg (fun q => by have := nxd_at N q.1; omega)]
            rw [e0, Nat.add_zero] at hO2
            rw [e0]
            refine am_iload_n rfl rfl ?_
            refine am_iconst (v := nI 1) rfl (by decide) ?_
            refine am_isub rfl ?_
            refine am_goto rfl ?_
            refine am_istore_n rfl (Nat.le_of_ble_eq_true rfl) ?_
            show am_T _ _ _ _ [_, _, some _, _, _] _ _ _ _ _
            refine am_iload_n rfl rfl ?_
            refine am_if_lt rfl (fun _ => ?_) (fun w => absurd (by decide) w)
            refine am_iinc rfl rfl (nI_inc1 _) ?_
            show am_T _ _ _ _ [_, _, _, some _, _] _ _ _ _ _
            refine am_goto rfl ?_
            refine am_iload_n rfl rfl ?_
            refine am_aload_n rfl rfl ?_
            refine ho_getI rfl (by first | rfl | assumption) rfl ?_
            rw [hL2]
            have fin : am_T l (d + 3) M_m_putHedge 89 [some (.ref 116), some (.int (nI i)), some (.int (nI 0 - nI 1)), some (.int (nI (pl N m e + 1))), some (.int (nI 93))] [] (hm mi2 ml mr) 0 0 (fun r h' => ∃ mi', h' = hm mi' ml mr ∧ Fq mi mi' ∧ match wL out2 [] with
    | some out' => r = some (.int (bI true)) ∧ OTx mi' (tx out' p) out'.length
    | none => r = some (.int (bI false))) := by
              refine am_iconst (v := nI 1) rfl (by decide) ?_
              exact am_zreturn rfl rfl (Or.inr rfl) ⟨mi2, rfl, hF2, rfl, hO2⟩
            refine ho_icmp_ge rfl (by omega) (by omega) (fun _ => fin) (fun _ => ?_)
            refine am_iload_n rfl rfl ?_
            refine am_if_lt rfl (fun _ => fin) (fun w => absurd (by decide) w)
        · rcases Nat.lt_or_ge m N.length with y | y
          case inr =>
            have hm' : m = N.length := by omega
            have he0 : e = 0 := by have := nxd_end N y; omega
            subst hm' he0
            rw [segM, if_neg (fun q => by omega), pl_end]
            refine am_iload_n rfl rfl ?_
            refine am_aload_n rfl rfl ?_
            refine ho_getI rfl (by first | rfl | assumption) rfl ?_
            rw [hL2]
            refine ho_icmp_ge rfl (by omega) (by omega) (fun _ => ?_) (fun z => absurd (Nat.le_refl _) z)
            refine am_iconst (v := nI 1) rfl (by decide) ?_
            rw [show 0 - dp N i = 0 by omega, Nat.add_zero] at hO2
            exact am_zreturn rfl rfl (Or.inr rfl) ⟨mi2, rfl, hF2, rfl, hO2⟩
          have hdm : dp N m = e := by have := nxd_at N y; omega
          subst hdm
          obtain ⟨p1, p2, p3, p4⟩ := pl_node N hNo y
          have hnod := cd_nod N 0 m hNo y
          have hbr := nod_br hnod
          have hlb : lb (cd N m) ≤ 1 := by unfold lb; split <;> omega
          rw [segM, if_pos ⟨y, h1⟩, wL]
          refine am_iload_n rfl rfl ?_
          refine am_aload_n rfl rfl ?_
          refine ho_getI rfl (by first | rfl | assumption) rfl ?_
          rw [hL2]
          refine ho_icmp_ge rfl (by omega) (by omega) (fun y => absurd y (by omega)) (fun _ => ?_)
          refine am_iload_n rfl rfl ?_
          refine am_if_lt rfl (fun y => absurd y (nI_pos (by omega))) (fun _ => ?_)
          refine am_aload_n rfl rfl ?_
          refine ho_getR rfl (by first | rfl | assumption) rfl (by first | assumption | exact hR _ _ _ rfl) ?_
          refine am_iload_n rfl rfl ?_
          refine ho_caload rfl rfl (by omega) ?_
          rw [hT2 _ (by omega), p1]
          refine am_istore rfl (Nat.le_of_ble_eq_true rfl) ?_
          show am_T _ _ _ _ [_, _, _, _, some _] _ _ _ _ _
          refine am_iload rfl rfl ?_
          refine am_bipush (v := nI 91) rfl (by decide) ?_
          refine ho_icmp_ne rfl (by omega) (by omega) (fun _ => ?_) (fun y => absurd y hbr.1)
          refine am_iload rfl rfl ?_
          refine am_bipush (v := nI 93) rfl (by decide) ?_
          refine ho_icmp_ne rfl (by omega) (by omega) (fun _ => ?_) (fun y => absurd y hbr.2.1)
          refine am_iload_n rfl rfl ?_
          refine am_istore_n rfl (Nat.le_of_ble_eq_true rfl) ?_
          show am_T _ _ _ _ [_, _, some _, _, _] _ _ _ _ _
          refine am_iload_n rfl rfl ?_
          refine am_if_lt rfl (fun y => absurd y (nI_pos (by omega))) (fun _ => ?_)
          refine am_aload_n rfl rfl ?_
          refine am_iload rfl rfl ?_
          have hroom : (tx out2 (p + (dp N m - dp N i))).length + lb (cd N m) + 1 ≤ 60 ∨ out2.length = 20 := by
            by_cases e20 : out2.length = 20
            · exact Or.inr e20
            · left
              have hok3 : okN 0 (out2 ++ [(cd N m, p + (dp N m - dp N i))]) := okN_snoc0.mpr ⟨ho2, hpe, hnod⟩
              have := len_tx60 hok3 (by rw [List.length_append]; show out2.length + 1 ≤ 20; omega) (p := p + (dp N m - dp N i) + lb (cd N m)) (by rw [edp_app]; exact Nat.le_refl _)
              rw [tx_snoc, List.length_append, len_nt] at this
              have : (tx out2 (p + (dp N m - dp N i))).length + (1 + lb (cd N m) + (p + (dp N m - dp N i) + lb (cd N m) - (p + (dp N m - dp N i) + lb (cd N m)))) + (p + (dp N m - dp N i) + lb (cd N m)) ≤ 60 := this
              omega
          by_cases e20 : out2.length = 20
          · rw [if_neg (by omega)]
            have hU : (tx out2 (p + (dp N m - dp N i))).length < 60 ∨ (tx out2 (p + (dp N m - dp N i))).length = 60 := by omega
            -- no node fits: what put answers then
            refine ho_cv1 rfl (by first | rfl | assumption) rfl (Nat.le_of_ble_eq_true rfl) (Nat.le_of_ble_eq_true rfl) (c_m_put_full hR mi2 hO2.2.1 e20 (cd N m) (by omega) hnod) ?_
            rintro v h' ⟨rfl, rfl⟩
            refine am_if_ne rfl (fun w => absurd rfl w) (fun _ => ?_)
            refine am_iconst (v := nI 0) rfl (by decide) ?_
            exact am_zreturn rfl rfl (Or.inl rfl) ⟨mi2, rfl, hF2, rfl⟩
          have hr60 := hroom.resolve_right e20
          rw [if_pos (by omega)]
          refine ho_cv1 rfl (by first | rfl | assumption) rfl (Nat.le_of_ble_eq_true rfl) (Nat.le_of_ble_eq_true rfl) (c_m_put hR mi2 _ _ hO2 (by omega) hl2 (cd N m) (by omega)) ?_
          rintro v h' (⟨-, w1, -⟩ | ⟨-, rfl, mi3, rfl, w2, w3⟩)
          · exact absurd w1 e20
          refine am_if_ne rfl (fun _ => ?_) (fun w => by cases w)
          refine am_iinc rfl rfl (nI_inc1 _) ?_
          show am_T _ _ _ _ [_, _, _, some _, _] _ _ _ _ _
          refine am_goto rfl ?_
          refine am_drops [4] ?_
          rw [if_pos hnod] at w2
          have hok3 : okN 0 (out2 ++ [(cd N m, dp N m - dp N i + p)]) := okN_snoc0.mpr ⟨ho2, by show dp N m - dp N i + p ≤ _; omega, hnod⟩
          have hl3 : (out2 ++ [(cd N m, dp N m - dp N i + p)]).length = out2.length + 1 := by rw [List.length_append]; rfl
          have hnx : nxd (N.drop (m + 1)) 0 ≤ dp N m + lb (cd N m) := by
            rcases Nat.lt_or_ge (m + 1) N.length with w | w
            · rw [nxd_at N w]
              exact dp_step N 0 m hNo w
            · rw [nxd_end N w]
              exact Nat.zero_le _
          by_cases hlab : isLab (cd N m) = true
          · have hlb1 : lb (cd N m) = 1 := by unfold lb; rw [if_pos hlab]
            rw [hlb1] at p2 p3 hr60 hnx
            have hL3 : mi3 116 5 = nI (tx N 0).length := by rw [w3.2 5 (by decide) (by decide)]; exact hL2
            refine am_iload_n rfl rfl ?_
            refine am_aload_n rfl rfl ?_
            refine ho_getI rfl (by first | rfl | assumption) rfl ?_
            rw [hL3]
            refine ho_icmp_ge rfl (by omega) (by omega) (fun y => absurd y (by omega)) (fun _ => ?_)
            refine am_iload_n rfl rfl ?_
            refine am_if_lt rfl (fun y => absurd y (nI_pos (by omega))) (fun _ => ?_)
            refine am_aload_n rfl rfl ?_
            refine ho_getR rfl (by first | rfl | assumption) rfl (by first | assumption | exact hR _ _ _ rfl) ?_
            refine am_iload_n rfl rfl ?_
            refine ho_caload rfl rfl (by omega) ?_
            rw [w3.1 120 (by decide) (by decide), hT2 _ (by omega), p4 hlab]
            refine am_istore rfl (Nat.le_of_ble_eq_true rfl) ?_
            show am_T _ _ _ _ [_, _, _, _, some _] _ _ _ _ _
            refine am_iload rfl rfl ?_
            refine am_bipush (v := nI 91) rfl (by decide) ?_
            refine ho_icmp_ne rfl (by omega) (by omega) (fun y => absurd rfl y) (fun _ => ?_)
            refine am_iload_n rfl rfl ?_
            refine am_iconst (v := nI 1) rfl (by decide) ?_
            first | refine ho_addn rfl ?_ | refine am_iadd rfl ?_
            refine am_goto rfl ?_
            refine am_istore_n rfl (Nat.le_of_ble_eq_true rfl) ?_
            show am_T _ _ _ _ [_, _, some _, _, _] _ _ _ _ _
            refine am_iload_n rfl rfl ?_
            refine am_if_lt rfl (fun y => absurd y (nI_pos (by omega))) (fun _ => ?_)
            refine am_aload_n rfl rfl ?_
            refine am_iload rfl rfl ?_
            refine ho_cv1 rfl (by first | rfl | assumption) rfl (Nat.le_of_ble_eq_true rfl) (Nat.le_of_ble_eq_true rfl) (c_m_put hR mi3 _ _ w2 (by rw [List.length_append]; show _ + 1 < 60; omega) (by omega) 91 (by decide)) ?_
            rintro v h' (⟨w1, -⟩ | ⟨-, rfl, mi4, rfl, x2, x3⟩)
            · exact absurd w1 (by decide)
            refine am_if_ne rfl (fun _ => ?_) (fun w => by cases w)
            refine am_iinc rfl rfl (nI_inc1 _) ?_
            show am_T _ _ _ _ [_, _, _, some _, _] _ _ _ _ _
            refine am_goto rfl ?_
            refine am_drops [4] ?_
            have etx : tx out2 (p + (dp N m - dp N i)) ++ [cd N m] ++ [91] = tx (out2 ++ [(cd N m, dp N m - dp N i + p)]) (p + (dp N m + 1 - dp N i)) := by
              rw [tx_snoc]
              unfold nt
              show _ = tx out2 (dp N m - dp N i + p) ++ (cd N m :: ((if isLab (cd N m) then [91] else []) ++ List.replicate (dp N m - dp N i + p + lb (cd N m) - (p + (dp N m + 1 - dp N i))) 93))
              rw [if_pos hlab, hlb1, show dp N m - dp N i + p + 1 - (p + (dp N m + 1 - dp N i)) = 0 by omega, show dp N m - dp N i + p = p + (dp N m - dp N i) by omega]
              simp
            have := ih (m + 1) (dp N m + 1) g' (out2 ++ [(cd N m, dp N m - dp N i + p)]) mi4 (by rw [show pl N (m + 1) (dp N m + 1) = pl N m (dp N m) + 1 + 1 from p3]; omega) (by omega) (by omega) (by omega) hnx (by rw [edp_take N y]; omega) hok3 (by omega) (by rw [edp_app]; show _ ≤ dp N m - dp N i + p + lb (cd N m); omega) (by rw [← etx, hl3]; exact x2) ((hF2.tr w3).tr x3)
            rw [show pl N (m + 1) (dp N m + 1) = pl N m (dp N m) + 1 + 1 from p3, show dp N m + 1 - dp N i = dp N m - dp N i + 1 by omega] at this
            exact this
          · have hlb0 : lb (cd N m) = 0 := by unfold lb; rw [if_neg hlab]
            rw [hlb0] at p2 p3 hr60 hnx
            have etx : tx out2 (p + (dp N m - dp N i)) ++ [cd N m] = tx (out2 ++ [(cd N m, dp N m - dp N i + p)]) (p + (dp N m - dp N i)) := by
              rw [tx_snoc]
              unfold nt
              show _ = tx out2 (dp N m - dp N i + p) ++ (cd N m :: ((if isLab (cd N m) then [91] else []) ++ List.replicate (dp N m - dp N i + p + lb (cd N m) - (p + (dp N m - dp N i))) 93))
              rw [if_neg hlab, hlb0, show dp N m - dp N i + p + 0 - (p + (dp N m - dp N i)) = 0 by omega, show dp N m - dp N i + p = p + (dp N m - dp N i) by omega]
              simp
            have := ih (m + 1) (dp N m) g' (out2 ++ [(cd N m, dp N m - dp N i + p)]) mi3 (by rw [show pl N (m + 1) (dp N m) = pl N m (dp N m) + 1 from p3]; omega) (by omega) (by omega) (by omega) hnx (by rw [edp_take N y]; omega) hok3 (by omega) (by rw [edp_app]; show _ ≤ dp N m - dp N i + p + lb (cd N m); omega) (by rw [← etx, hl3]; exact w2) (hF2.tr w3)
            rw [show pl N (m + 1) (dp N m) = pl N m (dp N m) + 1 from p3] at this
            exact this
    have hd : dp N i ≤ edp (N.take i) := by
      have : okN 0 (N.take (i + 1)) := okN_app (M := N.drop (i + 1)) (by rw [List.take_append_drop]; exact hNo)
      rw [take_sN N hi] at this
      exact (okN_snoc0.mp this).2.1
    have := loop (tx N 0).length i (dp N i) (N.length + 1) out mi (by omega) (by omega) (by omega) (Nat.le_refl _) (by rw [nxd_at N hi]; exact Nat.le_refl _) hd hout h20 (by omega) (by rw [Nat.sub_self]; exact hO) Fq.rf
    rw [Nat.sub_self] at this
    exact this
end U3
