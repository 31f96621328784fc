/-! the reference: lay -/
theorem bfo {b : Bool} (h : b = true → False) : b = false := by
  cases b with
  | false => rfl
  | true => exact (h rfl).elim
/-- a text of the reference's store, at n -/
def EN (mi : Nat → Nat → Int32) (n : Nat) (T : List Nat) : Prop := mi 119 n = nI T.length ∧ T.length ≤ 80 ∧ okT T ∧ ∀ i, i < T.length → mi 118 (80 * n + i) = nI (T.getD i 0)
/-- the text of a definition -/
def DT (n : Nat) (D : List Rt) (T : List Nat) : Prop := (D = [] ∧ T = []) ∨ (okD D ∧ T ++ [124] = [65 + n, 61] ++ ptx D)
def layU (mi : Nat → Nat → Int32) (r w : Nat) (wh ct : Int32) : Nat → Nat → Int32 := up2 (up2 (up2 (up2 (up2 mi 123 r (nI w)) 126 r wh) 125 r (nI 0)) 124 r ct) 116 12 (nI (r + 1))
def Fl (mi mi' : Nat → Nat → Int32) : Prop := (∀ a, a ≠ 116 → a ≠ 123 → a ≠ 124 → a ≠ 125 → a ≠ 126 → mi' a = mi a) ∧ ∀ j, j ≠ 12 → mi' 116 j = mi 116 j
theorem Fl.rf {mi : Nat → Nat → Int32} : Fl mi mi := ⟨fun _ _ _ _ _ _ => rfl, fun _ _ => rfl⟩
theorem Fl.tr {mi mi' mi'' : Nat → Nat → Int32} (h : Fl mi mi') (h' : Fl mi' mi'') : Fl mi mi'' :=
  ⟨fun a h1 h2 h3 h4 h5 => (h'.1 a h1 h2 h3 h4 h5).trans (h.1 a h1 h2 h3 h4 h5), fun j hj => (h'.2 j hj).trans (h.2 j hj)⟩
theorem Fl.EN {mi mi' : Nat → Nat → Int32} (h : Fl mi mi') {n : Nat} {T : List Nat} (hE : EN mi n T) : EN mi' n T := by
  refine ⟨?_, hE.2.1, hE.2.2.1, fun i hi => ?_⟩
  · rw [h.1 119 (by decide) (by decide) (by decide) (by decide) (by decide)]
    exact hE.1
  · rw [h.1 118 (by decide) (by decide) (by decide) (by decide) (by decide)]
    exact hE.2.2.2 i hi
theorem layU_F {mi : Nat → Nat → Int32} {r w : Nat} {wh ct : Int32} : Fl mi (layU mi r w wh ct) := by
  refine ⟨fun a h1 h2 h3 h4 h5 => ?_, fun j hj => ?_⟩
  · unfold layU
    rw [up2_off _ _ _ h1, up2_off _ _ _ h3, up2_off _ _ _ h4, up2_off _ _ _ h5, up2_off _ _ _ h2]
  · unfold layU up2
    rw [if_neg (by omega), if_neg (by omega), if_neg (by omega), if_neg (by omega), if_neg (by omega)]
theorem Sof_at {L : List (Rt × Nat)} {e : Rt × Nat} {r : Nat} (h : r < L.length) : (L ++ [e]).getD r ((0, 0, 0), 99) = L.getD r ((0, 0, 0), 99) := by
  rw [List.getD_eq_getElem?_getD, List.getD_eq_getElem?_getD, List.getElem?_append_left h]
theorem Sof_new {L : List (Rt × Nat)} {e : Rt × Nat} : (L ++ [e]).getD L.length ((0, 0, 0), 99) = e := by
  rw [List.getD_eq_getElem?_getD, List.getElem?_append_right (Nat.le_refl _), Nat.sub_self]
  rfl
theorem layU_rep {L : List (Rt × Nat)} {mi : Nat → Nat → Int32} (h : repS (Sof L) mi) {w c x : Nat} {ct : Int32} (hct : 2 ≤ w → w ≤ 5 → ct = nI c) : repS (Sof (L ++ [((w, c, 0), x)])) (layU mi L.length w (woI x) ct) := by
  refine ⟨?_, fun r hr => ?_⟩
  · show up2 _ 116 12 _ 116 12 = nI (L ++ [_]).length
    rw [List.length_append]
    simp [up2]
  · have hr : r < L.length + 1 := by
      have : r < (L ++ [((w, c, 0), x)]).length := hr
      rw [List.length_append] at this
      exact this
    rcases Nat.lt_succ_iff_lt_or_eq.mp hr with q | q
    · have h2 := h.2 r q
      have e : (L ++ [((w, c, 0), x)]).getD r ((0, 0, 0), 99) = L.getD r ((0, 0, 0), 99) := Sof_at q
      show layU mi L.length w (woI x) ct 123 r = nI ((L ++ [((w, c, 0), x)]).getD r ((0, 0, 0), 99)).1.1 ∧ (2 ≤ ((L ++ [((w, c, 0), x)]).getD r ((0, 0, 0), 99)).1.1 → ((L ++ [((w, c, 0), x)]).getD r ((0, 0, 0), 99)).1.1 ≤ 5 → layU mi L.length w (woI x) ct 124 r = nI ((L ++ [((w, c, 0), x)]).getD r ((0, 0, 0), 99)).1.2.1) ∧ layU mi L.length w (woI x) ct 125 r = nI ((L ++ [((w, c, 0), x)]).getD r ((0, 0, 0), 99)).1.2.2 ∧ layU mi L.length w (woI x) ct 126 r = woI ((L ++ [((w, c, 0), x)]).getD r ((0, 0, 0), 99)).2
      rw [e]
      have u : ∀ a, a ≠ 116 → layU mi L.length w (woI x) ct a r = mi a r := by
        intro a ha
        unfold layU up2
        rw [if_neg (by omega), if_neg (by omega), if_neg (by omega), if_neg (by omega), if_neg (by omega)]
      rw [u 123 (by decide), u 124 (by decide), u 125 (by decide), u 126 (by decide)]
      exact h2
    · subst q
      show layU mi L.length w (woI x) ct 123 L.length = nI ((L ++ [((w, c, 0), x)]).getD L.length ((0, 0, 0), 99)).1.1 ∧ (2 ≤ ((L ++ [((w, c, 0), x)]).getD L.length ((0, 0, 0), 99)).1.1 → ((L ++ [((w, c, 0), x)]).getD L.length ((0, 0, 0), 99)).1.1 ≤ 5 → layU mi L.length w (woI x) ct 124 L.length = nI ((L ++ [((w, c, 0), x)]).getD L.length ((0, 0, 0), 99)).1.2.1) ∧ layU mi L.length w (woI x) ct 125 L.length = nI ((L ++ [((w, c, 0), x)]).getD L.length ((0, 0, 0), 99)).1.2.2 ∧ layU mi L.length w (woI x) ct 126 L.length = woI ((L ++ [((w, c, 0), x)]).getD L.length ((0, 0, 0), 99)).2
      rw [Sof_new]
      unfold layU
      refine ⟨by simp [up2], fun a b => ?_, by simp [up2], by simp [up2]⟩
      rw [← hct a b]
      simp [up2]
theorem mark_rep {L : List (Rt × Nat)} {mi : Nat → Nat → Int32} {w c x m : Nat} (h : repS (Sof (L ++ [((w, c, 0), x)])) mi) : repS (Sof (L ++ [((w, c, m), x)])) (up2 mi 125 L.length (nI m)) := by
  refine ⟨?_, fun r hr => ?_⟩
  · rw [up2_off _ _ _ (by decide)]
    have := h.1
    show _ = nI (L ++ [_]).length
    rw [List.length_append]
    rw [show mi 116 12 = nI (L ++ [((w, c, 0), x)]).length from this, List.length_append]
    rfl
  · have hr : r < L.length + 1 := by
      have : r < (L ++ [((w, c, m), x)]).length := hr
      rw [List.length_append] at this
      exact this
    have h2 := h.2 r (by show r < (L ++ [_]).length; rw [List.length_append]; exact hr)
    have h2 : mi 123 r = nI ((L ++ [((w, c, 0), x)]).getD r ((0, 0, 0), 99)).1.1 ∧ (2 ≤ ((L ++ [((w, c, 0), x)]).getD r ((0, 0, 0), 99)).1.1 → ((L ++ [((w, c, 0), x)]).getD r ((0, 0, 0), 99)).1.1 ≤ 5 → mi 124 r = nI ((L ++ [((w, c, 0), x)]).getD r ((0, 0, 0), 99)).1.2.1) ∧ mi 125 r = nI ((L ++ [((w, c, 0), x)]).getD r ((0, 0, 0), 99)).1.2.2 ∧ mi 126 r = woI ((L ++ [((w, c, 0), x)]).getD r ((0, 0, 0), 99)).2 := h2
    show up2 mi 125 L.length (nI m) 123 r = nI ((L ++ [((w, c, m), x)]).getD r ((0, 0, 0), 99)).1.1 ∧ (2 ≤ ((L ++ [((w, c, m), x)]).getD r ((0, 0, 0), 99)).1.1 → ((L ++ [((w, c, m), x)]).getD r ((0, 0, 0), 99)).1.1 ≤ 5 → up2 mi 125 L.length (nI m) 124 r = nI ((L ++ [((w, c, m), x)]).getD r ((0, 0, 0), 99)).1.2.1) ∧ up2 mi 125 L.length (nI m) 125 r = nI ((L ++ [((w, c, m), x)]).getD r ((0, 0, 0), 99)).1.2.2 ∧ up2 mi 125 L.length (nI m) 126 r = woI ((L ++ [((w, c, m), x)]).getD r ((0, 0, 0), 99)).2
    rw [up2_off _ _ _ (show (123 : Nat) ≠ 125 by decide), up2_off _ _ _ (show (124 : Nat) ≠ 125 by decide), up2_off _ _ _ (show (126 : Nat) ≠ 125 by decide)]
    rcases Nat.lt_succ_iff_lt_or_eq.mp hr with q | q
    · rw [Sof_at q] at h2 ⊢
      refine ⟨h2.1, h2.2.1, ?_, h2.2.2.2⟩
      rw [← h2.2.2.1]
      unfold up2
      rw [if_neg (by omega)]
    · subst q
      rw [Sof_new] at h2 ⊢
      exact ⟨h2.1, h2.2.1, by simp [up2], h2.2.2.2⟩
section M9
variable {l : Launch} {d : Nat} {ml : Nat → Nat → Int64} {mr : Nat → Nat → Option Nat}
theorem c_m_lay_151 (hR : SR mr) (mi : Nat → Nat → Int32) (n i r c w : Nat) (b : Bool) (ct : Int32) (hn : n < 6) (hc : c < 127) (hi : i < 90) (hr : r < 64) (hmi : mi 116 12 = nI r) (hct : isLab c = true → mi 118 (80 * n + i + 2) - nI 65 = ct ∧ i + 2 < 80) (hct2 : isLab c = false → ct = -1) {Q : Option Value → am_H → Prop}
    (k : am_T l (d + 1) M_m_lay 278 [some (.ref 116), some (.int (nI n)), some (.int (bI (decide (c = 124) || isNam c))), some (.int (nI (i + (if isLab c then 3 else if isNam c then 1 else 0)))), some (.int (nI c))] [] (hm (layU mi r w (woI (if b then n else 99)) ct) ml mr) 0 0 Q) :
    am_T l (d + 1) M_m_lay 151 [some (.ref 116), some (.int (nI n)), some (.int (bI b)), some (.int (nI i)), some (.int (nI c))] [.int (nI w), .int (nI r), .ref 123] (hm mi ml mr) 0 0 Q := by
  have s217 : am_T l (d + 1) M_m_lay 217 [some (.ref 116), some (.int (nI n)), some (.int (bI b)), some (.int (nI i)), some (.int (nI c))] [] (hm (up2 (up2 (up2 (up2 mi 123 r (nI w)) 126 r (woI (if b then n else 99))) 125 r (nI 0)) 124 r ct) ml mr) 0 0 Q := by
    have s237 : ∀ p : Bool, p = (decide (c = 124) || isNam c) → am_T l (d + 1) M_m_lay 237 [some (.ref 116), some (.int (nI n)), some (.int (bI b)), some (.int (nI i)), some (.int (nI c))] [.int (bI p)] (hm (up2 (up2 (up2 (up2 mi 123 r (nI w)) 126 r (woI (if b then n else 99))) 125 r (nI 0)) 124 r ct) ml mr) 0 0 Q := by
      intro p hp
      refine am_istore_n rfl (Nat.le_of_ble_eq_true rfl) ?_
      show am_T _ _ _ _ [_, _, some _, _, _] _ _ _ _ _
      refine am_iload rfl rfl ?_
      have s267 : ∀ j : Nat, j = i + (if isLab c then 3 else if isNam c then 1 else 0) → am_T l (d + 1) M_m_lay 267 [some (.ref 116), some (.int (nI n)), some (.int (bI p)), some (.int (nI i)), some (.int (nI c))] [.int (nI j)] (hm (up2 (up2 (up2 (up2 mi 123 r (nI w)) 126 r (woI (if b then n else 99))) 125 r (nI 0)) 124 r ct) ml mr) 0 0 Q := by
        intro j hj
        refine am_istore_n rfl (Nat.le_of_ble_eq_true rfl) ?_
        show am_T _ _ _ _ [_, _, _, some _, _] _ _ _ _ _
        refine am_aload_n rfl rfl ?_
        refine am_dup rfl rfl ?_
        refine ho_getI rfl (by first | rfl | assumption) rfl ?_
        rw [up2_off _ _ _ (show (116 : Nat) ≠ 124 by decide), up2_off _ _ _ (show (116 : Nat) ≠ 125 by decide), up2_off _ _ _ (show (116 : Nat) ≠ 126 by decide), up2_off _ _ _ (show (116 : Nat) ≠ 123 by decide), hmi]
        refine am_iconst (v := nI 1) rfl (by decide) ?_
        first | refine ho_addn rfl ?_ | refine am_iadd rfl ?_
        refine ho_putI rfl (by first | rfl | assumption) rfl rfl ?_
        rw [hp, hj]
        exact k
      refine ho_cs1 rfl rfl (Nat.le_of_ble_eq_true rfl) (Nat.le_of_ble_eq_true rfl) (c_m_label c (by omega)) ?_
      rintro v h' ⟨rfl, rfl⟩
      refine am_if_eq rfl (fun z => ?_) (fun z => ?_)
      · have z := (bI_eq _).mp z
        refine am_iload rfl rfl ?_
        refine ho_cs1 rfl rfl (Nat.le_of_ble_eq_true rfl) (Nat.le_of_ble_eq_true rfl) (c_m_name c (by omega)) ?_
        rintro v h' ⟨rfl, rfl⟩
        refine am_if_eq rfl (fun z2 => ?_) (fun z2 => ?_)
        · have z2 := (bI_eq _).mp z2
          refine am_iload_n rfl rfl ?_
          exact s267 i (by rw [z, z2]; rfl)
        · have z2 := (bI_ne _).mp z2
          refine am_iload_n rfl rfl ?_
          refine am_iconst (v := nI 1) rfl (by decide) ?_
          first | refine ho_addn rfl ?_ | refine am_iadd rfl ?_
          refine am_goto rfl ?_
          exact s267 (i + 1) (by rw [z, z2]; rfl)
      · have z := (bI_ne _).mp z
        refine am_iload_n rfl rfl ?_
        refine am_iconst (v := nI 3) rfl (by decide) ?_
        first | refine ho_addn rfl ?_ | refine am_iadd rfl ?_
        refine am_goto rfl ?_
        exact s267 (i + 3) (by rw [z]; rfl)
    refine am_iload rfl rfl ?_
    refine am_bipush (v := nI 124) rfl (by decide) ?_
    refine ho_icmp_eq rfl (by omega) (by omega) (fun z => ?_) (fun z => ?_)
    · refine am_iconst (v := nI 1) rfl (by decide) ?_
      refine am_goto rfl ?_
      exact s237 true (by rw [decide_eq_true z]; rfl)
    refine am_iload rfl rfl ?_
    refine ho_cs1 rfl rfl (Nat.le_of_ble_eq_true rfl) (Nat.le_of_ble_eq_true rfl) (c_m_name c (by omega)) ?_
    rintro v h' ⟨rfl, rfl⟩
    refine am_if_eq rfl (fun z2 => ?_) (fun z2 => ?_)
    · refine am_iconst (v := nI 0) rfl (by decide) ?_
      exact s237 false (by rw [decide_eq_false z, (bI_eq _).mp z2]; rfl)
    · refine am_iconst (v := nI 1) rfl (by decide) ?_
      refine am_goto rfl ?_
      exact s237 true (by rw [(bI_ne _).mp z2, Bool.or_true])
  have s170 : am_T l (d + 1) M_m_lay 170 [some (.ref 116), some (.int (nI n)), some (.int (bI b)), some (.int (nI i)), some (.int (nI c))] [] (hm (up2 (up2 mi 123 r (nI w)) 126 r (woI (if b then n else 99))) ml mr) 0 0 Q := by
    refine am_aload_n rfl rfl ?_
    refine ho_getR rfl (by first | rfl | assumption) rfl (by first | assumption | exact hR _ _ _ rfl) ?_
    refine am_aload_n rfl rfl ?_
    refine ho_getI rfl (by first | rfl | assumption) rfl ?_
    rw [up2_off _ _ _ (show (116 : Nat) ≠ 126 by decide), up2_off _ _ _ (show (116 : Nat) ≠ 123 by decide), hmi]
    refine am_iconst (v := nI 0) rfl (by decide) ?_
    refine ho_iastore rfl (by first | rfl | assumption) (by omega) ?_
    refine am_aload_n rfl rfl ?_
    refine ho_getR rfl (by first | rfl | assumption) rfl (by first | assumption | exact hR _ _ _ rfl) ?_
    refine am_aload_n rfl rfl ?_
    refine ho_getI rfl (by first | rfl | assumption) rfl ?_
    rw [up2_off _ _ _ (show (116 : Nat) ≠ 125 by decide), up2_off _ _ _ (show (116 : Nat) ≠ 126 by decide), up2_off _ _ _ (show (116 : Nat) ≠ 123 by decide), hmi]
    refine am_iload rfl rfl ?_
    refine ho_cs1 rfl rfl (Nat.le_of_ble_eq_true rfl) (Nat.le_of_ble_eq_true rfl) (c_m_label c (by omega)) ?_
    rintro v h' ⟨rfl, rfl⟩
    refine am_if_eq rfl (fun z => ?_) (fun z => ?_)
    · refine am_iconst (v := -1) rfl (by decide) ?_
      refine ho_iastore rfl (by first | rfl | assumption) (by omega) ?_
      rw [← hct2 ((bI_eq _).mp z)]
      exact s217
    · have hz := hct ((bI_ne _).mp z)
      have h2 := hz.2
      refine am_aload_n rfl rfl ?_
      refine ho_getR rfl (by first | rfl | assumption) rfl (by first | assumption | exact hR _ _ _ rfl) ?_
      refine am_bipush (v := nI 80) rfl (by decide) ?_
      refine am_iload_n rfl rfl ?_
      first | refine ho_muln rfl ?_ | refine am_imul rfl ?_
      refine am_iload_n rfl rfl ?_
      first | refine ho_addn rfl ?_ | refine am_iadd rfl ?_
      refine am_iconst (v := nI 2) rfl (by decide) ?_
      first | refine ho_addn rfl ?_ | refine am_iadd rfl ?_
      refine ho_caload rfl (by first | rfl | assumption) (by omega) ?_
      rw [up2_off _ _ _ (show (118 : Nat) ≠ 125 by decide), up2_off _ _ _ (show (118 : Nat) ≠ 126 by decide), up2_off _ _ _ (show (118 : Nat) ≠ 123 by decide)]
      refine am_bipush (v := nI 65) rfl (by decide) ?_
      refine am_isub rfl ?_
      rw [hz.1]
      refine am_goto rfl ?_
      refine ho_iastore rfl (by first | rfl | assumption) (by omega) ?_
      exact s217
  refine ho_iastore rfl (by first | rfl | assumption) (by omega) ?_
  refine am_aload_n rfl rfl ?_
  refine ho_getR rfl (by first | rfl | assumption) rfl (by first | assumption | exact hR _ _ _ rfl) ?_
  refine am_aload_n rfl rfl ?_
  refine ho_getI rfl (by first | rfl | assumption) rfl ?_
  rw [up2_off _ _ _ (show (116 : Nat) ≠ 123 by decide), hmi]
  refine am_iload_n rfl rfl ?_
  cases b with
  | true =>
    refine am_if_eq rfl (fun z => by cases z) (fun _ => ?_)
    refine am_iload_n rfl rfl ?_
    refine am_goto rfl ?_
    refine ho_iastore rfl (by first | rfl | assumption) (by omega) ?_
    have e : woI (if true then n else 99) = nI n := by
      show woI n = nI n
      unfold woI
      rw [if_pos hn]
    rw [e] at s170
    exact s170
  | false =>
    refine am_if_eq rfl (fun _ => ?_) (fun z => absurd rfl z)
    refine am_iconst (v := -1) rfl (by decide) ?_
    refine ho_iastore rfl (by first | rfl | assumption) (by omega) ?_
    exact s170
/-- which character begins a rest -/
def rc (r : Rt) : Nat := if r.1 = 0 then 124 else if r.1 = 1 then 35 else if r.1 < 10 then r.1 + 95 else r.1 + 55
theorem itx_rc (r : Rt) : (itx r).getD 0 0 = rc r ∧ 1 ≤ (itx r).length := by
  unfold itx rc
  split
  · exact ⟨rfl, Nat.le_refl _⟩
  · split
    · exact ⟨rfl, by simp⟩
    · split
      · exact ⟨rfl, by simp⟩
      · exact ⟨rfl, by simp⟩
abbrev rcP (w : Nat) : Prop := rc (w, 0, 0) < 127 ∧ rc (w, 0, 0) ≠ 42 ∧ rc (w, 0, 0) ≠ 63 ∧ (decide (rc (w, 0, 0) = 124) || isNam (rc (w, 0, 0))) = isE (w, 0, 0) ∧ (isLab (rc (w, 0, 0)) = true ↔ 2 ≤ w ∧ w ≤ 5) ∧ (isNam (rc (w, 0, 0)) = true ↔ 10 ≤ w) ∧ (rc (w, 0, 0) = 124 ↔ w = 0) ∧ (rc (w, 0, 0) = 35 ↔ w = 1)
theorem rcP_all : ∀ w, w < 16 → w < 6 ∨ 10 ≤ w → rcP w := by decide
theorem rc_r {r : Rt} (h : okR r) : rc r < 127 ∧ rc r ≠ 42 ∧ rc r ≠ 63 ∧ (decide (rc r = 124) || isNam (rc r)) = isE r ∧ (isLab (rc r) = true ↔ 2 ≤ r.1 ∧ r.1 ≤ 5) ∧ (isNam (rc r) = true ↔ 10 ≤ r.1) ∧ (rc r = 124 ↔ r.1 = 0) ∧ (rc r = 35 ↔ r.1 = 1) := by
  obtain ⟨w, c, m⟩ := r
  have h1 : w = 0 ∨ (1 ≤ w ∧ w ≤ 5) ∨ (10 ≤ w ∧ w < 16) := h.1
  exact rcP_all w (by omega) (by omega)
theorem getD_mid (A B C : List Nat) {j : Nat} (h : j < B.length) : (A ++ (B ++ C)).getD (A.length + j) 0 = B.getD j 0 := by
  rw [getD_app2, getD_app1 _ _ h]
theorem c_m_lay_95 (hR : SR mr) (mi : Nat → Nat → Int32) (n i q : Nat) (r : Rt) (b : Int32) (hok : okR r) (hq : q < 64) (hmi : mi 116 12 = nI q) {Q : Option Value → am_H → Prop}
    (k : am_T l (d + 1) M_m_lay 151 [some (.ref 116), some (.int (nI n)), some (.int b), some (.int (nI i)), some (.int (nI (rc r)))] [.int (nI r.1), .int (nI q), .ref 123] (hm mi ml mr) 0 0 Q) :
    am_T l (d + 1) M_m_lay 95 [some (.ref 116), some (.int (nI n)), some (.int b), some (.int (nI i)), some (.int (nI (rc r)))] [] (hm mi ml mr) 0 0 Q := by
  obtain ⟨r1, r2, r3, r4, r5, r6, r7, r8⟩ := rc_r hok
  refine am_aload_n rfl rfl ?_
  refine ho_getR rfl (by first | rfl | assumption) rfl (by first | assumption | exact hR _ _ _ rfl) ?_
  refine am_aload_n rfl rfl ?_
  refine ho_getI rfl (by first | rfl | assumption) rfl ?_
  rw [hmi]
  refine am_iload rfl rfl ?_
  refine am_bipush (v := nI 124) rfl (by decide) ?_
  refine ho_icmp_ne rfl (by omega) (by omega) (fun z => ?_) (fun z => ?_)
  case refine_2 =>
    refine am_iconst (v := nI 0) rfl (by decide) ?_
    refine am_goto rfl ?_
    rw [r7.mp z] at k
    exact k
  refine am_iload rfl rfl ?_
  refine am_bipush (v := nI 35) rfl (by decide) ?_
  refine ho_icmp_ne rfl (by omega) (by omega) (fun z2 => ?_) (fun z2 => ?_)
  case refine_2 =>
    refine am_iconst (v := nI 1) rfl (by decide) ?_
    refine am_goto rfl ?_
    rw [r8.mp z2] at k
    exact k
  have hw0 : ¬ r.1 = 0 := fun e => z (r7.mpr e)
  have hw1 : ¬ r.1 = 1 := fun e => z2 (r8.mpr e)
  refine am_iload rfl rfl ?_
  refine ho_cs1 rfl rfl (Nat.le_of_ble_eq_true rfl) (Nat.le_of_ble_eq_true rfl) (c_m_label (rc r) (by omega)) ?_
  rintro v h' ⟨rfl, rfl⟩
  refine am_if_eq rfl (fun z3 => ?_) (fun z3 => ?_)
  · have z3 := (bI_eq _).mp z3
    have h10 : 10 ≤ r.1 := by
      have := hok.1
      rcases this with e | e | e
      · exact absurd e hw0
      · rw [r5.mpr ⟨by omega, e.2⟩] at z3
        cases z3
      · exact e.1
    have hrc : rc r = r.1 + 55 := by
      unfold rc
      rw [if_neg hw0, if_neg hw1, if_neg (by omega)]
    rw [hrc] at k ⊢
    refine am_bipush (v := nI 10) rfl (by decide) ?_
    refine am_iload rfl rfl ?_
    first | refine ho_addn rfl ?_ | refine am_iadd rfl ?_
    refine am_bipush (v := nI 65) rfl (by decide) ?_
    first | refine ho_subn rfl (by omega) ?_ | refine am_isub rfl ?_
    rw [show 10 + (r.1 + 55) - 65 = r.1 by omega]
    exact k
  · have z3 := r5.mp ((bI_ne _).mp z3)
    have hrc : rc r = r.1 + 95 := by
      unfold rc
      rw [if_neg hw0, if_neg hw1, if_pos (by omega)]
    rw [hrc] at k ⊢
    refine am_iconst (v := nI 2) rfl (by decide) ?_
    refine am_iload rfl rfl ?_
    first | refine ho_addn rfl ?_ | refine am_iadd rfl ?_
    refine am_bipush (v := nI 97) rfl (by decide) ?_
    first | refine ho_subn rfl (by omega) ?_ | refine am_isub rfl ?_
    refine am_goto rfl ?_
    rw [show 2 + (r.1 + 95) - 97 = r.1 by omega]
    exact k
theorem U_lt {T : List Nat} {i : Nat} (h : i < T.length) : (T ++ [124]).getD i 0 = T.getD i 0 := getD_app1 _ _ h
theorem c_m_lay_c (hR : SR mr) (mi : Nat → Nat → Int32) (n i : Nat) (b : Int32) (T : List Nat) (hn : n < 6) (hE : EN mi n T) (hi : i ≤ T.length) {Q : Option Value → am_H → Prop}
    (k : am_T l (d + 1) M_m_lay 55 [some (.ref 116), some (.int (nI n)), some (.int b), some (.int (nI i)), some (.int (nI ((T ++ [124]).getD i 0)))] [] (hm mi ml mr) 0 0 Q) :
    am_T l (d + 1) M_m_lay 17 [some (.ref 116), some (.int (nI n)), some (.int b), some (.int (nI i)), none] [] (hm mi ml mr) 0 0 Q := by
  have h80 := hE.2.1
  refine am_iload_n rfl rfl ?_
  refine am_aload_n rfl rfl ?_
  refine ho_getR rfl (by first | rfl | assumption) rfl (by first | assumption | exact hR _ _ _ rfl) ?_
  refine am_iload_n rfl rfl ?_
  refine ho_iaload rfl (by first | rfl | assumption) (by omega) ?_
  rw [hE.1]
  refine ho_icmp_gt rfl (by omega) (by omega) (fun z => absurd z (by omega)) (fun _ => ?_)
  refine am_iload_n rfl rfl ?_
  refine am_aload_n rfl rfl ?_
  refine ho_getR rfl (by first | rfl | assumption) rfl (by first | assumption | exact hR _ _ _ rfl) ?_
  refine am_iload_n rfl rfl ?_
  refine ho_iaload rfl (by first | rfl | assumption) (by omega) ?_
  rw [hE.1]
  refine ho_icmp_ge rfl (by omega) (by omega) (fun z => ?_) (fun z => ?_)
  · refine am_bipush (v := nI 124) rfl (by decide) ?_
    refine am_istore rfl (Nat.le_of_ble_eq_true rfl) ?_
    show am_T _ _ _ _ [_, _, _, _, some _] _ _ _ _ _
    have e : i = T.length := by omega
    subst e
    rw [show T.length = T.length + 0 from rfl, getD_app2] at k
    exact k
  · refine am_aload_n rfl rfl ?_
    refine ho_getR rfl (by first | rfl | assumption) rfl (by first | assumption | exact hR _ _ _ rfl) ?_
    refine am_bipush (v := nI 80) rfl (by decide) ?_
    refine am_iload_n rfl rfl ?_
    first | refine ho_muln rfl ?_ | refine am_imul rfl ?_
    refine am_iload_n rfl rfl ?_
    first | refine ho_addn rfl ?_ | refine am_iadd rfl ?_
    refine ho_caload rfl (by first | rfl | assumption) (by omega) ?_
    rw [hE.2.2.2 i (by omega)]
    refine am_goto rfl ?_
    refine am_istore rfl (Nat.le_of_ble_eq_true rfl) ?_
    show am_T _ _ _ _ [_, _, _, _, some _] _ _ _ _ _
    rw [U_lt (by omega)] at k
    exact k
theorem c_m_lay_in (hR : SR mr) (n : Nat) (D : List Rt) (T : List Nat) (L : List (Rt × Nat)) (mi0 : Nat → Nat → Int32) (hn : n < 6) (hD : ∀ r ∈ D, okR r) (hT : T ++ [124] = [65 + n, 61] ++ ptx D) (h64 : L.length + D.length ≤ 64) {Q : Option Value → am_H → Prop}
    (hout : ∀ (mi : Nat → Nat → Int32) (i : Nat) (b : Int32), repS (Sof (L ++ tg n true D)) mi → Fl mi0 mi → am_T l (d + 1) M_m_lay 284 [some (.ref 116), some (.int (nI n)), some (.int b), some (.int (nI i)), none] [] (hm mi ml mr) 0 0 Q) :
    ∀ (R P : List Rt) (mi : Nat → Nat → Int32), D = P ++ R → repS (Sof (L ++ tg n true P)) mi → EN mi n T → Fl mi0 mi → am_T l (d + 1) M_m_lay 17 [some (.ref 116), some (.int (nI n)), some (.int (bI (st true P))), some (.int (nI (2 + (ptx P).length))), none] [] (hm mi ml mr) 0 0 Q := by
  have hTl : T.length + 1 = 2 + (ptx D).length := by
    have := congrArg List.length hT
    rw [List.length_append, List.length_append] at this
    exact this
  intro R
  induction R with
  | nil =>
    intro P mi hP hr hE hF
    have h80 := hE.2.1
    rw [List.append_nil] at hP
    subst hP
    refine am_iload_n rfl rfl ?_
    refine am_aload_n rfl rfl ?_
    refine ho_getR rfl (by first | rfl | assumption) rfl (by first | assumption | exact hR _ _ _ rfl) ?_
    refine am_iload_n rfl rfl ?_
    refine ho_iaload rfl (by first | rfl | assumption) (by omega) ?_
    rw [hE.1]
    refine ho_icmp_gt rfl (by omega) (by omega) (fun _ => ?_) (fun z => absurd (by omega) z)
    exact hout mi _ _ hr hF
  | cons r R ih =>
    intro P mi hP hr hE hF
    have h80 := hE.2.1
    have hok : okR r := hD r (by rw [hP]; simp)
    obtain ⟨r1, r2, r3, r4, r5, r6, r7, r8⟩ := rc_r hok
    obtain ⟨x1, x2⟩ := itx_rc r
    have hU : T ++ [124] = ([65 + n, 61] ++ ptx P) ++ (itx r ++ ptx R) := by
      rw [hT, hP, show P ++ r :: R = P ++ ([r] ++ R) from rfl, ptx_app, ptx_app, ptx_one, List.append_assoc]
    have hlen : 2 + (ptx P).length + (itx r).length + (ptx R).length = T.length + 1 := by
      have := congrArg List.length hU
      rw [List.length_append, List.length_append, List.length_append, List.length_append] at this
      have h2 : [65 + n, 61].length = 2 := rfl
      have h3 : [124].length = 1 := rfl
      omega
    have hU2 : ∀ j, j < (itx r).length → (T ++ [124]).getD (2 + (ptx P).length + j) 0 = (itx r).getD j 0 := by
      intro j hj
      rw [hU, show 2 + (ptx P).length + j = ([65 + n, 61] ++ ptx P).length + j by rw [List.length_append]; rfl]
      exact getD_mid _ _ _ hj
    have hc0 : (T ++ [124]).getD (2 + (ptx P).length) 0 = rc r := by
      have := hU2 0 (by omega)
      rw [x1] at this
      exact this
    have hq : (L ++ tg n true P).length < 64 := by
      rw [List.length_append, tg_len]
      have := congrArg List.length hP
      rw [List.length_append, List.length_cons] at this
      omega
    refine c_m_lay_c hR mi n _ _ T hn hE (by omega) ?_
    rw [hc0]
    refine am_iload rfl rfl ?_
    refine am_bipush (v := nI 42) rfl (by decide) ?_
    refine ho_icmp_eq rfl (by omega) (by omega) (fun z => absurd z r2) (fun _ => ?_)
    refine am_iload rfl rfl ?_
    refine am_bipush (v := nI 63) rfl (by decide) ?_
    refine ho_icmp_ne rfl (by omega) (by omega) (fun _ => ?_) (fun z => absurd z r3)
    refine c_m_lay_95 hR mi n _ _ r _ hok hq hr.1 ?_
    have hlab : isLab (rc r) = true → (itx r) = [r.1 + 95, 91, r.2.1 + 65, 93] ++ mkx r.2.2 := by
      intro z
      have z := r5.mp z
      unfold itx
      rw [if_neg (by omega), if_neg (by omega), if_pos (by omega)]
    refine c_m_lay_151 hR mi n _ _ (rc r) r.1 (st true P) (if isLab (rc r) then nI r.2.1 else -1) hn (by omega) (by omega) hq hr.1 (fun z => ?_) (fun z => by rw [z]; rfl) ?_
    · have e := hlab z
      have e2 : 4 ≤ (itx r).length := by rw [e, List.length_append]; simp
      have e3 := hU2 2 (by omega)
      rw [U_lt (by omega), e] at e3
      have e4 := hE.2.2.2 (2 + (ptx P).length + 2) (by omega)
      rw [e3] at e4
      refine ⟨?_, by omega⟩
      rw [show 80 * n + (2 + (ptx P).length) + 2 = 80 * n + (2 + (ptx P).length + 2) by omega, e4, if_pos z]
      show nI (r.2.1 + 65) - nI 65 = _
      rw [nI_subn (by omega), Nat.add_sub_cancel]
    have hE' : ∀ wh ct, EN (layU mi (L ++ tg n true P).length r.1 wh ct) n T := fun wh ct => layU_F.EN hE
    have hrep := layU_rep hr (w := r.1) (c := r.2.1) (x := if st true P then n else 99) (ct := if isLab (rc r) then nI r.2.1 else -1) (fun a b => by rw [if_pos (r5.mpr ⟨a, b⟩)])
    have hF' : ∀ wh ct, Fl mi0 (layU mi (L ++ tg n true P).length r.1 wh ct) := fun wh ct => hF.tr layU_F
    rw [r4]
    refine am_iinc rfl rfl (nI_inc1 _) ?_
    show am_T _ _ _ _ [_, _, _, some _, _] _ _ _ _ _
    refine am_goto rfl ?_
    refine am_drops [4] ?_
    show am_T _ _ _ _ [_, _, _, some (.int (nI _)), none] _ _ _ _ _
    have hend : r.2.2 = 0 → (itx r).length = (if isLab (rc r) then 3 else if isNam (rc r) then 1 else 0) + 1 := by
      intro e
      unfold itx
      rcases hok.1 with q | q | q
      · rw [if_pos q, show isLab (rc r) = false from bfo (fun hz => absurd (r5.mp hz).1 (by omega)), show isNam (rc r) = false from bfo (fun hz => absurd (r6.mp hz) (by omega))]
        rfl
      · rw [if_neg (by omega), show isNam (rc r) = false from bfo (fun hz => absurd (r6.mp hz) (by omega))]
        by_cases h1 : r.1 = 1
        · rw [if_pos h1, show isLab (rc r) = false from bfo (fun hz => absurd (r5.mp hz).1 (by omega)), e]
          rfl
        · rw [if_neg h1, if_pos (by omega), r5.mpr ⟨by omega, q.2⟩, e]
          rfl
      · rw [if_neg (by omega), if_neg (by omega), if_neg (by omega), r6.mpr q.1, show isLab (rc r) = false from bfo (fun hz => absurd (r5.mp hz).2 (by omega))]
        rfl
    by_cases hm0 : r.2.2 = 0
    · have := ih (P ++ [r]) (layU mi (L ++ tg n true P).length r.1 (woI (if st true P then n else 99)) (if isLab (rc r) then nI r.2.1 else -1)) (by rw [hP]; simp) ?_ (hE' _ _) (hF' _ _)
      · rw [st_snoc, ptx_app, ptx_one, List.length_append, hend hm0] at this
        rw [show 2 + (ptx P).length + (if isLab (rc r) = true then 3 else if isNam (rc r) = true then 1 else 0) + 1 = 2 + ((ptx P).length + ((if isLab (rc r) = true then 3 else if isNam (rc r) = true then 1 else 0) + 1)) by omega]
        exact this
      · rw [tg_snoc, ← List.append_assoc]
        have e : r = (r.1, r.2.1, 0) := by rw [← hm0]
        rw [e]
        exact hrep
    · have hm12 : r.2.2 = 1 ∨ r.2.2 = 2 := by
        have := hok.2.2.1
        omega
      have hnE : isE r = false := by
        cases hz : isE r
        · rfl
        · exact absurd (hok.2.2.2 hz) hm0
      have hw : 1 ≤ r.1 ∧ r.1 ≤ 5 := by
        rcases hok.1 with q | q | q
        · exact absurd (decide_eq_true (Or.inl q)) (by rw [show decide (r.1 = 0 ∨ 10 ≤ r.1) = false from hnE]; decide)
        · exact q
        · exact absurd (decide_eq_true (Or.inr q.1)) (by rw [show decide (r.1 = 0 ∨ 10 ≤ r.1) = false from hnE]; decide)
      have hnN : isNam (rc r) = false := bfo (fun hz => absurd (r6.mp hz) (by omega))
      have hmk : (itx r).length = (if isLab (rc r) then 3 else if isNam (rc r) then 1 else 0) + 1 + 1 ∧ (itx r).getD ((if isLab (rc r) then 3 else if isNam (rc r) then 1 else 0) + 1) 0 = (if r.2.2 = 1 then 42 else 63) := by
        rw [hnN]
        unfold itx
        rw [if_neg (by omega)]
        by_cases h1 : r.1 = 1
        · rw [if_pos h1, show isLab (rc r) = false from bfo (fun hz => absurd (r5.mp hz).1 (by omega))]
          rcases hm12 with e | e <;> rw [e] <;> exact ⟨rfl, rfl⟩
        · rw [if_neg h1, if_pos (by omega), r5.mpr ⟨by omega, hw.2⟩]
          rcases hm12 with e | e <;> rw [e] <;> exact ⟨rfl, rfl⟩
      have hcm := hU2 _ (show (if isLab (rc r) then 3 else if isNam (rc r) then 1 else 0) + 1 < (itx r).length by omega)
      rw [hmk.2] at hcm
      refine c_m_lay_c hR _ n _ _ T hn (hE' _ _) (by omega) ?_
      rw [show 2 + (ptx P).length + (if isLab (rc r) = true then 3 else if isNam (rc r) = true then 1 else 0) + 1 = 2 + (ptx P).length + ((if isLab (rc r) = true then 3 else if isNam (rc r) = true then 1 else 0) + 1) by omega, hcm]
      have s69 : ∀ c : Nat, c = (if r.2.2 = 1 then 42 else 63) → am_T l (d + 1) M_m_lay 69 [some (.ref 116), some (.int (nI n)), some (.int (bI (isE r))), some (.int (nI (2 + (ptx P).length + ((if isLab (rc r) = true then 3 else if isNam (rc r) = true then 1 else 0) + 1)))), some (.int (nI c))] [] (hm (layU mi (L ++ tg n true P).length r.1 (woI (if st true P then n else 99)) (if isLab (rc r) then nI r.2.1 else -1)) ml mr) 0 0 Q := by
        intro c hc
        have hc2 : c < 127 := by rw [hc]; split <;> decide
        have s91 : am_T l (d + 1) M_m_lay 91 [some (.ref 116), some (.int (nI n)), some (.int (bI (isE r))), some (.int (nI (2 + (ptx P).length + ((if isLab (rc r) = true then 3 else if isNam (rc r) = true then 1 else 0) + 1)))), some (.int (nI c))] [.int (nI r.2.2), .int (nI (L ++ tg n true P).length), .ref 125] (hm (layU mi (L ++ tg n true P).length r.1 (woI (if st true P then n else 99)) (if isLab (rc r) then nI r.2.1 else -1)) ml mr) 0 0 Q := by
          refine ho_iastore rfl (by first | rfl | assumption) (by omega) ?_
          refine am_goto rfl ?_
          refine am_iinc rfl rfl (nI_inc1 _) ?_
          show am_T _ _ _ _ [_, _, _, some _, _] _ _ _ _ _
          refine am_goto rfl ?_
          refine am_drops [4] ?_
          show am_T _ _ _ _ [_, _, _, some (.int (nI _)), none] _ _ _ _ _
          have := ih (P ++ [r]) (up2 (layU mi (L ++ tg n true P).length r.1 (woI (if st true P then n else 99)) (if isLab (rc r) then nI r.2.1 else -1)) 125 (L ++ tg n true P).length (nI r.2.2)) (by rw [hP]; simp) ?_ ?_ ?_
          · rw [st_snoc, ptx_app, ptx_one, List.length_append, hmk.1] at this
            rw [show 2 + (ptx P).length + ((if isLab (rc r) = true then 3 else if isNam (rc r) = true then 1 else 0) + 1) + 1 = 2 + ((ptx P).length + ((if isLab (rc r) = true then 3 else if isNam (rc r) = true then 1 else 0) + 1 + 1)) by omega]
            exact this
          · rw [tg_snoc, ← List.append_assoc]
            exact mark_rep hrep
          · exact Fl.EN ⟨fun a _ _ _ h4 _ => up2_off _ _ _ h4, fun j _ => by rw [up2_off _ _ _ (by decide)]⟩ (hE' _ _)
          · exact (hF' _ _).tr ⟨fun a _ _ _ h4 _ => up2_off _ _ _ h4, fun j _ => by rw [up2_off _ _ _ (by decide)]⟩
        refine am_aload_n rfl rfl ?_
        refine ho_getR rfl (by first | rfl | assumption) rfl (by first | assumption | exact hR _ _ _ rfl) ?_
        refine am_aload_n rfl rfl ?_
        refine ho_getI rfl (by first | rfl | assumption) rfl ?_
        rw [show layU mi (L ++ tg n true P).length r.1 (woI (if st true P then n else 99)) (if isLab (rc r) then nI r.2.1 else -1) 116 12 = nI ((L ++ tg n true P).length + 1) by simp [layU, up2]]
        refine am_iconst (v := nI 1) rfl (by decide) ?_
        first | refine ho_subn rfl (by omega) ?_ | refine am_isub rfl ?_
        refine am_iload rfl rfl ?_
        refine am_bipush (v := nI 42) rfl (by decide) ?_
        rw [Nat.add_sub_cancel]
        refine ho_icmp_ne rfl (by omega) (by omega) (fun z => ?_) (fun z => ?_)
        · have e2 : r.2.2 = 2 := by
            rcases hm12 with e | e
            · rw [if_pos e] at hc
              exact absurd hc z
            · exact e
          refine am_iconst (v := nI 2) rfl (by decide) ?_
          rw [e2] at s91
          exact s91
        · have e2 : r.2.2 = 1 := by
            rcases hm12 with e | e
            · exact e
            · rw [if_neg (by omega)] at hc
              omega
          refine am_iconst (v := nI 1) rfl (by decide) ?_
          refine am_goto rfl ?_
          rw [e2] at s91
          exact s91
      refine am_iload rfl rfl ?_
      refine am_bipush (v := nI 42) rfl (by decide) ?_
      refine ho_icmp_eq rfl (by split <;> decide) (by omega) (fun z => s69 _ rfl) (fun z => ?_)
      refine am_iload rfl rfl ?_
      refine am_bipush (v := nI 63) rfl (by decide) ?_
      refine ho_icmp_ne rfl (by split <;> decide) (by omega) (fun z2 => ?_) (fun z2 => s69 _ rfl)
      exfalso
      split at z <;> split at z2 <;> simp_all
theorem c_m_lay (hR : SR mr) (D : Nat → List Rt) (T : Nat → List Nat) (mi : Nat → Nat → Int32) (hD : okDs D) (hE : ∀ n, n < 6 → EN mi n (T n)) (hT : ∀ n, n < 6 → DT n (D n) (T n)) : am_T l (d + 1) M_m_lay 0 [some (.ref 116), none, none, none, none] [] (hm mi ml mr) 0 0 (fun r h' => r = none ∧ ∃ mi', h' = hm mi' ml mr ∧ repS (SD D) mi' ∧ Fl mi mi') := by
  have hl := allD_len hD.1 6 (by omega)
  have h2 := hD.2
  have loop : ∀ (k n : Nat) (mi' : Nat → Nat → Int32), n + k = 6 → repS (Sof (allD D n)) mi' → Fl mi mi' → am_T l (d + 1) M_m_lay 7 [some (.ref 116), some (.int (nI n)), none, none, none] [] (hm mi' ml mr) 0 0 (fun r h' => r = none ∧ ∃ mi', h' = hm mi' ml mr ∧ repS (SD D) mi' ∧ Fl mi mi') := by
    intro k
    induction k with
    | zero =>
      intro n mi' hn hr hF
      refine am_iload_n rfl rfl ?_
      refine am_bipush (v := nI 6) rfl (by decide) ?_
      refine ho_icmp_ge rfl (by omega) (by omega) (fun _ => ?_) (fun z => absurd (by omega) z)
      have : n = 6 := by omega
      subst this
      exact am_return rfl rfl ⟨rfl, mi', rfl, hr, hF⟩
    | succ k ih =>
      intro n mi' hn hr hF
      have hmono : (allD D (n + 1)).length ≤ (allD D 6).length := by
        have hm : ∀ j, (allD D (n + 1)).length ≤ (allD D (n + 1 + j)).length := by
          intro j
          induction j with
          | zero => exact Nat.le_refl _
          | succ j ih2 =>
            rw [show n + 1 + (j + 1) = n + 1 + j + 1 by omega, allD_s D (n + 1 + j), List.length_append]
            omega
        have := hm (6 - (n + 1))
        rw [show n + 1 + (6 - (n + 1)) = 6 by omega] at this
        exact this
      rw [allD_s, List.length_append, tg_len] at hmono
      refine am_iload_n rfl rfl ?_
      refine am_bipush (v := nI 6) rfl (by decide) ?_
      refine ho_icmp_ge rfl (by omega) (by omega) (fun z => absurd z (by omega)) (fun _ => ?_)
      refine am_iconst (v := nI 1) rfl (by decide) ?_
      refine am_istore_n rfl (Nat.le_of_ble_eq_true rfl) ?_
      show am_T _ _ _ _ [_, _, some _, _, _] _ _ _ _ _
      refine am_iconst (v := nI 2) rfl (by decide) ?_
      refine am_istore_n rfl (Nat.le_of_ble_eq_true rfl) ?_
      show am_T _ _ _ _ [_, _, _, some _, _] _ _ _ _ _
      have hE' := hF.EN (hE n (by omega))
      have fin : ∀ (mi'' : Nat → Nat → Int32) (i : Nat) (b : Int32), repS (Sof (allD D n ++ tg n true (D n))) mi'' → Fl mi mi'' → am_T l (d + 1) M_m_lay 284 [some (.ref 116), some (.int (nI n)), some (.int b), some (.int (nI i)), none] [] (hm mi'' ml mr) 0 0 (fun r h' => r = none ∧ ∃ mi', h' = hm mi' ml mr ∧ repS (SD D) mi' ∧ Fl mi mi') := by
        intro mi'' i b hr'' hF''
        refine am_iinc rfl rfl (nI_inc1 _) ?_
        show am_T _ _ _ _ [_, some _, _, _, _] _ _ _ _ _
        refine am_goto rfl ?_
        refine am_drops [2, 3] ?_
        rw [← allD_s] at hr''
        exact ih (n + 1) mi'' (by omega) hr'' hF''
      rcases hT n (by omega) with ⟨e1, e2⟩ | ⟨e1, e2⟩
      · rw [e2] at hE'
        refine am_iload_n rfl rfl ?_
        refine am_aload_n rfl rfl ?_
        refine ho_getR rfl (by first | rfl | assumption) rfl (by first | assumption | exact hR _ _ _ rfl) ?_
        refine am_iload_n rfl rfl ?_
        refine ho_iaload rfl (by first | rfl | assumption) (by omega) ?_
        rw [hE'.1]
        refine ho_icmp_gt rfl (by omega) (by decide) (fun _ => ?_) (fun z => absurd (by decide) z)
        refine fin mi' 2 _ ?_ hF
        rw [e1]
        show repS (Sof (allD D n ++ [])) mi'
        rw [List.append_nil]
        exact hr
      · have := c_m_lay_in (l := l) (d := d) (ml := ml) hR n (D n) (T n) (allD D n) mi (by omega) e1.1 e2 (by omega) fin (D n) [] mi' rfl (by show repS (Sof (allD D n ++ [])) mi'; rw [List.append_nil]; exact hr) hE' hF
        exact this
  refine am_aload_n rfl rfl ?_
  refine am_iconst (v := nI 0) rfl (by decide) ?_
  refine ho_putI rfl (by first | rfl | assumption) rfl rfl ?_
  refine am_iconst (v := nI 0) rfl (by decide) ?_
  refine am_istore_n rfl (Nat.le_of_ble_eq_true rfl) ?_
  show am_T _ _ _ _ [_, some _, _, _, _] _ _ _ _ _
  refine loop 6 0 _ rfl ⟨by simp [up2]; rfl, fun r hr => by cases hr⟩ ⟨fun a h1 _ _ _ _ => up2_off _ _ _ h1, fun j hj => by unfold up2; rw [if_neg (by omega)]⟩
end M9
