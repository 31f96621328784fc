/-! the class: all first texts -/
theorem lJ_sub {x y : Nat} (h : x ≤ y) : lJ y - lJ x = lJ (y - x) := by
  rw [show lJ y = lJ (y - x) + lJ x by rw [lJ_add, Nat.sub_add_cancel h], Int64.add_sub_cancel]
theorem lJ_neg {x y : Nat} (h : y < x) (hx : x < 2 ^ 63) : lJ y - lJ x < 0 := by
  rw [Int64.lt_iff_toInt_lt, Int64.toInt_sub, lJ_toInt (by omega), lJ_toInt hx, Int.bmod_eq_of_le (by omega) (by omega), Int64.toInt_zero]
  omega
theorem lJ_nn0 {x : Nat} (hx : x < 2 ^ 63) : ¬ lJ x < 0 := by
  rw [Int64.lt_iff_toInt_lt, lJ_toInt hx, Int64.toInt_zero]
  omega
theorem fp_q (q : Nat) : fp (q + 2) = q := by
  unfold fp fx
  rw [if_neg (by omega), if_neg (by omega)]
  omega
section S5
variable {l : Launch} {d : Nat} {ml : Nat → Nat → Int64} {mr : Nat → Nat → Option Nat} {S : Rs} {ip : Nat → Nat} {n cnt L : Nat} {v : Nat → Nat}
/-- the class has offered these cuts -/
def TM (S : Rs) (km : Nat → Int64) (cnt : Nat) (v : Nat → Nat) (s : Nat) (o0 : Nat → Option (List Nat)) (mi0 : Nat → Nat → Int32) (Q : Nat → Nat → Nat → Prop) (mi : Nat → Nat → Int32) : Prop := ∃ o, TS (mi 103) (mi 104) cnt o ∧ Mid S km cnt v s o0 Q o ∧ Fo mi0 mi
theorem TM.to {km : Nat → Int64} {s : Nat} {o0 : Nat → Option (List Nat)} {mi0 mi : Nat → Nat → Int32} {Q Q' : Nat → Nat → Nat → Prop} (h : TM S km cnt v s o0 mi0 Q mi) (hq : ∀ f c w k, CutP S km cnt v s f c w k → Q' f c w → ∃ c', Q f c' w ∧ CutP S km cnt v s f c' w k ∧ cutT o0 f c' w = cutT o0 f c w) : TM S km cnt v s o0 mi0 Q' mi := by
  obtain ⟨o, h1, h2, h3⟩ := h
  exact ⟨o, h1, h2.to (fun f c w k _ _ _ g1 g2 => hq f c w k g1 g2), h3⟩
theorem c_T_lab (hR : SR mr) (hS : okS S) (mi0 : Nat → Nat → Int32) (hK : KF S ip n cnt L v mi0 ml) {s : Nat} {o0 : Nat → Option (List Nat)} (h12 : s ≤ 12) (h0 : Dn S (ml 94) cnt v s o0) (w c lf : Nat) (hw : w < cnt) (hc : c < cnt) (hlf : s = 1 + v w + lf) (Q : Nat → Nat → Nat → Prop) {Qp : Option Value → am_H → Prop}
    (out : ∀ mi, TM S (ml 94) cnt v s o0 mi0 (fun f' c' w' => Q f' c' w' ∨ (2 ≤ f' ∧ c' = c ∧ w' = w)) mi → am_T l (d + 3) M_T_findTexts 144 [some (.ref 102), some (.int (nI s)), some (.int (nI w)), some (.long (lJ lf)), none, some (.int (nI c)), none] [] (hm mi ml mr) 0 0 Qp) :
    ∀ (j q : Nat) (mi : Nat → Nat → Int32), q + j = 4 → TM S (ml 94) cnt v s o0 mi0 (fun f' c' w' => Q f' c' w' ∨ (2 ≤ f' ∧ f' < q + 2 ∧ c' = c ∧ w' = w)) mi → am_T l (d + 3) M_T_findTexts 107 [some (.ref 102), some (.int (nI s)), some (.int (nI w)), some (.long (lJ lf)), none, some (.int (nI c)), some (.int (nI q))] [] (hm mi ml mr) 0 0 Qp := by
  have h40 := (hK.ke hS).2.1
  have hV := hK.2.2.2.2.1
  intro j
  induction j with
  | zero =>
    intro q mi hq hM
    refine am_iload rfl rfl ?_
    refine am_iconst (v := nI 4) rfl (by decide) ?_
    refine ho_icmp_ge rfl (by omega) (by omega) (fun _ => ?_) (fun z => absurd (by omega) z)
    refine am_drops [6] ?_
    refine out mi (hM.to (fun f c w k g1 g2 => ⟨c, ?_, g1, rfl⟩))
    have := g1.2.1
    rcases g2 with g | ⟨g, g', g''⟩
    · exact Or.inl g
    · exact Or.inr ⟨g, by omega, g', g''⟩
  | succ j ih =>
    intro q mi hq hM
    refine am_iload rfl rfl ?_
    refine am_iconst (v := nI 4) rfl (by decide) ?_
    refine ho_icmp_ge rfl (by omega) (by omega) (fun z => absurd z (by omega)) (fun _ => ?_)
    refine am_aload_n rfl rfl ?_
    refine ho_getR rfl (by first | rfl | assumption) rfl (by first | assumption | exact hR _ _ _ rfl) ?_
    refine ho_getR rfl (by first | rfl | assumption) rfl (by first | assumption | exact hR _ _ _ rfl) ?_
    refine am_iload rfl rfl ?_
    refine ho_laload rfl rfl (by omega) ?_
    rw [hV.1 c hc]
    refine am_lload_n rfl rfl ?_
    refine am_lcmp rfl ?_
    refine am_if_ne rfl (fun z => ?_) (fun z => ?_)
    · have hne : v c ≠ lf := fun e => z (lg_cmp_0.mpr (by rw [e]))
      refine am_drops [6] ?_
      refine out mi (hM.to (fun f c2 w2 k g1 g2 => ⟨c2, ?_, g1, rfl⟩))
      rcases g2 with g | ⟨g, rfl, rfl⟩
      · exact Or.inl g
      · have := g1.2.2.2.2.2
        rw [if_neg (by omega)] at this
        exact absurd (by omega) hne
    · have he : v c = lf := (lJ_eq (XV_lt hV c) (by omega)).mp (lg_cmp_0.mp z)
      obtain ⟨o, h1, h2, h3⟩ := hM
      have hco := c_T_offer (l := l) (d := d) hR hS mi (hK.txt h3) h12 h0 h2 h1 (q + 2) c w (by omega) (by omega) hc hw (by rw [if_neg (by omega)]; omega)
      rw [fp_q] at hco
      refine am_aload_n rfl rfl ?_
      refine am_iload rfl rfl ?_
      refine am_iload rfl rfl ?_
      refine am_iload_n rfl rfl ?_
      refine am_iload_n rfl rfl ?_
      refine ho_cv4 rfl (by first | rfl | assumption) rfl (Nat.le_of_ble_eq_true rfl) (Nat.le_of_ble_eq_true rfl) (hco) ?_
      rintro r h' ⟨rfl, mi', o', rfl, g1, g2, g3⟩
      refine am_iinc rfl rfl (nI_inc1 _) ?_
      show am_T _ _ _ _ [_, _, _, _, _, _, some _] _ _ _ _ _
      refine am_goto rfl ?_
      refine ih (q + 1) mi' (by omega) ?_
      refine TM.to ⟨o', g1, g2, h3.tr g3⟩ (fun f c2 w2 k k1 k2 => ⟨c2, ?_, k1, rfl⟩)
      rcases k2 with k2 | ⟨k2, k3, k4, k5⟩
      · exact Or.inl (Or.inl k2)
      · rcases Nat.lt_or_ge f (q + 2) with y | y
        · exact Or.inl (Or.inr ⟨k2, y, k4, k5⟩)
        · exact Or.inr ⟨by omega, k4, k5⟩
theorem c_T_con (hR : SR mr) (hS : okS S) (mi0 : Nat → Nat → Int32) (hK : KF S ip n cnt L v mi0 ml) {s : Nat} {o0 : Nat → Option (List Nat)} (h12 : s ≤ 12) (h0 : Dn S (ml 94) cnt v s o0) (w lf : Nat) (hw : w < cnt) (hlf : s = 1 + v w + lf) (Q : Nat → Nat → Nat → Prop) {Qp : Option Value → am_H → Prop}
    (out : ∀ mi, TM S (ml 94) cnt v s o0 mi0 (fun f' c' w' => Q f' c' w' ∨ (2 ≤ f' ∧ w' = w)) mi → am_T l (d + 3) M_T_findTexts 150 [some (.ref 102), some (.int (nI s)), some (.int (nI w)), none, none, none, none] [] (hm mi ml mr) 0 0 Qp) :
    ∀ (j c : Nat) (mi : Nat → Nat → Int32), c + j = cnt → TM S (ml 94) cnt v s o0 mi0 (fun f' c' w' => Q f' c' w' ∨ (2 ≤ f' ∧ c' < c ∧ w' = w)) mi → am_T l (d + 3) M_T_findTexts 86 [some (.ref 102), some (.int (nI s)), some (.int (nI w)), some (.long (lJ lf)), none, some (.int (nI c)), none] [] (hm mi ml mr) 0 0 Qp := by
  have h40 := (hK.ke hS).2.1
  have hcn := hK.2.1.2.1.1
  intro j
  induction j with
  | zero =>
    intro c mi hc hM
    refine am_iload rfl rfl ?_
    refine am_aload_n rfl rfl ?_
    refine ho_getR rfl (by first | rfl | assumption) rfl (by first | assumption | exact hR _ _ _ rfl) ?_
    refine ho_getI rfl (by first | rfl | assumption) rfl ?_
    obtain ⟨o, h1, h2, h3⟩ := id hM
    rw [h3.1 93 (by decide) (by decide) (by decide) (by decide), hcn]
    refine ho_icmp_ge rfl (by omega) (by omega) (fun _ => ?_) (fun z => absurd (by omega) z)
    refine am_drops [3, 5] ?_
    refine out mi (hM.to (fun f c2 w2 k g1 g2 => ⟨c2, ?_, g1, rfl⟩))
    rcases g2 with g | ⟨g, g'⟩
    · exact Or.inl g
    · exact Or.inr ⟨g, by have := g1.2.2.1; omega, g'⟩
  | succ j ih =>
    intro c mi hc hM
    refine am_iload rfl rfl ?_
    refine am_aload_n rfl rfl ?_
    refine ho_getR rfl (by first | rfl | assumption) rfl (by first | assumption | exact hR _ _ _ rfl) ?_
    refine ho_getI rfl (by first | rfl | assumption) rfl ?_
    obtain ⟨o, h1, h2, h3⟩ := id hM
    rw [h3.1 93 (by decide) (by decide) (by decide) (by decide), hcn]
    refine ho_icmp_ge rfl (by omega) (by omega) (fun z => absurd z (by omega)) (fun _ => ?_)
    refine am_lload_n rfl rfl ?_
    refine am_lconst (v := 0) rfl (by decide) ?_
    refine am_lcmp rfl ?_
    refine am_if_lt rfl (fun z => absurd ((lg_cmp_lt _ _).mp z) (lJ_nn0 (by omega))) (fun _ => ?_)
    refine am_iconst (v := nI 0) rfl (by decide) ?_
    refine am_istore rfl (Nat.le_of_ble_eq_true rfl) ?_
    show am_T _ _ _ _ [_, _, _, _, _, _, some _] _ _ _ _ _
    refine c_T_lab hR hS mi0 hK h12 h0 w c lf hw (by omega) hlf (fun f' c' w' => Q f' c' w' ∨ (2 ≤ f' ∧ c' < c ∧ w' = w)) (fun mi' g => ?_) 4 0 mi (by omega) (hM.to (fun f c2 w2 k g1 g2 => ⟨c2, ?_, g1, rfl⟩))
    · refine am_iinc rfl rfl (nI_inc1 _) ?_
      show am_T _ _ _ _ [_, _, _, _, _, some _, _] _ _ _ _ _
      refine am_goto rfl ?_
      refine ih (c + 1) mi' (by omega) (g.to (fun f c2 w2 k g1 g2 => ⟨c2, ?_, g1, rfl⟩))
      rcases g2 with g2 | ⟨g2, g3, g4⟩
      · exact Or.inl (Or.inl g2)
      · rcases Nat.lt_or_ge c2 c with y | y
        · exact Or.inl (Or.inr ⟨g2, y, g4⟩)
        · exact Or.inr ⟨g2, by omega, g4⟩
    · rcases g2 with g2 | ⟨g2, g3, -⟩
      · exact g2
      · omega
theorem c_T_tail (hR : SR mr) (hS : okS S) (mi0 : Nat → Nat → Int32) (hK : KF S ip n cnt L v mi0 ml) {s : Nat} {o0 : Nat → Option (List Nat)} (hs1 : 1 ≤ s) (h12 : s ≤ 12) (h0 : Dn S (ml 94) cnt v s o0) {Qp : Option Value → am_H → Prop}
    (out : ∀ mi, TM S (ml 94) cnt v s o0 mi0 (fun _ _ _ => True) mi → am_T l (d + 3) M_T_findTexts 156 [some (.ref 102), some (.int (nI s)), none, none, none, none, none] [] (hm mi ml mr) 0 0 Qp) :
    ∀ (j w : Nat) (mi : Nat → Nat → Int32), w + j = cnt → TM S (ml 94) cnt v s o0 mi0 (fun _ _ w' => w' < w) mi → am_T l (d + 3) M_T_findTexts 43 [some (.ref 102), some (.int (nI s)), some (.int (nI w)), none, none, none, none] [] (hm mi ml mr) 0 0 Qp := by
  have hE := hK.ke hS
  have h40 := hE.2.1
  have hcn := hK.2.1.2.1.1
  have hV := hK.2.2.2.2.1
  intro j
  induction j with
  | zero =>
    intro w mi hw hM
    refine am_iload_n rfl rfl ?_
    refine am_aload_n rfl rfl ?_
    refine ho_getR rfl (by first | rfl | assumption) rfl (by first | assumption | exact hR _ _ _ rfl) ?_
    refine ho_getI rfl (by first | rfl | assumption) rfl ?_
    obtain ⟨o, h1, h2, h3⟩ := id hM
    rw [h3.1 93 (by decide) (by decide) (by decide) (by decide), hcn]
    refine ho_icmp_ge rfl (by omega) (by omega) (fun _ => ?_) (fun z => absurd (by omega) z)
    refine am_drops [2] ?_
    exact out mi (hM.to (fun f c2 w2 k g1 g2 => ⟨c2, by have := g1.2.2.2.1; omega, g1, rfl⟩))
  | succ j ih =>
    intro w mi hw hM
    refine am_iload_n rfl rfl ?_
    refine am_aload_n rfl rfl ?_
    refine ho_getR rfl (by first | rfl | assumption) rfl (by first | assumption | exact hR _ _ _ rfl) ?_
    refine ho_getI rfl (by first | rfl | assumption) rfl ?_
    obtain ⟨o, h1, h2, h3⟩ := id hM
    rw [h3.1 93 (by decide) (by decide) (by decide) (by decide), hcn]
    refine ho_icmp_ge rfl (by omega) (by omega) (fun z => absurd z (by omega)) (fun _ => ?_)
    -- the next tail
    have next : ∀ mi', TM S (ml 94) cnt v s o0 mi0 (fun _ _ w' => w' < w + 1) mi' → am_T l (d + 3) M_T_findTexts 150 [some (.ref 102), some (.int (nI s)), some (.int (nI w)), none, none, none, none] [] (hm mi' ml mr) 0 0 Qp := by
      intro mi' g
      refine am_iinc rfl rfl (nI_inc1 _) ?_
      show am_T _ _ _ _ [_, _, some _, _, _, _, _] _ _ _ _ _
      refine am_goto rfl ?_
      exact ih (w + 1) mi' (by omega) g
    refine am_iload_n rfl rfl ?_
    refine am_iconst (v := nI 1) rfl (by decide) ?_
    first | refine ho_subn rfl (by omega) ?_ | refine am_isub rfl ?_
    refine am_i2l rfl (i2l_12 (s - 1) (by omega)) ?_
    refine am_aload_n rfl rfl ?_
    refine ho_getR rfl (by first | rfl | assumption) rfl (by first | assumption | exact hR _ _ _ rfl) ?_
    refine ho_getR rfl (by first | rfl | assumption) rfl (by first | assumption | exact hR _ _ _ rfl) ?_
    refine am_iload_n rfl rfl ?_
    refine ho_laload rfl rfl (by omega) ?_
    rw [hV.1 w (by omega)]
    rcases Nat.lt_or_ge (s - 1) (v w) with hlt | hge
    · have hneg := lJ_neg hlt (XV_lt hV w)
      refine am_lsub rfl ?_
      refine am_lstore_n rfl (Nat.le_of_ble_eq_true rfl) ?_
      show am_T _ _ _ _ [_, _, _, some _, none, _, _] _ _ _ _ _
      refine am_lload_n rfl rfl ?_
      refine am_lconst (v := 0) rfl (by decide) ?_
      refine am_lcmp rfl ?_
      refine am_if_ne rfl (fun _ => ?_) (fun z => ?_)
      · refine am_iconst (v := nI 0) rfl (by decide) ?_
        refine am_istore rfl (Nat.le_of_ble_eq_true rfl) ?_
        show am_T _ _ _ _ [_, _, _, _, _, some _, _] _ _ _ _ _
        refine am_iload rfl rfl ?_
        refine am_aload_n rfl rfl ?_
        refine ho_getR rfl (by first | rfl | assumption) rfl (by first | assumption | exact hR _ _ _ rfl) ?_
        refine ho_getI rfl (by first | rfl | assumption) rfl ?_
        rw [h3.1 93 (by decide) (by decide) (by decide) (by decide), hcn]
        refine ho_icmp_ge rfl (by omega) (by omega) (fun z => absurd z (by omega)) (fun _ => ?_)
        refine am_lload_n rfl rfl ?_
        refine am_lconst (v := 0) rfl (by decide) ?_
        refine am_lcmp rfl ?_
        refine am_if_lt rfl (fun _ => ?_) (fun z => absurd ((lg_cmp_lt _ _).mpr hneg) z)
        refine am_drops [3, 5] ?_
        refine next mi (hM.to (fun f c2 w2 k g1 g2 => ⟨c2, ?_, g1, rfl⟩))
        rcases Nat.lt_or_ge w2 w with y | y
        · exact y
        · have e : w2 = w := by omega
          subst e
          have := g1.2.2.2.2.2
          omega
      · have e := lg_cmp_0.mp z
        rw [e] at hneg
        exact absurd hneg (by decide)
    · rw [show lJ (s - 1) = lJ (s - 1) from rfl]
      refine am_lsub rfl ?_
      rw [lJ_sub hge]
      refine am_lstore_n rfl (Nat.le_of_ble_eq_true rfl) ?_
      show am_T _ _ _ _ [_, _, _, some _, none, _, _] _ _ _ _ _
      refine am_lload_n rfl rfl ?_
      refine am_lconst (v := 0) rfl (by decide) ?_
      refine am_lcmp rfl ?_
      have hlf : s = 1 + v w + (s - 1 - v w) := by omega
      -- the contents
      have con : ∀ mi', TM S (ml 94) cnt v s o0 mi0 (fun f' _ w' => w' < w ∨ (f' = 1 ∧ w' = w)) mi' → am_T l (d + 3) M_T_findTexts 83 [some (.ref 102), some (.int (nI s)), some (.int (nI w)), some (.long (lJ (s - 1 - v w))), none, none, none] [] (hm mi' ml mr) 0 0 Qp := by
        intro mi' g
        refine am_iconst (v := nI 0) rfl (by decide) ?_
        refine am_istore rfl (Nat.le_of_ble_eq_true rfl) ?_
        show am_T _ _ _ _ [_, _, _, _, _, some _, _] _ _ _ _ _
        refine c_T_con hR hS mi0 hK h12 h0 w _ (by omega) hlf (fun f' _ w' => w' < w ∨ (f' = 1 ∧ w' = w)) (fun mi2 g2 => next mi2 (g2.to (fun f c2 w2 k k1 k2 => ⟨c2, ?_, k1, rfl⟩))) cnt 0 mi' (by omega) (g.to (fun f c2 w2 k k1 k2 => ⟨c2, ?_, k1, rfl⟩))
        · have := k1.1
          rcases Nat.lt_or_ge w2 w with y | y
          · exact Or.inl (Or.inl y)
          · by_cases e : f = 1
            · exact Or.inl (Or.inr ⟨e, by omega⟩)
            · exact Or.inr ⟨by omega, by omega⟩
        · rcases k2 with k2 | ⟨-, k3, -⟩
          · exact k2
          · omega
      refine am_if_ne rfl (fun z => ?_) (fun z => ?_)
      · have hne : s - 1 - v w ≠ 0 := fun e => z (lg_cmp_0.mpr (by rw [e]; rfl))
        refine con mi (hM.to (fun f c2 w2 k k1 k2 => ⟨c2, ?_, k1, rfl⟩))
        rcases k2 with k2 | ⟨rfl, rfl⟩
        · exact k2
        · have := k1.2.2.2.2.2
          rw [if_pos rfl] at this
          omega
      · have he : s - 1 - v w = 0 := (lJ_eq (by omega) (by omega)).mp ((lg_cmp_0.mp z).trans (rfl : (0 : Int64) = lJ 0))
        have hco := c_T_offer (l := l) (d := d) hR hS mi (hK.txt h3) h12 h0 h2 h1 1 0 w (by omega) (by omega) (by omega) (by omega) (by rw [if_pos rfl]; omega)
        rw [show fp 1 = 4 from rfl] at hco
        refine am_aload_n rfl rfl ?_
        refine am_iconst (v := nI 4) rfl (by decide) ?_
        refine am_iconst (v := nI 0) rfl (by decide) ?_
        refine am_iload_n rfl rfl ?_
        refine am_iload_n rfl rfl ?_
        refine ho_cv4 rfl (by first | rfl | assumption) rfl (Nat.le_of_ble_eq_true rfl) (Nat.le_of_ble_eq_true rfl) (hco) ?_
        rintro r h' ⟨rfl, mi', o', rfl, g1, g2, g3⟩
        refine con mi' (TM.to ⟨o', g1, g2, h3.tr g3⟩ (fun f c2 w2 k k1 k2 => ?_))
        rcases k2 with k2 | ⟨rfl, rfl⟩
        · exact ⟨c2, Or.inl k2, k1, rfl⟩
        · refine ⟨0, Or.inr ⟨rfl, rfl, rfl⟩, ⟨k1.1, k1.2.1, by omega, k1.2.2.2.1, ?_, k1.2.2.2.2.2⟩, rfl⟩
          rw [k1.2.2.2.2.1]
          exact belF_num hS hK.1 _ _ _
theorem c_T_sizes (hR : SR mr) (hS : okS S) (mi0 : Nat → Nat → Int32) (hK : KF S ip n cnt L v mi0 ml) : ∀ (j s : Nat) (mi : Nat → Nat → Int32) (o : Nat → Option (List Nat)), s + j = 13 → 1 ≤ s → Dn S (ml 94) cnt v s o → TS (mi 103) (mi 104) cnt o → Fo mi0 mi →
    am_T l (d + 3) M_T_findTexts 35 [some (.ref 102), some (.int (nI s)), none, none, none, none, none] [] (hm mi ml mr) 0 0 (fun r h' => r = none ∧ ∃ mi' o', h' = hm mi' ml mr ∧ Dn S (ml 94) cnt v 13 o' ∧ TS (mi' 103) (mi' 104) cnt o' ∧ Fo mi0 mi') := by
  have hE := hK.ke hS
  have hV := hK.2.2.2.2.1
  intro j
  induction j with
  | zero =>
    intro s mi o hs h1 hD hT hF
    refine am_iload_n rfl rfl ?_
    refine am_bipush (v := nI 12) rfl (by decide) ?_
    refine ho_icmp_gt rfl (by omega) (by omega) (fun _ => ?_) (fun z => absurd (by omega) z)
    have e : s = 13 := by omega
    subst e
    exact am_return rfl rfl ⟨rfl, mi, o, rfl, hD, hT, hF⟩
  | succ j ih =>
    intro s mi o hs h1 hD hT hF
    refine am_iload_n rfl rfl ?_
    refine am_bipush (v := nI 12) rfl (by decide) ?_
    refine ho_icmp_gt rfl (by omega) (by omega) (fun z => absurd z (by omega)) (fun _ => ?_)
    refine am_iconst (v := nI 0) rfl (by decide) ?_
    refine am_istore_n rfl (Nat.le_of_ble_eq_true rfl) ?_
    show am_T _ _ _ _ [_, _, some _, _, _, _, _] _ _ _ _ _
    refine c_T_tail hR hS mi0 hK h1 (by omega) hD (fun mi' g => ?_) cnt 0 mi (by omega) ⟨o, hT, hD.mid.to (fun f c w k _ _ _ _ q => absurd q (Nat.not_lt_zero _)), hF⟩
    obtain ⟨o', g1, g2, g3⟩ := g
    refine am_iinc rfl rfl (nI_inc1 _) ?_
    show am_T _ _ _ _ [_, some _, _, _, _, _, _] _ _ _ _ _
    refine am_goto rfl ?_
    exact ih (s + 1) mi' o' (by omega) (by omega) (g2.fin hE hV.2.1 hK.2.2.2.2.2 hD) g1 g3
theorem c_T_findTexts_init (hR : SR mr) (hS : okS S) (mi0 : Nat → Nat → Int32) (hK : KF S ip n cnt L v mi0 ml) : ∀ (j k : Nat) (mi : Nat → Nat → Int32), k + j = cnt → 1 ≤ k → mi 104 0 = nI 0 → (∀ i, 1 ≤ i → i < k → mi 104 i = -1) → Fo mi0 mi →
    am_T l (d + 3) M_T_findTexts 9 [some (.ref 102), some (.int (nI k)), none, none, none, none, none] [] (hm mi ml mr) 0 0 (fun r h' => r = none ∧ ∃ mi' o', h' = hm mi' ml mr ∧ Dn S (ml 94) cnt v 13 o' ∧ TS (mi' 103) (mi' 104) cnt o' ∧ Fo mi0 mi') := by
  have hE := hK.ke hS
  have h40 := hE.2.1
  have hcn := hK.2.1.2.1.1
  intro j
  induction j with
  | zero =>
    intro k mi hk k1 z0 z1 hF
    refine am_iload_n rfl rfl ?_
    refine am_aload_n rfl rfl ?_
    refine ho_getR rfl (by first | rfl | assumption) rfl (by first | assumption | exact hR _ _ _ rfl) ?_
    refine ho_getI rfl (by first | rfl | assumption) rfl ?_
    rw [hF.1 93 (by decide) (by decide) (by decide) (by decide), hcn]
    refine ho_icmp_ge rfl (by omega) (by omega) (fun _ => ?_) (fun z => absurd (by omega) z)
    refine am_iconst (v := nI 1) rfl (by decide) ?_
    refine am_istore_n rfl (Nat.le_of_ble_eq_true rfl) ?_
    show am_T _ _ _ _ [_, some _, _, _, _, _, _] _ _ _ _ _
    refine c_T_sizes hR hS mi0 hK 12 1 mi _ (by omega) (by omega) (Dn_1 hE hK.2.2.2.2.2) (fun i hi => ?_) hF
    by_cases e : i = 0
    · subst e
      exact ⟨by decide, (fun c hc => by cases hc), z0, fun i hi => by cases hi⟩
    · show TR _ _ i (if i = 0 then some [] else none)
      rw [if_neg e]
      exact z1 i (by omega) (by omega)
  | succ j ih =>
    intro k mi hk k1 z0 z1 hF
    refine am_iload_n rfl rfl ?_
    refine am_aload_n rfl rfl ?_
    refine ho_getR rfl (by first | rfl | assumption) rfl (by first | assumption | exact hR _ _ _ rfl) ?_
    refine ho_getI rfl (by first | rfl | assumption) rfl ?_
    rw [hF.1 93 (by decide) (by decide) (by decide) (by decide), hcn]
    refine ho_icmp_ge rfl (by omega) (by omega) (fun z => absurd z (by omega)) (fun _ => ?_)
    refine am_aload_n rfl rfl ?_
    refine ho_getR rfl (by first | rfl | assumption) rfl (by first | assumption | exact hR _ _ _ rfl) ?_
    refine am_iload_n rfl rfl ?_
    refine am_iconst (v := -1) rfl (by decide) ?_
    refine ho_iastore rfl (by first | rfl | assumption) (by omega) ?_
    refine am_iinc rfl rfl (nI_inc1 _) ?_
    show am_T _ _ _ _ [_, some _, _, _, _, _, _] _ _ _ _ _
    refine am_goto rfl ?_
    refine ih (k + 1) _ (by omega) (by omega) ?_ (fun i i1 i2 => ?_) (hF.tr ⟨fun a a1 a2 a3 a4 => up2_off _ _ _ a3, fun j hj => by rw [up2_off _ _ _ (by decide)]⟩)
    · unfold up2
      rw [if_neg (by omega)]
      exact z0
    · unfold up2
      by_cases e : i = k
      · rw [if_pos ⟨rfl, e⟩]
      · rw [if_neg (by omega)]
        exact z1 i i1 (by omega)
theorem c_T_findTexts (hR : SR mr) (hS : okS S) (mi : Nat → Nat → Int32) (hK : KF S ip n cnt L v mi ml) : am_T l (d + 3) M_T_findTexts 0 [some (.ref 102), none, none, none, none, none, none] [] (hm mi ml mr) 0 0 (fun r h' => r = none ∧ ∃ mi' o', h' = hm mi' ml mr ∧ Dn S (ml 94) cnt v 13 o' ∧ TS (mi' 103) (mi' 104) cnt o' ∧ Fo mi mi') := by
  refine am_aload_n rfl rfl ?_
  refine ho_getR rfl (by first | rfl | assumption) rfl (by first | assumption | exact hR _ _ _ rfl) ?_
  refine am_iconst (v := nI 0) rfl (by decide) ?_
  refine am_iconst (v := nI 0) rfl (by decide) ?_
  refine ho_iastore rfl (by first | rfl | assumption) (by omega) ?_
  refine am_iconst (v := nI 1) rfl (by decide) ?_
  refine am_istore_n rfl (Nat.le_of_ble_eq_true rfl) ?_
  show am_T _ _ _ _ [_, some _, _, _, _, _, _] _ _ _ _ _
  exact c_T_findTexts_init hR hS mi hK (cnt - 1) 1 _ (by have := (hK.ke hS).1; omega) (by omega) (by simp [up2]) (fun i h1 h2 => by omega) ⟨fun a a1 a2 a3 a4 => up2_off _ _ _ a3, fun j hj => by rw [up2_off _ _ _ (by decide)]⟩
end S5
