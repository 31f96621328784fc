/-! the class: followAll -/
def Fch (mi mi' : Nat → Nat → Int32) : Prop := ∀ a, a ≠ 106 → a ≠ 100 → mi' a = mi a
theorem Fch.rf {mi : Nat → Nat → Int32} : Fch mi mi := fun _ _ _ => rfl
theorem Fch.tr {mi mi' mi'' : Nat → Nat → Int32} (h : Fch mi mi') (h' : Fch mi' mi'') : Fch mi mi'' := fun a h1 h2 => (h' a h1 h2).trans (h a h1 h2)
theorem Fc.d {mi mi' : Nat → Nat → Int32} (h : Fc mi mi') : Fch mi mi' := fun a h1 _ => h a h1
def Z100 (mi : Nat → Nat → Int32) : Prop := ∀ i, i < 161 → mi 100 i = 0
theorem KF.tod {S : Rs} {ip : Nat → Nat} {n cnt L : Nat} {v : Nat → Nat} {mi mi' : Nat → Nat → Int32} {ml : Nat → Nat → Int64} (h : KF S ip n cnt L v mi ml) (hF : Fch mi mi') : KF S ip n cnt L v mi' ml := by
  obtain ⟨h1, h2, h3, h4⟩ := h
  refine ⟨repX_to h1 (hF 84 (by decide) (by decide)) (hF 85 (by decide) (by decide)) (hF 86 (by decide) (by decide)) (fun _ _ _ => rfl), ?_, ?_, h4⟩
  · unfold XK at h2 ⊢
    rw [hF 93 (by decide) (by decide), hF 96 (by decide) (by decide)]
    exact h2
  · unfold XAll LL XJ at h3 ⊢
    rw [hF 96 (by decide) (by decide), hF 98 (by decide) (by decide), hF 99 (by decide) (by decide)]
    exact h3
section G9
variable {l : Launch} {d : Nat} {ml : Nat → Nat → Int64} {mr : Nat → Nat → Option Nat} {S : Rs} {ip : Nat → Nat} {n cnt L : Nat} {v : Nat → Nat}
/-- a letter for a first node and a content -/
def GL (S : Rs) (ip : Nat → Nat) (n cnt L : Nat) (mi : Nat → Nat → Int32) (ml : Nat → Nat → Int64) (f c y : Nat) : Prop := y < L ∧ ∀ w, w < cnt → joF S ip n (mi 96 y) (ml 94 w) = belF S f (tb (ml 94 c)) (tb (ml 94 w))
def F1h (mi mi' : Nat → Nat → Int32) : Prop := ∀ a, a ≠ 100 → mi' a = mi a
/-- tails of the marked letters before y, and those before b of y -/
def FS (S : Rs) (ip : Nat → Nat) (n cnt L : Nat) (e : Nat → Int32) (km : Nat → Int64) (M B : Nat → Bool) (P : Nat → Nat → Prop) (k : Nat) : Prop := ∃ y w, P y w ∧ y < L ∧ w < cnt ∧ M y = true ∧ B w = true ∧ 1 ≤ k ∧ k < cnt ∧ km k = joF S ip n (e y) (km w)
theorem FS_skip {e : Nat → Int32} {km : Nat → Int64} {M B : Nat → Bool} {P P' : Nat → Nat → Prop} (h1 : ∀ c w, P c w → P' c w) (h2 : ∀ c w, c < L → w < cnt → M c = true → B w = true → P' c w → P c w) (k : Nat) : FS S ip n cnt L e km M B P k ↔ FS S ip n cnt L e km M B P' k := by
  constructor
  · rintro ⟨c, w, a, b⟩
    exact ⟨c, w, h1 c w a, b⟩
  · rintro ⟨c, w, a, b1, b2, b3, b4, b5⟩
    exact ⟨c, w, h2 c w b1 b2 b3 b4 a, b1, b2, b3, b4, b5⟩
theorem FS_one {e : Nat → Int32} {km : Nat → Int64} {a b x : Nat} {M B : Nat → Bool} {P P' : Nat → Nat → Prop} (hd : ∀ a b, 1 ≤ a → a < b → b < cnt → km a ≠ km b) (ha : a < L) (hb : b < cnt) (hA : M a = true) (hB : B b = true) (x1 : 1 ≤ x) (x2 : x < cnt) (hx : km x = joF S ip n (e a) (km b)) (h : ∀ c w, P' c w ↔ P c w ∨ (c = a ∧ w = b)) (k : Nat) : FS S ip n cnt L e km M B P' k ↔ (FS S ip n cnt L e km M B P k ∨ k = x) := by
  constructor
  · rintro ⟨c, w, p, b1, b2, b3, b4, b5, b6, b7⟩
    rcases (h c w).mp p with q | ⟨rfl, rfl⟩
    · exact Or.inl ⟨c, w, q, b1, b2, b3, b4, b5, b6, b7⟩
    · refine Or.inr ?_
      rcases Nat.lt_trichotomy k x with g | g | g
      · exact absurd (b7.trans hx.symm) (hd k x b5 g x2)
      · exact g
      · exact absurd (hx.trans b7.symm) (hd x k x1 g b6)
  · rintro (⟨c, w, p, b⟩ | rfl)
    · exact ⟨c, w, (h c w).mpr (Or.inl p), b⟩
    · exact ⟨a, b, (h a b).mpr (Or.inr ⟨rfl, rfl⟩), ha, hb, hA, hB, x1, x2, hx⟩
theorem c_K_followAll (hR : SR mr) (hS : okS S) (mi : Nat → Nat → Int32) (hK : KF S ip n cnt L v mi ml) (hZ : Z100 mi) (f : Nat) (h1 : 1 ≤ f) (h5 : f ≤ 5) (A B : Int64) : am_T l (d + 1) M_K_followAll 0 [some (.ref 93), some (.int (nI (fp f))), some (.long A), none, some (.long B), none, none, none, none, none] [] (hm mi ml mr) 0 0 (fun r h' => ∃ z mi', r = some (.long z) ∧ h' = hm mi' ml mr ∧ F1h mi mi' ∧ Z100 mi' ∧ ∀ k, tb z k = true ↔ JS S (ml 94) cnt f (tb A) (tb B) (fun _ _ => True) k) := by
  have h40 := hK.2.1.1.1.2
  have hL := hK.2.1.1.2
  have hKto : ∀ mi', F1h mi mi' → KF S ip n cnt L v mi' ml := fun mi' hF => hK.tod (fun a _ h2 => hF a h2)
  have hdis := hK.2.1.2.2.2.1
  -- the second loop
  have second : ∀ (M : Nat → Bool), (∀ y, y < L → M y = true → ∃ c, c < cnt ∧ tb A c = true ∧ GL S ip n cnt L mi ml f c y) → (∀ c, c < cnt → tb A c = true → ∃ y, M y = true ∧ GL S ip n cnt L mi ml f c y) → ∀ (j y0 : Nat) (z : Int64) (mi2 : Nat → Nat → Int32), y0 + j = L → F1h mi mi2 → (∀ y, y < 161 → mi2 100 y = bI (decide (y0 ≤ y ∧ y < L) && M y)) → (∀ k, tb z k = true ↔ FS S ip n cnt L (mi 96) (ml 94) M (tb B) (fun y _ => y < y0) k) → am_T l (d + 1) M_K_followAll 48 [some (.ref 93), some (.int (nI (fp f))), some (.long A), none, some (.long B), none, some (.long z), none, some (.int (nI y0)), none] [] (hm mi2 ml mr) 0 0 (fun r h' => ∃ z mi', r = some (.long z) ∧ h' = hm mi' ml mr ∧ F1h mi mi' ∧ Z100 mi' ∧ ∀ k, tb z k = true ↔ JS S (ml 94) cnt f (tb A) (tb B) (fun _ _ => True) k) := by
    intro M hM1 hM2 j
    induction j with
    | zero =>
      intro y0 z mi2 hj hF hm2 hz
      have hK2 := hKto mi2 hF
      refine am_iload rfl rfl ?_
      refine am_aload_n rfl rfl ?_
      refine ho_getI rfl (by first | rfl | assumption) rfl ?_
      rw [hK2.2.1.2.1.2.1]
      refine ho_icmp_ge rfl (by omega) (by omega) (fun _ => ?_) (fun g => absurd (by omega) g)
      refine am_lload rfl rfl ?_
      refine am_lreturn rfl rfl ⟨z, mi2, rfl, rfl, hF, fun i hi => ?_, fun k => (hz k).trans ⟨?_, ?_⟩⟩
      · rw [hm2 i hi, decide_eq_false (by omega)]
        rfl
      · rintro ⟨y, w, -, b1, b2, b3, b4, b5, b6, b7⟩
        obtain ⟨c, d1, d2, d3, d4⟩ := hM1 y b1 b3
        exact ⟨c, w, trivial, d1, b2, d2, b4, b5, b6, b7.trans (d4 w b2)⟩
      · rintro ⟨c, w, -, b1, b2, b3, b4, b5, b6, b7⟩
        obtain ⟨y, d1, d2, d3⟩ := hM2 c b1 b3
        exact ⟨y, w, by omega, d2, b2, d1, b4, b5, b6, b7.trans (d3 w b2).symm⟩
    | succ j ih =>
      intro y0 z mi2 hj hF hm2 hz
      have hK2 := hKto mi2 hF
      have s121 : ∀ z', (∀ k, tb z' k = true ↔ FS S ip n cnt L (mi 96) (ml 94) M (tb B) (fun y _ => y < y0 + 1) k) → am_T l (d + 1) M_K_followAll 121 [some (.ref 93), some (.int (nI (fp f))), some (.long A), none, some (.long B), none, some (.long z'), none, some (.int (nI y0)), none] [] (hm mi2 ml mr) 0 0 (fun r h' => ∃ z mi', r = some (.long z) ∧ h' = hm mi' ml mr ∧ F1h mi mi' ∧ Z100 mi' ∧ ∀ k, tb z k = true ↔ JS S (ml 94) cnt f (tb A) (tb B) (fun _ _ => True) k) := by
        intro z' hz'
        refine am_aload_n rfl rfl ?_
        refine ho_getR rfl (by first | rfl | assumption) rfl (by first | assumption | exact hR _ _ _ rfl) ?_
        refine am_iload rfl rfl ?_
        refine am_iconst (v := nI 0) rfl (by decide) ?_
        refine ho_bastore rfl rfl (by omega) (by rfl) ?_
        refine am_iinc rfl rfl (nI_inc1 _) ?_
        show am_T _ _ _ _ [_, _, _, _, _, _, _, _, some _, _] _ _ _ _ _
        refine am_goto rfl ?_
        refine ih (y0 + 1) z' _ (by omega) (fun a ha => by rw [up2_off _ _ _ ha]; exact hF a ha) (fun y hy => ?_) hz'
        unfold up2
        by_cases e : y = y0
        · rw [if_pos ⟨rfl, e⟩, decide_eq_false (by omega)]
          rfl
        · rw [if_neg (fun q => e q.2), hm2 y hy]
          congr 2
          exact decide_eq_decide.mpr (by omega)
      have inner : ∀ (j b : Nat) (z : Int64), b + j = cnt → (∀ k, tb z k = true ↔ FS S ip n cnt L (mi 96) (ml 94) M (tb B) (fun y w => y < y0 ∨ (y = y0 ∧ w < b)) k) → am_T l (d + 1) M_K_followAll 60 [some (.ref 93), some (.int (nI (fp f))), some (.long A), none, some (.long B), none, some (.long z), none, some (.int (nI y0)), some (.int (nI b))] [] (hm mi2 ml mr) 0 0 (fun r h' => ∃ z mi', r = some (.long z) ∧ h' = hm mi' ml mr ∧ F1h mi mi' ∧ Z100 mi' ∧ ∀ k, tb z k = true ↔ JS S (ml 94) cnt f (tb A) (tb B) (fun _ _ => True) k) := by
        intro j
        induction j with
        | zero =>
          intro b z hj hz
          refine am_aload_n rfl rfl ?_
          refine ho_getR rfl (by first | rfl | assumption) rfl (by first | assumption | exact hR _ _ _ rfl) ?_
          refine am_iload rfl rfl ?_
          refine ho_baload rfl (by first | rfl | assumption) (by omega) ?_
          have fin : am_T l (d + 1) M_K_followAll 121 [some (.ref 93), some (.int (nI (fp f))), some (.long A), none, some (.long B), none, some (.long z), none, some (.int (nI y0)), some (.int (nI b))] [] (hm mi2 ml mr) 0 0 (fun r h' => ∃ z mi', r = some (.long z) ∧ h' = hm mi' ml mr ∧ F1h mi mi' ∧ Z100 mi' ∧ ∀ k, tb z k = true ↔ JS S (ml 94) cnt f (tb A) (tb B) (fun _ _ => True) k) := by
            refine am_drops [9] ?_
            exact s121 z (fun k => (hz k).trans (FS_skip (fun c w p => by omega) (fun c w _ _ _ _ p => by omega) k))
          refine am_if_eq rfl (fun _ => fin) (fun _ => ?_)
          refine am_iload rfl rfl ?_
          refine am_aload_n rfl rfl ?_
          refine ho_getI rfl (by first | rfl | assumption) rfl ?_
          rw [hK2.2.1.2.1.1]
          refine ho_icmp_ge rfl (by omega) (by omega) (fun _ => fin) (fun g => absurd (by omega) g)
        | succ j ihb =>
          intro b z hj hz
          refine am_aload_n rfl rfl ?_
          refine ho_getR rfl (by first | rfl | assumption) rfl (by first | assumption | exact hR _ _ _ rfl) ?_
          refine am_iload rfl rfl ?_
          refine ho_baload rfl (by first | rfl | assumption) (by omega) ?_
          rw [hm2 y0 (by omega), decide_eq_true (show y0 ≤ y0 ∧ y0 < L by omega), Bool.true_and]
          refine am_if_eq rfl (fun g => ?_) (fun g => ?_)
          · have g := (bI_eq _).mp g
            refine am_drops [9] ?_
            refine s121 z (fun k => (hz k).trans (FS_skip (fun c w p => by omega) (fun c w _ _ e _ p => ?_) k))
            by_cases g2 : c = y0
            · rw [g2, g] at e
              cases e
            · omega
          have hMy := (bI_ne _).mp g
          refine am_iload rfl rfl ?_
          refine am_aload_n rfl rfl ?_
          refine ho_getI rfl (by first | rfl | assumption) rfl ?_
          rw [hK2.2.1.2.1.1]
          refine ho_icmp_ge rfl (by omega) (by omega) (fun g => absurd g (by omega)) (fun _ => ?_)
          refine am_lload rfl rfl ?_
          refine am_lload rfl rfl ?_
          refine am_iload rfl rfl ?_
          refine am_lushr rfl rfl ?_
          refine am_lconst (v := 1) rfl (by decide) ?_
          refine am_land rfl ?_
          refine am_lconst (v := 0) rfl (by decide) ?_
          refine am_lcmp rfl ?_
          refine am_if_eq rfl (fun g => ?_) (fun g => ?_)
          · have hB := (tb_utest (by omega)).mp g
            refine am_lconst (v := 0) rfl (by decide) ?_
            refine am_lor rfl ?_
            refine am_lstore rfl (Nat.le_of_ble_eq_true rfl) ?_
            show am_T _ _ _ _ [_, _, _, _, _, _, some _, none, _, _] _ _ _ _ _
            refine am_iinc rfl rfl (nI_inc1 _) ?_
            show am_T _ _ _ _ [_, _, _, _, _, _, _, _, _, some _] _ _ _ _ _
            refine am_goto rfl ?_
            refine ihb (b + 1) _ (by omega) (fun k => ?_)
            rw [tb_or, tb_0, Bool.or_false, hz k]
            refine FS_skip (fun c w p => by omega) (fun c w _ _ _ e p => ?_) k
            by_cases g2 : w = b
            · rw [g2, hB] at e
              cases e
            · omega
          · have hB : tb B b = true := by
              cases e : tb B b with
              | true => rfl
              | false => exact absurd ((tb_utest (by omega)).mpr e) g
            obtain ⟨x, x1, x2, x3, x4⟩ := hK2.2.2.1.2 y0 (by omega) b (by omega)
            rw [hF 96 (by decide)] at x4
            refine am_lconst (v := 1) rfl (by decide) ?_
            refine am_aload_n rfl rfl ?_
            refine ho_getR rfl (by first | rfl | assumption) rfl (by first | assumption | exact hR _ _ _ rfl) ?_
            refine am_iload rfl rfl ?_
            refine am_bipush (v := nI 40) rfl (by decide) ?_
            first | refine ho_muln rfl ?_ | refine am_imul rfl ?_
            refine am_iload rfl rfl ?_
            first | refine ho_addn rfl ?_ | refine am_iadd rfl ?_
            refine ho_iaload rfl (by first | rfl | assumption) (by omega) ?_
            rw [x3]
            refine am_lshl rfl rfl ?_
            refine am_goto rfl ?_
            refine am_lor rfl ?_
            refine am_lstore rfl (Nat.le_of_ble_eq_true rfl) ?_
            show am_T _ _ _ _ [_, _, _, _, _, _, some _, none, _, _] _ _ _ _ _
            refine am_iinc rfl rfl (nI_inc1 _) ?_
            show am_T _ _ _ _ [_, _, _, _, _, _, _, _, _, some _] _ _ _ _ _
            refine am_goto rfl ?_
            refine ihb (b + 1) _ (by omega) (fun k => ?_)
            rw [tb_or, tb_bit (by omega), Bool.or_eq_true, decide_eq_true_eq, hz k]
            exact (FS_one hdis (by omega) (by omega) hMy hB x1 x2 x4 (fun c w => by omega) k).symm
      refine am_iload rfl rfl ?_
      refine am_aload_n rfl rfl ?_
      refine ho_getI rfl (by first | rfl | assumption) rfl ?_
      rw [hK2.2.1.2.1.2.1]
      refine ho_icmp_ge rfl (by omega) (by omega) (fun g => absurd g (by omega)) (fun _ => ?_)
      refine am_iconst (v := nI 0) rfl (by decide) ?_
      refine am_istore rfl (Nat.le_of_ble_eq_true rfl) ?_
      show am_T _ _ _ _ [_, _, _, _, _, _, _, _, _, some _] _ _ _ _ _
      exact inner cnt 0 z (by omega) (fun k => (hz k).trans (FS_skip (fun c w p => by omega) (fun c w _ _ _ _ p => by omega) k))
  -- the first loop
  have first : ∀ (j a : Nat) (mi2 : Nat → Nat → Int32), a + j = cnt → F1h mi mi2 → (∀ y, y < 161 → mi2 100 y = 0 ∨ (mi2 100 y = 1 ∧ y < L ∧ ∃ c, c < a ∧ tb A c = true ∧ GL S ip n cnt L mi ml f c y)) → (∀ c, c < a → tb A c = true → ∃ y, mi2 100 y = 1 ∧ GL S ip n cnt L mi ml f c y) → am_T l (d + 1) M_K_followAll 3 [some (.ref 93), some (.int (nI (fp f))), some (.long A), none, some (.long B), none, some (.int (nI a)), none, none, none] [] (hm mi2 ml mr) 0 0 (fun r h' => ∃ z mi', r = some (.long z) ∧ h' = hm mi' ml mr ∧ F1h mi mi' ∧ Z100 mi' ∧ ∀ k, tb z k = true ↔ JS S (ml 94) cnt f (tb A) (tb B) (fun _ _ => True) k) := by
    intro j
    induction j with
    | zero =>
      intro a mi2 hj hF hs hcm
      have hK2 := hKto mi2 hF
      have ha : a = cnt := hj
      subst ha
      refine am_iload rfl rfl ?_
      refine am_aload_n rfl rfl ?_
      refine ho_getI rfl (by first | rfl | assumption) rfl ?_
      rw [hK2.2.1.2.1.1]
      refine ho_icmp_ge rfl (by omega) (by omega) (fun _ => ?_) (fun g => absurd (by omega) g)
      refine am_drops [6] ?_
      refine am_lconst (v := 0) rfl (by decide) ?_
      refine am_lstore rfl (Nat.le_of_ble_eq_true rfl) ?_
      show am_T _ _ _ _ [_, _, _, _, _, _, some _, none, _, _] _ _ _ _ _
      refine am_iconst (v := nI 0) rfl (by decide) ?_
      refine am_istore rfl (Nat.le_of_ble_eq_true rfl) ?_
      show am_T _ _ _ _ [_, _, _, _, _, _, _, _, some _, _] _ _ _ _ _
      refine second (fun y => decide (mi2 100 y = 1)) (fun y hy hM => ?_) (fun c hc hA => ?_) L 0 _ mi2 (by omega) hF (fun y hy => ?_) (fun k => ⟨fun g => ?_, fun ⟨c, w, g, _⟩ => absurd g (Nat.not_lt_zero _)⟩)
      · rcases hs y (by omega) with g | ⟨-, -, g⟩
        · have := of_decide_eq_true hM
          rw [g] at this
          cases this
        · exact g
      · obtain ⟨y, g1, g2⟩ := hcm c hc hA
        exact ⟨y, decide_eq_true g1, g2⟩
      · rcases hs y hy with g | ⟨g, g2, -⟩
        · rw [g, show decide ((0 : Int32) = 1) = false from rfl, Bool.and_false]
          rfl
        · rw [g, decide_eq_true (show 0 ≤ y ∧ y < L by omega)]
          rfl
      · rw [tb_0] at g
        cases g
    | succ j ih =>
      intro a mi2 hj hF hs hcm
      have hK2 := hKto mi2 hF
      refine am_iload rfl rfl ?_
      refine am_aload_n rfl rfl ?_
      refine ho_getI rfl (by first | rfl | assumption) rfl ?_
      rw [hK2.2.1.2.1.1]
      refine ho_icmp_ge rfl (by omega) (by omega) (fun g => absurd g (by omega)) (fun _ => ?_)
      refine am_lload_n rfl rfl ?_
      refine am_iload rfl rfl ?_
      refine am_lushr rfl rfl ?_
      refine am_lconst (v := 1) rfl (by decide) ?_
      refine am_land rfl ?_
      refine am_lconst (v := 0) rfl (by decide) ?_
      refine am_lcmp rfl ?_
      refine am_if_eq rfl (fun g => ?_) (fun g => ?_)
      · have hA := (tb_utest (by omega)).mp g
        refine am_iinc rfl rfl (nI_inc1 _) ?_
        show am_T _ _ _ _ [_, _, _, _, _, _, some _, _, _, _] _ _ _ _ _
        refine am_goto rfl ?_
        refine ih (a + 1) mi2 (by omega) hF (fun y hy => ?_) (fun c hc hAc => ?_)
        · rcases hs y hy with g | ⟨g1, g2, c, g3, g4⟩
          · exact Or.inl g
          · exact Or.inr ⟨g1, g2, c, by omega, g4⟩
        · by_cases e : c = a
          · rw [e, hA] at hAc
            cases hAc
          · exact hcm c (by omega) hAc
      · have hA : tb A a = true := by
          cases e : tb A a with
          | true => rfl
          | false => exact absurd ((tb_utest (by omega)).mpr e) g
        refine am_aload_n rfl rfl ?_
        refine ho_getR rfl (by first | rfl | assumption) rfl (by first | assumption | exact hR _ _ _ rfl) ?_
        refine am_aload_n rfl rfl ?_
        refine am_iload_n rfl rfl ?_
        refine am_iload rfl rfl ?_
        refine ho_cv2 rfl (by first | rfl | assumption) rfl (Nat.le_of_ble_eq_true rfl) (Nat.le_of_ble_eq_true rfl) (c_K_letterOf hR hS hK2 f a h1 h5 (by omega)) ?_
        rintro r h' ⟨y, y1, rfl, rfl, y2⟩
        have hGL : GL S ip n cnt L mi ml f a y := ⟨y1, fun w hw => by rw [← hF 96 (by decide)]; exact y2 w hw⟩
        refine am_iconst (v := nI 1) rfl (by decide) ?_
        refine ho_bastore rfl rfl (by omega) (by rfl) ?_
        refine am_iinc rfl rfl (nI_inc1 _) ?_
        show am_T _ _ _ _ [_, _, _, _, _, _, some _, _, _, _] _ _ _ _ _
        refine am_goto rfl ?_
        refine ih (a + 1) _ (by omega) (fun b hb => by rw [up2_off _ _ _ hb]; exact hF b hb) (fun x hx => ?_) (fun c hc hAc => ?_)
        · by_cases e : x = y
          · refine Or.inr ⟨by unfold up2; rw [if_pos ⟨rfl, e⟩]; rfl, by omega, a, by omega, hA, by rw [e]; exact hGL⟩
          · rw [show up2 mi2 100 y (nI 1) 100 x = mi2 100 x by unfold up2; rw [if_neg (fun q => e q.2)]]
            rcases hs x hx with g | ⟨g1, g2, c, g3, g4⟩
            · exact Or.inl g
            · exact Or.inr ⟨g1, g2, c, by omega, g4⟩
        · by_cases e : c = a
          · rw [e]
            exact ⟨y, by unfold up2; rw [if_pos ⟨rfl, rfl⟩]; rfl, hGL⟩
          · obtain ⟨x, g1, g2⟩ := hcm c (by omega) hAc
            refine ⟨x, ?_, g2⟩
            by_cases e2 : x = y
            · unfold up2
              rw [if_pos ⟨rfl, e2⟩]
              rfl
            · unfold up2
              rw [if_neg (fun q => e2 q.2)]
              exact g1
  refine am_iconst (v := nI 0) rfl (by decide) ?_
  refine am_istore rfl (Nat.le_of_ble_eq_true rfl) ?_
  show am_T _ _ _ _ [_, _, _, _, _, _, some _, _, _, _] _ _ _ _ _
  exact first cnt 0 mi (by omega) (fun _ _ => rfl) (fun y hy => Or.inl (hZ y hy)) (fun c hc => absurd hc (Nat.not_lt_zero _))
end G9
