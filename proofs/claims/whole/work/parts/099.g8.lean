/-! sets of kinds: joinSets, kindsIn -/
def JS (S : Rs) (km : Nat → Int64) (cnt f : Nat) (A B : Nat → Bool) (P : Nat → Nat → Prop) (k : Nat) : Prop := ∃ c w, P c w ∧ c < cnt ∧ w < cnt ∧ A c = true ∧ B w = true ∧ 1 ≤ k ∧ k < cnt ∧ km k = belF S f (tb (km c)) (tb (km w))
section G8
variable {l : Launch} {d : Nat} {mi : Nat → Nat → Int32} {ml : Nat → Nat → Int64} {mr : Nat → Nat → Option Nat} {S : Rs} {cnt : Nat}
theorem JS_skip {km : Nat → Int64} {f : Nat} {A B : Nat → Bool} {P P' : Nat → Nat → Prop} (h1 : ∀ c w, P c w → P' c w) (h2 : ∀ c w, c < cnt → w < cnt → A c = true → B w = true → P' c w → P c w) (k : Nat) : JS S km cnt f A B P k ↔ JS S km cnt f A B P' k := by
  constructor
  · rintro ⟨c, w, a, b⟩
    exact ⟨c, w, h1 c w a, b⟩
  · rintro ⟨c, w, a, b1, b2, b3, b4, b5⟩
    exact ⟨c, w, h2 c w b1 b2 b3 b4 a, b1, b2, b3, b4, b5⟩
theorem JS_one {km : Nat → Int64} {f a b x : Nat} {A B : Nat → Bool} {P P' : Nat → Nat → Prop} (hd : ∀ a b, 1 ≤ a → a < b → b < cnt → km a ≠ km b) (ha : a < cnt) (hb : b < cnt) (hA : A a = true) (hB : B b = true) (x1 : 1 ≤ x) (x2 : x < cnt) (hx : km x = belF S f (tb (km a)) (tb (km b))) (h : ∀ c w, P' c w ↔ P c w ∨ (c = a ∧ w = b)) (k : Nat) : JS S km cnt f A B P' k ↔ (JS S km cnt f A B P k ∨ k = x) := by
  constructor
  · rintro ⟨c, w, p, b1, b2, b3, b4, b5, b6, b7⟩
    rcases (h c w).mp p with q | ⟨rfl, rfl⟩
    · exact Or.inl ⟨c, w, q, b1, b2, b3, b4, b5, b6, b7⟩
    · refine Or.inr ?_
      rcases Nat.lt_trichotomy k x with g | g | g
      · exact absurd (b7.trans hx.symm) (hd k x b5 g x2)
      · exact g
      · exact absurd (hx.trans b7.symm) (hd x k x1 g b6)
  · rintro (⟨c, w, p, b⟩ | rfl)
    · exact ⟨c, w, (h c w).mpr (Or.inl p), b⟩
    · exact ⟨a, b, (h a b).mpr (Or.inr ⟨rfl, rfl⟩), ha, hb, hA, hB, x1, x2, hx⟩
theorem c_m_joinSets (hR : SR mr) (hM : MKn S cnt mi ml) (h40 : cnt ≤ 40) (q : Nat) (hq : q ≤ 4) (A B : Int64) : am_T l (d + 1) M_m_joinSets 0 [some (.ref 116), some (.int (nI q)), some (.long A), none, some (.long B), none, none, none, none, none] [] (hm mi ml mr) 0 0 (fun r h' => ∃ z, r = some (.long z) ∧ h' = hm mi ml mr ∧ ∀ k, tb z k = true ↔ JS S (ml 127) cnt (q + 1) (tb A) (tb B) (fun _ _ => True) k) := by
  obtain ⟨⟨c1, c2⟩, hc, c3, c4, c5⟩ := id hM.1
  have hAll := (hM.2.1 h40).1
  have inner : ∀ (a : Nat), a < cnt → (∀ z, (∀ k, tb z k = true ↔ JS S (ml 127) cnt (q + 1) (tb A) (tb B) (fun c _ => c < a + 1) k) → am_T l (d + 1) M_m_joinSets 72 [some (.ref 116), some (.int (nI q)), some (.long A), none, some (.long B), none, some (.long z), none, some (.int (nI a)), none] [] (hm mi ml mr) 0 0 (fun r h' => ∃ z, r = some (.long z) ∧ h' = hm mi ml mr ∧ ∀ k, tb z k = true ↔ JS S (ml 127) cnt (q + 1) (tb A) (tb B) (fun _ _ => True) k)) →
      ∀ (j b : Nat) (z : Int64), b + j = cnt → (∀ k, tb z k = true ↔ JS S (ml 127) cnt (q + 1) (tb A) (tb B) (fun c w => c < a ∨ (c = a ∧ w < b)) k) → am_T l (d + 1) M_m_joinSets 18 [some (.ref 116), some (.int (nI q)), some (.long A), none, some (.long B), none, some (.long z), none, some (.int (nI a)), some (.int (nI b))] [] (hm mi ml mr) 0 0 (fun r h' => ∃ z, r = some (.long z) ∧ h' = hm mi ml mr ∧ ∀ k, tb z k = true ↔ JS S (ml 127) cnt (q + 1) (tb A) (tb B) (fun _ _ => True) k) := by
    intro a ha hout j
    induction j with
    | zero =>
      intro b z hj hz
      refine am_iload rfl rfl ?_
      refine am_aload_n rfl rfl ?_
      refine ho_getI rfl (by first | rfl | assumption) rfl ?_
      rw [hc]
      refine ho_icmp_ge rfl (by omega) (by omega) (fun _ => ?_) (fun g => absurd (by omega) g)
      refine am_drops [9] ?_
      exact hout z (fun k => (hz k).trans (JS_skip (fun c w p => by omega) (fun c w _ _ _ _ p => by omega) k))
    | succ j ih =>
      intro b z hj hz
      refine am_iload rfl rfl ?_
      refine am_aload_n rfl rfl ?_
      refine ho_getI rfl (by first | rfl | assumption) rfl ?_
      rw [hc]
      refine ho_icmp_ge rfl (by omega) (by omega) (fun g => absurd g (by omega)) (fun _ => ?_)
      refine am_lload_n rfl rfl ?_
      refine am_iload rfl rfl ?_
      refine am_lshr rfl rfl ?_
      refine am_lconst (v := 1) rfl (by decide) ?_
      refine am_land rfl ?_
      refine am_lconst (v := 1) rfl (by decide) ?_
      refine am_lcmp rfl ?_
      refine am_if_ne rfl (fun g => ?_) (fun g => ?_)
      · have hA : tb A a ≠ true := fun e => g ((tb_test (by omega)).mpr e)
        refine am_drops [9] ?_
        refine hout z (fun k => (hz k).trans (JS_skip (fun c w p => by omega) (fun c w _ _ e _ p => ?_) k))
        by_cases g2 : c = a
        · rw [g2] at e
          exact absurd e hA
        · omega
      have hA : tb A a = true := (tb_test (by omega)).mp g
      refine am_lload rfl rfl ?_
      refine am_iload rfl rfl ?_
      refine am_lshr rfl rfl ?_
      refine am_lconst (v := 1) rfl (by decide) ?_
      refine am_land rfl ?_
      refine am_lconst (v := 1) rfl (by decide) ?_
      refine am_lcmp rfl ?_
      refine am_if_ne rfl (fun g => ?_) (fun g => ?_)
      · have hB : tb B b ≠ true := fun e => g ((tb_test (by omega)).mpr e)
        refine am_iinc rfl rfl (nI_inc1 _) ?_
        show am_T _ _ _ _ [_, _, _, _, _, _, _, _, _, some _] _ _ _ _ _
        refine am_goto rfl ?_
        refine ih (b + 1) z (by omega) (fun k => (hz k).trans (JS_skip (fun c w p => by omega) (fun c w _ _ _ e p => ?_) k))
        by_cases g2 : w = b
        · rw [g2] at e
          exact absurd e hB
        · omega
      have hB : tb B b = true := (tb_test (by omega)).mp g
      obtain ⟨x, x1, x2, x3, x4⟩ := hAll q hq a b ha (by omega)
      refine am_lload rfl rfl ?_
      refine am_lconst (v := 1) rfl (by decide) ?_
      refine am_aload_n rfl rfl ?_
      refine am_iload_n rfl rfl ?_
      refine am_iload rfl rfl ?_
      refine am_iload rfl rfl ?_
      refine ho_cv3 rfl (by first | rfl | assumption) rfl (Nat.le_of_ble_eq_true rfl) (Nat.le_of_ble_eq_true rfl) (c_m_joined hR q a b hq (by omega) (by omega)) ?_
      rintro v h' ⟨rfl, rfl⟩
      rw [x3]
      refine am_lshl rfl rfl ?_
      refine am_lor rfl ?_
      refine am_lstore rfl (Nat.le_of_ble_eq_true rfl) ?_
      show am_T _ _ _ _ [_, _, _, _, _, _, some _, none, _, _] _ _ _ _ _
      refine am_iinc rfl rfl (nI_inc1 _) ?_
      show am_T _ _ _ _ [_, _, _, _, _, _, _, _, _, some _] _ _ _ _ _
      refine am_goto rfl ?_
      refine ih (b + 1) _ (by omega) (fun k => ?_)
      rw [tb_or, tb_bit (by omega), Bool.or_eq_true, decide_eq_true_eq, hz k]
      exact (JS_one c4 ha (by omega) hA hB x1 x2 x4 (fun c w => by omega) k).symm
  have outer : ∀ (j a : Nat) (z : Int64), a + j = cnt → (∀ k, tb z k = true ↔ JS S (ml 127) cnt (q + 1) (tb A) (tb B) (fun c _ => c < a) k) → am_T l (d + 1) M_m_joinSets 6 [some (.ref 116), some (.int (nI q)), some (.long A), none, some (.long B), none, some (.long z), none, some (.int (nI a)), none] [] (hm mi ml mr) 0 0 (fun r h' => ∃ z, r = some (.long z) ∧ h' = hm mi ml mr ∧ ∀ k, tb z k = true ↔ JS S (ml 127) cnt (q + 1) (tb A) (tb B) (fun _ _ => True) k) := by
    intro j
    induction j with
    | zero =>
      intro a z hj hz
      refine am_iload rfl rfl ?_
      refine am_aload_n rfl rfl ?_
      refine ho_getI rfl (by first | rfl | assumption) rfl ?_
      rw [hc]
      refine ho_icmp_ge rfl (by omega) (by omega) (fun _ => ?_) (fun g => absurd (by omega) g)
      refine am_lload rfl rfl ?_
      exact am_lreturn rfl rfl ⟨z, rfl, rfl, fun k => (hz k).trans (JS_skip (fun c w p => trivial) (fun c w h _ _ _ p => by omega) k)⟩
    | succ j ih =>
      intro a z hj hz
      refine am_iload rfl rfl ?_
      refine am_aload_n rfl rfl ?_
      refine ho_getI rfl (by first | rfl | assumption) rfl ?_
      rw [hc]
      refine ho_icmp_ge rfl (by omega) (by omega) (fun g => absurd g (by omega)) (fun _ => ?_)
      refine am_iconst (v := nI 0) rfl (by decide) ?_
      refine am_istore rfl (Nat.le_of_ble_eq_true rfl) ?_
      show am_T _ _ _ _ [_, _, _, _, _, _, _, _, _, some _] _ _ _ _ _
      refine inner a (by omega) (fun z' hz' => ?_) cnt 0 z (by omega) (fun k => (hz k).trans (JS_skip (fun c w p => by omega) (fun c w _ _ _ _ p => by omega) k))
      refine am_iinc rfl rfl (nI_inc1 _) ?_
      show am_T _ _ _ _ [_, _, _, _, _, _, _, _, some _, _] _ _ _ _ _
      refine am_goto rfl ?_
      exact ih (a + 1) z' (by omega) hz'
  refine am_lconst (v := 0) rfl (by decide) ?_
  refine am_lstore rfl (Nat.le_of_ble_eq_true rfl) ?_
  show am_T _ _ _ _ [_, _, _, _, _, _, some _, none, _, _] _ _ _ _ _
  refine am_iconst (v := nI 0) rfl (by decide) ?_
  refine am_istore rfl (Nat.le_of_ble_eq_true rfl) ?_
  show am_T _ _ _ _ [_, _, _, _, _, _, _, _, some _, _] _ _ _ _ _
  refine outer cnt 0 _ (by omega) (fun k => ⟨fun g => ?_, fun ⟨c, w, g, _⟩ => absurd g (Nat.not_lt_zero _)⟩)
  rw [tb_0] at g
  cases g
theorem c_m_kindsIn (hR : SR mr) (hS : okS S) (hr : repS S mi) (hM : MKn S cnt mi ml) (h40 : cnt ≤ 40) (b : Nat) (hb : b < 6) : am_T l (d + 1) M_m_kindsIn 0 [some (.ref 116), some (.int (nI b)), none, none, none] [] (hm mi ml mr) 0 0 (fun r h' => ∃ z, r = some (.long z) ∧ h' = hm mi ml mr ∧ MemB S cnt (ml 127) z b) := by
  obtain ⟨⟨c1, c2⟩, hc, c3, c4, c5⟩ := id hM.1
  have loop : ∀ (j a : Nat) (z : Int64), a + j = cnt → MemB S a (ml 127) z b → am_T l (d + 1) M_m_kindsIn 5 [some (.ref 116), some (.int (nI b)), some (.long z), none, some (.int (nI a))] [] (hm mi ml mr) 0 0 (fun r h' => ∃ z, r = some (.long z) ∧ h' = hm mi ml mr ∧ MemB S cnt (ml 127) z b) := by
    intro j
    induction j with
    | zero =>
      intro a z hj hz
      refine am_iload rfl rfl ?_
      refine am_aload_n rfl rfl ?_
      refine ho_getI rfl (by first | rfl | assumption) rfl ?_
      rw [hc]
      refine ho_icmp_ge rfl (by omega) (by omega) (fun _ => ?_) (fun g => absurd (by omega) g)
      refine am_lload_n rfl rfl ?_
      have : a = cnt := hj
      subst this
      exact am_lreturn rfl rfl ⟨z, rfl, rfl, hz⟩
    | succ j ih =>
      intro a z hj hz
      refine am_iload rfl rfl ?_
      refine am_aload_n rfl rfl ?_
      refine ho_getI rfl (by first | rfl | assumption) rfl ?_
      rw [hc]
      refine ho_icmp_ge rfl (by omega) (by omega) (fun g => absurd g (by omega)) (fun _ => ?_)
      refine am_aload_n rfl rfl ?_
      refine am_aload_n rfl rfl ?_
      refine ho_getR rfl (by first | rfl | assumption) rfl (by first | assumption | exact hR _ _ _ rfl) ?_
      refine am_iload rfl rfl ?_
      refine ho_laload rfl (by first | rfl | assumption) (by omega) ?_
      refine am_iload_n rfl rfl ?_
      refine ho_cv2 rfl (by first | rfl | assumption) rfl (Nat.le_of_ble_eq_true rfl) (Nat.le_of_ble_eq_true rfl) (c_m_inName hR hS hr _ b hb) ?_
      rintro v h' ⟨rfl, rfl⟩
      refine am_if_eq rfl (fun g => ?_) (fun g => ?_)
      · have g := (bI_eq _).mp g
        refine am_lload_n rfl rfl ?_
        refine am_lstore_n rfl (Nat.le_of_ble_eq_true rfl) ?_
        show am_T _ _ _ _ [_, _, some _, none, _] _ _ _ _ _
        refine am_iinc rfl rfl (nI_inc1 _) ?_
        show am_T _ _ _ _ [_, _, _, _, some _] _ _ _ _ _
        refine am_goto rfl ?_
        refine ih (a + 1) z (by omega) (fun k => ?_)
        rw [hz k]
        by_cases e : k = a
        · subst e
          rw [g, Bool.and_false, Bool.and_false]
        · congr 1
          exact decide_eq_decide.mpr (by omega)
      · have g := (bI_ne _).mp g
        refine am_lload_n rfl rfl ?_
        refine am_lconst (v := 1) rfl (by decide) ?_
        refine am_iload rfl rfl ?_
        refine am_lshl rfl rfl ?_
        refine am_lor rfl ?_
        refine am_goto rfl ?_
        refine am_lstore_n rfl (Nat.le_of_ble_eq_true rfl) ?_
        show am_T _ _ _ _ [_, _, some _, none, _] _ _ _ _ _
        refine am_iinc rfl rfl (nI_inc1 _) ?_
        show am_T _ _ _ _ [_, _, _, _, some _] _ _ _ _ _
        refine am_goto rfl ?_
        refine ih (a + 1) _ (by omega) (fun k => ?_)
        rw [tb_or, tb_bit (by omega), hz k]
        by_cases e : k = a
        · subst e
          rw [g, decide_eq_true rfl, decide_eq_true (show k < k + 1 by omega), Bool.or_true]
          rfl
        · rw [decide_eq_false e, Bool.or_false]
          congr 1
          exact decide_eq_decide.mpr (by omega)
  refine am_lconst (v := 0) rfl (by decide) ?_
  refine am_lstore_n rfl (Nat.le_of_ble_eq_true rfl) ?_
  show am_T _ _ _ _ [_, _, some _, none, _] _ _ _ _ _
  refine am_iconst (v := nI 0) rfl (by decide) ?_
  refine am_istore rfl (Nat.le_of_ble_eq_true rfl) ?_
  show am_T _ _ _ _ [_, _, _, _, some _] _ _ _ _ _
  refine loop cnt 0 _ (by omega) (fun k => ?_)
  rw [tb_0]
  rfl
end G8
