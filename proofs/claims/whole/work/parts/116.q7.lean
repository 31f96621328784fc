/-! the reference: safe -/
section Q7
variable {l : Launch} {d : Nat} {K : Option Value → Prop} {mr : Nat → Nat → Option Nat} {s : Sta}
/-- the reference finds a function as sound as the class does -/
theorem snd_no {S : Rs} {F : Nat → Fn} {cnt : Nat} {v : Nat → Nat} {km : Nat → Int64} {f : Nat} {b : Bool} (hz : (F f).2.2.length = 0) (h : SndX S F cnt v km f b) : b = false := by
  rcases h with ⟨-, h⟩ | ⟨h, -⟩
  · exact h
  · exact absurd hz h
theorem m_safe_rest (hR : SR mr) (hs : okSta s) (x1 : Int32) {ip : Nat → Nat} {n cnt L : Nat} {w : Nat → Nat} {mj : Nat → Nat → Int32} {mk : Nat → Nat → Int64} (hKX : KX (SD s.D) cnt false mj mk) (hKF : KF (SD s.D) ip n cnt L w mj mk) (mi0 : Nat → Nat → Int32) (ml0 : Nat → Nat → Int64) (m : Nat) (hm8 : m < 8) (B : Bool) (hB : AllX (SD s.D) s.F cnt w (mk 94) m B) : ∀ (x f : Nat) (ok : Bool) (mi : Nat → Nat → Int32) (ml : Nat → Nat → Int64), f + x = 3 → MI s mi ml → (∀ a, a < 116 → mi a = mi0 a) → (∀ a, a < 116 → ml a = ml0 a) → (B = true → ok = true) → (B = false → (∃ g, g < f ∧ m.testBit g = true ∧ SndX (SD s.D) s.F cnt w (mk 94) g false) → ok = false) → am_T l (d + 7) M_m_safe 77 [some (.ref 116), some (.int x1), some (.int (nI m)), some (.int (bI ok)), some (.int (nI f))] [] (hm mi ml mr) 0 0 (fun r h' => r = some (.int (bI B)) ∧ ∃ mi' ml', h' = hm mi' ml' mr ∧ MI s mi' ml' ∧ (∀ a, a < 116 → mi' a = mi0 a) ∧ ∀ a, a < 116 → ml' a = ml0 a) := by
  have hS := okS_SD hs.2.1
  intro x
  induction x with
  | zero =>
    intro f ok mi ml hx hM hi hl h1 h2
    refine am_iload rfl rfl ?_
    refine am_iconst (v := nI 3) rfl (by decide) ?_
    refine ho_icmp_ge rfl (by omega) (by omega) (fun _ => ?_) (fun g => absurd (by omega) g)
    refine am_iload_n rfl rfl ?_
    refine am_zreturn rfl rfl (bI_01 _) ⟨?_, mi, ml, rfl, hM, hi, hl⟩
    rcases hB with ⟨rfl, -⟩ | ⟨rfl, g, g1, g2, g3⟩
    · rw [h1 rfl]
    · rw [h2 rfl ⟨g, by omega, g2, g3⟩]
  | succ x ih =>
    intro f ok mi ml hx hM hi hl h1 h2
    have hf3 : f < 3 := by omega
    refine am_iload rfl rfl ?_
    refine am_iconst (v := nI 3) rfl (by decide) ?_
    refine ho_icmp_ge rfl (by omega) (by omega) (fun g => absurd g (by omega)) (fun _ => ?_)
    refine am_iload_n rfl rfl ?_
    refine am_iload rfl rfl ?_
    refine am_ishr rfl ?_
    refine am_iconst (v := nI 1) rfl (by decide) ?_
    refine am_iand rfl ?_
    rw [shr_bit7 m (by omega) f (by omega)]
    refine am_iconst (v := nI 1) rfl (by decide) ?_
    have next : ∀ (ok' : Bool) (mi' : Nat → Nat → Int32) (ml' : Nat → Nat → Int64), MI s mi' ml' → (∀ a, a < 116 → mi' a = mi0 a) → (∀ a, a < 116 → ml' a = ml0 a) → (ok' = true → ok = true) → (m.testBit f = true → ∀ b, SndX (SD s.D) s.F cnt w (mk 94) f b → ok = true → ok' = b) → (m.testBit f = false → ok' = ok) → am_T l (d + 7) M_m_safe 134 [some (.ref 116), some (.int x1), some (.int (nI m)), some (.int (bI ok')), some (.int (nI f))] [] (hm mi' ml' mr) 0 0 (fun r h' => r = some (.int (bI B)) ∧ ∃ mi' ml', h' = hm mi' ml' mr ∧ MI s mi' ml' ∧ (∀ a, a < 116 → mi' a = mi0 a) ∧ ∀ a, a < 116 → ml' a = ml0 a) := by
      intro ok' mi' ml' b1 b2 b3 b4 b5 b6
      refine am_iinc rfl rfl (nI_inc1 _) ?_
      show am_T _ _ _ _ [_, _, _, _, some _] _ _ _ _ _
      refine am_goto rfl ?_
      refine ih (f + 1) ok' mi' ml' (by omega) b1 b2 b3 (fun hBt => ?_) (fun hBf => ?_)
      · cases hb : m.testBit f with
        | false => rw [b6 hb]; exact h1 hBt
        | true =>
          rcases hB with ⟨-, hall⟩ | ⟨q, -⟩
          · exact b5 hb true (hall f hf3 hb) (h1 hBt)
          · rw [hBt] at q
            cases q
      · rintro ⟨g, g1, g2, g3⟩
        cases hok' : ok' with
        | false => rfl
        | true =>
          have hok := b4 hok'
          by_cases e : g = f
          · subst e
            have := b5 g2 false g3 hok
            rw [hok'] at this
            exact this
          · have := h2 hBf ⟨g, by omega, g2, g3⟩
            rw [hok] at this
            cases this
    cases hb : m.testBit f with
    | false =>
      refine ho_icmp_ne rfl (by decide) (by decide) (fun _ => ?_) (fun g => absurd g (by decide))
      exact next ok mi ml hM hi hl (fun q => q) (fun q => by rw [hb] at q; cases q) (fun _ => rfl)
    | true =>
      refine ho_icmp_ne rfl (by decide) (by decide) (fun g => absurd rfl g) (fun _ => ?_)
      have no : ∀ (mi' : Nat → Nat → Int32) (ml' : Nat → Nat → Int64) (q : Bool), MI s mi' ml' → (∀ a, a < 116 → mi' a = mi0 a) → (∀ a, a < 116 → ml' a = ml0 a) → (∀ b, SndX (SD s.D) s.F cnt w (mk 94) f b → ok = true → b = false) → am_T l (d + 7) M_m_safe 132 [some (.ref 116), some (.int x1), some (.int (nI m)), some (.int (bI q)), some (.int (nI f))] [] (hm mi' ml' mr) 0 0 (fun r h' => r = some (.int (bI B)) ∧ ∃ mi' ml', h' = hm mi' ml' mr ∧ MI s mi' ml' ∧ (∀ a, a < 116 → mi' a = mi0 a) ∧ ∀ a, a < 116 → ml' a = ml0 a) := by
        intro mi' ml' q b1 b2 b3 b4
        refine am_iconst (v := nI 0) rfl (by decide) ?_
        refine am_istore_n rfl (Nat.le_of_ble_eq_true rfl) ?_
        show am_T _ _ _ _ [_, _, _, some _, _] _ _ _ _ _
        exact next false mi' ml' b1 b2 b3 (fun z => by cases z) (fun _ b hbb hok => (b4 b hbb hok).symm) (fun z => by rw [hb] at z; cases z)
      refine am_iload_n rfl rfl ?_
      refine am_if_eq rfl (fun g => ?_) (fun g => ?_)
      · have g := (bI_eq _).mp g
        exact no mi ml ok hM hi hl (fun b _ q => by rw [g] at q; cases q)
      refine am_aload_n rfl rfl ?_
      refine am_iload rfl rfl ?_
      refine ho_cv1 rfl (by first | rfl | assumption) rfl (Nat.le_of_ble_eq_true rfl) (Nat.le_of_ble_eq_true rfl) (c_m_definedN hR f hf3 (hM.2.2.1 f hf3)) ?_
      rintro v h' ⟨rfl, rfl⟩
      refine am_if_eq rfl (fun g => ?_) (fun g => ?_)
      · have g : (s.F f).2.2.length = 0 := Classical.not_not.mp (of_decide_eq_false ((bI_eq _).mp g))
        exact no mi ml ok hM hi hl (fun b hbb _ => snd_no g hbb)
      have hz : (s.F f).2.2.length ≠ 0 := of_decide_eq_true ((bI_ne _).mp g)
      have hokF : okF (s.F f) := (hs.2.2.1 f).1.resolve_left (fun q => hz (by rw [q]; rfl))
      have h6 := hokF.2.2.2.2
      refine am_aload_n rfl rfl ?_
      refine am_iload rfl rfl ?_
      refine ho_cv1 rfl (by first | rfl | assumption) rfl (Nat.le_of_ble_eq_true rfl) (Nat.le_of_ble_eq_true rfl) (m_unc hR hs mi ml hM f hf3 hz) ?_
      rintro v h' ⟨cm, mi1, ml1, rfl, q0, q1, q2, q3, q4, q5⟩
      have hi1 : ∀ a, a < 116 → mi1 a = mi0 a := fun a ha => (q4.1 a (by omega) (by omega) (by omega) (by omega) (by omega) (by omega)).trans (hi a ha)
      have hl1 : ∀ a, a < 116 → ml1 a = ml0 a := fun a ha => (q4.2.2.1 a (by omega) (by omega) (by omega)).trans (hl a ha)
      obtain ⟨e1, -⟩ := room_same hS q2 hKX
      have hcm : ¬ 40 < cm := of_decide_eq_false e1.symm
      rcases q5 with ⟨k1, -⟩ | ⟨k1, u, z, k2, k3, rfl, k4⟩
      · exact absurd k1 hcm
      refine am_ldc2m rfl rfl ?_
      refine am_lcmp rfl ?_
      refine am_if_ne rfl (fun g => ?_) (fun g => ?_)
      · have hne : z ≠ -1 := fun e => g (lg_cmp_0.mpr e)
        refine no mi1 ml1 ok q0 hi1 hl1 (fun b hbb _ => ?_)
        rcases hbb with ⟨q, -⟩ | ⟨-, z', y1, y2⟩
        · exact absurd q hz
        · have := unc_same hS q2 k1 k2 k3 hKF k4 y1
          rcases y2 with ⟨-, y2⟩ | ⟨y2, -⟩
          · exact y2
          · exact absurd (this.trans y2) hne
      have he : z = -1 := lg_cmp_0.mp g
      refine am_aload_n rfl rfl ?_
      refine am_iload rfl rfl ?_
      refine ho_cv1 rfl (by first | rfl | assumption) rfl (Nat.le_of_ble_eq_true rfl) (Nat.le_of_ble_eq_true rfl) (m_wrg hR hs mi1 ml1 q0 f hf3 hz) ?_
      rintro v h' ⟨cm2, mi2, ml2, rfl, p0, p1, p2, p3, p4, p5⟩
      have hi2 : ∀ a, a < 116 → mi2 a = mi0 a := fun a ha => (p3 a ha).trans (hi1 a ha)
      have hl2 : ∀ a, a < 116 → ml2 a = ml0 a := fun a ha => (p4 a ha).trans (hl1 a ha)
      obtain ⟨e2, -⟩ := room_same hS p2 hKX
      have hcm2 : ¬ 40 < cm2 := of_decide_eq_false e2.symm
      rcases p5 with ⟨j1, -⟩ | ⟨j1, u2, fd, j2, j3, rfl, j4⟩
      · exact absurd j1 hcm2
      have hbv : ∀ b, SndX (SD s.D) s.F cnt w (mk 94) f b → b = decide ((s.F f).2.2.length ≤ fd) := by
        intro b hbb
        rcases hbb with ⟨q, -⟩ | ⟨-, z', y1, y2⟩
        · exact absurd q hz
        · have := unc_same hS q2 k1 k2 k3 hKF k4 y1
          rcases y2 with ⟨y2, -⟩ | ⟨-, fd', y3, y4⟩
          · exact absurd (this.symm.trans he) y2
          · rw [y4, wrong_same hS p2 j1 j2 j3 hKF hokF j4 y3]
      by_cases hlt : fd < (s.F f).2.2.length
      · rw [if_pos hlt]
        refine am_if_ne rfl (fun _ => ?_) (fun q => ?_)
        · exact no mi2 ml2 ok p0 hi2 hl2 (fun b hbb _ => (hbv b hbb).trans (decide_eq_false (by omega)))
        · have : fd + 1 = 0 := (nI_eq (a := fd + 1) (b := 0) (by omega) (by omega)).mp q
          omega
      · rw [if_neg hlt]
        refine am_if_ne rfl (fun q => absurd rfl q) (fun _ => ?_)
        refine am_iconst (v := nI 1) rfl (by decide) ?_
        refine am_goto rfl ?_
        refine am_istore_n rfl (Nat.le_of_ble_eq_true rfl) ?_
        show am_T _ _ _ _ [_, _, _, some _, _] _ _ _ _ _
        have hok := (bI_ne _).mp ‹¬ bI ok = 0›
        exact next true mi2 ml2 p0 hi2 hl2 (fun _ => hok) (fun _ b hbb _ => ((hbv b hbb).trans (decide_eq_true (by omega))).symm) (fun q => by rw [hb] at q; cases q)
end Q7
