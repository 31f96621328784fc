/-! the reference: smallest -/
def oI (o : Option Nat) : Int32 := match o with
  | none => -1
  | some b => nI b
def pkM (S : Rs) (km : Nat → Int64) (a : Nat) (o : Option Nat) (k : Nat) : Bool := inN S (tb (km k)) a && (match o with
  | none => true
  | some b => !inN S (tb (km k)) b)
/-- the same with FAR for nothing -/
def Lsf (p : Nat → Bool) (cnt : Nat) (v : Nat → Nat) (r : Nat) : Prop := (r = FARm ∧ ∀ k, k < cnt → p k = false) ∨ ∃ k, k < cnt ∧ p k = true ∧ r = v k ∧ ∀ k', k' < cnt → p k' = true → v k ≤ v k'
section M8
variable {l : Launch} {d : Nat} {mi : Nat → Nat → Int32} {ml : Nat → Nat → Int64} {mr : Nat → Nat → Option Nat} {S : Rs} {cnt : Nat}
theorem c_m_smallest_loop (hR : SR mr) (hS : okS S) (hr : repS S mi) (h40 : cnt ≤ 40) (hc : mi 116 18 = nI cnt) (v : Nat → Nat) (hv : ∀ k, k < cnt → ml 128 k = lJ (v k)) (hF : ∀ k, k < cnt → v k < FARm) (a : Nat) (ha : a < 6) (o : Option Nat) (ho : ∀ b, o = some b → b < 6) {Q : Option Value → am_H → Prop} (hout : ∀ r, Lst (pkM S (ml 127) a o) cnt v r → Q (some (.long r)) (hm mi ml mr)) :
    ∀ (j k : Nat) (r : Nat), k + j = cnt → Lsf (pkM S (ml 127) a o) k v r → am_T l (d + 1) M_m_smallest 7 [some (.ref 116), some (.int (nI a)), some (.int (oI o)), some (.long (lJ r)), none, some (.int (nI k))] [] (hm mi ml mr) 0 0 Q := by
  have hFF : FARm = 1000000000000000000 := rfl
  intro j
  induction j with
  | zero =>
    intro k r hj hL
    have : k = cnt := by omega
    subst this
    refine am_iload rfl rfl ?_
    refine am_aload_n rfl rfl ?_
    refine ho_getI rfl (by first | rfl | assumption) rfl ?_
    rw [hc]
    refine ho_icmp_ge rfl (by omega) (by omega) (fun _ => ?_) (fun z => absurd (Nat.le_refl _) z)
    refine am_lload_n rfl rfl ?_
    refine am_ldc2 rfl rfl ?_
    refine am_lcmp rfl ?_
    refine am_if_ne rfl (fun q => ?_) (fun q => ?_)
    · refine am_lload_n rfl rfl ?_
      refine am_lreturn rfl rfl (hout _ ?_)
      rcases hL with ⟨h1, h2⟩ | ⟨x, x1, x2, x3, x4⟩
      · exact absurd (lg_cmp_0.mpr (by rw [h1]; rfl)) q
      · exact Or.inr ⟨x, x1, x2, by rw [x3], x4⟩
    · refine am_ldc2m rfl rfl ?_
      refine am_goto rfl ?_
      have e : lJ r = lJ FARm := lg_cmp_0.mp q
      refine am_lreturn rfl rfl (hout _ ?_)
      rcases hL with ⟨h1, h2⟩ | ⟨x, x1, x2, x3, x4⟩
      · exact Or.inl ⟨rfl, h2⟩
      · have := hF x x1
        have := (lJ_eq (by omega) (by omega)).mp e
        omega
  | succ j ih =>
    intro k r hj hL
    have hFk := hF k (by omega)
    have hrF : r ≤ FARm := by
      rcases hL with ⟨h1, h2⟩ | ⟨x, x1, x2, x3, x4⟩
      · omega
      · have := hF x (by omega)
        omega
    have next : ∀ r', Lsf (pkM S (ml 127) a o) (k + 1) v r' → am_T l (d + 1) M_m_smallest 70 [some (.ref 116), some (.int (nI a)), some (.int (oI o)), some (.long (lJ r')), none, some (.int (nI k))] [] (hm mi ml mr) 0 0 Q := by
      intro r' h
      refine am_iinc rfl rfl (nI_inc1 _) ?_
      show am_T _ _ _ _ [_, _, _, _, _, some _] _ _ _ _ _
      refine am_goto rfl ?_
      exact ih (k + 1) r' (by omega) h
    have stay : (pkM S (ml 127) a o k = true → r ≤ v k) → Lsf (pkM S (ml 127) a o) (k + 1) v r := by
      intro hle
      rcases hL with ⟨h1, h2⟩ | ⟨x, x1, x2, x3, x4⟩
      · refine Or.inl ⟨h1, fun k' hk' => ?_⟩
        by_cases e : k' = k
        · rw [e]
          cases e2 : pkM S (ml 127) a o k with
          | false => rfl
          | true =>
            have := hle e2
            omega
        · exact h2 k' (by omega)
      · refine Or.inr ⟨x, by omega, x2, x3, fun k' hk' hp' => ?_⟩
        by_cases e : k' = k
        · rw [e] at hp' ⊢
          have := hle hp'
          omega
        · exact x4 k' (by omega) hp'
    refine am_iload rfl rfl ?_
    refine am_aload_n rfl rfl ?_
    refine ho_getI rfl (by first | rfl | assumption) rfl ?_
    rw [hc]
    refine ho_icmp_ge rfl (by omega) (by omega) (fun z => absurd z (by omega)) (fun _ => ?_)
    refine am_aload_n rfl rfl ?_
    refine ho_getR rfl (by first | rfl | assumption) rfl (by first | assumption | exact hR _ _ _ rfl) ?_
    refine am_iload rfl rfl ?_
    refine ho_laload rfl (by first | rfl | assumption) (by omega) ?_
    rw [hv k (by omega)]
    refine am_lload_n rfl rfl ?_
    refine am_lcmp rfl ?_
    refine am_if_ge rfl (fun q => ?_) (fun q => ?_)
    · refine next r (stay (fun _ => ?_))
      have h2 := Int64.le_iff_toInt_le.mp (lg_ge.mp q)
      rw [lJ_toInt (by omega), lJ_toInt (by omega)] at h2
      omega
    have hlt : v k < r := by
      rcases Nat.lt_or_ge (v k) r with g | g
      · exact g
      · refine absurd (lg_ge.mpr (Int64.le_iff_toInt_le.mpr ?_)) q
        rw [lJ_toInt (by omega), lJ_toInt (by omega)]
        omega
    refine am_aload_n rfl rfl ?_
    refine am_aload_n rfl rfl ?_
    refine ho_getR rfl (by first | rfl | assumption) rfl (by first | assumption | exact hR _ _ _ rfl) ?_
    refine am_iload rfl rfl ?_
    refine ho_laload rfl (by first | rfl | assumption) (by omega) ?_
    refine am_iload_n rfl rfl ?_
    refine ho_cv2 rfl (by first | rfl | assumption) rfl (Nat.le_of_ble_eq_true rfl) (Nat.le_of_ble_eq_true rfl) (c_m_inName hR hS hr (ml 127 k) a ha) ?_
    rintro x h' ⟨rfl, rfl⟩
    show am_T _ _ _ _ _ (_ :: []) _ _ _ _
    refine am_if_eq rfl (fun q2 => ?_) (fun q2 => ?_)
    · refine next r (stay (fun hp => ?_))
      unfold pkM at hp
      rw [(bI_eq _).mp q2, Bool.false_and] at hp
      cases hp
    have hin := (bI_ne _).mp q2
    have take : pkM S (ml 127) a o k = true → am_T l (d + 1) M_m_smallest 62 [some (.ref 116), some (.int (nI a)), some (.int (oI o)), some (.long (lJ r)), none, some (.int (nI k))] [] (hm mi ml mr) 0 0 Q := by
      intro hp
      refine am_aload_n rfl rfl ?_
      refine ho_getR rfl (by first | rfl | assumption) rfl (by first | assumption | exact hR _ _ _ rfl) ?_
      refine am_iload rfl rfl ?_
      refine ho_laload rfl (by first | rfl | assumption) (by omega) ?_
      rw [hv k (by omega)]
      refine am_lstore_n rfl (Nat.le_of_ble_eq_true rfl) ?_
      show am_T _ _ _ _ [_, _, _, some _, none, _] _ _ _ _ _
      refine next _ (Or.inr ⟨k, by omega, hp, rfl, fun k' hk' hp' => ?_⟩)
      by_cases e : k' = k
      · rw [e]; exact Nat.le_refl _
      · rcases hL with ⟨h1, h2⟩ | ⟨x, x1, x2, x3, x4⟩
        · rw [h2 k' (by omega)] at hp'; cases hp'
        · have := x4 k' (by omega) hp'
          omega
    refine am_iload_n rfl rfl ?_
    refine am_if_lt rfl (fun q3 => ?_) (fun q3 => ?_)
    · refine take ?_
      unfold pkM
      rw [hin, Bool.true_and]
      cases o with
      | none => rfl
      | some b =>
        have hb := ho b rfl
        have h3 := Int32.lt_iff_toInt_lt.mp q3
        rw [show oI (some b) = nI b from rfl, nI_toInt (by omega), show (0 : Int32).toInt = 0 from rfl] at h3
        omega
    · cases o with
      | none => exact absurd (by decide) q3
      | some b =>
        have hb := ho b rfl
        show am_T _ _ _ _ [_, _, some (.int (nI b)), _, _, _] _ _ _ _ _
        refine am_aload_n rfl rfl ?_
        refine am_aload_n rfl rfl ?_
        refine ho_getR rfl (by first | rfl | assumption) rfl (by first | assumption | exact hR _ _ _ rfl) ?_
        refine am_iload rfl rfl ?_
        refine ho_laload rfl (by first | rfl | assumption) (by omega) ?_
        refine am_iload_n rfl rfl ?_
        refine ho_cv2 rfl (by first | rfl | assumption) rfl (Nat.le_of_ble_eq_true rfl) (Nat.le_of_ble_eq_true rfl) (c_m_inName hR hS hr (ml 127 k) b hb) ?_
        rintro x h' ⟨rfl, rfl⟩
        show am_T _ _ _ _ _ (_ :: []) _ _ _ _
        refine am_if_ne rfl (fun q4 => ?_) (fun q4 => ?_)
        · refine next r (stay (fun hp => ?_))
          unfold pkM at hp
          simp only [(bI_ne _).mp q4, Bool.not_true, Bool.and_false] at hp
          cases hp
        · refine take ?_
          unfold pkM
          simp only [hin, (bI_eq _).mp q4, Bool.not_false, Bool.and_true]
/-- smallest -/
theorem c_m_smallest (hR : SR mr) (hS : okS S) (hr : repS S mi) (h40 : cnt ≤ 40) (hc : mi 116 18 = nI cnt) (v : Nat → Nat) (hv : ∀ k, k < cnt → ml 128 k = lJ (v k)) (hF : ∀ k, k < cnt → v k < FARm) (a : Nat) (ha : a < 6) (o : Option Nat) (ho : ∀ b, o = some b → b < 6) : am_T l (d + 1) M_m_smallest 0 [some (.ref 116), some (.int (nI a)), some (.int (oI o)), none, none, none] [] (hm mi ml mr) 0 0 (fun r h' => ∃ x, r = some (.long x) ∧ h' = hm mi ml mr ∧ Lst (pkM S (ml 127) a o) cnt v x) := by
  refine am_ldc2 rfl rfl ?_
  refine am_lstore_n rfl (Nat.le_of_ble_eq_true rfl) ?_
  show am_T _ _ _ _ [_, _, _, some _, none, _] _ _ _ _ _
  refine am_iconst (v := nI 0) rfl (by decide) ?_
  refine am_istore rfl (Nat.le_of_ble_eq_true rfl) ?_
  show am_T _ _ _ _ [_, _, _, _, _, some _] _ _ _ _ _
  exact c_m_smallest_loop hR hS hr h40 hc v hv hF a ha o ho (fun r h => ⟨r, rfl, rfl, h⟩) cnt 0 FARm (by omega) (Or.inl ⟨rfl, fun k hk => by omega⟩)
end M8
