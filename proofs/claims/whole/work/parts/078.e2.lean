/-! the class: enter -/
def upD {α : Type} (D : Nat → α) (n : Nat) (x : α) : Nat → α := fun k => if k = n then x else D k
theorem dOb_sep : ∀ o ∈ dOb, ∀ o' ∈ dOb, o ≠ o' → o + 5 < o' ∨ o' + 5 < o := by decide
theorem fOb_sep : ∀ o ∈ fOb, ∀ o' ∈ fOb, o ≠ o' → o + 5 < o' ∨ o' + 5 < o := by decide
def totD (D : Nat → List Rt) (n : Nat) (D' : List Rt) (k : Nat) : Nat := nit D' + sumN (fun j => if j = n then 0 else nit (D j)) k
theorem totD_up {D : Nat → List Rt} {n : Nat} (hn : n < 6) (D' : List Rt) : sumN (fun k => nit (upD D n D' k)) 6 = totD D n D' 6 := by
  have : n = 0 ∨ n = 1 ∨ n = 2 ∨ n = 3 ∨ n = 4 ∨ n = 5 := by omega
  rcases this with e | e | e | e | e | e <;> subst e <;> simp [totD, sumN, upD, List.range, List.range.loop] <;> omega
section E2
variable {l : Launch} {d : Nat} {mr : Nat → Nat → Option Nat}
/-- the sum of the others' items -/
theorem c_X_keepDefinition (hR : SR mr) (D : Nat → List Rt) (D' : List Rt) (od : Nat → Nat) (hod : ∀ n, n < 7 → od n ∈ dOb) (hinj : ∀ a b, a < 7 → b < 7 → od a = od b → a = b) (hr2 : ∀ n, n < 6 → mr 2 n = some (od n)) (hr3 : mr 0 3 = some (od 6)) (mi : Nat → Nat → Int32) (ml : Nat → Nat → Int64) (hg : ∀ n, n < 6 → mi (od n) 0 = bI (decide (D n ≠ [])) ∧ (D n ≠ [] → DA mi (od n) (D n))) (hD : okDs D) (hD' : okD D') (hA' : DA mi (od 6) D') (hg' : mi (od 6) 0 = nI 1) (n : Nat) (hn : n < 6) :
    am_T l (d + 3) M_X_keepDefinition 0 [some (.ref 0), some (.int (nI n)), none, none] [] (hm mi ml mr) 0 0 (fun r h' => (16 < totD D n D' 6 → r = some (.int (-5)) ∧ h' = hm mi ml mr) ∧ (totD D n D' 6 ≤ 16 → r = some (.int 0) ∧ ∃ mi' ml' ip m, repX (SD (upD D n D')) ip m mi' ml' ∧ Fb mi mi' ml ml' ∧ h' = hm (up2 (up2 mi' 93 1 (nI 0)) 102 1 (nI 0)) ml' (up2 (up2 mr 2 n (some (od 6))) 0 3 (some (od n))))) := by
  have hk : ∀ k, k < 7 → hs_kind (od k) = (false, 1, 0) := fun k hk => (isDf_of hR (hod k hk)).2.1
  have hk6 := hk 6 (by omega)
  have hnit : ∀ k, k < 6 → nit (D k) ≤ 16 := by
    intro k hk
    rcases hD.1 k hk with e | e
    · rw [e]
      exact Nat.zero_le _
    · exact e.2.1
  have hb : ∀ k, k ≤ 6 → totD D n D' k ≤ 16 + 16 * k := by
    intro k
    induction k with
    | zero =>
      intro _
      exact hD'.2.1
    | succ k ih =>
      intro hk
      have := ih (by omega)
      unfold totD at this ⊢
      rw [sumN_s]
      have h3 : (if k = n then 0 else nit (D k)) ≤ 16 := by
        split
        · omega
        · exact hnit k (by omega)
      omega
  have loop : ∀ (j k : Nat), k + j = 6 → am_T l (d + 3) M_X_keepDefinition 10 [some (.ref 0), some (.int (nI n)), some (.int (nI (totD D n D' k))), some (.int (nI k))] [] (hm mi ml mr) 0 0 (fun r h' => (16 < totD D n D' 6 → r = some (.int (-5)) ∧ h' = hm mi ml mr) ∧ (totD D n D' 6 ≤ 16 → r = some (.int 0) ∧ ∃ mi' ml' ip m, repX (SD (upD D n D')) ip m mi' ml' ∧ Fb mi mi' ml ml' ∧ h' = hm (up2 (up2 mi' 93 1 (nI 0)) 102 1 (nI 0)) ml' (up2 (up2 mr 2 n (some (od 6))) 0 3 (some (od n))))) := by
    intro j
    induction j with
    | zero =>
      intro k hk0
      have e : k = 6 := by omega
      subst e
      have hb6 := hb 6 (by omega)
      refine am_iload_n rfl rfl ?_
      refine am_bipush (v := nI 6) rfl (by decide) ?_
      refine ho_icmp_ge rfl (by omega) (by omega) (fun _ => ?_) (fun z => absurd (by omega) z)
      refine am_iload_n rfl rfl ?_
      refine am_bipush (v := nI 16) rfl (by decide) ?_
      refine ho_icmp_le rfl (by omega) (by omega) (fun z => ?_) (fun z => ?_)
      case refine_2 =>
        refine am_bipush (v := -5) rfl (by decide) ?_
        exact am_ireturn rfl rfl ⟨fun _ => ⟨rfl, rfl⟩, fun q => absurd q z⟩
      have hrn := hr2 n hn
      have hkn := hk n (by omega)
      refine am_aload_n rfl rfl ?_
      refine ho_getR rfl (by first | rfl | assumption) rfl (by first | assumption | exact hR _ _ _ rfl) ?_
      refine am_iload_n rfl rfl ?_
      refine ho_aaload rfl (by first | rfl | assumption) ⟨by decide, rfl⟩ (by omega) (by first | assumption | exact hR _ _ _ rfl) ?_
      refine am_astore_n rfl (Nat.le_of_ble_eq_true rfl) ?_
      show am_T _ _ _ _ [_, _, _, some _] _ _ _ _ _
      refine am_aload_n rfl rfl ?_
      refine ho_getR rfl (by first | rfl | assumption) rfl (by first | assumption | exact hR _ _ _ rfl) ?_
      refine am_iload_n rfl rfl ?_
      refine am_aload_n rfl rfl ?_
      refine ho_getR rfl (by first | rfl | assumption) rfl (by first | assumption | exact hR _ _ _ rfl) ?_
      refine ho_aastore (ci := 1) rfl rfl rfl ⟨by decide, rfl⟩ hk6 (by omega) ?_
      refine am_aload_n rfl rfl ?_
      refine am_aload_n rfl rfl ?_
      refine ho_putR rfl rfl rfl ?_
      have hR' : SR (up2 (up2 mr 2 n (some (od 6))) 0 3 (some (od n))) := by
        intro a b c h
        unfold up2
        split
        · next q =>
          rw [q.1, q.2] at h
          cases h
        · split
          · next q =>
            rw [q.1, q.2] at h
            have : ∀ i, i < 6 → hs_st 2 i = none := by decide
            rw [this n hn] at h
            cases h
          · exact hR a b c h
      refine am_aload_n rfl rfl ?_
      refine ho_getR rfl rfl rfl (hR' _ _ _ rfl) ?_
      refine am_aload_n rfl rfl ?_
      refine ho_getR rfl rfl rfl (hR' _ _ _ rfl) ?_
      have hokDs : okDs (upD D n D') := by
        refine ⟨fun k hk => ?_, by rw [totD_up hn]; exact z⟩
        unfold upD
        split
        · exact Or.inr hD'
        · exact hD.1 k hk
      have hod' : ∀ k, k < 6 → up2 (up2 mr 2 n (some (od 6))) 0 3 (some (od n)) 2 k = some ((fun k => if k = n then od 6 else od k) k) ∧ (fun k => if k = n then od 6 else od k) k ∈ dOb := by
        intro k hk
        rw [up2_off _ _ _ (show (2 : Nat) ≠ 0 by decide)]
        by_cases e : k = n
        · subst e
          exact ⟨by simp [up2], by simp only [if_pos rfl]; exact hod 6 (by omega)⟩
        · refine ⟨?_, by simp only [if_neg e]; exact hod k (by omega)⟩
          unfold up2
          rw [if_neg (by omega)]
          simp only [if_neg e]
          exact hr2 k hk
      have hg2 : ∀ k, k < 6 → mi ((fun k => if k = n then od 6 else od k) k) 0 = bI (decide (upD D n D' k ≠ [])) := by
        intro k hk
        unfold upD
        by_cases e : k = n
        · simp only [if_pos e]
          have hne : D' ≠ [] := fun q => by
            obtain ⟨-, -, -, P, x, h1, -⟩ := hD'
            rw [q] at h1
            have := congrArg List.length h1
            simp at this
          rw [hg']
          simp [hne]
          rfl
        · simp only [if_neg e]
          exact (hg k hk).1
      have hDA2 : ∀ k, k < 6 → upD D n D' k ≠ [] → DA mi ((fun k => if k = n then od 6 else od k) k) (upD D n D' k) := by
        intro k hk h
        unfold upD at h ⊢
        by_cases e : k = n
        · simp only [if_pos e]
          exact hA'
        · simp only [if_neg e] at h ⊢
          exact (hg k hk).2 h
      refine ho_cv1 rfl (by first | rfl | assumption) rfl (Nat.le_of_ble_eq_true rfl) (Nat.le_of_ble_eq_true rfl) (c_S_rebuild hR' (fun k => if k = n then od 6 else od k) hod' (upD D n D') hokDs mi ml hg2 hDA2) ?_
      rintro v h' ⟨rfl, mi', ml', ip, m, rfl, hX, hF⟩
      refine am_aload_n rfl rfl ?_
      refine ho_getR rfl rfl rfl (hR' _ _ _ rfl) ?_
      refine am_iconst (v := nI 0) rfl (by decide) ?_
      refine ho_putI rfl rfl rfl rfl ?_
      refine am_aload_n rfl rfl ?_
      refine ho_getR rfl rfl rfl (hR' _ _ _ rfl) ?_
      refine am_iconst (v := nI 0) rfl (by decide) ?_
      refine ho_putI rfl rfl rfl rfl ?_
      refine am_iconst (v := nI 0) rfl (by decide) ?_
      exact am_ireturn rfl rfl ⟨fun q => absurd z (by omega), fun _ => ⟨rfl, mi', ml', ip, m, hX, hF, rfl⟩⟩
    | succ j ih =>
      intro k hk0
      have hbk := hb k (by omega)
      have hrk := hr2 k (by omega)
      have hkk := hk k (by omega)
      have s45 : ∀ t : Nat, t = totD D n D' (k + 1) → am_T l (d + 3) M_X_keepDefinition 45 [some (.ref 0), some (.int (nI n)), some (.int (nI t)), some (.int (nI k))] [] (hm mi ml mr) 0 0 (fun r h' => (16 < totD D n D' 6 → r = some (.int (-5)) ∧ h' = hm mi ml mr) ∧ (totD D n D' 6 ≤ 16 → r = some (.int 0) ∧ ∃ mi' ml' ip m, repX (SD (upD D n D')) ip m mi' ml' ∧ Fb mi mi' ml ml' ∧ h' = hm (up2 (up2 mi' 93 1 (nI 0)) 102 1 (nI 0)) ml' (up2 (up2 mr 2 n (some (od 6))) 0 3 (some (od n))))) := by
        intro t ht
        refine am_iinc rfl rfl (nI_inc1 _) ?_
        show am_T _ _ _ _ [_, _, _, some _] _ _ _ _ _
        refine am_goto rfl ?_
        rw [ht]
        exact ih (k + 1) (by omega)
      refine am_iload_n rfl rfl ?_
      refine am_bipush (v := nI 6) rfl (by decide) ?_
      refine ho_icmp_ge rfl (by omega) (by omega) (fun z => absurd z (by omega)) (fun _ => ?_)
      refine am_iload_n rfl rfl ?_
      refine am_iload_n rfl rfl ?_
      refine ho_icmp_eq rfl (by omega) (by omega) (fun z => s45 _ ?_) (fun z => ?_)
      · unfold totD
        rw [sumN_s, if_pos z]
        rfl
      refine am_aload_n rfl rfl ?_
      refine ho_getR rfl (by first | rfl | assumption) rfl (by first | assumption | exact hR _ _ _ rfl) ?_
      refine am_iload_n rfl rfl ?_
      refine ho_aaload rfl (by first | rfl | assumption) ⟨by decide, rfl⟩ (by omega) (by first | assumption | exact hR _ _ _ rfl) ?_
      refine ho_getI rfl (by first | rfl | assumption) rfl ?_
      rw [(hg k (by omega)).1]
      refine am_if_eq rfl (fun y => s45 _ ?_) (fun y => ?_)
      · have y : D k = [] := Classical.not_not.mp (of_decide_eq_false ((bI_eq _).mp y))
        unfold totD
        rw [sumN_s, if_neg z, y]
        rfl
      · have y := of_decide_eq_true ((bI_ne _).mp y)
        refine am_iload_n rfl rfl ?_
        refine am_aload_n rfl rfl ?_
        refine ho_getR rfl (by first | rfl | assumption) rfl (by first | assumption | exact hR _ _ _ rfl) ?_
        refine am_iload_n rfl rfl ?_
        refine ho_aaload rfl (by first | rfl | assumption) ⟨by decide, rfl⟩ (by omega) (by first | assumption | exact hR _ _ _ rfl) ?_
        refine ho_getI rfl (by first | rfl | assumption) rfl ?_
        rw [((hg k (by omega)).2 y).2.1]
        first | refine ho_addn rfl ?_ | refine am_iadd rfl ?_
        refine am_istore_n rfl (Nat.le_of_ble_eq_true rfl) ?_
        show am_T _ _ _ _ [_, _, some _, _] _ _ _ _ _
        refine s45 _ ?_
        unfold totD
        rw [sumN_s, if_neg z, Nat.add_assoc]
  refine am_aload_n rfl rfl ?_
  refine ho_getR rfl (by first | rfl | assumption) rfl (by first | assumption | exact hR _ _ _ rfl) ?_
  refine ho_getI rfl (by first | rfl | assumption) rfl ?_
  rw [hA'.2.1]
  refine am_istore_n rfl (Nat.le_of_ble_eq_true rfl) ?_
  show am_T _ _ _ _ [_, _, some _, _] _ _ _ _ _
  refine am_iconst (v := nI 0) rfl (by decide) ?_
  refine am_istore_n rfl (Nat.le_of_ble_eq_true rfl) ?_
  show am_T _ _ _ _ [_, _, _, some _] _ _ _ _ _
  exact loop 6 0 rfl
theorem c_X_keepFunction (hR : SR mr) (oF : Nat → Nat) (hoF : ∀ n, n < 4 → oF n ∈ fOb) (hr2 : ∀ n, n < 3 → mr 45 n = some (oF n)) (hr3 : mr 0 5 = some (oF 3)) (mi : Nat → Nat → Int32) (ml : Nat → Nat → Int64) (n : Nat) (hn : n < 3) : am_T l d M_X_keepFunction 0 [some (.ref 0), some (.int (nI n)), none] [] (hm mi ml mr) 0 0 (fun r h' => r = some (.int 0) ∧ h' = hm mi ml (up2 (up2 mr 45 n (some (oF 3))) 0 5 (some (oF n)))) := by
  have hk3 := (isFn_of hR (hoF 3 (by omega))).2.1
  have hrn := hr2 n hn
  refine am_aload_n rfl rfl ?_
  refine ho_getR rfl (by first | rfl | assumption) rfl (by first | assumption | exact hR _ _ _ rfl) ?_
  refine am_iload_n rfl rfl ?_
  refine ho_aaload rfl (by first | rfl | assumption) ⟨by decide, rfl⟩ (by omega) (by first | assumption | exact hR _ _ _ rfl) ?_
  refine am_astore_n rfl (Nat.le_of_ble_eq_true rfl) ?_
  show am_T _ _ _ _ [_, _, some _] _ _ _ _ _
  refine am_aload_n rfl rfl ?_
  refine ho_getR rfl (by first | rfl | assumption) rfl (by first | assumption | exact hR _ _ _ rfl) ?_
  refine am_iload_n rfl rfl ?_
  refine am_aload_n rfl rfl ?_
  refine ho_getR rfl (by first | rfl | assumption) rfl (by first | assumption | exact hR _ _ _ rfl) ?_
  refine ho_aastore (ci := 2) rfl rfl rfl ⟨by decide, rfl⟩ hk3 (by omega) ?_
  refine am_aload_n rfl rfl ?_
  refine am_aload_n rfl rfl ?_
  refine ho_putR rfl rfl rfl ?_
  refine am_iconst (v := nI 0) rfl (by decide) ?_
  exact am_ireturn rfl rfl ⟨rfl, rfl⟩
end E2
