/-! the class: ofPart, ofHedge: what the hedges inside a hedge belong to -/
noncomputable def om (S : Rs) (f : Nat → Int64) (o : Option Nat) : Int64 := match o with
  | none => K0 S
  | some k => f k
/-- f holds what the hedges that begin at the nodes belong to -/
def NM (S : Rs) (N : Nd) (f : Nat → Int64) (k : Nat) : Prop := f k = belF S (kn (cd N k)) (tb (om S f (contN N k))) (tb (om S f (behN N k)))
theorem contN_gt {N : Nd} {k j : Nat} (h : contN N k = some j) : k < j ∧ j < N.length := by
  unfold contN at h
  split at h
  · cases h
    omega
  · cases h
theorem behG_gt {N : Nd} {k : Nat} : ∀ (g i j : Nat), behG N k g i = some j → i ≤ j ∧ j < N.length
  | 0, i, j, h => by cases h
  | g + 1, i, j, h => by
    unfold behG at h
    split at h
    · split at h
      · split at h
        · cases h
          omega
        · cases h
      · have := behG_gt g (i + 1) j h
        omega
    · cases h
theorem behN_gt {N : Nd} {k j : Nat} (h : behN N k = some j) : k < j ∧ j < N.length := by
  have := behG_gt _ _ _ h
  omega
theorem kn_range {c : Nat} : 1 ≤ kn c ∧ kn c ≤ 5 := by
  unfold kn
  split
  · next h =>
    have : 97 ≤ c ∧ c ≤ 100 := of_decide_eq_true h
    omega
  · omega
/-- there is but one such f -/
theorem NM_uniq {S : Rs} {N : Nd} {f g : Nat → Int64} (hf : ∀ k, k < N.length → NM S N f k) (hg : ∀ k, k < N.length → NM S N g k) : ∀ (n k : Nat), k + n = N.length → ∀ j, k ≤ j → j < N.length → f j = g j := by
  intro n
  induction n with
  | zero =>
    intro k hk j h1 h2
    omega
  | succ n ih =>
    intro k hk j h1 h2
    rcases Nat.eq_or_lt_of_le h1 with e | e
    · subst e
      have hom : ∀ o : Option Nat, (∀ i, o = some i → k < i ∧ i < N.length) → om S f o = om S g o := by
        intro o ho
        cases o with
        | none => rfl
        | some i => exact ih (k + 1) (by omega) i (by have := (ho i rfl).1; omega) (ho i rfl).2
      rw [hf k h2, hg k h2, hom _ (fun i h => contN_gt h), hom _ (fun i h => behN_gt h)]
    · exact ih (k + 1) (by omega) j e h2
section O1
variable {l : Launch} {d : Nat} {mi : Nat → Nat → Int32} {mr : Nat → Nat → Option Nat} {S : Rs} {ip : Nat → Nat} {n t cap : Nat} {N : Nd}
theorem c_S_ofPart (ml : Nat → Nat → Int64) (hR : SR mr) (hS : okS S) (hX : repX S ip n mi ml) (o : Option Nat) (ho : ∀ k, o = some k → k < 20) : am_T l d M_S_ofPart 0 [some (.ref 84), some (.int (noI o))] [] (hm mi ml mr) 0 0 (fun r h' => r = some (.long (om S (ml 92) o)) ∧ h' = hm mi ml mr) := by
  have hK0 : ml 84 10 = K0 S := by
    rw [hX.2.2.2.2.2.2]
    exact belF_zero hS _ _
  cases o with
  | none =>
    refine am_iload_n rfl rfl ?_
    refine am_if_lt rfl (fun _ => ?_) (fun z => absurd (by decide) z)
    refine am_aload_n rfl rfl ?_
    refine ho_getL rfl (by first | rfl | assumption) rfl ?_
    refine am_goto rfl ?_
    exact am_lreturn rfl rfl ⟨by rw [hK0]; rfl, rfl⟩
  | some k =>
    have hk := ho k rfl
    show am_T l d M_S_ofPart 0 [some (.ref 84), some (.int (nI k))] [] (hm mi ml mr) 0 0 _
    refine am_iload_n rfl rfl ?_
    refine am_if_lt rfl (fun z => absurd z (nI_pos (by omega))) (fun _ => ?_)
    refine am_iload_n rfl rfl ?_
    refine am_bipush (v := nI 20) rfl (by decide) ?_
    refine ho_icmp_lt rfl (by omega) (by omega) (fun _ => ?_) (fun z => absurd hk z)
    refine am_aload_n rfl rfl ?_
    refine ho_getR rfl (by first | rfl | assumption) rfl (by first | assumption | exact hR _ _ _ rfl) ?_
    refine am_iload_n rfl rfl ?_
    refine ho_laload rfl (by first | rfl | assumption) (by omega) ?_
    exact am_lreturn rfl rfl ⟨rfl, rfl⟩
theorem repX_92 {ml : Nat → Nat → Int64} (hX : repX S ip n mi ml) (j : Nat) (v : Int64) : repX S ip n mi (up2 ml 92 j v) := by
  unfold repX at hX ⊢
  rw [up2_off ml j v (show (84 : Nat) ≠ 92 by decide), up2_off ml j v (show (87 : Nat) ≠ 92 by decide), up2_off ml j v (show (88 : Nat) ≠ 92 by decide), up2_off ml j v (show (89 : Nat) ≠ 92 by decide), up2_off ml j v (show (90 : Nat) ≠ 92 by decide), up2_off ml j v (show (91 : Nat) ≠ 92 by decide)]
  exact hX
theorem c_S_ofHedge_loop (hR : SR mr) (hS : okS S) (hH : isH mr t cap) (hN : HA mi t N) (hl : N.length ≤ cap) {Q : Option Value → am_H → Prop} : ∀ (k : Nat) (ml : Nat → Nat → Int64), k ≤ N.length → repX S ip n mi ml → (∀ j, k ≤ j → j < N.length → NM S N (ml 92) j) →
    (∀ ml', repX S ip n mi ml' → (∀ a, a ≠ 92 → ml' a = ml a) → (∀ j, j < N.length → NM S N (ml' 92) j) → Q (some (.long (if N.length = 0 then K0 S else ml' 92 0))) (hm mi ml' mr)) →
    am_T l (d + 2) M_S_ofHedge 7 [some (.ref 84), some (.ref t), some (.int (nI k - nI 1)), none] [] (hm mi ml mr) 0 0 Q := by
  obtain ⟨k1, k2, k3, r1, r2, hcap⟩ := id hH
  intro k
  induction k with
  | zero =>
    intro ml hk hX hnm hout
    have hK0 : ml 84 10 = K0 S := by
      rw [hX.2.2.2.2.2.2]
      exact belF_zero hS _ _
    have ho := hout ml hX (fun _ _ => rfl) (fun j hj => hnm j (Nat.zero_le _) hj)
    refine am_iload_n rfl rfl ?_
    refine am_if_lt rfl (fun _ => ?_) (fun z => absurd (by decide) z)
    refine am_aload_n rfl rfl ?_
    refine ho_getI rfl (by first | rfl | assumption) rfl ?_
    rw [hN.1]
    refine am_if_ne rfl (fun z => ?_) (fun z => ?_)
    · have hz : ¬ N.length = 0 := fun e => z (by rw [e]; rfl)
      rw [if_neg hz] at ho
      refine am_aload_n rfl rfl ?_
      refine ho_getR rfl (by first | rfl | assumption) rfl (by first | assumption | exact hR _ _ _ rfl) ?_
      refine am_iconst (v := nI 0) rfl (by decide) ?_
      refine ho_laload rfl (by first | rfl | assumption) (by omega) ?_
      exact am_lreturn rfl rfl ho
    · have hz : N.length = 0 := (nI_eq (by omega) (by omega)).mp (z.trans (rfl : (0 : Int32) = nI 0))
      rw [if_pos hz, ← hK0] at ho
      refine am_aload_n rfl rfl ?_
      refine ho_getL rfl (by first | rfl | assumption) rfl ?_
      refine am_goto rfl ?_
      exact am_lreturn rfl rfl ho
  | succ k ih =>
    intro ml hk hX hnm hout
    rw [show nI (k + 1) - nI 1 = nI k from nI_pred k]
    refine am_iload_n rfl rfl ?_
    refine am_if_lt rfl (fun z => absurd z (nI_pos (by omega))) (fun _ => ?_)
    refine am_aload_n rfl rfl ?_
    refine am_aload_n rfl rfl ?_
    refine am_iload_n rfl rfl ?_
    refine ho_cv1 rfl (by first | rfl | assumption) rfl (Nat.le_of_ble_eq_true rfl) (Nat.le_of_ble_eq_true rfl) (c_H_firstOf hH hN hl k (by omega)) ?_
    rintro r h' ⟨rfl, rfl⟩
    refine am_aload_n rfl rfl ?_
    refine am_aload_n rfl rfl ?_
    refine am_iload_n rfl rfl ?_
    refine ho_cv1 rfl (by first | rfl | assumption) rfl (Nat.le_of_ble_eq_true rfl) (Nat.le_of_ble_eq_true rfl) (c_H_contentOf hH hN hl k (by omega)) ?_
    rintro r h' ⟨rfl, rfl⟩
    refine ho_cv1 rfl (by first | rfl | assumption) rfl (Nat.le_of_ble_eq_true rfl) (Nat.le_of_ble_eq_true rfl) (c_S_ofPart ml hR hS hX (contN N k) (fun j h => by have := contN_gt h; omega)) ?_
    rintro r h' ⟨rfl, rfl⟩
    refine ho_cv2 rfl (by first | rfl | assumption) rfl (Nat.le_of_ble_eq_true rfl) (Nat.le_of_ble_eq_true rfl) (c_S_fitting hR hS hX (kn (cd N k)) kn_range.1 kn_range.2 _) ?_
    rintro r h' ⟨rfl, rfl⟩
    show am_T _ _ _ _ _ (_ :: []) _ _ _ _
    refine am_istore_n rfl (Nat.le_of_ble_eq_true rfl) ?_
    show am_T _ _ _ _ [_, _, _, some _] _ _ _ _ _
    refine am_aload_n rfl rfl ?_
    refine ho_getR rfl (by first | rfl | assumption) rfl (by first | assumption | exact hR _ _ _ rfl) ?_
    refine am_iload_n rfl rfl ?_
    refine am_aload_n rfl rfl ?_
    refine am_iload_n rfl rfl ?_
    refine am_aload_n rfl rfl ?_
    refine am_aload_n rfl rfl ?_
    refine am_iload_n rfl rfl ?_
    refine ho_cv1 rfl (by first | rfl | assumption) rfl (Nat.le_of_ble_eq_true rfl) (Nat.le_of_ble_eq_true rfl) (c_H_behind hH hN hl k (by omega)) ?_
    rintro r h' ⟨rfl, rfl⟩
    refine ho_cv1 rfl (by first | rfl | assumption) rfl (Nat.le_of_ble_eq_true rfl) (Nat.le_of_ble_eq_true rfl) (c_S_ofPart ml hR hS hX (behN N k) (fun j h => by have := behN_gt h; omega)) ?_
    rintro r h' ⟨rfl, rfl⟩
    refine ho_cv2 rfl (by first | rfl | assumption) rfl (Nat.le_of_ble_eq_true rfl) (Nat.le_of_ble_eq_true rfl) (c_S_joined hR hS hX (kn (cd N k)) kn_range.1 _ _) ?_
    rintro r h' ⟨rfl, rfl⟩
    show am_T _ _ _ _ _ (_ :: _ :: _ :: []) _ _ _ _
    refine ho_lastore rfl rfl (by omega) ?_
    refine am_iinc rfl rfl (nI_m1 _) ?_
    show am_T _ _ _ _ [_, _, some _, _] _ _ _ _ _
    refine am_goto rfl ?_
    refine am_drops [3] ?_
    generalize hml : up2 ml 92 k (belF S (kn (cd N k)) (tb (om S (ml 92) (contN N k))) (tb (om S (ml 92) (behN N k)))) = ml1
    have hsame : ∀ j, k < j → ml1 92 j = ml 92 j := fun j hj => by rw [← hml]; unfold up2; rw [if_neg (by omega)]
    have hkk : ml1 92 k = belF S (kn (cd N k)) (tb (om S (ml 92) (contN N k))) (tb (om S (ml 92) (behN N k))) := by rw [← hml]; simp [up2]
    have hom : ∀ (m : Nat), k ≤ m → ∀ o : Option Nat, (∀ i, o = some i → m < i) → om S (ml1 92) o = om S (ml 92) o := by
      intro m hm' o ho
      cases o with
      | none => rfl
      | some i => exact hsame i (by have := ho i rfl; omega)
    refine ih ml1 (by omega) (by rw [← hml]; exact repX_92 hX _ _) (fun j h1 h2 => ?_) (fun ml' g1 g2 g3 => hout ml' g1 (fun a ha => by rw [g2 a ha, ← hml, up2_off _ _ _ ha]) g3)
    rcases Nat.eq_or_lt_of_le h1 with e | e
    · subst e
      unfold NM
      rw [hkk, hom k (Nat.le_refl _) _ (fun i h => (contN_gt h).1), hom k (Nat.le_refl _) _ (fun i h => (behN_gt h).1)]
    · unfold NM
      rw [hsame j e, hom j (by omega) _ (fun i h => (contN_gt h).1), hom j (by omega) _ (fun i h => (behN_gt h).1)]
      exact hnm j e h2
theorem c_S_ofHedge (ml : Nat → Nat → Int64) (hR : SR mr) (hS : okS S) (hX : repX S ip n mi ml) (hH : isH mr t cap) (hN : HA mi t N) (hl : N.length ≤ cap) : am_T l (d + 2) M_S_ofHedge 0 [some (.ref 84), some (.ref t), none, none] [] (hm mi ml mr) 0 0 (fun r h' => ∃ ml', repX S ip n mi ml' ∧ (∀ a, a ≠ 92 → ml' a = ml a) ∧ (∀ j, j < N.length → NM S N (ml' 92) j) ∧ r = some (.long (if N.length = 0 then K0 S else ml' 92 0)) ∧ h' = hm mi ml' mr) := by
  obtain ⟨k1, k2, k3, r1, r2, hcap⟩ := id hH
  refine am_aload_n rfl rfl ?_
  refine ho_getI rfl (by first | rfl | assumption) rfl ?_
  rw [hN.1]
  refine am_iconst (v := nI 1) rfl (by decide) ?_
  refine am_isub rfl ?_
  refine am_istore_n rfl (Nat.le_of_ble_eq_true rfl) ?_
  show am_T _ _ _ _ [_, _, some _, _] _ _ _ _ _
  exact c_S_ofHedge_loop hR hS hH hN hl N.length ml (Nat.le_refl _) hX (fun j h1 h2 => by omega) (fun ml' g1 g2 g3 => ⟨ml', g1, g2, g3, rfl, rfl⟩)
end O1
