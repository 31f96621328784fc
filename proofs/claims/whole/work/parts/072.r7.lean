/-! the class: readPattern, readFunction -/
def rpP (ml : Nat → Nat → Int64) (mr : Nat → Nat → Option Nat) (o : Nat) (mi0 : Nat → Nat → Int32) (C : List Cl) (X : Nat ⊕ (Nat × Nat × Nat × Nat)) (r : Option Value) (h' : am_H) : Prop := ∃ mi', h' = hm mi' ml mr ∧ FF o mi0 mi' ∧ match X with
  | .inl s => mi' 82 2 = nI s ∧ r = some (.int (bI false))
  | .inr (j, p) => r = some (.int (bI true)) ∧ mi' 82 2 = nI j ∧ CA mi' o (C ++ [(p, [])])
theorem ktx_len : ∀ (K : List Nat), K.length ≤ (ktx K).length
  | [] => Nat.le_refl _
  | k :: K => by
    rw [show ktx (k :: K) = ttx k ++ ktx K from List.flatMap_cons, List.length_append, List.length_cons]
    have := ktx_len K
    have h2 : 1 ≤ (ttx k).length := by
      unfold ttx
      split
      · simp
      · split <;> simp
    omega
theorem clScan_len {T : List Nat} {i q : Nat} {c : Cl} (h : clScan T i = .inr (q, c)) : i + c.2.length ≤ q := by
  obtain ⟨h1, h2, h3, -⟩ := clScan_ok h
  have e := congrArg List.length h1
  rw [List.length_append, List.length_take, List.length_take] at e
  have h4 := ktx_len c.2
  have h5 : (cltx c).length = 1 + ((patx c.1).length + (1 + (ktx c.2).length)) := by
    unfold cltx
    rw [List.length_cons, List.length_append, List.length_cons]
    omega
  omega
section R8
variable {l : Launch} {d : Nat} {ml : Nat → Nat → Int64} {mr : Nat → Nat → Option Nat} {cap o : Nat} {T : List Nat}
theorem ca82 {mi : Nat → Nat → Int32} {n : Nat} {f x y s : Int32} {j : Nat} (ho : o ≤ 64) : caU mi o n f x y s 82 j = mi 82 j := by
  unfold caU
  rw [up2_off _ _ _ (by omega), up2_off _ _ _ (by omega), up2_off _ _ _ (by omega), up2_off _ _ _ (by omega), up2_off _ _ _ (by omega)]
theorem c_R_readPattern (hFn : isFn mr o) (mi0 : Nat → Nat → Int32) (C : List Cl) (i : Nat) (mi : Nat → Nat → Int32) (hi : i ≤ T.length) (h6 : C.length < 6) (hr : rd 1 cap T mi mr) (hat : mi 82 2 = nI i) (hA : CA mi o C) (hF : FF o mi0 mi) :
    am_T l (d + 3) M_R_readPattern 0 [some (.ref 82), some (.ref o), none, none] [] (hm mi ml mr) 0 0 (rpP ml mr o mi0 C (pScan T i)) := by
  have o64 := hFn.1
  have hk0 := hFn.2.1
  have hg1 := hr
  obtain ⟨r1, r2, r3, r4, r5, r6, r7⟩ := hg1
  unfold pScan
  refine am_aload_n rfl rfl ?_
  refine am_bipush (v := nI 46) rfl (by decide) ?_
  refine ho_cv1 rfl (by first | rfl | assumption) rfl (Nat.le_of_ble_eq_true rfl) (Nat.le_of_ble_eq_true rfl) (c_R_pass hr i hat (by omega) 46 (by decide) (by decide)) ?_
  rintro v h' (⟨e1, rfl, rfl⟩ | ⟨e1, rfl, rfl⟩)
  · refine am_if_eq rfl (fun z => by cases z) (fun _ => ?_)
    rw [if_pos e1]
    refine am_aload_n rfl rfl ?_
    refine am_iconst (v := nI 5) rfl (by decide) ?_
    refine am_iconst (v := -1) rfl (by decide) ?_
    refine am_iconst (v := -1) rfl (by decide) ?_
    have hA1 := CA_at (x := nI (i + 1)) (j := 2) o64.2 hA
    refine ho_cv3 rfl (by first | rfl | assumption) rfl (Nat.le_of_ble_eq_true rfl) (Nat.le_of_ble_eq_true rfl) (c_F_addClause _ hFn C hA1 h6 (nI 5) (-1) (-1)) ?_
    rintro v h' ⟨rfl, rfl⟩
    refine am_iconst (v := nI 1) rfl (by decide) ?_
    exact am_zreturn rfl rfl (Or.inr rfl) ⟨_, rfl, (hF.tr (FF_at (Or.inl rfl) o64.2)).tr (FF_ca o64.2), rfl, by rw [ca82 o64.2]; simp [up2], CA_clause (p := (0, 0, 0)) hA1 rfl (fun q => by cases q) (fun q => by cases q)⟩
  refine am_if_eq rfl (fun _ => ?_) (fun z => absurd rfl z)
  rw [if_neg e1]
  refine am_iconst (v := nI 4) rfl (by decide) ?_
  refine am_istore_n rfl (Nat.le_of_ble_eq_true rfl) ?_
  show am_T _ _ _ _ [_, _, some _, _] _ _ _ _ _
  refine am_iconst (v := -1) rfl (by decide) ?_
  refine am_istore_n rfl (Nat.le_of_ble_eq_true rfl) ?_
  show am_T _ _ _ _ [_, _, _, some _] _ _ _ _ _
  refine am_aload_n rfl rfl ?_
  refine ho_cv0 rfl (by first | rfl | assumption) rfl (Nat.le_of_ble_eq_true rfl) (Nat.le_of_ble_eq_true rfl) (c_R_look hr i hat (by omega)) ?_
  rintro v h' ⟨rfl, rfl⟩
  refine ho_cn1 rfl rfl (Nat.le_of_ble_eq_true rfl) (Nat.le_of_ble_eq_true rfl) (c_X_isLabelL r7 i) ?_
  rintro v h' ⟨rfl, rfl⟩
  -- the tail's name, at place j
  have s60 : ∀ (j f : Nat) (x : Int32) (p1 p2 : Nat) (R : Nat ⊕ (Nat × Nat × Nat × Nat)), j ≤ T.length → f = fp p1 → 1 ≤ p1 → (2 ≤ p1 → x = nI p2) → (isNam (T.getD j 0) = false → R = .inl j) → (isNam (T.getD j 0) = true → R = .inr (j + 1, p1, p2, T.getD j 0 - 65)) →
      am_T l (d + 3) M_R_readPattern 60 [some (.ref 82), some (.ref o), some (.int (nI f)), some (.int x)] [] (hm (up2 mi 82 2 (nI j)) ml mr) 0 0 (rpP ml mr o mi0 C R) := by
    intro j f x p1 p2 R hj hf hp1 hx hR1 hR2
    have hr1 := rd_at (x := nI j) (show (1 : Nat) ≠ 82 by decide) hr
    refine am_aload_n rfl rfl ?_
    refine ho_cv0 rfl (by first | rfl | assumption) rfl (Nat.le_of_ble_eq_true rfl) (Nat.le_of_ble_eq_true rfl) (c_R_look hr1 j (by simp [up2]) (by omega)) ?_
    rintro v h' ⟨rfl, rfl⟩
    refine ho_cn1 rfl rfl (Nat.le_of_ble_eq_true rfl) (Nat.le_of_ble_eq_true rfl) (c_X_isNameL r7 j) ?_
    rintro v h' ⟨rfl, rfl⟩
    refine am_if_ne rfl (fun z => ?_) (fun z => ?_)
    case refine_2 =>
      refine am_iconst (v := nI 0) rfl (by decide) ?_
      refine am_zreturn rfl rfl (Or.inl rfl) ⟨_, rfl, hF.tr (FF_at (Or.inl rfl) o64.2), ?_⟩
      rw [hR1 ((bI_eq _).mp z)]
      exact ⟨by simp [up2], rfl⟩
    have z := (bI_ne _).mp z
    refine am_aload_n rfl rfl ?_
    refine am_iload_n rfl rfl ?_
    refine am_iload_n rfl rfl ?_
    refine am_aload_n rfl rfl ?_
    refine ho_cv0 rfl (by first | rfl | assumption) rfl (Nat.le_of_ble_eq_true rfl) (Nat.le_of_ble_eq_true rfl) (c_R_readName _ hr1 j (by simp [up2]) z) ?_
    rintro v h' ⟨rfl, rfl⟩
    rw [up2_2]
    have hA1 := CA_at (x := nI (j + 1)) (j := 2) o64.2 hA
    refine ho_cv3 rfl (by first | rfl | assumption) rfl (Nat.le_of_ble_eq_true rfl) (Nat.le_of_ble_eq_true rfl) (c_F_addClause _ hFn C hA1 h6 (nI f) x (nI (T.getD j 0 - 65))) ?_
    rintro v h' ⟨rfl, rfl⟩
    refine am_iconst (v := nI 1) rfl (by decide) ?_
    refine am_zreturn rfl rfl (Or.inr rfl) ⟨_, rfl, (hF.tr (FF_at (Or.inl rfl) o64.2)).tr (FF_ca o64.2), ?_⟩
    rw [hR2 z]
    exact ⟨rfl, by rw [ca82 o64.2]; simp [up2], CA_clause (p := (p1, p2, T.getD j 0 - 65)) hA1 (by rw [hf]) hx (fun _ => rfl)⟩
  refine am_if_eq rfl (fun y => ?_) (fun y => ?_)
  · have y := (bI_eq _).mp y
    refine am_aload_n rfl rfl ?_
    refine am_bipush (v := nI 35) rfl (by decide) ?_
    refine ho_cv1 rfl (by first | rfl | assumption) rfl (Nat.le_of_ble_eq_true rfl) (Nat.le_of_ble_eq_true rfl) (c_R_pass hr i hat (by omega) 35 (by decide) (by decide)) ?_
    rintro v h' (⟨e2, rfl, rfl⟩ | ⟨e2, rfl, rfl⟩)
    · rw [if_pos e2]
      have hl := lt_of_getD e2 (by decide)
      refine am_if_ne rfl (fun _ => ?_) (fun z => by cases z)
      exact s60 (i + 1) 4 (-1) 1 0 _ (by omega) rfl (by decide) (fun q => by omega) (fun q => by rw [if_neg (by rw [q]; decide)]) (fun q => by rw [if_pos q])
    · rw [if_neg e2, if_pos y]
      refine am_if_ne rfl (fun z => absurd rfl z) (fun _ => ?_)
      refine am_iconst (v := nI 0) rfl (by decide) ?_
      exact am_zreturn rfl rfl (Or.inl rfl) ⟨_, rfl, hF, hat, rfl⟩
  · have y := (bI_ne _).mp y
    have yr := isLab_r y
    have hil : i < T.length := lt_of_getD rfl (by omega)
    rw [if_neg (by omega), if_neg (by rw [y]; decide)]
    refine am_aload_n rfl rfl ?_
    refine ho_cv0 rfl (by first | rfl | assumption) rfl (Nat.le_of_ble_eq_true rfl) (Nat.le_of_ble_eq_true rfl) (c_R_readLabel mi hr i hat y) ?_
    rintro v h' ⟨rfl, rfl⟩
    refine am_istore_n rfl (Nat.le_of_ble_eq_true rfl) ?_
    show am_T _ _ _ _ [_, _, some _, _] _ _ _ _ _
    refine am_aload_n rfl rfl ?_
    refine ho_cv0 rfl (by first | rfl | assumption) rfl (Nat.le_of_ble_eq_true rfl) (Nat.le_of_ble_eq_true rfl) (c_R_readNameInBrackets _ (by decide) (rd_at (by decide) hr) (i + 1) (by simp [up2]) (by omega)) ?_
    rintro v h' (⟨b1, b2, b3, rfl, rfl⟩ | ⟨rfl, hb⟩)
    · rw [up2_2]
      have b2r := isNam_r b2
      have hl3 := lt_of_getD b3 (by decide)
      rw [if_neg (fun q => q b1), if_neg (by rw [show i + 2 = i + 1 + 1 from rfl, b2]; decide), if_neg (fun q => q b3)]
      refine am_istore_n rfl (Nat.le_of_ble_eq_true rfl) ?_
      show am_T _ _ _ _ [_, _, _, some _] _ _ _ _ _
      refine am_iload_n rfl rfl ?_
      refine am_iconst (v := -1) rfl (by decide) ?_
      refine am_icmp_ne rfl (fun _ => ?_) (fun z => absurd z (nI_ne_m1 (by omega)))
      refine s60 (i + 4) (T.getD i 0 - 97) _ (T.getD i 0 - 95) (T.getD (i + 2) 0 - 65) _ (by omega) ?_ (by omega) (fun _ => rfl) (fun q => by rw [if_pos q]) (fun q => by rw [if_neg (by rw [q]; decide)])
      unfold fp fx
      rw [if_neg (by omega), if_neg (by omega)]
      omega
    · have hfin : ∃ s, (if T.getD (i + 1) 0 ≠ 91 then (.inl (i + 1) : Nat ⊕ (Nat × Nat × Nat × Nat)) else if isNam (T.getD (i + 2) 0) = false then .inl (i + 2) else if T.getD (i + 3) 0 ≠ 93 then .inl (i + 3) else if isNam (T.getD (i + 4) 0) = false then .inl (i + 4) else .inr (i + 5, T.getD i 0 - 95, T.getD (i + 2) 0 - 65, T.getD (i + 4) 0 - 65)) = .inl s ∧ h' = hm (up2 mi 82 2 (nI s)) ml mr := by
        rcases hb with ⟨b1, rfl⟩ | ⟨b1, b2, rfl⟩ | ⟨b1, b2, b3, rfl⟩
        · exact ⟨_, by rw [if_pos b1], by rw [up2_2]⟩
        · exact ⟨_, by rw [if_neg (fun q => q b1), if_pos b2], by rw [up2_2]⟩
        · exact ⟨_, by rw [if_neg (fun q => q b1), if_neg (by rw [show i + 2 = i + 1 + 1 from rfl, b2]; decide), if_pos b3], by rw [up2_2]⟩
      obtain ⟨s, hs, rfl⟩ := hfin
      rw [hs]
      refine am_istore_n rfl (Nat.le_of_ble_eq_true rfl) ?_
      show am_T _ _ _ _ [_, _, _, some _] _ _ _ _ _
      refine am_iload_n rfl rfl ?_
      refine am_iconst (v := -1) rfl (by decide) ?_
      refine am_icmp_ne rfl (fun z => absurd rfl z) (fun _ => ?_)
      refine am_iconst (v := nI 0) rfl (by decide) ?_
      exact am_zreturn rfl rfl (Or.inl rfl) ⟨_, rfl, hF.tr (FF_at (Or.inl rfl) o64.2), by simp [up2], rfl⟩
/-- it holds the function F -/
def FA (mi : Nat → Nat → Int32) (o : Nat) (F : Fn) : Prop := mi o 1 = nI F.1 ∧ mi o 2 = nI F.2.1 ∧ CA mi o F.2.2
def FF2 (o : Nat) (mi mi' : Nat → Nat → Int32) : Prop := (∀ a, (a < o ∨ o + 5 < a) → a ≠ 82 → mi' a = mi a) ∧ ∀ j, j ≠ 2 → j ≠ 3 → mi' 82 j = mi 82 j
theorem FF.to2 {o : Nat} {mi mi' : Nat → Nat → Int32} (h : FF o mi mi') : FF2 o mi mi' := ⟨h.1, h.2.1⟩
theorem FF2.tr {o : Nat} {mi mi' mi'' : Nat → Nat → Int32} (h : FF2 o mi mi') (h' : FF2 o mi' mi'') : FF2 o mi mi'' := ⟨fun a h1 h2 => (h'.1 a h1 h2).trans (h.1 a h1 h2), fun j h1 h2 => (h'.2 j h1 h2).trans (h.2 j h1 h2)⟩
theorem FF2_up {o k j : Nat} {mi : Nat → Nat → Int32} {x : Int32} (hk : o ≤ k ∧ k ≤ o + 5) (ho : o ≤ 64) : FF2 o mi (up2 mi k j x) := ⟨fun a h1 _ => up2_off _ _ _ (by omega), fun i _ _ => by rw [up2_off _ _ _ (by omega)]⟩
theorem FF2.rd {o : Nat} {mi mi' : Nat → Nat → Int32} {mr : Nat → Nat → Option Nat} {cap : Nat} {T : List Nat} (h : FF2 o mi mi') (ho : 46 ≤ o) (hr : rd 1 cap T mi mr) : rd 1 cap T mi' mr := by
  obtain ⟨r1, r2, r3, r4, r5, r6, r7⟩ := hr
  refine ⟨r1, r2, r3, r4, by rw [h.2 1 (by decide) (by decide)]; exact r5, fun i hi => ?_, r7⟩
  rw [h.1 1 (by omega) (by decide)]
  exact r6 i hi
def rfC (ml : Nat → Nat → Int64) (mr : Nat → Nat → Option Nat) (o : Nat) (mi0 : Nat → Nat → Int32) (X : Nat ⊕ List Cl) (r : Option Value) (h' : am_H) : Prop := ∃ mi', h' = hm mi' ml mr ∧ FF o mi0 mi' ∧ match X with
  | .inl s => r = some (.int (bI false)) ∧ mi' 82 2 = nI s
  | .inr C => r = some (.int (bI true)) ∧ CA mi' o C
theorem c_R_rf_loop (hFn : isFn mr o) (mi0 : Nat → Nat → Int32) : ∀ (g k i : Nat) (C : List Cl) (mi : Nat → Nat → Int32), k + g = 6 → C.length = k → i ≤ T.length → (C ≠ [] → i < T.length) → ntk C ≤ i → rd 1 cap T mi mr → mi 82 2 = nI i → CA mi o C → FF o mi0 mi →
    am_T l (d + 4) M_R_readFunction 82 [some (.ref 82), some (.ref o), some (.int (nI k))] [] (hm mi ml mr) 0 0 (rfC ml mr o mi0 (cScan T g i C)) := by
  have o64 := hFn.1
  have hFn' := hFn
  obtain ⟨-, k0, k1, k2, k3, k4, k5, q4, q5, q6, q7, q8⟩ := hFn'
  intro g
  induction g with
  | zero =>
    intro k i C mi hk hC hi hne hnt hr hat hA hF
    have : i < T.length := hne (fun e => by rw [e] at hC; simp at hC; omega)
    unfold cScan
    rw [if_neg (by omega)]
    refine am_iload_n rfl rfl ?_
    refine am_bipush (v := nI 6) rfl (by decide) ?_
    refine ho_icmp_ge rfl (by omega) (by omega) (fun _ => ?_) (fun z => absurd (by omega) z)
    refine am_iconst (v := nI 0) rfl (by decide) ?_
    exact am_zreturn rfl rfl (Or.inl rfl) ⟨mi, rfl, hF, rfl, hat⟩
  | succ g ih =>
    intro k i C mi hk hC hi hne hnt hr hat hA hF
    have hg1 := hr
    obtain ⟨r1, r2, r3, r4, r5, r6, r7⟩ := hg1
    rw [cScan, if_neg (fun q => by have := hne q.2; omega)]
    refine am_iload_n rfl rfl ?_
    refine am_bipush (v := nI 6) rfl (by decide) ?_
    refine ho_icmp_ge rfl (by omega) (by omega) (fun z => absurd z (by omega)) (fun _ => ?_)
    have no : ∀ (mi' : Nat → Nat → Int32) (s : Nat), FF o mi0 mi' → mi' 82 2 = nI s → am_T l (d + 4) M_R_readFunction 128 [some (.ref 82), some (.ref o), some (.int (nI k))] [] (hm mi' ml mr) 0 0 (rfC ml mr o mi0 (.inl s)) := by
      intro mi' s a1 a2
      refine am_iconst (v := nI 0) rfl (by decide) ?_
      exact am_zreturn rfl rfl (Or.inl rfl) ⟨mi', rfl, a1, rfl, a2⟩
    refine am_aload_n rfl rfl ?_
    refine am_bipush (v := nI 47) rfl (by decide) ?_
    refine ho_cv1 rfl (by first | rfl | assumption) rfl (Nat.le_of_ble_eq_true rfl) (Nat.le_of_ble_eq_true rfl) (c_R_pass hr i hat (by omega) 47 (by decide) (by decide)) ?_
    rintro v h' (⟨e1, rfl, rfl⟩ | ⟨e1, rfl, rfl⟩)
    case inr =>
      refine am_if_eq rfl (fun _ => ?_) (fun z => absurd rfl z)
      unfold clScan
      rw [if_pos e1]
      exact no mi i hF hat
    refine am_if_eq rfl (fun z => by cases z) (fun _ => ?_)
    have hil := lt_of_getD e1 (by decide)
    have hcl : clScan T i = match pScan T (i + 1) with
    | .inl s => .inl s
    | .inr (j, p) => if T.getD j 0 ≠ 45 then .inl j else match rScan T p.1 81 (j + 1) 0 0 false [] with
      | .inl s => .inl s
      | .inr (q, K) => .inr (q, (p, K)) := by
      unfold clScan
      rw [if_neg (fun q => q e1)]
      rfl
    refine am_aload_n rfl rfl ?_
    refine am_aload_n rfl rfl ?_
    refine ho_cv1 rfl (by first | rfl | assumption) rfl (Nat.le_of_ble_eq_true rfl) (Nat.le_of_ble_eq_true rfl) (c_R_readPattern hFn mi0 C (i + 1) _ (by omega) (by omega) (rd_at (by decide) hr) (by simp [up2]) (CA_at o64.2 hA) (hF.tr (FF_at (Or.inl rfl) o64.2))) ?_
    cases hps : pScan T (i + 1) with
    | inl s =>
      rw [hps] at hcl
      rintro v h' ⟨mi1, rfl, hF1, hs, rfl⟩
      rw [hcl]
      refine am_if_eq rfl (fun _ => ?_) (fun z => absurd rfl z)
      exact no mi1 s hF1 hs
    | inr jp =>
      obtain ⟨j, p⟩ := jp
      rw [hps] at hcl
      obtain ⟨-, w2, w3, w4, -⟩ := pScan_ok hps
      rintro v h' ⟨mi1, rfl, hF1, rfl, hat1, hA1⟩
      have hr1 : rd 1 cap T mi1 mr := by
        refine ⟨r1, r2, r3, r4, ?_, fun x hx => ?_, r7⟩
        · rw [hF1.2.1 1 (by decide) (by decide), ← hF.2.1 1 (by decide) (by decide)]
          exact r5
        · rw [hF1.1 1 (by omega) (by decide), ← hF.1 1 (by omega) (by decide)]
          exact r6 x hx
      refine am_if_eq rfl (fun z => by cases z) (fun _ => ?_)
      refine am_aload_n rfl rfl ?_
      refine am_bipush (v := nI 45) rfl (by decide) ?_
      refine ho_cv1 rfl (by first | rfl | assumption) rfl (Nat.le_of_ble_eq_true rfl) (Nat.le_of_ble_eq_true rfl) (c_R_pass hr1 j hat1 (by omega) 45 (by decide) (by decide)) ?_
      rintro v h' (⟨e2, rfl, rfl⟩ | ⟨e2, rfl, rfl⟩)
      case inr =>
        refine am_if_eq rfl (fun _ => ?_) (fun z => absurd rfl z)
        simp only at hcl
        rw [if_pos e2] at hcl
        rw [hcl]
        exact no mi1 j hF1 hat1
      refine am_if_eq rfl (fun z => by cases z) (fun _ => ?_)
      have hjl := lt_of_getD e2 (by decide)
      simp only at hcl
      rw [if_neg (fun q => q e2)] at hcl
      have hA2 := CA_at (x := nI (j + 1)) (j := 2) o64.2 hA1
      have hfirst := (hA2.2.2 C (p, []) [] rfl).1
      refine am_aload_n rfl rfl ?_
      refine am_aload_n rfl rfl ?_
      refine am_aload_n rfl rfl ?_
      refine ho_getR rfl (by first | rfl | assumption) rfl (by first | assumption | exact hR _ _ _ rfl) ?_
      refine am_iload_n rfl rfl ?_
      refine ho_iaload rfl k1 (by omega) ?_
      rw [← hC, hfirst]
      refine ho_cv2 rfl (by first | rfl | assumption) rfl (Nat.le_of_ble_eq_true rfl) (Nat.le_of_ble_eq_true rfl) (c_R_readResult hFn mi0 C p w4 (by omega) 81 (j + 1) _ (by omega) (by omega) (by omega) (rd_at (by decide) hr1) (by simp [up2]) hA2 (hF1.tr (FF_at (Or.inl rfl) o64.2))) ?_
      cases hrs : rScan T p.1 81 (j + 1) 0 0 false [] with
      | inl s =>
        rw [hrs] at hcl
        rw [hcl]
        rintro v h' ⟨mi2, rfl, hF2, hs, rfl | ⟨rfl, hsl, hs47⟩⟩
        · refine am_if_ne rfl (fun z => absurd rfl z) (fun _ => ?_)
          rw [hC]
          exact no mi2 s hF2 hs
        · refine am_if_ne rfl (fun _ => ?_) (fun z => by cases z)
          have hr2 : rd 1 cap T mi2 mr := by
            refine ⟨r1, r2, r3, r4, ?_, fun x hx => ?_, r7⟩
            · rw [hF2.2.1 1 (by decide) (by decide), ← hF.2.1 1 (by decide) (by decide)]
              exact r5
            · rw [hF2.1 1 (by omega) (by decide), ← hF.1 1 (by omega) (by decide)]
              exact r6 x hx
          refine am_aload_n rfl rfl ?_
          refine ho_getI rfl (by first | rfl | assumption) rfl ?_
          rw [hs]
          refine am_aload_n rfl rfl ?_
          refine ho_getI rfl (by first | rfl | assumption) rfl ?_
          rw [hr2.2.2.2.2.1]
          refine ho_icmp_lt rfl (by omega) (by omega) (fun _ => ?_) (fun z => absurd hsl z)
          refine am_iinc rfl rfl (nI_inc1 _) ?_
          show am_T _ _ _ _ [_, _, some _] _ _ _ _ _
          refine am_goto rfl ?_
          refine am_iload_n rfl rfl ?_
          refine am_bipush (v := nI 6) rfl (by decide) ?_
          refine ho_icmp_ge rfl (by omega) (by omega) (fun _ => ?_) (fun _ => ?_)
          · refine am_iconst (v := nI 0) rfl (by decide) ?_
            exact am_zreturn rfl rfl (Or.inl rfl) ⟨mi2, rfl, hF2, rfl, hs⟩
          · refine am_aload_n rfl rfl ?_
            refine am_bipush (v := nI 47) rfl (by decide) ?_
            refine ho_cv1 rfl (by first | rfl | assumption) rfl (Nat.le_of_ble_eq_true rfl) (Nat.le_of_ble_eq_true rfl) (c_R_pass hr2 s hs (by omega) 47 (by decide) (by decide)) ?_
            rintro v h' (⟨e3, rfl, rfl⟩ | ⟨e3, rfl, rfl⟩)
            · exact absurd e3 hs47
            · refine am_if_eq rfl (fun _ => ?_) (fun z => absurd rfl z)
              refine am_iconst (v := nI 0) rfl (by decide) ?_
              exact am_zreturn rfl rfl (Or.inl rfl) ⟨mi2, rfl, hF2, rfl, hs⟩
      | inr qK =>
        obtain ⟨q, K⟩ := qK
        rw [hrs] at hcl
        have hlen := clScan_len hcl
        rw [hcl]
        rintro v h' ⟨mi2, rfl, hF2, rfl, hat2, hq, hA3⟩
        refine am_if_ne rfl (fun _ => ?_) (fun z => by cases z)
        have hr2 : rd 1 cap T mi2 mr := by
          refine ⟨r1, r2, r3, r4, ?_, fun x hx => ?_, r7⟩
          · rw [hF2.2.1 1 (by decide) (by decide), ← hF.2.1 1 (by decide) (by decide)]
            exact r5
          · rw [hF2.1 1 (by omega) (by decide), ← hF.1 1 (by omega) (by decide)]
            exact r6 x hx
        refine am_aload_n rfl rfl ?_
        refine ho_getI rfl (by first | rfl | assumption) rfl ?_
        rw [hat2]
        refine am_aload_n rfl rfl ?_
        refine ho_getI rfl (by first | rfl | assumption) rfl ?_
        rw [hr2.2.2.2.2.1]
        have hCl : (C ++ [(p, K)]).length = k + 1 := by rw [List.length_append, hC]; rfl
        refine ho_icmp_lt rfl (by omega) (by omega) (fun z => ?_) (fun z => ?_)
        · refine am_iinc rfl rfl (nI_inc1 _) ?_
          show am_T _ _ _ _ [_, _, some _] _ _ _ _ _
          refine am_goto rfl ?_
          rw [hC]
          have hlen : i + K.length ≤ q := hlen
          exact ih (k + 1) q (C ++ [(p, K)]) mi2 (by omega) hCl hq (fun _ => z) (by rw [ntk_app, ntk_one]; show ntk C + K.length ≤ q; omega) hr2 hat2 hA3 hF2
        · refine am_iconst (v := nI 1) rfl (by decide) ?_
          have hcs : cScan T g q (C ++ [(p, K)]) = .inr (C ++ [(p, K)]) := by
            cases g with
            | zero =>
              unfold cScan
              rw [if_pos (by omega)]
            | succ g =>
              rw [cScan, if_pos ⟨by omega, by simp⟩]
          show am_T _ _ _ _ _ _ _ _ _ (rfC ml mr o mi0 (cScan T g q (C ++ [(p, K)])))
          rw [hcs]
          exact am_zreturn rfl rfl (Or.inr rfl) ⟨mi2, rfl, hF2, rfl, hA3⟩
def rfP (ml : Nat → Nat → Int64) (mr : Nat → Nat → Option Nat) (o : Nat) (mi0 : Nat → Nat → Int32) (X : Nat ⊕ Fn) (r : Option Value) (h' : am_H) : Prop := ∃ mi', h' = hm mi' ml mr ∧ FF2 o mi0 mi' ∧ match X with
  | .inl s => r = some (.int (bI false)) ∧ mi' 82 2 = nI s
  | .inr F => r = some (.int (bI true)) ∧ FA mi' o F ∧ mi' o 0 = nI 1
theorem c_R_readFunction (hFn : isFn mr o) (mi : Nat → Nat → Int32) (hr : rd 1 cap T mi mr) (h0 : 0 < T.length) : am_T l (d + 4) M_R_readFunction 0 [some (.ref 82), some (.ref o), none] [] (hm mi ml mr) 0 0 (rfP ml mr o mi (fScan T)) := by
  have o64 := hFn.1
  have hFn' := hFn
  obtain ⟨-, k0, k1, k2, k3, k4, k5, q4, q5, q6, q7, q8⟩ := hFn'
  have hg1 := hr
  obtain ⟨r1, r2, r3, r4, r5, r6, r7⟩ := hg1
  unfold fScan
  refine am_aload_n rfl rfl ?_
  refine am_iconst (v := nI 1) rfl (by decide) ?_
  refine ho_putI rfl (by first | rfl | assumption) rfl (by first | rfl | assumption) ?_
  refine am_aload_n rfl rfl ?_
  refine am_iconst (v := nI 0) rfl (by decide) ?_
  refine ho_putI rfl (by first | rfl | assumption) rfl rfl ?_
  refine am_aload_n rfl rfl ?_
  refine ho_getR rfl (by first | rfl | assumption) rfl (by first | assumption | exact hR _ _ _ rfl) ?_
  refine am_iconst (v := nI 0) rfl (by decide) ?_
  refine am_iconst (v := nI 0) rfl (by decide) ?_
  refine ho_iastore rfl (by first | rfl | assumption) (by omega) ?_
  refine am_aload_n rfl rfl ?_
  refine am_iconst (v := nI 1) rfl (by decide) ?_
  refine ho_putI rfl (by first | rfl | assumption) rfl rfl ?_
  refine am_aload_n rfl rfl ?_
  refine am_bipush (v := nI 58) rfl (by decide) ?_
  have hF1 : FF2 o mi (up2 (up2 (up2 (up2 mi o 0 (nI 1)) o 3 (nI 0)) (o + 4) 0 (nI 0)) 82 2 (nI 1)) := (((FF2_up (by omega) o64.2).tr (FF2_up (by omega) o64.2)).tr (FF2_up (by omega) o64.2)).tr (FF_at (o := o) (Or.inl rfl) o64.2).to2
  have hr1 := hF1.rd o64.1 hr
  have hA1 : CA (up2 (up2 (up2 (up2 mi o 0 (nI 1)) o 3 (nI 0)) (o + 4) 0 (nI 0)) 82 2 (nI 1)) o [] := by
    refine CA_at o64.2 ⟨?_, by simp [up2], fun P c R h => ?_⟩
    · rw [up2_off _ _ _ (show o ≠ o + 4 by omega)]
      simp [up2]
    · have := congrArg List.length h
      simp at this
  have hgv1 : (up2 (up2 (up2 (up2 mi o 0 (nI 1)) o 3 (nI 0)) (o + 4) 0 (nI 0)) 82 2 (nI 1)) o 0 = nI 1 := by
    rw [up2_off _ _ _ (show o ≠ 82 by omega), up2_off _ _ _ (show o ≠ o + 4 by omega)]
    simp [up2]
  have hat1 : (up2 (up2 (up2 (up2 mi o 0 (nI 1)) o 3 (nI 0)) (o + 4) 0 (nI 0)) 82 2 (nI 1)) 82 2 = nI 1 := by simp [up2]
  generalize (up2 (up2 (up2 (up2 mi o 0 (nI 1)) o 3 (nI 0)) (o + 4) 0 (nI 0)) 82 2 (nI 1)) = mi1 at hF1 hr1 hA1 hgv1 hat1 ⊢
  refine ho_cv1 rfl (by first | rfl | assumption) rfl (Nat.le_of_ble_eq_true rfl) (Nat.le_of_ble_eq_true rfl) (c_R_pass hr1 1 hat1 (by omega) 58 (by decide) (by decide)) ?_
  rintro v h' (⟨e1, rfl, rfl⟩ | ⟨e1, rfl, rfl⟩)
  case inr =>
    rw [if_pos e1]
    refine am_if_eq rfl (fun _ => ?_) (fun z => absurd rfl z)
    refine am_iconst (v := nI 0) rfl (by decide) ?_
    exact am_zreturn rfl rfl (Or.inl rfl) ⟨mi1, rfl, hF1, rfl, hat1⟩
  rw [if_neg (fun q => q e1)]
  refine am_if_eq rfl (fun z => by cases z) (fun _ => ?_)
  have hr2 := rd_at (x := nI (1 + 1)) (show (1 : Nat) ≠ 82 by decide) hr1
  have hF2 := hF1.tr (FF_at (o := o) (mi := mi1) (x := nI (1 + 1)) (Or.inl rfl) o64.2).to2
  refine am_aload_n rfl rfl ?_
  refine ho_cv0 rfl (by first | rfl | assumption) rfl (Nat.le_of_ble_eq_true rfl) (Nat.le_of_ble_eq_true rfl) (c_R_look hr2 2 (by simp [up2]) (by omega)) ?_
  rintro v h' ⟨rfl, rfl⟩
  refine ho_cn1 rfl rfl (Nat.le_of_ble_eq_true rfl) (Nat.le_of_ble_eq_true rfl) (c_X_isNameL r7 2) ?_
  rintro v h' ⟨rfl, rfl⟩
  refine am_if_ne rfl (fun y => ?_) (fun y => ?_)
  case refine_2 =>
    rw [if_pos ((bI_eq _).mp y)]
    refine am_iconst (v := nI 0) rfl (by decide) ?_
    exact am_zreturn rfl rfl (Or.inl rfl) ⟨_, rfl, hF2, rfl, by simp [up2]⟩
  have y := (bI_ne _).mp y
  have yr := isNam_r y
  rw [if_neg (by rw [y]; decide)]
  refine am_aload_n rfl rfl ?_
  refine am_aload_n rfl rfl ?_
  refine ho_cv0 rfl (by first | rfl | assumption) rfl (Nat.le_of_ble_eq_true rfl) (Nat.le_of_ble_eq_true rfl) (c_R_readName _ hr2 2 (by simp [up2]) y) ?_
  rintro v h' ⟨rfl, rfl⟩
  rw [up2_2]
  refine ho_putI rfl (by first | rfl | assumption) rfl rfl ?_
  refine am_aload_n rfl rfl ?_
  refine am_bipush (v := nI 62) rfl (by decide) ?_
  have hF3 : FF2 o mi (up2 (up2 mi1 82 2 (nI (2 + 1))) o 1 (nI (T.getD 2 0 - 65))) := (hF1.tr (FF_at (o := o) (Or.inl rfl) o64.2).to2).tr (FF2_up (by omega) o64.2)
  have hr3 := hF3.rd o64.1 hr
  have hat3 : up2 (up2 mi1 82 2 (nI (2 + 1))) o 1 (nI (T.getD 2 0 - 65)) 82 2 = nI 3 := by
    rw [up2_off _ _ _ (show (82 : Nat) ≠ o by omega)]
    simp [up2]
  have hA3 : CA (up2 (up2 mi1 82 2 (nI (2 + 1))) o 1 (nI (T.getD 2 0 - 65))) o [] := by
    have := CA_at (x := nI (2 + 1)) (j := 2) o64.2 hA1
    refine ⟨?_, ?_, fun P c R h => ?_⟩
    · rw [← this.1]
      unfold up2
      rw [if_neg (by omega)]
    · rw [← this.2.1]
      rw [up2_off _ _ _ (show o + 4 ≠ o by omega)]
    · have := congrArg List.length h
      simp at this
  have hgv3 : up2 (up2 mi1 82 2 (nI (2 + 1))) o 1 (nI (T.getD 2 0 - 65)) o 0 = nI 1 := by
    rw [← hgv1]
    unfold up2
    rw [if_neg (by omega), if_neg (by omega)]
  have hin3 : up2 (up2 mi1 82 2 (nI (2 + 1))) o 1 (nI (T.getD 2 0 - 65)) o 1 = nI (T.getD 2 0 - 65) := by simp [up2]
  generalize up2 (up2 mi1 82 2 (nI (2 + 1))) o 1 (nI (T.getD 2 0 - 65)) = mi3 at hF3 hr3 hat3 hA3 hgv3 hin3 ⊢
  refine ho_cv1 rfl (by first | rfl | assumption) rfl (Nat.le_of_ble_eq_true rfl) (Nat.le_of_ble_eq_true rfl) (c_R_pass hr3 3 hat3 (by omega) 62 (by decide) (by decide)) ?_
  rintro v h' (⟨e3, rfl, rfl⟩ | ⟨e3, rfl, rfl⟩)
  case inr =>
    rw [if_pos e3]
    refine am_if_eq rfl (fun _ => ?_) (fun z => absurd rfl z)
    refine am_iconst (v := nI 0) rfl (by decide) ?_
    exact am_zreturn rfl rfl (Or.inl rfl) ⟨mi3, rfl, hF3, rfl, hat3⟩
  rw [if_neg (fun q => q e3)]
  refine am_if_eq rfl (fun z => by cases z) (fun _ => ?_)
  have hr4 := rd_at (x := nI (3 + 1)) (show (1 : Nat) ≠ 82 by decide) hr3
  have hF4 := hF3.tr (FF_at (o := o) (mi := mi3) (x := nI (3 + 1)) (Or.inl rfl) o64.2).to2
  refine am_aload_n rfl rfl ?_
  refine ho_cv0 rfl (by first | rfl | assumption) rfl (Nat.le_of_ble_eq_true rfl) (Nat.le_of_ble_eq_true rfl) (c_R_look hr4 4 (by simp [up2]) (by omega)) ?_
  rintro v h' ⟨rfl, rfl⟩
  refine ho_cn1 rfl rfl (Nat.le_of_ble_eq_true rfl) (Nat.le_of_ble_eq_true rfl) (c_X_isNameL r7 4) ?_
  rintro v h' ⟨rfl, rfl⟩
  refine am_if_ne rfl (fun x => ?_) (fun x => ?_)
  case refine_2 =>
    rw [if_pos ((bI_eq _).mp x)]
    refine am_iconst (v := nI 0) rfl (by decide) ?_
    exact am_zreturn rfl rfl (Or.inl rfl) ⟨_, rfl, hF4, rfl, by simp [up2]⟩
  have x := (bI_ne _).mp x
  have xr := isNam_r x
  have hl4 := lt_of_nam x
  rw [if_neg (by rw [x]; decide)]
  refine am_aload_n rfl rfl ?_
  refine am_aload_n rfl rfl ?_
  refine ho_cv0 rfl (by first | rfl | assumption) rfl (Nat.le_of_ble_eq_true rfl) (Nat.le_of_ble_eq_true rfl) (c_R_readName _ hr4 4 (by simp [up2]) x) ?_
  rintro v h' ⟨rfl, rfl⟩
  rw [up2_2]
  refine ho_putI rfl (by first | rfl | assumption) rfl rfl ?_
  refine am_iconst (v := nI 0) rfl (by decide) ?_
  refine am_istore_n rfl (Nat.le_of_ble_eq_true rfl) ?_
  show am_T _ _ _ _ [_, _, some _] _ _ _ _ _
  have hF5 : FF2 o mi (up2 (up2 mi3 82 2 (nI (4 + 1))) o 2 (nI (T.getD 4 0 - 65))) := (hF3.tr (FF_at (o := o) (Or.inl rfl) o64.2).to2).tr (FF2_up (by omega) o64.2)
  have hr5 := hF5.rd o64.1 hr
  have hat5 : up2 (up2 mi3 82 2 (nI (4 + 1))) o 2 (nI (T.getD 4 0 - 65)) 82 2 = nI 5 := by
    rw [up2_off _ _ _ (show (82 : Nat) ≠ o by omega)]
    simp [up2]
  have hA5 : CA (up2 (up2 mi3 82 2 (nI (4 + 1))) o 2 (nI (T.getD 4 0 - 65))) o [] := by
    have := CA_at (x := nI (4 + 1)) (j := 2) o64.2 hA3
    refine ⟨?_, ?_, fun P c R h => ?_⟩
    · rw [← this.1]
      unfold up2
      rw [if_neg (by omega)]
    · rw [← this.2.1]
      rw [up2_off _ _ _ (show o + 4 ≠ o by omega)]
    · have := congrArg List.length h
      simp at this
  have hgv5 : up2 (up2 mi3 82 2 (nI (4 + 1))) o 2 (nI (T.getD 4 0 - 65)) o 0 = nI 1 := by
    rw [← hgv3]
    unfold up2
    rw [if_neg (by omega), if_neg (by omega)]
  have hin5 : up2 (up2 mi3 82 2 (nI (4 + 1))) o 2 (nI (T.getD 4 0 - 65)) o 1 = nI (T.getD 2 0 - 65) := by
    rw [← hin3]
    unfold up2
    rw [if_neg (by omega), if_neg (by omega)]
  have hout5 : up2 (up2 mi3 82 2 (nI (4 + 1))) o 2 (nI (T.getD 4 0 - 65)) o 2 = nI (T.getD 4 0 - 65) := by simp [up2]
  generalize up2 (up2 mi3 82 2 (nI (4 + 1))) o 2 (nI (T.getD 4 0 - 65)) = mi5 at hF5 hr5 hat5 hA5 hgv5 hin5 hout5 ⊢
  refine am_T.to (c_R_rf_loop hFn mi5 6 0 5 [] mi5 rfl rfl (by omega) (fun q => absurd rfl q) (by decide) hr5 hat5 hA5 FF.rf) ?_
  rintro v h' ⟨mi6, rfl, hF6, hX⟩
  cases hcs : cScan T 6 5 [] with
  | inl s =>
    rw [hcs] at hX
    exact ⟨mi6, rfl, hF5.tr hF6.to2, hX⟩
  | inr C =>
    rw [hcs] at hX
    refine ⟨mi6, rfl, hF5.tr hF6.to2, hX.1, ⟨?_, ?_, hX.2⟩, ?_⟩
    · rw [hF6.2.2 1 (by decide)]
      exact hin5
    · rw [hF6.2.2 2 (by decide)]
      exact hout5
    · rw [hF6.2.2 0 (by decide)]
      exact hgv5
end R8
