/-! the class: readResult, readPattern, readFunction -/
def rrP (ml : Nat → Nat → Int64) (mr : Nat → Nat → Option Nat) (cap : Nat) (T : List Nat) (o : Nat) (mi0 : Nat → Nat → Int32) (C : List Cl) (p : Nat × Nat × Nat) (X : Nat ⊕ (Nat × List Nat)) (r : Option Value) (h' : am_H) : Prop := ∃ mi', h' = hm mi' ml mr ∧ FF o mi0 mi' ∧ match X with
  | .inl s => mi' 82 2 = nI s ∧ (r = some (.int (bI false)) ∨ (r = some (.int (bI true)) ∧ s < T.length ∧ T.getD s 0 ≠ 47))
  | .inr (j, K) => r = some (.int (bI true)) ∧ mi' 82 2 = nI j ∧ j ≤ T.length ∧ CA mi' o (C ++ [(p, K)])
section R7
variable {l : Launch} {d : Nat} {ml : Nat → Nat → Int64} {mr : Nat → Nat → Option Nat} {cap o : Nat} {T : List Nat}
theorem c_R_readResult_loop (hFn : isFn mr o) (mi0 : Nat → Nat → Int32) (C : List Cl) (p : Nat × Nat × Nat) (hp : p.1 ≤ 5) (h6 : C.length < 6) : ∀ (g k i e n : Nat) (en : Bool) (K : List Nat) (mi : Nat → Nat → Int32), T.length < i + g → i ≤ T.length → k ≤ i → e ≤ i → n ≤ 12 → ntk C + K.length ≤ i → RSt cap T o mi0 mr i n C p K mi →
    am_T l (d + 3) M_R_readResult 13 [some (.ref 82), some (.ref o), some (.int (nI (fp p.1))), some (.int (nI e)), some (.int (bI en)), some (.int (nI k)), none] [] (hm mi ml mr) 0 0 (rrP ml mr cap T o mi0 C p (rScan T p.1 g i e n en K)) := by
  have o64 := hFn.1
  have hk0 := hFn.2.1
  intro g
  induction g with
  | zero =>
    intro k i e n en K mi h1 h2
    omega
  | succ g ih =>
    intro k i e n en K mi hg hi hk he hn h80 hS
    have hS' := hS
    obtain ⟨g1, g2, g3, g4, g5⟩ := hS'
    have hg1 := g1
    obtain ⟨r1, r2, r3, r4, r5, r6, r7⟩ := hg1
    have hc := okT_at r7 i
    have s150 : ∀ (j e' n' : Nat) (en' : Bool) (K' : List Nat) (mi' : Nat → Nat → Int32) (x6 : Option Value), i < j → j ≤ T.length → e' ≤ j → n' ≤ 12 → K'.length = K.length + 1 → RSt cap T o mi0 mr j n' C p K' mi' → am_T l (d + 3) M_R_readResult 150 [some (.ref 82), some (.ref o), some (.int (nI (fp p.1))), some (.int (nI e')), some (.int (bI en')), some (.int (nI k)), x6] [] (hm mi' ml mr) 0 0 (rrP ml mr cap T o mi0 C p (rScan T p.1 g j e' n' en' K')) := by
      intro j e' n' en' K' mi' x6 a1 a2 a3 a4 a5 a6
      refine am_iinc rfl rfl (nI_inc1 _) ?_
      show am_T _ _ _ _ [_, _, _, _, _, some _, _] _ _ _ _ _
      refine am_goto rfl ?_
      refine am_drops [6] ?_
      exact ih (k + 1) j e' n' en' K' mi' (by omega) a2 (by omega) a3 a4 (by omega) a6
    rw [rScan]
    by_cases hend : T.length ≤ i
    · rw [if_pos hend]
      have s156 : am_T l (d + 3) M_R_readResult 156 [some (.ref 82), some (.ref o), some (.int (nI (fp p.1))), some (.int (nI e)), some (.int (bI en)), some (.int (nI k)), none] [] (hm mi ml mr) 0 0 (rrP ml mr cap T o mi0 C p (if 0 < e then .inl i else .inr (i, K))) := by
        refine am_iload_n rfl rfl ?_
        refine am_if_ne rfl (fun z => ?_) (fun z => ?_)
        · have z : ¬ e = 0 := fun q => z (by rw [q]; rfl)
          rw [if_pos (by omega)]
          refine am_iconst (v := nI 0) rfl (by decide) ?_
          exact am_zreturn rfl rfl (Or.inl rfl) ⟨mi, rfl, g5, g2, Or.inl rfl⟩
        · have z : e = 0 := (nI_eq (by omega) (by omega)).mp (z.trans (rfl : (0 : Int32) = nI 0))
          rw [if_neg (by omega)]
          refine am_aload_n rfl rfl ?_
          refine ho_getI rfl (by first | rfl | assumption) rfl ?_
          rw [g2]
          refine am_aload_n rfl rfl ?_
          refine ho_getI rfl (by first | rfl | assumption) rfl ?_
          rw [r5]
          refine ho_icmp_lt rfl (by omega) (by omega) (fun y => absurd y (by omega)) (fun _ => ?_)
          refine am_iconst (v := nI 1) rfl (by decide) ?_
          refine am_goto rfl ?_
          exact am_zreturn rfl rfl (Or.inr rfl) ⟨mi, rfl, g5, rfl, g2, hi, g4⟩
      refine am_iload rfl rfl ?_
      refine am_bipush (v := nI 80) rfl (by decide) ?_
      refine ho_icmp_ge rfl (by omega) (by omega) (fun _ => s156) (fun _ => ?_)
      refine am_aload_n rfl rfl ?_
      refine ho_getI rfl (by first | rfl | assumption) rfl ?_
      rw [g2]
      refine am_aload_n rfl rfl ?_
      refine ho_getI rfl (by first | rfl | assumption) rfl ?_
      rw [r5]
      refine ho_icmp_ge rfl (by omega) (by omega) (fun _ => s156) (fun z => absurd hend z)
    rw [if_neg hend]
    have hil : i < T.length := by omega
    refine am_iload rfl rfl ?_
    refine am_bipush (v := nI 80) rfl (by decide) ?_
    refine ho_icmp_ge rfl (by omega) (by omega) (fun z => absurd z (by omega)) (fun _ => ?_)
    refine am_aload_n rfl rfl ?_
    refine ho_getI rfl (by first | rfl | assumption) rfl ?_
    rw [g2]
    refine am_aload_n rfl rfl ?_
    refine ho_getI rfl (by first | rfl | assumption) rfl ?_
    rw [r5]
    refine ho_icmp_ge rfl (by omega) (by omega) (fun z => absurd z (by omega)) (fun _ => ?_)
    refine am_aload_n rfl rfl ?_
    refine ho_getR rfl (by first | rfl | assumption) rfl (by first | assumption | exact hR _ _ _ rfl) ?_
    refine am_aload_n rfl rfl ?_
    refine ho_getI rfl (by first | rfl | assumption) rfl ?_
    rw [g2]
    refine ho_caload rfl r2 (by omega) ?_
    rw [r6 i hil]
    refine am_istore rfl (Nat.le_of_ble_eq_true rfl) ?_
    show am_T _ _ _ _ [_, _, _, _, _, _, some _] _ _ _ _ _
    refine am_iload rfl rfl ?_
    refine am_bipush (v := nI 93) rfl (by decide) ?_
    -- behind the bracket's question
    have s78 : ¬ (T.getD i 0 = 93 ∧ 0 < e) → am_T l (d + 3) M_R_readResult 78 [some (.ref 82), some (.ref o), some (.int (nI (fp p.1))), some (.int (nI e)), some (.int (bI en)), some (.int (nI k)), some (.int (nI (T.getD i 0)))] [] (hm mi ml mr) 0 0 (rrP ml mr cap T o mi0 C p (if T.getD i 0 = 47 ∧ e = 0 then .inr (i, K)
    else if T.getD i 0 = 93 ∧ 0 < e then rScan T p.1 g (i + 1) (e - 1) n false (K ++ [93])
    else if en = true then .inl i
    else if n < 12 ∧ (isDig (T.getD i 0) = true ∨ (T.getD i 0 = 35 ∧ p.1 = 1)) then rScan T p.1 g (i + 1) e (n + 1) false (K ++ [T.getD i 0])
    else if n < 12 ∧ isLab (T.getD i 0) = true then (if T.getD (i + 1) 0 ≠ 91 then .inl (i + 1) else rScan T p.1 g (i + 2) (e + 1) (n + 1) false (K ++ [T.getD i 0]))
    else if (T.getD i 0 = 120 ∧ 2 ≤ p.1) ∨ (T.getD i 0 = 121 ∧ 1 ≤ p.1) then rScan T p.1 g (i + 1) e n true (K ++ [T.getD i 0])
    else if isFun (T.getD i 0) = false ∨ p.1 = 0 then .inl i
    else if T.getD (i + 1) 0 ≠ 40 then .inl (i + 1)
    else if ¬ (T.getD (i + 2) 0 = 121 ∨ (T.getD (i + 2) 0 = 120 ∧ 2 ≤ p.1)) then .inl (i + 2)
    else if T.getD (i + 3) 0 ≠ 41 then .inl (i + 3)
    else rScan T p.1 g (i + 4) e n true (K ++ [256 + 2 * (T.getD i 0 - 102) + (if T.getD (i + 2) 0 = 121 then 1 else 0)]))) := by
      intro a2
      -- the result ends here
      have s90 : (en = true ∨ T.getD i 0 = 47) → am_T l (d + 3) M_R_readResult 90 [some (.ref 82), some (.ref o), some (.int (nI (fp p.1))), some (.int (nI e)), some (.int (bI en)), some (.int (nI k)), some (.int (nI (T.getD i 0)))] [] (hm mi ml mr) 0 0 (rrP ml mr cap T o mi0 C p (if T.getD i 0 = 47 ∧ e = 0 then .inr (i, K)
    else if T.getD i 0 = 93 ∧ 0 < e then rScan T p.1 g (i + 1) (e - 1) n false (K ++ [93])
    else if en = true then .inl i
    else if n < 12 ∧ (isDig (T.getD i 0) = true ∨ (T.getD i 0 = 35 ∧ p.1 = 1)) then rScan T p.1 g (i + 1) e (n + 1) false (K ++ [T.getD i 0])
    else if n < 12 ∧ isLab (T.getD i 0) = true then (if T.getD (i + 1) 0 ≠ 91 then .inl (i + 1) else rScan T p.1 g (i + 2) (e + 1) (n + 1) false (K ++ [T.getD i 0]))
    else if (T.getD i 0 = 120 ∧ 2 ≤ p.1) ∨ (T.getD i 0 = 121 ∧ 1 ≤ p.1) then rScan T p.1 g (i + 1) e n true (K ++ [T.getD i 0])
    else if isFun (T.getD i 0) = false ∨ p.1 = 0 then .inl i
    else if T.getD (i + 1) 0 ≠ 40 then .inl (i + 1)
    else if ¬ (T.getD (i + 2) 0 = 121 ∨ (T.getD (i + 2) 0 = 120 ∧ 2 ≤ p.1)) then .inl (i + 2)
    else if T.getD (i + 3) 0 ≠ 41 then .inl (i + 3)
    else rScan T p.1 g (i + 4) e n true (K ++ [256 + 2 * (T.getD i 0 - 102) + (if T.getD (i + 2) 0 = 121 then 1 else 0)]))) := by
        intro hor
        have hinl : ¬ (T.getD i 0 = 47 ∧ e = 0) → (if T.getD i 0 = 93 ∧ 0 < e then rScan T p.1 g (i + 1) (e - 1) n false (K ++ [93])
    else if en = true then .inl i
    else if n < 12 ∧ (isDig (T.getD i 0) = true ∨ (T.getD i 0 = 35 ∧ p.1 = 1)) then rScan T p.1 g (i + 1) e (n + 1) false (K ++ [T.getD i 0])
    else if n < 12 ∧ isLab (T.getD i 0) = true then (if T.getD (i + 1) 0 ≠ 91 then .inl (i + 1) else rScan T p.1 g (i + 2) (e + 1) (n + 1) false (K ++ [T.getD i 0]))
    else if (T.getD i 0 = 120 ∧ 2 ≤ p.1) ∨ (T.getD i 0 = 121 ∧ 1 ≤ p.1) then rScan T p.1 g (i + 1) e n true (K ++ [T.getD i 0])
    else if isFun (T.getD i 0) = false ∨ p.1 = 0 then .inl i
    else if T.getD (i + 1) 0 ≠ 40 then .inl (i + 1)
    else if ¬ (T.getD (i + 2) 0 = 121 ∨ (T.getD (i + 2) 0 = 120 ∧ 2 ≤ p.1)) then .inl (i + 2)
    else if T.getD (i + 3) 0 ≠ 41 then .inl (i + 3)
    else rScan T p.1 g (i + 4) e n true (K ++ [256 + 2 * (T.getD i 0 - 102) + (if T.getD (i + 2) 0 = 121 then 1 else 0)])) = .inl i := by
          intro _
          rw [if_neg a2]
          by_cases hen : en = true
          · rw [if_pos hen]
          · have h47 := hor.resolve_left hen
            rw [if_neg hen, h47, if_neg (fun q => q.2.elim (fun q => by cases q) (fun q => by omega)), if_neg (fun q => by cases q.2), if_neg (by omega), if_pos (c := isFun 47 = false ∨ p.1 = 0) (Or.inl rfl)]
        refine am_iload_n rfl rfl ?_
        refine am_if_ne rfl (fun z => ?_) (fun z => ?_)
        · have z : ¬ e = 0 := fun q => z (by rw [q]; rfl)
          rw [if_neg (fun q => z q.2), hinl (fun q => z q.2)]
          refine am_iconst (v := nI 0) rfl (by decide) ?_
          exact am_zreturn rfl rfl (Or.inl rfl) ⟨mi, rfl, g5, g2, Or.inl rfl⟩
        · have z : e = 0 := (nI_eq (by omega) (by omega)).mp (z.trans (rfl : (0 : Int32) = nI 0))
          refine am_iconst (v := nI 1) rfl (by decide) ?_
          refine am_goto rfl ?_
          by_cases h47 : T.getD i 0 = 47
          · rw [if_pos ⟨h47, z⟩]
            exact am_zreturn rfl rfl (Or.inr rfl) ⟨mi, rfl, g5, rfl, g2, hi, g4⟩
          · rw [if_neg (fun q => h47 q.1), hinl (fun q => h47 q.1)]
            exact am_zreturn rfl rfl (Or.inr rfl) ⟨mi, rfl, g5, g2, Or.inr ⟨rfl, hil, h47⟩⟩
      refine am_iload rfl rfl ?_
      refine am_if_ne rfl (fun z => s90 (Or.inl ((bI_ne _).mp z))) (fun z => ?_)
      have z := (bI_eq _).mp z
      refine am_iload rfl rfl ?_
      refine am_bipush (v := nI 47) rfl (by decide) ?_
      refine ho_icmp_ne rfl (by omega) (by omega) (fun y => ?_) (fun y => s90 (Or.inr y))
      rw [if_neg (fun q => y q.1), if_neg a2, if_neg (by rw [z]; decide)]
      refine am_aload_n rfl rfl ?_
      refine am_iload rfl rfl ?_
      refine am_iload_n rfl rfl ?_
      refine ho_cv2 rfl (by first | rfl | assumption) rfl (Nat.le_of_ble_eq_true rfl) (Nat.le_of_ble_eq_true rfl) (c_R_mayBePart _ p.1 hc hp) ?_
      rintro v h' ⟨rfl, rfl⟩
      refine am_if_eq rfl (fun x => ?_) (fun x => ?_)
      · -- an end
        have x := (bI_eq _).mp x
        simp only [Bool.or_eq_false_iff, decide_eq_false_iff_not] at x
        obtain ⟨⟨x1, x2⟩, x3⟩ := x
        rw [if_neg (fun q => q.2.elim (fun q => by rw [x1] at q; cases q) x3), if_neg (fun q => by rw [x2] at q; cases q.2)]
        refine am_iconst (v := nI 1) rfl (by decide) ?_
        refine am_istore rfl (Nat.le_of_ble_eq_true rfl) ?_
        show am_T _ _ _ _ [_, _, _, _, some _, _, _] _ _ _ _ _
        refine am_aload_n rfl rfl ?_
        refine am_aload_n rfl rfl ?_
        refine am_iload_n rfl rfl ?_
        refine ho_cv2 rfl (by first | rfl | assumption) rfl (Nat.le_of_ble_eq_true rfl) (Nat.le_of_ble_eq_true rfl) (c_R_readEnd hFn mi0 i n C p K mi hS hp hil h6 h80) ?_
        rintro v h' ⟨mi', rfl, ⟨b1, rfl, hS1⟩ | ⟨b1, ⟨rfl, hF1, hx⟩ | ⟨rfl, b2, b3, b4, b5, hS1⟩⟩⟩
        · rw [if_pos b1]
          refine am_if_ne rfl (fun _ => ?_) (fun w => by cases w)
          exact s150 (i + 1) e n true _ mi' _ (by omega) (by omega) (by omega) hn (by rw [List.length_append]; rfl) hS1
        · rw [if_neg b1]
          refine am_if_ne rfl (fun w => absurd rfl w) (fun _ => ?_)
          refine am_iconst (v := nI 0) rfl (by decide) ?_
          refine am_zreturn rfl rfl (Or.inl rfl) ⟨mi', rfl, hF1, ?_⟩
          rcases hx with ⟨c1, c2⟩ | ⟨c1, ⟨c2, c3⟩ | ⟨c2, ⟨c3, c4⟩ | ⟨c3, c4, c5⟩⟩⟩
          · rw [if_pos c1]
            exact ⟨c2, Or.inl rfl⟩
          · rw [if_neg c1, if_pos c2]
            exact ⟨c3, Or.inl rfl⟩
          · rw [if_neg c1, if_neg (fun q => q c2), if_pos c3]
            exact ⟨c4, Or.inl rfl⟩
          · rw [if_neg c1, if_neg (fun q => q c2), if_neg (fun q => q c3), if_pos c4]
            exact ⟨c5, Or.inl rfl⟩
        · rw [if_neg b1, if_neg b2, if_neg (fun q => q b3), if_neg (fun q => q b4), if_neg (fun q => q b5)]
          refine am_if_ne rfl (fun _ => ?_) (fun w => by cases w)
          have hl3 := lt_of_getD b5 (by decide)
          exact s150 (i + 4) e n true _ mi' _ (by omega) (by omega) (by omega) hn (by rw [List.length_append]; rfl) hS1
      · -- a part
        have x := (bI_ne _).mp x
        simp only [Bool.or_eq_true, decide_eq_true_eq] at x
        have s126 : ∀ e' : Nat, e' = e + lb (T.getD i 0) → am_T l (d + 3) M_R_readResult 126 [some (.ref 82), some (.ref o), some (.int (nI (fp p.1))), some (.int (nI e')), some (.int (bI en)), some (.int (nI k)), some (.int (nI (T.getD i 0)))] [] (hm mi ml mr) 0 0 (rrP ml mr cap T o mi0 C p (if n < 12 ∧ (isDig (T.getD i 0) = true ∨ (T.getD i 0 = 35 ∧ p.1 = 1)) then rScan T p.1 g (i + 1) e (n + 1) false (K ++ [T.getD i 0])
    else if n < 12 ∧ isLab (T.getD i 0) = true then (if T.getD (i + 1) 0 ≠ 91 then .inl (i + 1) else rScan T p.1 g (i + 2) (e + 1) (n + 1) false (K ++ [T.getD i 0]))
    else if (T.getD i 0 = 120 ∧ 2 ≤ p.1) ∨ (T.getD i 0 = 121 ∧ 1 ≤ p.1) then rScan T p.1 g (i + 1) e n true (K ++ [T.getD i 0])
    else if isFun (T.getD i 0) = false ∨ p.1 = 0 then .inl i
    else if T.getD (i + 1) 0 ≠ 40 then .inl (i + 1)
    else if ¬ (T.getD (i + 2) 0 = 121 ∨ (T.getD (i + 2) 0 = 120 ∧ 2 ≤ p.1)) then .inl (i + 2)
    else if T.getD (i + 3) 0 ≠ 41 then .inl (i + 3)
    else rScan T p.1 g (i + 4) e n true (K ++ [256 + 2 * (T.getD i 0 - 102) + (if T.getD (i + 2) 0 = 121 then 1 else 0)]))) := by
          intro e' he'
          refine am_aload_n rfl rfl ?_
          refine am_aload_n rfl rfl ?_
          refine ho_cv1 rfl (by first | rfl | assumption) rfl (Nat.le_of_ble_eq_true rfl) (Nat.le_of_ble_eq_true rfl) (c_R_readPart hFn mi0 i n C p K mi hS hil hn h6 h80) ?_
          rintro v h' (⟨b1, rfl, rfl⟩ | ⟨b1, mi', rfl, ⟨b2, rfl, hS1⟩ | ⟨b2, b3, rfl, hS1⟩ | ⟨b2, b3, rfl, b4, b5⟩⟩)
          · refine am_if_ne rfl (fun w => absurd rfl w) (fun _ => ?_)
            refine am_iconst (v := nI 0) rfl (by decide) ?_
            have hcc : T.getD i 0 = 35 ∨ (48 ≤ T.getD i 0 ∧ T.getD i 0 ≤ 57) ∨ (97 ≤ T.getD i 0 ∧ T.getD i 0 ≤ 100) := by
              rcases x with (x | x) | x
              · exact Or.inr (Or.inl (isDig_r x))
              · exact Or.inr (Or.inr (isLab_r x))
              · exact Or.inl x.1
            rw [if_neg (fun q => by omega), if_neg (fun q => by omega), if_neg (by omega), if_pos (Or.inl (by simp only [isFun, decide_eq_false_iff_not]; omega))]
            exact am_zreturn rfl rfl (Or.inl rfl) ⟨mi, rfl, g5, g2, Or.inl rfl⟩
          · refine am_if_ne rfl (fun _ => ?_) (fun w => by cases w)
            have hd : isDig (T.getD i 0) = true ∨ (T.getD i 0 = 35 ∧ p.1 = 1) := by
              rcases x with (x | x) | x
              · exact Or.inl x
              · rw [b2] at x
                cases x
              · exact Or.inr x
            rw [if_pos ⟨b1, hd⟩]
            have he2 : e' = e := by rw [he', show lb (T.getD i 0) = 0 by unfold lb; rw [b2]; rfl]; rfl
            rw [he2]
            subst z
            exact s150 (i + 1) e (n + 1) false _ mi' _ (by omega) (by omega) (by omega) (by omega) (by rw [List.length_append]; rfl) hS1
          · refine am_if_ne rfl (fun _ => ?_) (fun w => by cases w)
            have b2r := isLab_r b2
            have hl := lt_of_getD b3 (by decide)
            rw [if_neg (fun q => q.2.elim (fun q => by have := isDig_r q; omega) (fun q => by omega)), if_pos ⟨b1, b2⟩, if_neg (fun q => q b3)]
            have he2 : e' = e + 1 := by rw [he', show lb (T.getD i 0) = 1 by unfold lb; rw [b2]; rfl]
            rw [he2]
            subst z
            exact s150 (i + 2) (e + 1) (n + 1) false _ mi' _ (by omega) (by omega) (by omega) (by omega) (by rw [List.length_append]; rfl) hS1
          · refine am_if_ne rfl (fun w => absurd rfl w) (fun _ => ?_)
            have b2r := isLab_r b2
            refine am_iconst (v := nI 0) rfl (by decide) ?_
            rw [if_neg (fun q => q.2.elim (fun q => by have := isDig_r q; omega) (fun q => by omega)), if_pos ⟨b1, b2⟩, if_pos b3]
            exact am_zreturn rfl rfl (Or.inl rfl) ⟨mi', rfl, b5, b4, Or.inl rfl⟩
        refine am_iload_n rfl rfl ?_
        refine am_iload rfl rfl ?_
        refine ho_cn1 rfl rfl (Nat.le_of_ble_eq_true rfl) (Nat.le_of_ble_eq_true rfl) (c_X_isLabel _ (by omega)) ?_
        rintro v h' ⟨rfl, rfl⟩
        refine am_if_eq rfl (fun w => ?_) (fun w => ?_)
        · refine am_iconst (v := nI 0) rfl (by decide) ?_
          first | refine ho_addn rfl ?_ | refine am_iadd rfl ?_
          refine am_istore_n rfl (Nat.le_of_ble_eq_true rfl) ?_
          show am_T _ _ _ _ [_, _, _, some _, _, _, _] _ _ _ _ _
          exact s126 _ (by unfold lb; rw [(bI_eq _).mp w]; rfl)
        · refine am_iconst (v := nI 1) rfl (by decide) ?_
          refine am_goto rfl ?_
          first | refine ho_addn rfl ?_ | refine am_iadd rfl ?_
          refine am_istore_n rfl (Nat.le_of_ble_eq_true rfl) ?_
          show am_T _ _ _ _ [_, _, _, some _, _, _, _] _ _ _ _ _
          exact s126 _ (by unfold lb; rw [(bI_ne _).mp w]; rfl)
    refine ho_icmp_ne rfl (by omega) (by omega) (fun z => s78 (fun q => z q.1)) (fun z => ?_)
    refine am_iload_n rfl rfl ?_
    refine am_if_le rfl (fun y => ?_) (fun y => ?_)
    · have y : nI e ≤ nI 0 := y
      rw [nI_leI (by omega) (by omega)] at y
      exact s78 (fun q => by omega)
    · have y : ¬ nI e ≤ nI 0 := y
      rw [nI_leI (by omega) (by omega)] at y
      obtain ⟨e', rfl⟩ : ∃ e', e = e' + 1 := ⟨e - 1, by omega⟩
      rw [if_neg (fun q => by omega), if_pos ⟨z, by omega⟩, Nat.add_sub_cancel]
      refine am_iinc rfl rfl (nI_dec1 _) ?_
      show am_T _ _ _ _ [_, _, _, some _, _, _, _] _ _ _ _ _
      refine am_iconst (v := nI 0) rfl (by decide) ?_
      refine am_istore rfl (Nat.le_of_ble_eq_true rfl) ?_
      show am_T _ _ _ _ [_, _, _, _, some _, _, _] _ _ _ _ _
      refine am_aload_n rfl rfl ?_
      refine am_iload rfl rfl ?_
      refine ho_cv1 rfl (by first | rfl | assumption) rfl (Nat.le_of_ble_eq_true rfl) (Nat.le_of_ble_eq_true rfl) (c_F_addToken _ hFn C p K g4 h6 (by omega) (nI (T.getD i 0))) ?_
      rintro v h' ⟨rfl, rfl⟩
      have hS2 := hS.tok o64 (T.getD i 0)
      refine am_aload_n rfl rfl ?_
      refine am_dup rfl rfl ?_
      refine ho_getI rfl (by first | rfl | assumption) rfl ?_
      rw [hS2.2.1]
      refine am_iconst (v := nI 1) rfl (by decide) ?_
      first | refine ho_addn rfl ?_ | refine am_iadd rfl ?_
      refine ho_putI rfl (by first | rfl | assumption) rfl rfl ?_
      refine am_goto rfl ?_
      have hS3 := hS2.go o64.2 (i + 1)
      have hfin := s150 (i + 1) e' n false (K ++ [T.getD i 0]) _ (some (.int (nI (T.getD i 0)))) (by omega) (by omega) (by omega) hn (by rw [List.length_append]; rfl) hS3
      rw [show K ++ [93] = K ++ [T.getD i 0] by rw [z]]
      exact hfin
theorem c_R_readResult (hFn : isFn mr o) (mi0 : Nat → Nat → Int32) (C : List Cl) (p : Nat × Nat × Nat) (hp : p.1 ≤ 5) (h6 : C.length < 6) (g i : Nat) (mi : Nat → Nat → Int32) (hg : T.length < i + g) (hi : i ≤ T.length) (h80 : ntk C ≤ i) (hr : rd 1 cap T mi mr) (hat : mi 82 2 = nI i) (hA : CA mi o (C ++ [(p, [])])) (hF : FF o mi0 mi) :
    am_T l (d + 3) M_R_readResult 0 [some (.ref 82), some (.ref o), some (.int (nI (fp p.1))), none, none, none, none] [] (hm mi ml mr) 0 0 (rrP ml mr cap T o mi0 C p (rScan T p.1 g i 0 0 false [])) := by
  have o64 := hFn.1
  refine am_iconst (v := nI 0) rfl (by decide) ?_
  refine am_istore_n rfl (Nat.le_of_ble_eq_true rfl) ?_
  show am_T _ _ _ _ [_, _, _, some _, _, _, _] _ _ _ _ _
  refine am_iconst (v := nI 0) rfl (by decide) ?_
  refine am_istore rfl (Nat.le_of_ble_eq_true rfl) ?_
  show am_T _ _ _ _ [_, _, _, _, some _, _, _] _ _ _ _ _
  refine am_aload_n rfl rfl ?_
  refine am_iconst (v := nI 0) rfl (by decide) ?_
  refine ho_putI rfl (by first | rfl | assumption) rfl rfl ?_
  refine am_iconst (v := nI 0) rfl (by decide) ?_
  refine am_istore rfl (Nat.le_of_ble_eq_true rfl) ?_
  show am_T _ _ _ _ [_, _, _, _, _, some _, _] _ _ _ _ _
  have hF1 := FF_at (o := o) (mi := mi) (x := nI 0) (j := 3) (Or.inr rfl) o64.2
  refine c_R_readResult_loop hFn mi0 C p hp h6 g 0 i 0 0 false [] _ hg hi (Nat.zero_le _) (Nat.zero_le _) (by decide) h80 ⟨hF1.rd o64.1 hr, ?_, by simp [up2], CA_at o64.2 hA, hF.tr hF1⟩
  rw [show up2 mi 82 3 (nI 0) 82 2 = mi 82 2 by unfold up2; rw [if_neg (by omega)]]
  exact hat
end R7
