/-! the class: firstWrong -/
def FWr (Bd : Nat → Nat → Prop) (k C found : Nat) : Prop := found ≤ C ∧ (∀ i j, i < k → Bd i j → found ≤ j) ∧ (found < C → ∃ i, i < k ∧ Bd i found)
theorem FWr_uniq {Bd Bd' : Nat → Nat → Prop} {k k' C a b : Nat} (h : FWr Bd k C a) (h' : FWr Bd' k' C b) (e1 : ∀ i j, i < k → Bd i j → ∃ i', i' < k' ∧ Bd' i' j) (e2 : ∀ i j, i < k' → Bd' i j → ∃ i', i' < k ∧ Bd i' j) : a = b := by
  obtain ⟨a1, a2, a3⟩ := h
  obtain ⟨b1, b2, b3⟩ := h'
  rcases Nat.lt_trichotomy a b with g | g | g
  · obtain ⟨i, i1, i2⟩ := a3 (by omega)
    obtain ⟨i', i3, i4⟩ := e1 i a i1 i2
    have := b2 i' a i3 i4
    omega
  · exact g
  · obtain ⟨i, i1, i2⟩ := b3 (by omega)
    obtain ⟨i', i3, i4⟩ := e2 i b i1 i2
    have := a2 i' b i3 i4
    omega
theorem FWr_skip {Bd : Nat → Nat → Prop} {k C a : Nat} (h : FWr Bd k C a) (hn : ∀ j, Bd k j → a ≤ j) : FWr Bd (k + 1) C a := by
  obtain ⟨a1, a2, a3⟩ := h
  refine ⟨a1, fun i j hi hb => ?_, fun g => ?_⟩
  · by_cases e : i = k
    · subst e
      exact hn j hb
    · exact a2 i j (by omega) hb
  · obtain ⟨i, i1, i2⟩ := a3 g
    exact ⟨i, by omega, i2⟩
theorem FWr_take {Bd : Nat → Nat → Prop} {k C a j0 : Nat} (h : FWr Bd k C a) (hj : j0 < a) (hb : Bd k j0) (hu : ∀ j, Bd k j → j = j0) : FWr Bd (k + 1) C j0 := by
  obtain ⟨a1, a2, a3⟩ := h
  refine ⟨by omega, fun i j hi hb2 => ?_, fun _ => ⟨k, by omega, hb⟩⟩
  by_cases e : i = k
  · subst e
    rw [hu j hb2]
    exact Nat.le_refl _
  · have := a2 i j (by omega) hb2
    omega
/-- a clause is wrong for a way -/
def Wrg (S : Rs) (F : Nat → Fn) (φ : Nat) (X Y : Bool × Int64) (j : Nat) : Prop := bcl S F X.2 Y.2 (clA (F φ).2.2 j).2 = true ∨ Ms S F (F φ).2.1 (clA (F φ).2.2 j).2 X Y
def BdX (S : Rs) (F : Nat → Fn) (φ cnt : Nat) (km : Nat → Int64) (i j : Nat) : Prop := wX S (F φ) cnt km i = some (some j) ∧ Wrg S F φ (kdX km (cC cnt i)) (kdX km (cW cnt i)) j
theorem bcl_call {S : Rs} {F : Nat → Fn} {x y : Int64} {K : List Nat} (h : bcl S F x y K = false) : ∀ k ∈ K, 256 ≤ k → (F ((k - 256) / 2)).2.2.length ≠ 0 := by
  intro k hk h256 e
  unfold bcl at h
  rw [List.any_eq_false] at h
  refine h k hk ?_
  unfold bad1
  rw [decide_eq_true h256, decide_eq_true e]
  rfl
section V5
variable {l : Launch} {d : Nat} {mr : Nat → Nat → Option Nat} {S : Rs} {ip : Nat → Nat} {n cnt L : Nat} {v : Nat → Nat} {F : Nat → Fn} {oF : Nat → Nat}
theorem c_C_firstWrong (hR : SR mr) (hS : okS S) (hoF : ∀ n, n < 4 → oF n ∈ fOb) (hrF : ∀ n, n < 3 → mr 45 n = some (oF n)) (mi0 : Nat → Nat → Int32) (ml0 : Nat → Nat → Int64) (hK0 : KF S ip n cnt L v mi0 ml0) (hZ0 : Z100 mi0) (hFA0 : ∀ φ, φ < 3 → mi0 (oF φ) 0 = bI (decide ((F φ).2.2.length ≠ 0)) ∧ ((F φ).2.2.length ≠ 0 → FA mi0 (oF φ) (F φ))) (hF : ∀ φ, ((F φ).2.2 = [] ∨ okF (F φ)) ∧ ntk (F φ).2.2 ≤ 80) (φ : Nat) (hφ : φ < 3) (hz : (F φ).2.2.length ≠ 0) :
    am_T l (d + 4) M_C_firstWrong 0 [some (.ref 106), some (.ref (oF φ)), none, none, none] [] (hm mi0 ml0 mr) 0 0 (fun r h' => ∃ fd mi' ml', r = some (.int (nI (if fd < (F φ).2.2.length then fd + 1 else 0))) ∧ h' = hm mi' ml' mr ∧ Fch mi0 mi' ∧ Z100 mi' ∧ Fml ml0 ml' ∧ FWr (BdX S F φ cnt (ml0 94)) (1 + cnt + 4 * cnt * cnt) (F φ).2.2.length fd) := by
  have hokF : ∀ φ, (F φ).2.2.length ≠ 0 → okF (F φ) := fun φ hq => (hF φ).1.resolve_left (fun q => hq (by rw [q]; rfl))
  have hokf := hokF φ hz
  have h6 := hokf.2.2.2.2
  have hFn := isFn_of hR (hoF φ (by omega))
  have hob := fOb_r (hoF φ (by omega))
  have hkF := hFn.2.1
  have h1 := hK0.2.1.1.1.1
  have h40 := hK0.2.1.1.1.2
  have hs := sq_le h40
  have hM5 : 1 + cnt + 4 * cnt * cnt ≤ 10000 := by
    rw [Nat.mul_assoc]
    omega
  have loop : ∀ (x k fd : Nat) (mi : Nat → Nat → Int32) (ml : Nat → Nat → Int64), k + x = 1 + cnt + 4 * cnt * cnt → Fch mi0 mi → Z100 mi → Fml ml0 ml → SeenI S F φ cnt (ml0 94) (ml 108) fd → FWr (BdX S F φ cnt (ml0 94)) k (F φ).2.2.length fd → am_T l (d + 4) M_C_firstWrong 29 [some (.ref 106), some (.ref (oF φ)), some (.int (nI fd)), some (.int (nI k)), none] [] (hm mi ml mr) 0 0 (fun r h' => ∃ fd mi' ml', r = some (.int (nI (if fd < (F φ).2.2.length then fd + 1 else 0))) ∧ h' = hm mi' ml' mr ∧ Fch mi0 mi' ∧ Z100 mi' ∧ Fml ml0 ml' ∧ FWr (BdX S F φ cnt (ml0 94)) (1 + cnt + 4 * cnt * cnt) (F φ).2.2.length fd) := by
    intro x
    induction x with
    | zero =>
      intro k fd mi ml hx hFc hZ hml hSn hW
      have hK := hK0.fr hFc hml
      have hA : FA mi (oF φ) (F φ) := FA_to ((hFA0 φ hφ).2 hz) (fun a _ _ => hFc a (by omega) (by omega))
      have hk : k = 1 + cnt + 4 * cnt * cnt := hx
      rw [hk] at hW
      have hfd := hW.1
      refine am_iload_n rfl rfl ?_
      refine am_aload_n rfl rfl ?_
      refine ho_cv0 rfl (by first | rfl | assumption) rfl (Nat.le_of_ble_eq_true rfl) (Nat.le_of_ble_eq_true rfl) (c_C_countCuts hR hK.2.1.2.1.1) ?_
      rintro y h' ⟨rfl, rfl⟩
      refine ho_icmp_ge rfl (by omega) (by omega) (fun _ => ?_) (fun g => absurd (by omega) g)
      refine am_iload_n rfl rfl ?_
      refine am_aload_n rfl rfl ?_
      refine ho_getI rfl (by first | rfl | assumption) rfl ?_
      rw [hA.2.2.1]
      refine ho_icmp_ge rfl (by omega) (by omega) (fun g => ?_) (fun g => ?_)
      · refine am_iconst (v := nI 0) rfl (by decide) ?_
        exact am_ireturn rfl rfl ⟨fd, mi, ml, by rw [if_neg (by omega)], rfl, hFc, hZ, hml, hW⟩
      · refine am_iload_n rfl rfl ?_
        refine am_iconst (v := nI 1) rfl (by decide) ?_
        first | refine ho_addn rfl ?_ | refine am_iadd rfl ?_
        refine am_goto rfl ?_
        exact am_ireturn rfl rfl ⟨fd, mi, ml, by rw [if_pos (by omega)], rfl, hFc, hZ, hml, hW⟩
    | succ x ih =>
      intro k fd mi ml hx hFc hZ hml hSn hW
      have hK := hK0.fr hFc hml
      have hfd := hW.1
      obtain ⟨ci1, ci2, ci3, ci4⟩ := c_in h1 (show k < 1 + cnt + 4 * cnt * cnt by omega)
      have h94 : ml 94 = ml0 94 := hml 94 (by decide) (by decide)
      refine am_iload_n rfl rfl ?_
      refine am_aload_n rfl rfl ?_
      refine ho_cv0 rfl (by first | rfl | assumption) rfl (Nat.le_of_ble_eq_true rfl) (Nat.le_of_ble_eq_true rfl) (c_C_countCuts hR hK.2.1.2.1.1) ?_
      rintro y h' ⟨rfl, rfl⟩
      refine ho_icmp_ge rfl (by omega) (by omega) (fun g => absurd g (by omega)) (fun _ => ?_)
      refine am_aload_n rfl rfl ?_
      refine am_iload_n rfl rfl ?_
      refine ho_cv1 rfl (by first | rfl | assumption) rfl (Nat.le_of_ble_eq_true rfl) (Nat.le_of_ble_eq_true rfl) (c_C_goTo hR hK.2.1.2.1.1 h1 h40 k (by omega)) ?_
      rintro y h' ⟨rfl, mi1, rfl, hF1, hT⟩
      have hFc1 : Fch mi0 mi1 := hFc.tr hF1.d
      have hK1 := hK0.fr hFc1 hml
      have hZ1 : Z100 mi1 := fun i hi => by rw [hF1 100 (by decide)]; exact hZ i hi
      have hFA1 : ∀ φ, φ < 3 → mi1 (oF φ) 0 = bI (decide ((F φ).2.2.length ≠ 0)) ∧ ((F φ).2.2.length ≠ 0 → FA mi1 (oF φ) (F φ)) := fun ψ hψ => by
        have := fOb_r (hoF ψ (by omega))
        exact ⟨by rw [hFc1 _ (by omega) (by omega)]; exact (hFA0 ψ hψ).1, fun q => FA_to ((hFA0 ψ hψ).2 q) (fun a _ _ => hFc1 a (by omega) (by omega))⟩
      have hA1 := (hFA1 φ hφ).2 hz
      have next : ∀ (fd' : Nat) (mi' : Nat → Nat → Int32) (ml' : Nat → Nat → Int64), Fch mi0 mi' → Z100 mi' → Fml ml0 ml' → SeenI S F φ cnt (ml0 94) (ml' 108) fd' → FWr (BdX S F φ cnt (ml0 94)) (k + 1) (F φ).2.2.length fd' → am_T l (d + 4) M_C_firstWrong 99 [some (.ref 106), some (.ref (oF φ)), some (.int (nI fd')), some (.int (nI k)), none] [] (hm mi' ml' mr) 0 0 (fun r h' => ∃ fd mi' ml', r = some (.int (nI (if fd < (F φ).2.2.length then fd + 1 else 0))) ∧ h' = hm mi' ml' mr ∧ Fch mi0 mi' ∧ Z100 mi' ∧ Fml ml0 ml' ∧ FWr (BdX S F φ cnt (ml0 94)) (1 + cnt + 4 * cnt * cnt) (F φ).2.2.length fd) := by
        intro fd' mi' ml' b1 b2 b3 b4 b5
        refine am_iinc rfl rfl (nI_inc1 _) ?_
        show am_T _ _ _ _ [_, _, _, some _, _] _ _ _ _ _
        refine am_goto rfl ?_
        exact ih (k + 1) fd' mi' ml' (by omega) b1 b2 b3 b4 b5
      have s62 : ∀ q : Option Nat, (∀ j, wX S (F φ) cnt (ml0 94) k = some (some j) ↔ q = some j) → am_T l (d + 4) M_C_firstWrong 62 [some (.ref 106), some (.ref (oF φ)), some (.int (nI fd)), some (.int (nI k)), none] [.int (noI q)] (hm mi1 ml mr) 0 0 (fun r h' => ∃ fd mi' ml', r = some (.int (nI (if fd < (F φ).2.2.length then fd + 1 else 0))) ∧ h' = hm mi' ml' mr ∧ Fch mi0 mi' ∧ Z100 mi' ∧ Fml ml0 ml' ∧ FWr (BdX S F φ cnt (ml0 94)) (1 + cnt + 4 * cnt * cnt) (F φ).2.2.length fd) := by
        intro q hq
        cases q with
        | none =>
          show am_T l (d + 4) M_C_firstWrong 62 _ [.int (-1)] _ _ _ _
          refine am_istore rfl (Nat.le_of_ble_eq_true rfl) ?_
          show am_T _ _ _ _ [_, _, _, _, some _] _ _ _ _ _
          refine am_iload rfl rfl ?_
          refine am_iconst (v := -1) rfl (by decide) ?_
          refine am_icmp_eq rfl (fun _ => ?_) (fun g => absurd rfl g)
          refine am_drops [4] ?_
          exact next fd mi1 ml hFc1 hZ1 hml hSn (FWr_skip hW (fun j hb => by cases (hq j).mp hb.1))
        | some j0 =>
          have hwx := (hq j0).mpr rfl
          have hj0 := wch_lt hwx
          have hu : ∀ j, BdX S F φ cnt (ml0 94) k j → j = j0 := fun j hb => (Option.some.inj ((hq j).mp hb.1)).symm
          have hokc := clA_ok hokf hj0
          obtain ⟨hP, hle⟩ := FA_clp hA1 hj0
          have h80 := (hF φ).2
          show am_T l (d + 4) M_C_firstWrong 62 _ [.int (nI j0)] _ _ _ _
          refine am_istore rfl (Nat.le_of_ble_eq_true rfl) ?_
          show am_T _ _ _ _ [_, _, _, _, some _] _ _ _ _ _
          refine am_iload rfl rfl ?_
          refine am_iconst (v := -1) rfl (by decide) ?_
          refine am_icmp_eq rfl (fun g => absurd g (nI_nm1 (by omega))) (fun _ => ?_)
          refine am_iload rfl rfl ?_
          refine am_iload_n rfl rfl ?_
          refine ho_icmp_ge rfl (by omega) (by omega) (fun g => ?_) (fun g => ?_)
          · refine am_drops [4] ?_
            exact next fd mi1 ml hFc1 hZ1 hml hSn (FWr_skip hW (fun j hb => by rw [hu j hb]; exact g))
          have hlt : j0 < fd := by omega
          have take : ∀ (mi' : Nat → Nat → Int32) (ml' : Nat → Nat → Int64), Fch mi0 mi' → Z100 mi' → Fml ml0 ml' → SeenI S F φ cnt (ml0 94) (ml' 108) j0 → Wrg S F φ (kdX (ml0 94) (cC cnt k)) (kdX (ml0 94) (cW cnt k)) j0 → am_T l (d + 4) M_C_firstWrong 96 [some (.ref 106), some (.ref (oF φ)), some (.int (nI fd)), some (.int (nI k)), some (.int (nI j0))] [] (hm mi' ml' mr) 0 0 (fun r h' => ∃ fd mi' ml', r = some (.int (nI (if fd < (F φ).2.2.length then fd + 1 else 0))) ∧ h' = hm mi' ml' mr ∧ Fch mi0 mi' ∧ Z100 mi' ∧ Fml ml0 ml' ∧ FWr (BdX S F φ cnt (ml0 94)) (1 + cnt + 4 * cnt * cnt) (F φ).2.2.length fd) := by
            intro mi' ml' b1 b2 b3 b4 b5
            refine am_iload rfl rfl ?_
            refine am_istore_n rfl (Nat.le_of_ble_eq_true rfl) ?_
            show am_T _ _ _ _ [_, _, some _, _, _] _ _ _ _ _
            refine am_drops [4] ?_
            exact next j0 mi' ml' b1 b2 b3 b4 (FWr_take hW hlt ⟨hwx, b5⟩ hu)
          refine am_aload_n rfl rfl ?_
          refine am_aload_n rfl rfl ?_
          refine am_iload rfl rfl ?_
          refine ho_cv2 rfl (by first | rfl | assumption) rfl (Nat.le_of_ble_eq_true rfl) (Nat.le_of_ble_eq_true rfl) (c_C_hasWrongCall hR hoF hrF hK1 hFA1 hokF _ _ _ hT ci2 ci3 φ hφ j0 (by omega) _ _ hP (by omega) _ hokc.2.2.2.1) ?_
          rintro y h' ⟨rfl, rfl⟩
          rw [h94]
          cases hbc : bcl S F (ml0 94 (cC cnt k)) (ml0 94 (cW cnt k)) (clA (F φ).2.2 j0).2 with
          | true =>
            refine am_if_ne rfl (fun _ => ?_) (fun g => by cases g)
            refine take mi1 ml hFc1 hZ1 hml (fun j r t a1 a2 a3 a4 => ?_) (Or.inl hbc)
            obtain ⟨c', w', d1, d2, d3, d4, d5⟩ := hSn j r t a1 a2 a3 a4
            exact ⟨c', w', d1, d2, d3, d4, fun q => by have := d5 q; omega⟩
          | false =>
            refine am_if_ne rfl (fun g => absurd rfl g) (fun _ => ?_)
            refine am_aload_n rfl rfl ?_
            refine am_aload_n rfl rfl ?_
            refine am_iload rfl rfl ?_
            refine ho_cv2 rfl (by first | rfl | assumption) rfl (Nat.le_of_ble_eq_true rfl) (Nat.le_of_ble_eq_true rfl) (c_C_mayMissOutput hR hS hoF hrF mi1 ml hK1 hZ1 (fun ψ hψ => (hFA1 ψ hψ).2) hokF _ _ _ hT ci2 ci3 φ hφ h80 j0 hj0 (bcl_call hbc) fd hlt (by rw [h94]; exact hSn)) ?_
            rintro y h' ⟨b, mi2, ml2, rfl, rfl, g1, g2, g3, g4, g5⟩
            rw [h94] at g4 g5
            have hFc2 : Fch mi0 mi2 := hFc1.tr (fun a _ h => g1 a h)
            have hml2 := hml.tr g3
            cases b with
            | true =>
              refine am_if_eq rfl (fun g => by cases g) (fun _ => ?_)
              exact take mi2 ml2 hFc2 g2 hml2 g5 (Or.inr (g4.mp rfl))
            | false =>
              refine am_if_eq rfl (fun _ => ?_) (fun g => absurd rfl g)
              refine am_drops [4] ?_
              refine next fd mi2 ml2 hFc2 g2 hml2 g5 (FWr_skip hW (fun j hb => ?_))
              have e := hu j hb
              subst e
              rcases hb.2 with q | q
              · rw [show bcl S F (kdX (ml0 94) (cC cnt k)).2 (kdX (ml0 94) (cW cnt k)).2 (clA (F φ).2.2 j).2 = false from hbc] at q
                cases q
              · cases g4.mpr q
      refine am_aload_n rfl rfl ?_
      refine am_aload_n rfl rfl ?_
      refine ho_getI rfl (by first | rfl | assumption) rfl ?_
      rw [hA1.1]
      refine ho_cv1 rfl (by first | rfl | assumption) rfl (Nat.le_of_ble_eq_true rfl) (Nat.le_of_ble_eq_true rfl) (c_C_isCutOf hR hS hK1 _ _ _ ci1 ci2 ci3 hT (F φ).1 hokf.1) ?_
      rintro y h' ⟨rfl, rfl⟩
      rw [h94]
      refine am_if_eq rfl (fun q => ?_) (fun q => ?_)
      · refine am_iconst (v := -1) rfl (by decide) ?_
        refine s62 none (fun j => ?_)
        unfold wX wch
        rw [(bI_eq _).mp q]
        simp
      have hin := (bI_ne _).mp q
      refine am_aload_n rfl rfl ?_
      refine am_aload_n rfl rfl ?_
      refine ho_cv1 rfl (by first | rfl | assumption) rfl (Nat.le_of_ble_eq_true rfl) (Nat.le_of_ble_eq_true rfl) (c_C_chosenBy hR hS hK1 _ _ _ ci1 ci2 ci3 hT hFn (F φ).2.2 hA1.2.2 hokf.2.2.1 hokf.2.2.2.2) ?_
      rintro y h' ⟨rfl, rfl⟩
      rw [h94]
      refine am_goto rfl ?_
      refine s62 _ (fun j => ?_)
      unfold wX wch
      rw [hin, if_pos rfl]
      simp
  have zero : ∀ (x i : Nat) (ml : Nat → Nat → Int64), i + x = 240 → Fml ml0 ml → (∀ y, y < i → ml 108 y = 0) → am_T l (d + 4) M_C_firstWrong 2 [some (.ref 106), some (.ref (oF φ)), some (.int (nI i)), none, none] [] (hm mi0 ml mr) 0 0 (fun r h' => ∃ fd mi' ml', r = some (.int (nI (if fd < (F φ).2.2.length then fd + 1 else 0))) ∧ h' = hm mi' ml' mr ∧ Fch mi0 mi' ∧ Z100 mi' ∧ Fml ml0 ml' ∧ FWr (BdX S F φ cnt (ml0 94)) (1 + cnt + 4 * cnt * cnt) (F φ).2.2.length fd) := by
    intro x
    induction x with
    | zero =>
      intro i ml hx hml h0
      refine am_iload_n rfl rfl ?_
      refine am_sipush (v := nI 240) rfl (by decide) ?_
      refine ho_icmp_ge rfl (by omega) (by omega) (fun _ => ?_) (fun g => absurd (by omega) g)
      refine am_aload_n rfl rfl ?_
      refine ho_getI rfl (by first | rfl | assumption) rfl ?_
      rw [((hFA0 φ hφ).2 hz).2.2.1]
      refine am_istore_n rfl (Nat.le_of_ble_eq_true rfl) ?_
      show am_T _ _ _ _ [_, _, some _, _, _] _ _ _ _ _
      refine am_iconst (v := nI 0) rfl (by decide) ?_
      refine am_istore_n rfl (Nat.le_of_ble_eq_true rfl) ?_
      show am_T _ _ _ _ [_, _, _, some _, _] _ _ _ _ _
      refine loop (1 + cnt + 4 * cnt * cnt) 0 (F φ).2.2.length mi0 ml (Nat.zero_add _) Fch.rf hZ0 hml (fun j r t a1 a2 a3 a4 => ?_) ⟨Nat.le_refl _, fun i j hi => absurd hi (Nat.not_lt_zero _), fun g => absurd g (Nat.lt_irrefl _)⟩
      rw [h0 _ (by omega), tb_0] at a4
      cases a4
    | succ x ih =>
      intro i ml hx hml h0
      refine am_iload_n rfl rfl ?_
      refine am_sipush (v := nI 240) rfl (by decide) ?_
      refine ho_icmp_ge rfl (by omega) (by omega) (fun g => absurd g (by omega)) (fun _ => ?_)
      refine am_aload_n rfl rfl ?_
      refine ho_getR rfl (by first | rfl | assumption) rfl (by first | assumption | exact hR _ _ _ rfl) ?_
      refine am_iload_n rfl rfl ?_
      refine am_lconst (v := 0) rfl (by decide) ?_
      refine ho_lastore rfl rfl (by omega) ?_
      refine am_iinc rfl rfl (nI_inc1 _) ?_
      show am_T _ _ _ _ [_, _, some _, _, _] _ _ _ _ _
      refine am_goto rfl ?_
      refine ih (i + 1) _ (by omega) (fun a h1 h2 => by rw [up2_off _ _ _ h2]; exact hml a h1 h2) (fun y hy => ?_)
      unfold up2
      by_cases e : y = i
      · rw [if_pos ⟨rfl, e⟩]
      · rw [if_neg (fun q => e q.2)]
        exact h0 y (by omega)
  refine am_iconst (v := nI 0) rfl (by decide) ?_
  refine am_istore_n rfl (Nat.le_of_ble_eq_true rfl) ?_
  show am_T _ _ _ _ [_, _, some _, _, _] _ _ _ _ _
  exact zero 240 0 ml0 rfl Fml.rf (fun y hy => absurd hy (Nat.not_lt_zero _))
end V5
