/-! the machine: System.arraycopy between rows of characters -/
theorem am_mw3 : Cond.native arraycopyName ∈ am_ws ∧ Cond.static arraycopyName ∈ am_ws ∧ Cond.initialized "java/lang/System" ∈ am_ws := ⟨am_wat_mem (p := 657) (w := (17, 0, 0, 0)) (by decide +kernel), am_wat_mem (p := 656) (w := (18, 0, 0, 0)) (by decide +kernel), am_wat_mem (p := 112) (w := (4, 13, 0, 0)) (by decide +kernel)⟩
section S0
variable {l : Launch} {d : Nat} {M : am_M} {pc : Nat} {ls : List (Option Value)} {st : List Value} {h : am_H} {kc ks : Nat} {Q : Option Value → am_H → Prop}
theorem am_acopy {idx a b src dst n0 n1 sp dp n : Nat} {x y : am_C} (hf : am_fetch M pc = some (.invokestatic idx, 3, a, b, 8)) (hx : h[src]? = some x) (hy : h[dst]? = some y) (hxk : x.1 = (true, 2, n0)) (hyk : y.1 = (true, 2, n1)) (hn0 : n0 < 2 ^ 31) (hn1 : n1 < 2 ^ 31) (h4 : sp + n ≤ n0) (h5 : dp + n ≤ n1) (hfit : ∀ i, i < n → fits .char (.int (x.2.1 (sp + i))) = true) (hs : (st.map fun v => v.category).sum + (nativeFrameWords "java/lang/System" "arraycopy" 5 + 11) ≤ 64) (k : am_T l (d + 1) M (pc + 3) ls st (h.set dst (y.1, va_cpy x.2.1 y.2.1 sp dp n, y.2.2)) kc ks Q) : am_T l (d + 1) M pc ls (.int (nI n) :: .int (nI dp) :: .ref dst :: .int (nI sp) :: .ref src :: st) h kc ks Q := by
  intro p e R s m args below meth c D dA B H locs cells slots lc X
  have hoa := am_aux X.ok hf
  simp only [am_okA, decide_eq_true_eq] at hoa
  have hat0 := X.w.2 src x hx
  rw [am_ce_arr hxk, show am_at 2 = .char from rfl] at hat0
  have hat1 := X.w.2 dst y hy
  rw [am_ce_arr hyk, show am_at 2 = .char from rfl] at hat1
  have hc0 : H[B + src]? = some (vp_cell (dA 2) (n0, .inl x.2.1)) := hat0
  have hc1 : H[B + dst]? = some (vp_cell (dA 2) (n1, .inl y.2.1)) := hat1
  have hfr := X.fr
  have hlo := X.lo
  have ht : (am_ty dA)[2]? = some (dA 2, .char) := by rw [am_ty_at (by decide)]; rfl
  obtain ⟨-, k0, hk0, cm0, hkk0⟩ := (X.env.1.2 2 _ ht).1 n0 (fun j => .int (x.2.1 j))
  obtain ⟨-, k1, hk1, cm1, hkk1⟩ := (X.env.1.2 2 _ ht).1 n1 (fun j => .int (y.2.1 j))
  have c1 : (nI sp).toNatClampNeg = sp := nI_clamp (by omega)
  have c2 : (nI dp).toNatClampNeg = dp := nI_clamp (by omega)
  have c3 : (nI n).toNatClampNeg = n := nI_clamp (by omega)
  have t1 : (nI sp).toInt = (sp : Int) := nI_toInt (by omega)
  have t2 : (nI dp).toInt = (dp : Int) := nI_toInt (by omega)
  have t3 : (nI n).toInt = (n : Int) := nI_toInt (by omega)
  have nn : ∀ z : Int32, ∀ q : Nat, z.toInt = (q : Int) → ¬ z < 0 := by
    intro z q hz hlt
    have := Int32.lt_iff_toInt_lt.mp hlt
    rw [hz, Int32.toInt_zero] at this
    omega
  intro T hT XS
  obtain ⟨vm', X', step⟩ := XS.arraycopy X.exec X.own (X.word hoa) (X.hts _ am_mw3.1) (X.hts _ am_mw3.2.1) (X.hts _ am_mw3.2.2) (src := B + src) (dst := B + dst) (cs := vp_cell (dA 2) (n0, .inl x.2.1)) (cd := vp_cell (dA 2) (n1, .inl y.2.1)) (srcPos := nI sp) (destPos := nI dp) (n := nI n) (by rw [hT]; exact hc0) (by rw [hT]; exact hc1)
    (fun _ h => by cases h) (fun _ h => by cases h) (fun h => by cases h) (fun h => by cases h) hk0 hk1 hkk0 hkk1 (by simp) (nn _ _ t1) (nn _ _ t2) (nn _ _ t3)
    (by rw [t1, t3]; show ¬ _ > ((arrV (dA 2) n0 (fun j => .int (x.2.1 j))).slots.size : Int); rw [arrV_size]; omega)
    (by rw [t2, t3]; show ¬ _ > ((arrV (dA 2) n1 (fun j => .int (y.2.1 j))).slots.size : Int); rw [arrV_size]; omega)
    (fun vm₁ _ i hi => by
      rw [c3] at hi
      rw [c1]
      have e : (vp_cell (dA 2) (n0, .inl x.2.1)).slots.getD (sp + i) .null = .int (x.2.1 (sp + i)) := by
        show (arrV (dA 2) n0 (fun j => .int (x.2.1 j))).slots.getD _ _ = _
        rw [Array.getD_eq_getD_getElem?, arrV_read _ _ (by omega)]
        rfl
      refine ⟨?_, ?_⟩
      · rw [e]
        exact hfit i hi
      · rw [e]
        exact trivial)
    (g := F0 m pc lc ((.int (nI n) :: .int (nI dp) :: .ref dst :: .int (nI sp) :: .ref src :: st).map (am_v B))) rfl (by show lc.size = _; rw [X.lsz, X.maxl]) (rest := st.map (am_v B)) rfl (X.bytes ▸ X.dec hf) (by omega) (by show 2 * 0 + _ + _ ≤ _; rw [am_v_sum]; omega)
  have e1 : copied (vp_cell (dA 2) (n0, .inl x.2.1)) (vp_cell (dA 2) (n1, .inl y.2.1)) (nI sp) (nI dp) (nI n) = vp_cell (dA 2) (n1, .inl (va_cpy x.2.1 y.2.1 sp dp n)) := by
    have := va_copied (fun z => .int z) (dA 2) (dA 2) (n0 := n0) (n1 := n1) (sp := sp) (dp := dp) (n := n) x.2.1 y.2.1 h4
    unfold copied
    rw [c1, c2, c3]
    exact this
  rw [e1] at X' step
  have hl : B + dst < H.size := (Array.getElem?_eq_some_iff.mp hc1).1
  have hheap : ((T.setVm vm').setCell (B + dst) (vp_cell (dA 2) (n1, .inl (va_cpy x.2.1 y.2.1 sp dp n)))).heap = H.setIfInBounds (B + dst) (vp_cell (dA 2) (n1, .inl (va_cpy x.2.1 y.2.1 sp dp n))) := by rw [← hT]; rfl
  have oq : ∀ q : Nat, q ≠ B + dst → (H.setIfInBounds (B + dst) (vp_cell (dA 2) (n1, .inl (va_cpy x.2.1 y.2.1 sp dp n))))[q]? = H[q]? := fun q hq => by simp [Array.getElem?_setIfInBounds, Ne.symm hq]
  obtain ⟨t, a1, b1⟩ := k p e R s m args below meth c D dA B _ _ cells slots lc (X.toH (X.w.set (c := (y.1, va_cpy x.2.1 y.2.1 sp dp n, y.2.2)) (by
      rw [am_ce_arr (x := (y.1, va_cpy x.2.1 y.2.1 sp dp n, y.2.2)) (t := 2) (n := n1) hyk, show am_at 2 = .char from rfl]
      show (H.setIfInBounds (B + dst) _)[B + dst]? = some (vp_cell _ _)
      simp [Array.getElem?_setIfInBounds, hl]
      rfl) (by simp) oq) (fun q hq => oq q (by omega)) (fun q hq => by
      rcases List.mem_append.mp hq with h | h
      · exact X.hloc q h
      · obtain ⟨z, -, hz⟩ := List.mem_map.mp h
        rw [← hz]
        exact Nat.le_add_right _ _)) _ hheap X'
  exact ⟨t, step t a1, b1⟩
end S0
section S0b
variable {l : Launch} {d : Nat} {M : am_M} {pc : Nat} {ls : List (Option Value)} {st : List Value} {Q : Option Value → am_H → Prop} {mi : Nat → Nat → Int32} {ml : Nat → Nat → Int64} {mr : Nat → Nat → Option Nat}
theorem ho_acopy {idx a b src dst n0 n1 sp dp n : Nat} (hf : am_fetch M pc = some (.invokestatic idx, 3, a, b, 8)) (ha : hs_kind src = (true, 2, n0)) (hb : hs_kind dst = (true, 2, n1)) (h4 : sp + n ≤ n0) (h5 : dp + n ≤ n1) (hfit : ∀ i, i < n → fits .char (.int (mi src (sp + i))) = true) (hs : (st.map fun v => v.category).sum + (nativeFrameWords "java/lang/System" "arraycopy" 5 + 11) ≤ 64) (k : am_T l (d + 1) M (pc + 3) ls st (hm (cpN mi dst dp src sp n) ml mr) 0 0 Q) : am_T l (d + 1) M pc ls (.int (nI n) :: .int (nI dp) :: .ref dst :: .int (nI sp) :: .ref src :: st) (hm mi ml mr) 0 0 Q := by
  have s0 := hs_small ha
  have s1 := hs_small hb
  refine am_acopy hf (hm_at (hs_lt2 ha (by decide))) (hm_at (hs_lt2 hb (by decide))) ha hb (by omega) (by omega) h4 h5 hfit hs ?_
  rw [hm_set (mi' := cpN mi dst dp src sp n) (ml' := ml) (mr' := mr) _ (by
    show (hs_kind dst, va_cpy (mi src) (mi dst) sp dp n, ml dst, mr dst) = (hs_kind dst, cpN mi dst dp src sp n dst, ml dst, mr dst)
    congr 2
    funext i
    unfold va_cpy cpN
    by_cases q : dp ≤ i ∧ i < dp + n
    · rw [if_pos q, if_pos ⟨rfl, q⟩]
    · rw [if_neg q, if_neg (fun z => q z.2)]) (fun k hk => cpN_off mi hk) (fun _ _ => rfl) (fun _ _ => rfl)]
  exact k
end S0b
