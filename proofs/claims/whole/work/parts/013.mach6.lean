theorem am_step_sound {l : Launch} {d : Nat} {M : am_M} {pc : Nat} {ls : List (Option Value)} {st : List Value} {h : am_H} {kc ks : Nat} {Q : Option Value → am_H → Prop} {pc' kc1 ks1 : Nat} {ls' : List (Option Value)} {st' : List Value} {h' : am_H} (hok : am_ok M = true) (e : am_step M pc ls st h = some (pc', ls', st', h', kc1, ks1)) (k : am_T l d M pc' ls' st' h' kc ks Q) : am_T l d M pc ls st h (kc + kc1) (ks + ks1) Q := by
  cases hf : am_fetch M pc with
  | none =>
    unfold am_step at e
    rw [hf] at e
    cases e
  | some q =>
    obtain ⟨I, n, a, b, w⟩ := q
    have hn := am_lenok hok hf
    subst hn
    cases I with
    | iadd  => exact am_s_iadd hf e k
    | isub  => exact am_s_isub hf e k
    | imul  => exact am_s_imul hf e k
    | iand  => exact am_s_iand hf e k
    | ior  => exact am_s_ior hf e k
    | ixor  => exact am_s_ixor hf e k
    | ladd  => exact am_s_ladd hf e k
    | lsub  => exact am_s_lsub hf e k
    | lmul  => exact am_s_lmul hf e k
    | land  => exact am_s_land hf e k
    | lor  => exact am_s_lor hf e k
    | lxor  => exact am_s_lxor hf e k
    | ishl  => exact am_s_ishl hf e k
    | ishr  => exact am_s_ishr hf e k
    | iushr  => exact am_s_iushr hf e k
    | lshl  => exact am_s_lshl hf e k
    | lshr  => exact am_s_lshr hf e k
    | lushr  => exact am_s_lushr hf e k
    | ineg  => exact am_s_ineg hf e k
    | lneg  => exact am_s_lneg hf e k
    | idiv  => exact am_s_idiv hf e k
    | irem  => exact am_s_irem hf e k
    | i2l  => exact am_s_i2l hf e k
    | l2i  => exact am_s_l2i hf e k
    | i2c  => exact am_s_i2c hf e k
    | lcmp  => exact am_s_lcmp hf e k
    | iconst _ => exact am_s_iconst_n hf e k
    | bipush _ => exact am_s_bipush_n hf e k
    | sipush _ => exact am_s_sipush_n hf e k
    | lconst _ => exact am_s_lconst_n hf e k
    | ldc _ => exact am_s_ldc hf e k
    | ldc_w _ => exact am_s_ldc_w hf e k
    | ldc2_w _ => exact am_s_ldc2_w hf e k
    | dup  => exact am_s_dup hf e k
    | pop  => exact am_s_pop hf e k
    | iload _ => exact am_s_iload_i hf e k
    | iload_n _ => exact am_s_iload_n_i hf e k
    | istore _ => exact am_s_istore_i hf e k
    | istore_n _ => exact am_s_istore_n_i hf e k
    | lload _ => exact am_s_lload_i hf e k
    | lload_n _ => exact am_s_lload_n_i hf e k
    | lstore _ => exact am_s_lstore_i hf e k
    | lstore_n _ => exact am_s_lstore_n_i hf e k
    | aload _ => exact am_s_aload_i hf e k
    | aload_n _ => exact am_s_aload_n_i hf e k
    | astore _ => exact am_s_astore_i hf e k
    | astore_n _ => exact am_s_astore_n_i hf e k
    | iinc _ _ => exact am_s_iinc_i_n hf e k
    | goto _ => exact am_s_goto hf e k
    | getfield _ => exact am_s_getfield hf e k
    | putfield _ => exact am_s_putfield hf e k
    | iaload  => exact am_s_iaload hf e k
    | caload  => exact am_s_caload hf e k
    | baload  => exact am_s_baload hf e k
    | laload  => exact am_s_laload hf e k
    | iastore  => exact am_s_iastore hf e k
    | castore  => exact am_s_castore hf e k
    | bastore  => exact am_s_bastore hf e k
    | lastore  => exact am_s_lastore hf e k
    | new _ => exact am_s_new hf e k
    | newarray _ => exact am_s_newarray hf e k
    | anewarray _ => exact am_s_anewarray hf e k
    | aastore  => exact am_s_aastore hf e k
    | aaload  => exact am_s_aaload hf e k
    | ifCond cnd _ => cases cnd with
      | eq => exact am_s_if_ond_eq hf e k
      | ne => exact am_s_if_ond_ne hf e k
      | lt => exact am_s_if_ond_lt hf e k
      | ge => exact am_s_if_ond_ge hf e k
      | gt => exact am_s_if_ond_gt hf e k
      | le => exact am_s_if_ond_le hf e k
    | if_icmp cnd _ => cases cnd with
      | eq => exact am_s_if_icmp_eq hf e k
      | ne => exact am_s_if_icmp_ne hf e k
      | lt => exact am_s_if_icmp_lt hf e k
      | ge => exact am_s_if_icmp_ge hf e k
      | gt => exact am_s_if_icmp_gt hf e k
      | le => exact am_s_if_icmp_le hf e k
    | _ =>
      unfold am_step at e
      rw [hf] at e
      cases e

abbrev am_R : Type := Option Value × am_H × Nat × Nat
def am_more (o : Option am_R) (k1 k2 : Nat) : Option am_R := match o with
  | some (r, h, kc, ks) => some (r, h, kc + k1, ks + k2)
  | none => none
theorem am_more_s {o : Option am_R} {k1 k2 kc ks : Nat} {r : Option Value} {h : am_H} (e : am_more o k1 k2 = some (r, h, kc, ks)) : ∃ c1 c2, o = some (r, h, c1, c2) ∧ kc = c1 + k1 ∧ ks = c2 + k2 := by
  unfold am_more at e
  split at e
  · cases e
    exact ⟨_, _, rfl, rfl, rfl⟩
  · cases e
/-- a run; calls are runs -/
def am_exec : Nat → Nat → am_M → Nat → List (Option Value) → List Value → am_H → Option am_R
  | 0, _, _, _, _, _, _ => none
  | f + 1, d, M, pc, ls, st, h => match am_fetch M pc with
    | none => none
    | some (I, _, i, _, x) => match I with
      | .return_ => if M.2.2.2.1 = none ∧ st = [] then some (none, h, 0, 0) else none
      | .ireturn => match st with
        | [.int v] => match M.2.2.2.1 with
          | some .int => some (some (.int v), h, 0, 0)
          | some .boolean => if v = 0 ∨ v = 1 then some (some (.int v), h, 0, 0) else none
          | _ => none
        | _ => none
      | .lreturn => match st with
        | [.long v] => match M.2.2.2.1 with
          | some .long => some (some (.long v), h, 0, 0)
          | _ => none
        | _ => none
      | .invokespecial _ => match d with
        | 0 => none
        | d1 + 1 => match x with
          | 9 => match st with
            | .ref _ :: r => if (r.map fun v => v.category).sum + 12 ≤ 64 then am_exec f (d1 + 1) M (pc + 3) ls r h else none
            | _ => none
          | x1 => match st.drop (am_na i) with
            | .ref o :: r => if (x1 ≤ 1 ∧ (am_p i).2.2.2 = 1 ∧ (am_m i).2.2.2.1 = none) ∧ (am_na i ≤ st.length ∧ (am_sl (.ref o :: (st.take (am_na i)).reverse)).length ≤ (am_m i).2.2.1) ∧ (r.map fun v => v.category).sum ≤ 8 then
                match am_exec f d1 (am_m i) 0 (am_entry (am_m i).2.2.1 (.ref o :: (st.take (am_na i)).reverse)) [] h with
                | some (rv, h1, c1, c2) => am_more (am_exec f (d1 + 1) M (pc + 3) ls (rv.toList ++ r) h1) c1 c2
                | none => none
              else none
            | _ => none
      | .invokevirtual _ => match d with
        | 0 => none
        | d1 + 1 => match x with
          | 0 => match st.drop (am_na i) with
            | .ref o :: r => match h[o]? with
              | some y => if (2 ≤ (am_p i).2.2.2 ∧ y.1.1 = false ∧ y.1.2.1 = (am_m i).1.1 ∧ (am_m i).1.1 < am_ncl) ∧ (am_na i ≤ st.length ∧ (am_sl (.ref o :: (st.take (am_na i)).reverse)).length ≤ (am_m i).2.2.1) ∧ (r.map fun v => v.category).sum ≤ 8 then
                    match am_exec f d1 (am_m i) 0 (am_entry (am_m i).2.2.1 (.ref o :: (st.take (am_na i)).reverse)) [] h with
                    | some (rv, h1, c1, c2) => am_more (am_exec f (d1 + 1) M (pc + 3) ls (rv.toList ++ r) h1) c1 c2
                    | none => none
                  else none
              | none => none
            | _ => none
          | _ => none
      | .invokestatic _ => match d with
        | 0 => none
        | d1 + 1 => if (x ≤ 1 ∧ (am_p i).2.2.2 = 0) ∧ (am_na i ≤ st.length ∧ (am_sl (st.take (am_na i)).reverse).length ≤ (am_m i).2.2.1) ∧ ((st.drop (am_na i)).map fun v => v.category).sum ≤ 8 then
            match am_exec f d1 (am_m i) 0 (am_entry (am_m i).2.2.1 (st.take (am_na i)).reverse) [] h with
            | some (rv, h1, c1, c2) => am_more (am_exec f (d1 + 1) M (pc + 3) ls (rv.toList ++ st.drop (am_na i)) h1) c1 c2
            | none => none
          else none
      | _ => match am_step M pc ls st h with
        | some (pc', ls', st', h', c1, c2) => am_more (am_exec f d M pc' ls' st' h') c1 c2
        | none => none
theorem am_split {st : List Value} {n : Nat} {r : List Value} (h : st.drop n = r) : ((st.take n).reverse).reverse ++ r = st := by
  rw [List.reverse_reverse, ← h, List.take_append_drop]
theorem am_tlen {st : List Value} {n : Nat} (h : n ≤ st.length) : ((st.take n).reverse).length = n := by
  rw [List.length_reverse, List.length_take]
  omega
theorem am_exec_sound {l : Launch} : ∀ (f d : Nat) (M : am_M) (pc : Nat) (ls : List (Option Value)) (st : List Value) (h : am_H) (r : Option Value) (h' : am_H) (kc ks : Nat), am_ok M = true → am_exec f d M pc ls st h = some (r, h', kc, ks) → am_T l d M pc ls st h kc ks (fun r2 h2 => r2 = r ∧ h2 = h')
  | 0, _, _, _, _, _, _, _, _, _, _, _, e => by cases e
  | f + 1, d, M, pc, ls, st, h, r, h', kc, ks, hok, e => by
    have stepc : ∀ {e1 : Option am_R}, e1 = (match am_step M pc ls st h with
        | some (pc', ls', st', h', c1, c2) => am_more (am_exec f d M pc' ls' st' h') c1 c2
        | none => none) → e1 = some (r, h', kc, ks) → am_T l d M pc ls st h kc ks (fun r2 h2 => r2 = r ∧ h2 = h') := by
      intro e1 q1 q2
      rw [q1] at q2
      split at q2
      · next pc' ls' st' h1 c1 c2 hs =>
        obtain ⟨k1, k2, g1, rfl, rfl⟩ := am_more_s q2
        exact am_step_sound hok hs (am_exec_sound f d M pc' ls' st' h1 r h' k1 k2 hok g1)
      · cases q2
    cases hf : am_fetch M pc with
    | none =>
      unfold am_exec at e
      rw [hf] at e
      cases e
    | some q =>
      obtain ⟨I, n, i, b, x⟩ := q
      have hn := am_lenok hok hf
      subst hn
      unfold am_exec at e
      rw [hf] at e
      cases I with
      | return_ =>
        simp only at e
        split at e
        · next hc =>
          cases e
          obtain ⟨h1, rfl⟩ := hc
          exact am_return hf h1 ⟨rfl, rfl⟩
        · cases e
      | ireturn =>
        simp only at e
        split at e
        · next v =>
          split at e
          · next hr =>
            cases e
            exact am_ireturn hf hr ⟨rfl, rfl⟩
          · next hr =>
            split at e
            · next hv =>
              cases e
              exact am_zreturn hf hr hv ⟨rfl, rfl⟩
            · cases e
          · cases e
        · cases e
      | lreturn =>
        simp only at e
        split at e
        · next v =>
          split at e
          · next hr =>
            cases e
            exact am_lreturn hf hr ⟨rfl, rfl⟩
          · cases e
        · cases e
      | invokespecial idx =>
        simp only at e
        split at e
        · cases e
        · next d1 =>
          split at e
          · split at e
            · next o r1 =>
              split at e
              · next hc => exact am_objinit hf hc (am_exec_sound f (d1 + 1) M _ _ _ _ _ _ _ _ hok e)
              · cases e
            · cases e
          · split at e
            · next o r1 hd =>
              split at e
              · next hc =>
                split at e
                · next rv h1 c1 c2 hx =>
                  obtain ⟨k1, k2, g1, rfl, rfl⟩ := am_more_s e
                  have hx1 : x = 0 ∨ x = 1 := by omega
                  rw [← am_split hd]
                  rcases hx1 with rfl | rfl
                  · have hi : i < am_nm := by
                      have := am_aux hok hf
                      simp only [am_okA, am_okL, Bool.and_eq_true, decide_eq_true_eq] at this
                      exact this.1
                    exact am_calli hf hc.1.2.1 hc.1.2.2 (am_tlen hc.2.1.1) hc.2.1.2 hc.2.2 (am_exec_sound f d1 (am_m i) _ _ _ _ _ _ _ _ (am_all i hi).2 hx) (fun r2 h2 hq => by
                      obtain ⟨rfl, rfl⟩ := hq
                      exact am_exec_sound f (d1 + 1) M _ _ _ _ _ _ _ _ hok g1)
                  · have hi : i < am_nm := by
                      have := am_aux hok hf
                      simp only [am_okA, am_okL, Bool.and_eq_true, decide_eq_true_eq] at this
                      exact this.1
                    exact am_callin hf hc.1.2.1 hc.1.2.2 (am_tlen hc.2.1.1) hc.2.1.2 hc.2.2 (am_exec_sound f d1 (am_m i) _ _ _ _ _ _ _ _ (am_all i hi).2 hx) (fun r2 h2 hq => by
                      obtain ⟨rfl, rfl⟩ := hq
                      exact am_exec_sound f (d1 + 1) M _ _ _ _ _ _ _ _ hok g1)
                · cases e
              · cases e
            · cases e
      | invokevirtual idx =>
        simp only at e
        split at e
        · cases e
        · next d1 =>
          split at e
          · split at e
            · next o r1 hd =>
              split at e
              · next y hy =>
                split at e
                · next hc =>
                  split at e
                  · next rv h1 c1 c2 hx =>
                    obtain ⟨k1, k2, g1, rfl, rfl⟩ := am_more_s e
                    have hi : i < am_nm := by
                      have := am_aux hok hf
                      simp only [am_okA, am_okL, Bool.and_eq_true, decide_eq_true_eq] at this
                      exact this.1
                    rw [← am_split hd]
                    exact am_callv (kk := (am_p i).2.2.2 - 2) (n := y.1.2.2) (ci := (am_m i).1.1) (b := 0) hf (by omega) hy (Prod.ext hc.1.2.1 (Prod.ext hc.1.2.2.1 rfl)) (am_cl_in hc.1.2.2.2) rfl (am_tlen hc.2.1.1) hc.2.1.2 hc.2.2 (am_exec_sound f d1 (am_m i) _ _ _ _ _ _ _ _ (am_all i hi).2 hx) (fun r2 h2 hq => by
                      obtain ⟨rfl, rfl⟩ := hq
                      exact am_exec_sound f (d1 + 1) M _ _ _ _ _ _ _ _ hok g1)
                  · cases e
                · cases e
              · cases e
            · cases e
          · cases e
      | invokestatic idx =>
        simp only at e
        split at e
        · cases e
        · next d1 =>
          split at e
          · next hc =>
            split at e
            · next rv h1 c1 c2 hx =>
              obtain ⟨k1, k2, g1, rfl, rfl⟩ := am_more_s e
              have hx1 : x = 0 ∨ x = 1 := by omega
              rcases hx1 with rfl | rfl
              · have hi : i < am_nm := by
                  have := am_aux hok hf
                  simp only [am_okA, am_okL, Bool.and_eq_true, decide_eq_true_eq] at this
                  exact this.1
                rw [← am_split (st := st) (n := am_na i) rfl]
                exact am_calls hf hc.1.2 (am_tlen hc.2.1.1) hc.2.1.2 hc.2.2 (am_exec_sound f d1 (am_m i) _ _ _ _ _ _ _ _ (am_all i hi).2 hx) (fun r2 h2 hq => by
                  obtain ⟨rfl, rfl⟩ := hq
                  exact am_exec_sound f (d1 + 1) M _ _ _ _ _ _ _ _ hok g1)
              · have hi : i < am_nm := by
                  have := am_aux hok hf
                  simp only [am_okA, am_okL, Bool.and_eq_true, decide_eq_true_eq] at this
                  exact this.1
                rw [← am_split (st := st) (n := am_na i) rfl]
                exact am_calln hf hc.1.2 (am_tlen hc.2.1.1) hc.2.1.2 hc.2.2 (am_exec_sound f d1 (am_m i) _ _ _ _ _ _ _ _ (am_all i hi).2 hx) (fun r2 h2 hq => by
                  obtain ⟨rfl, rfl⟩ := hq
                  exact am_exec_sound f (d1 + 1) M _ _ _ _ _ _ _ _ hok g1)
            · cases e
          · cases e
      | _ => exact stepc rfl e

