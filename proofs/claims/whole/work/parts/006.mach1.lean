/-! the abstract machine: what its states are in the machine -/
def am_con (ty : FieldType) (B : Nat) (c : am_C) : (Nat → Int32) ⊕ (Nat → Int64) ⊕ (Nat → UInt32) ⊕ (Nat → UInt64) ⊕ (Nat → Option Nat) := match ty with
  | .long => .inr (.inl c.2.2.1)
  | .object _ => .inr (.inr (.inr (.inr (fun j => (c.2.2.2 j).map (fun k => B + k)))))
  | .array _ => .inr (.inr (.inr (.inr (fun j => (c.2.2.2 j).map (fun k => B + k)))))
  | _ => .inl c.2.1
def am_ce (dA : Nat → ClassId) (B : Nat) (c : am_C) : va_E := match c.1.1 with
  | true => .inl (dA c.1.2.1, c.1.2.2, am_con (am_at c.1.2.1) B c)
  | false => .inr (c.1.2.1, (List.range (am_n c.1.2.1)).map (fun j => am_v B (am_sv (am_ft c.1.2.1 j) c j)))
def am_W (D : va_G) (dA : Nat → ClassId) (B : Nat) (h : am_H) (H : Heap) : Prop := H.size = B + h.length ∧ ∀ (k : Nat) (c : am_C), h[k]? = some c → va_at D am_cl (B + k, am_ce dA B c) H
theorem am_W.set {D : va_G} {dA : Nat → ClassId} {B : Nat} {h : am_H} {H H1 : Heap} {a : Nat} {c : am_C} (hW : am_W D dA B h H) (hc : va_at D am_cl (B + a, am_ce dA B c) H1) (z : H1.size = H.size) (oq : ∀ q : Nat, q ≠ B + a → H1[q]? = H[q]?) : am_W D dA B (h.set a c) H1 := by
  refine ⟨by rw [z, hW.1, List.length_set], fun k c' hk => ?_⟩
  rw [List.getElem?_set] at hk
  by_cases e : a = k
  · subst e
    rw [if_pos rfl] at hk
    split at hk
    · cases hk
      exact hc
    · cases hk
  · rw [if_neg e] at hk
    exact (hW.2 k c' hk).kept (oq (B + k) (by omega))
theorem am_W.push {D : va_G} {dA : Nat → ClassId} {B : Nat} {h : am_H} {H H1 : Heap} {c : am_C} (hW : am_W D dA B h H) (hc : va_at D am_cl (B + h.length, am_ce dA B c) H1) (z : H1.size = H.size + 1) (oq : ∀ q : Nat, q < H.size → H1[q]? = H[q]?) : am_W D dA B (h ++ [c]) H1 := by
  refine ⟨by rw [z, hW.1, List.length_append]; simp; omega, fun k c' hk => ?_⟩
  by_cases e : k < h.length
  · rw [List.getElem?_append_left e] at hk
    exact (hW.2 k c' hk).kept (oq (B + k) (by rw [hW.1]; omega))
  · rw [List.getElem?_append_right (by omega)] at hk
    have hz : k - h.length < 1 := (List.getElem?_eq_some_iff.mp hk).1
    have hk2 : k = h.length := by omega
    subst hk2
    rw [Nat.sub_self] at hk
    cases hk
    exact hc
def am_ty (dA : Nat → ClassId) : List (ClassId × FieldType) := (List.range am_nat).map (fun t => (dA t, am_at t))
theorem am_ty_at {dA : Nat → ClassId} {t : Nat} (h : t < am_nat) : (am_ty dA)[t]? = some (dA t, am_at t) := by
  rw [am_ty, List.getElem?_map, List.getElem?_range h]
  rfl
def am_E (D : va_G) (dA : Nat → ClassId) (U : State) : Prop := va_K D am_cl (am_ty dA) U ∧ (∀ q ∈ am_nw, va_Nw (.methodLinkNest q.1 q.2.1 q.2.2 am_host) U) ∧ ∀ C ∈ am_ao, va_AO C U
theorem am_E.warm {D : va_G} {dA : Nat → ClassId} {s U : State} (hW : s.WarmedH U.vm) (h : am_E D dA s) : am_E D dA U :=
  ⟨va_K.moved hW.alike h.1, fun q hq => va_Nw.warmM hW (h.2.1 q hq), fun C hC => va_AO.moved hW.alike (h.2.2 C hC)⟩
theorem am_E.call {D : va_G} {dA : Nat → ClassId} {U : State} {g : JFrame} {mk : MethodId} {a : Array Value} (h : am_E D dA U) : am_E D dA (U.calling g mk a) :=
  ⟨va_K.moved (u := U) (U := U.calling g mk a) (Vm.Alike.refl U.vm) h.1, fun q hq => va_Nw.same rfl rfl (h.2.1 q hq), fun C hC => va_AO.moved (u := U) (U := U.calling g mk a) (Vm.Alike.refl U.vm) (h.2.2 C hC)⟩
def am_lv (B : Nat) (ls : List (Option Value)) : List (Nat × Value) := (List.range ls.length).filterMap (fun i => match ls[i]? with
  | some (some v) => some (i, am_v B v)
  | _ => none)
theorem am_lv_mem {B : Nat} {ls : List (Option Value)} {i : Nat} {v : Value} (h : ls[i]? = some (some v)) : (i, am_v B v) ∈ am_lv B ls := by
  refine List.mem_filterMap.mpr ⟨i, List.mem_range.mpr (List.getElem?_eq_some_iff.mp h).1, ?_⟩
  simp only [h]
theorem am_lv_of {B : Nat} {ls : List (Option Value)} {q : Nat × Value} (h : q ∈ am_lv B ls) : ∃ v, ls[q.1]? = some (some v) ∧ q.2 = am_v B v := by
  obtain ⟨i, -, hi⟩ := List.mem_filterMap.mp h
  split at hi
  · next v hv =>
    cases hi
    exact ⟨v, hv, rfl⟩
  · cases hi
def am_L (B n : Nat) (ls : List (Option Value)) (lc : Array Slot) : Prop := ls.length ≤ n ∧ lv_has lc n (am_lv B ls)
theorem am_kill_get {ls : List (Option Value)} {i j : Nat} {u : Value} (h : (am_kill ls i)[j]? = some (some u)) : ls[j]? = some (some u) ∧ ¬ (j + 1 = i ∧ u.category = 2) := by
  cases i with
  | zero => exact ⟨h, fun q => by omega⟩
  | succ k =>
    unfold am_kill at h
    simp only at h
    split at h
    · next hb =>
      rw [List.getElem?_set] at h
      by_cases e : k = j
      · rw [if_pos e] at h
        split at h <;> cases h
      · rw [if_neg e] at h
        exact ⟨h, fun q => by omega⟩
    · next hb =>
      refine ⟨h, fun q => ?_⟩
      have hjk : j = k := by omega
      subst hjk
      rw [h] at hb
      cases u <;> simp [am_big, Value.category] at hb q
theorem am_kill_len (ls : List (Option Value)) (i : Nat) : (am_kill ls i).length = ls.length := by
  cases i with
  | zero => rfl
  | succ k =>
    unfold am_kill
    simp only
    split
    · exact List.length_set
    · rfl
theorem am_L.set1 {B n i : Nat} {ls : List (Option Value)} {v : Value} {lc lc' : Array Slot} (h : am_L B n ls lc) (h' : lv_has lc' n ((i, am_v B v) :: (am_lv B ls).filter (fun q => !(q.1 == i) && !(q.1 + 1 == i && q.2.category == 2)))) : am_L B n (am_set1 ls i v) lc' := by
  refine ⟨by rw [am_set1, List.length_set, am_kill_len]; exact h.1, h'.1, h'.2.1, fun q hq => ?_⟩
  refine h'.2.2 q ?_
  obtain ⟨u, hu, e⟩ := am_lv_of hq
  rw [am_set1, List.getElem?_set] at hu
  by_cases hi : i = q.1
  · rw [if_pos hi] at hu
    split at hu
    · cases hu
      rw [show q = (i, am_v B v) from Prod.ext hi.symm e]
      exact List.mem_cons_self
    · cases hu
  · rw [if_neg hi] at hu
    obtain ⟨h1, h2⟩ := am_kill_get hu
    refine List.mem_cons_of_mem _ (List.mem_filter.mpr ⟨?_, ?_⟩)
    · rw [show q = (q.1, am_v B u) from Prod.ext rfl e]
      exact am_lv_mem h1
    · rw [e, am_v_cat]
      simp only [Bool.and_eq_true, Bool.not_eq_true', beq_eq_false_iff_ne, Bool.and_eq_false_iff, ne_eq]
      refine ⟨fun z => hi z.symm, ?_⟩
      by_cases g : q.1 + 1 = i
      · exact Or.inr (fun z => h2 ⟨g, z⟩)
      · exact Or.inl g
theorem am_L.set2 {B n i : Nat} {ls : List (Option Value)} {v : Value} {lc lc' : Array Slot} (h : am_L B n ls lc) (h' : lv_has lc' n ((i, am_v B v) :: (am_lv B ls).filter (fun q => !(q.1 == i) && (!(q.1 == i + 1) && !(q.1 + 1 == i && q.2.category == 2))))) : am_L B n (am_set2 ls i v) lc' := by
  refine ⟨by rw [am_set2, List.length_set, List.length_set, am_kill_len]; exact h.1, h'.1, h'.2.1, fun q hq => ?_⟩
  refine h'.2.2 q ?_
  obtain ⟨u, hu, e⟩ := am_lv_of hq
  rw [am_set2, List.getElem?_set] at hu
  by_cases hi : i = q.1
  · rw [if_pos hi] at hu
    split at hu
    · cases hu
      rw [show q = (i, am_v B v) from Prod.ext hi.symm e]
      exact List.mem_cons_self
    · cases hu
  · rw [if_neg hi, List.getElem?_set] at hu
    by_cases hi2 : i + 1 = q.1
    · rw [if_pos hi2] at hu
      split at hu <;> cases hu
    rw [if_neg hi2] at hu
    obtain ⟨h1, h2⟩ := am_kill_get hu
    refine List.mem_cons_of_mem _ (List.mem_filter.mpr ⟨?_, ?_⟩)
    · rw [show q = (q.1, am_v B u) from Prod.ext rfl e]
      exact am_lv_mem h1
    · rw [e, am_v_cat]
      simp only [Bool.and_eq_true, Bool.not_eq_true', beq_eq_false_iff_ne, Bool.and_eq_false_iff, ne_eq]
      refine ⟨fun z => hi z.symm, fun z => hi2 z.symm, ?_⟩
      by_cases g : q.1 + 1 = i
      · exact Or.inr (fun z => h2 ⟨g, z⟩)
      · exact Or.inl g
/-- less is known -/
theorem am_L.less {B n : Nat} {ls ls' : List (Option Value)} {lc : Array Slot} (h : am_L B n ls lc) (hn : ls'.length ≤ n) (hl : ∀ (i : Nat) (v : Value), ls'[i]? = some (some v) → ls[i]? = some (some v)) : am_L B n ls' lc := by
  refine ⟨hn, h.2.1, h.2.2.1, fun q hq => ?_⟩
  obtain ⟨u, hu, e⟩ := am_lv_of hq
  refine h.2.2.2 q ?_
  rw [show q = (q.1, am_v B u) from Prod.ext rfl e]
  exact am_lv_mem (hl _ _ hu)
theorem am_sl_get (B : Nat) : ∀ (args : List Value) (i : Nat) (v : Value), (am_sl args)[i]? = some (some v) → (lg_sl (args.map (am_v B)))[i]? = some (.val (am_v B v))
  | [], i, v, h => by simp [am_sl] at h
  | a :: as, i, v, h => by
    have e1 : am_sl (a :: as) = (if a.category = 2 then [some a, none] else [some a]) ++ am_sl as := rfl
    have e2 : lg_sl ((a :: as).map (am_v B)) = (if (am_v B a).category = 2 then [.val (am_v B a), .second] else [.val (am_v B a)]) ++ lg_sl (as.map (am_v B)) := rfl
    rw [e1] at h
    rw [e2, am_v_cat]
    by_cases hc : a.category = 2
    · rw [if_pos hc] at h
      rw [if_pos hc]
      match i with
      | 0 =>
        simp only [List.cons_append, List.getElem?_cons_zero, Option.some.injEq] at h
        subst h
        rfl
      | 1 =>
        simp at h
      | j + 2 =>
        exact am_sl_get B as j v h
    · rw [if_neg hc] at h
      rw [if_neg hc]
      match i with
      | 0 =>
        simp only [List.cons_append, List.getElem?_cons_zero, Option.some.injEq] at h
        subst h
        rfl
      | j + 1 =>
        exact am_sl_get B as j v h
theorem am_sl_len (B : Nat) : ∀ (args : List Value), (lg_sl (args.map (am_v B))).length = (am_sl args).length
  | [] => rfl
  | a :: as => by
    have e1 : am_sl (a :: as) = (if a.category = 2 then [some a, none] else [some a]) ++ am_sl as := rfl
    have e2 : lg_sl ((a :: as).map (am_v B)) = (if (am_v B a).category = 2 then [.val (am_v B a), .second] else [.val (am_v B a)]) ++ lg_sl (as.map (am_v B)) := rfl
    rw [e1, e2, am_v_cat, List.length_append, List.length_append, am_sl_len B as]
    by_cases hc : a.category = 2
    · rw [if_pos hc, if_pos hc]; rfl
    · rw [if_neg hc, if_neg hc]; rfl
theorem am_L.entry {B n : Nat} {args : List Value} (h : (am_sl args).length ≤ n) : am_L B n (am_entry n args) ((lg_sl (args.map (am_v B)) ++ List.replicate (n - (lg_sl (args.map (am_v B))).length) Slot.unset).toArray) := by
  have h0 := lv_entry (args.map (am_v B)) (n := n) (by rw [am_sl_len]; exact h)
  refine ⟨by rw [am_entry, List.length_append, List.length_replicate]; omega, h0.1, h0.2.1, fun q hq => ?_⟩
  obtain ⟨u, hu, e⟩ := am_lv_of hq
  rw [am_entry] at hu
  by_cases hl : q.1 < (am_sl args).length
  · rw [List.getElem?_append_left hl] at hu
    have h1 := am_sl_get B args _ _ hu
    rw [List.getElem?_toArray, List.getElem?_append_left (by rw [am_sl_len]; exact hl), h1, e]
  · rw [List.getElem?_append_right (by omega), List.getElem?_replicate] at hu
    split at hu <;> cases hu
/-! checks of the program's rows -/
def am_okF (o idx ci k pos : Nat) : Bool := decide (ci < am_ncl) && (decide (k < am_n ci) && (decide (k < 64) && decide (am_wat pos = some (6, o, idx, 64 * ci + k))))
def am_okP (o : Nat) (ini : Bool) (ci k : Nat) : Bool := !((am_F ci k).2.2.2) || (ini && decide (ci = o))
def am_okC (o idx ci pos : Nat) : Bool := decide (ci < am_ncl) && decide (am_wat pos = some (7, o, idx, ci))
def am_okL (o idx i pos : Nat) (x : Nat) : Bool := decide (i < am_nm) && (match x with
  | 0 => decide (am_wat pos = some (5, o, idx, i))
  | _ => decide (am_nwn[pos]? = some (o, idx, i)))
def am_okA (M : am_M) (pc : Nat) (I : Jvm.ClassFile.Instr) (a b x : Nat) : Bool := match I with
  | .goto off => decide ((pc : Int) + off = (a : Int))
  | .ifCond _ off => decide ((pc : Int) + off = (a : Int))
  | .if_icmp _ off => decide ((pc : Int) + off = (a : Int))
  | .getfield idx => am_okF M.1.1 idx a b x
  | .putfield idx => am_okF M.1.1 idx a b x && am_okP M.1.1 M.1.2.1 a b
  | .new idx => am_okC M.1.1 idx a b
  | .newarray t => decide (a < am_nat) && (decide (newarray.typeOf t = am_at a) && (decide (am_wat b = some (12, a, 0, 0)) && decide (am_at a ≠ .float ∧ am_at a ≠ .double)))
  | .anewarray idx => (decide (a = 4) && decide (am_wat b = some (7, M.1.1, idx, 1))) || (decide (a = 5) && decide (am_wat b = some (7, M.1.1, idx, 2)))
  | .ldc idx => decide (am_wat a = some (8, M.1.1, idx, b))
  | .ldc_w idx => decide (am_wat a = some (8, M.1.1, idx, b))
  | .ldc2_w idx => match x with
    | 0 => decide (am_wat a = some (9, M.1.1, idx, b))
    | _ => decide (am_wat a = some (19, M.1.1, idx, b))
  | .invokevirtual idx => am_okL M.1.1 idx a b x
  | .invokespecial idx => match x with
    | 9 => decide (am_wat b = some (13, M.1.1, idx, 0))
    | _ => am_okL M.1.1 idx a b x
  | .invokestatic idx => match x with
    | 6 => decide (am_wat b = some (23, M.1.1, idx, 0))
    | 7 => decide (am_wat b = some (20, M.1.1, idx, 0))
    | 8 => decide (am_wat b = some (14, M.1.1, idx, 0))
    | _ => am_okL M.1.1 idx a b x
  | _ => true
def am_len (I : Jvm.ClassFile.Instr) : Nat := match I with
  | .iconst _ => 1
  | .bipush _ => 2
  | .sipush _ => 3
  | .lconst _ => 1
  | .ldc _ => 2
  | .ldc2_w _ => 3
  | .ldc_w _ => 3
  | .iinc _ _ => 3
  | .goto _ => 3
  | .ifCond _ _ => 3
  | .if_icmp _ _ => 3
  | .getfield _ => 3
  | .putfield _ => 3
  | .new _ => 3
  | .newarray _ => 2
  | .anewarray _ => 3
  | .iload _ => 2
  | .istore _ => 2
  | .iload_n _ => 1
  | .istore_n _ => 1
  | .lload _ => 2
  | .lstore _ => 2
  | .lload_n _ => 1
  | .lstore_n _ => 1
  | .aload _ => 2
  | .astore _ => 2
  | .aload_n _ => 1
  | .astore_n _ => 1
  | .invokevirtual _ => 3
  | .invokespecial _ => 3
  | .invokestatic _ => 3
  | _ => 1
def am_okD (B : List (List Nat)) (pc : Nat) (I : Jvm.ClassFile.Instr) (n : Nat) : Bool := match am_by B pc with
  | some b0 => decide (am_dcd b0 ((am_by B (pc + 1)).getD 0) ((am_by B (pc + 2)).getD 0) = some (I, n)) && ((decide (n < 2) || (am_by B (pc + 1)).isSome) && (decide (n < 3) || (am_by B (pc + 2)).isSome))
  | none => false
theorem am_okD_s {code : ByteArray} {B : List (List Nat)} (hr : am_rows B = true) (hb : code.data.toList.map UInt8.toNat = B.flatten) {pc n : Nat} {I : Jvm.ClassFile.Instr} (h : am_okD B pc I n = true) : decode code pc = .ok (I, n) := by
  have hby : ∀ (p b : Nat), am_by B p = some b → am_b1 code p b := fun p b hp => am_b1_of (by rw [hb]; exact am_by_flat B p b hr hp)
  have hopt : ∀ (p : Nat), (am_by B p).isSome = true → am_b1 code p ((am_by B p).getD 0) := by
    intro p hp
    cases hq : am_by B p with
    | none => rw [hq] at hp; cases hp
    | some b => exact hby p b hq
  unfold am_okD at h
  split at h
  · next b0 h0 =>
    simp only [Bool.and_eq_true, decide_eq_true_eq, Bool.or_eq_true] at h
    refine am_dcd_ok h.1 (hby _ _ h0) (fun hn => hopt _ ?_) (fun hn => hopt _ ?_)
    · rcases h.2.1 with g | g
      · omega
      · exact g
    · rcases h.2.2 with g | g
      · omega
      · exact g
  · cases h
def am_okI (M : am_M) (pc : Nat) (q : am_I) : Bool := am_okD M.2.2.2.2.2 pc q.1 q.2.1 && (decide (q.2.1 = am_len q.1) && am_okA M pc q.1 q.2.2.1 q.2.2.2.1 q.2.2.2.2)
def am_okR (M : am_M) (r : Nat) (row : List (Option am_I)) : Bool := (List.range 16).all (fun j => match row[j]? with
  | some (some q) => am_okI M (16 * r + j) q
  | _ => true)
def am_ok (M : am_M) : Bool := am_rows M.2.2.2.2.2 && (decide (M.2.1.data.toList.map UInt8.toNat = M.2.2.2.2.2.flatten) && (List.range M.2.2.2.2.1.length).all (fun r => match M.2.2.2.2.1[r]? with
  | some row => am_okR M r row
  | none => true))
theorem am_ok_at {M : am_M} (h : am_ok M = true) {pc : Nat} {q : am_I} (hf : am_fetch M pc = some q) : am_okI M pc q = true := by
  simp only [am_ok, Bool.and_eq_true] at h
  replace h := h.2.2
  unfold am_fetch at hf
  split at hf
  · next r hr =>
    split at hf
    · next o ho =>
      subst hf
      have h1 := List.all_eq_true.mp h (pc / 16) (List.mem_range.mpr (List.getElem?_eq_some_iff.mp hr).1)
      rw [hr] at h1
      have h2 := List.all_eq_true.mp h1 (pc % 16) (List.mem_range.mpr (Nat.mod_lt _ (by decide)))
      rw [ho] at h2
      have e : 16 * (pc / 16) + pc % 16 = pc := Nat.div_add_mod pc 16
      simp only [e] at h2
      exact h2
    · cases hf
  · cases hf
theorem am_dec {M : am_M} (h : am_ok M = true) {pc : Nat} {I : Jvm.ClassFile.Instr} {n : Nat} {x : Nat × Nat × Nat} (hf : am_fetch M pc = some (I, n, x)) : decode M.2.1 pc = .ok (I, n) := by
  have h1 := am_ok_at h hf
  simp only [am_okI, Bool.and_eq_true] at h1
  simp only [am_ok, Bool.and_eq_true, decide_eq_true_eq] at h
  exact am_okD_s h.1 h.2.1 h1.1
theorem am_lenok {M : am_M} (h : am_ok M = true) {pc : Nat} {I : Jvm.ClassFile.Instr} {n : Nat} {x : Nat × Nat × Nat} (hf : am_fetch M pc = some (I, n, x)) : n = am_len I := by
  have h1 := am_ok_at h hf
  simp only [am_okI, Bool.and_eq_true, decide_eq_true_eq] at h1
  exact h1.2.1
theorem am_aux {M : am_M} (h : am_ok M = true) {pc : Nat} {I : Jvm.ClassFile.Instr} {n a b x : Nat} (hf : am_fetch M pc = some (I, n, a, b, x)) : am_okA M pc I a b x = true := by
  have h1 := am_ok_at h hf
  simp only [am_okI, Bool.and_eq_true, decide_eq_true_eq] at h1
  exact h1.2.2
/-- a method's own words: code, initialized, static or instance, selects; its number of arguments -/
def am_okm (i : Nat) : Bool :=
  decide (am_wat (am_p i).1 = some (0, i, 0, 0)) && (decide (am_wat (am_p i).2.1 = some (4, (am_m i).1.1, 0, 0)) && (decide ((am_m i).1.1 < 12) && (decide ((parseMethodDescriptor (am_m i).1.2.2.2).map (fun d => d.parameters.length) = some (am_na i)) && (decide ((am_m i).2.2.1 ≤ 45) &&
  (match (am_p i).2.2.2 with
  | 0 => decide (am_wat (am_p i).2.2.1 = some (2, i, 0, 0))
  | 1 => decide (am_wat (am_p i).2.2.1 = some (1, i, 0, 0)) && (am_m i).1.2.1
  | k + 2 => decide (am_wat (am_p i).2.2.1 = some (1, i, 0, 0)) && decide (am_wat k = some (3, i, 0, 0)))))))
theorem am_cn_plain : ∀ o, o < 12 → plainName (am_cn o) = true ∧ am_cn o ≠ "java/lang/invoke/MethodHandle" ∧ am_cn o ≠ "java/lang/invoke/VarHandle" := by decide +kernel
