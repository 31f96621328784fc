/-! the abstract machine as a function -/
theorem am_nneg {i : Int32} (h : 0 ≤ i.toInt) : ¬ i < 0 := fun q => by
  have := Int32.lt_iff_toInt_lt.mp q
  simp at this
  omega
theorem am_small {i : Int32} (h : 0 ≤ i.toInt ∧ i.toInt < 100000) : i.toNatClampNeg ≤ 60000000 := by
  show i.toInt.toNat ≤ 60000000
  omega
def am_p1 {α : Type} (st : List Value) (f : Int32 → List Value → Option α) : Option α := match st with
  | .int x :: r => f x r
  | _ => none
def am_p2 {α : Type} (st : List Value) (f : Int32 → Int32 → List Value → Option α) : Option α := match st with
  | .int y :: .int x :: r => f x y r
  | _ => none
def am_q1 {α : Type} (st : List Value) (f : Int64 → List Value → Option α) : Option α := match st with
  | .long x :: r => f x r
  | _ => none
def am_q2 {α : Type} (st : List Value) (f : Int64 → Int64 → List Value → Option α) : Option α := match st with
  | .long y :: .long x :: r => f x y r
  | _ => none
def am_q3 {α : Type} (st : List Value) (f : Int64 → Int32 → List Value → Option α) : Option α := match st with
  | .int y :: .long x :: r => f x y r
  | _ => none
def am_r1 {α : Type} (st : List Value) (f : Nat → List Value → Option α) : Option α := match st with
  | .ref x :: r => f x r
  | _ => none
def am_v1 {α : Type} (st : List Value) (f : Value → List Value → Option α) : Option α := match st with
  | v :: r => f v r
  | _ => none
theorem am_p1_s {α : Type} {st : List Value} {f : Int32 → List Value → Option α} {y : α} (h : am_p1 st f = some y) : ∃ x r, st = .int x :: r ∧ f x r = some y := by
  unfold am_p1 at h
  split at h
  · exact ⟨_, _, rfl, h⟩
  · cases h
theorem am_p2_s {α : Type} {st : List Value} {f : Int32 → Int32 → List Value → Option α} {y : α} (h : am_p2 st f = some y) : ∃ x u r, st = .int u :: .int x :: r ∧ f x u r = some y := by
  unfold am_p2 at h
  split at h
  · exact ⟨_, _, _, rfl, h⟩
  · cases h
theorem am_q1_s {α : Type} {st : List Value} {f : Int64 → List Value → Option α} {y : α} (h : am_q1 st f = some y) : ∃ x r, st = .long x :: r ∧ f x r = some y := by
  unfold am_q1 at h
  split at h
  · exact ⟨_, _, rfl, h⟩
  · cases h
theorem am_q2_s {α : Type} {st : List Value} {f : Int64 → Int64 → List Value → Option α} {y : α} (h : am_q2 st f = some y) : ∃ x u r, st = .long u :: .long x :: r ∧ f x u r = some y := by
  unfold am_q2 at h
  split at h
  · exact ⟨_, _, _, rfl, h⟩
  · cases h
theorem am_q3_s {α : Type} {st : List Value} {f : Int64 → Int32 → List Value → Option α} {y : α} (h : am_q3 st f = some y) : ∃ x u r, st = .int u :: .long x :: r ∧ f x u r = some y := by
  unfold am_q3 at h
  split at h
  · exact ⟨_, _, _, rfl, h⟩
  · cases h
theorem am_r1_s {α : Type} {st : List Value} {f : Nat → List Value → Option α} {y : α} (h : am_r1 st f = some y) : ∃ x r, st = .ref x :: r ∧ f x r = some y := by
  unfold am_r1 at h
  split at h
  · exact ⟨_, _, rfl, h⟩
  · cases h
theorem am_v1_s {α : Type} {st : List Value} {f : Value → List Value → Option α} {y : α} (h : am_v1 st f = some y) : ∃ x r, st = x :: r ∧ f x r = some y := by
  unfold am_v1 at h
  split at h
  · exact ⟨_, _, rfl, h⟩
  · cases h
abbrev am_S : Type := Nat × List (Option Value) × List Value × am_H × Nat × Nat
/-- a cell of the heap, of a kind -/
def am_obj (h : am_H) (a ci : Nat) (f : am_C → Option am_S) : Option am_S := match h[a]? with
  | some x => if x.1.1 = false ∧ x.1.2.1 = ci then f x else none
  | none => none
theorem am_obj_s {h : am_H} {a ci : Nat} {f : am_C → Option am_S} {y : am_S} (e : am_obj h a ci f = some y) : ∃ x n, h[a]? = some x ∧ x.1 = (false, ci, n) ∧ f x = some y := by
  unfold am_obj at e
  split at e
  · next x hx =>
    split at e
    · next hc => exact ⟨x, x.1.2.2, hx, Prod.ext hc.1 (Prod.ext hc.2 rfl), e⟩
    · cases e
  · cases e
def am_arr (h : am_H) (a : Nat) (ty : FieldType) (i : Int32) (f : am_C → Option am_S) : Option am_S := match h[a]? with
  | some x => if (x.1.1 = true ∧ x.1.2.1 < am_nat ∧ am_at x.1.2.1 = ty) ∧ (0 ≤ i.toInt ∧ i.toInt < x.1.2.2) then f x else none
  | none => none
theorem am_arr_s {h : am_H} {a : Nat} {ty : FieldType} {i : Int32} {f : am_C → Option am_S} {y : am_S} (e : am_arr h a ty i f = some y) : ∃ x t n, h[a]? = some x ∧ x.1 = (true, t, n) ∧ (t < am_nat ∧ am_at t = ty) ∧ vp_in i n ∧ f x = some y := by
  unfold am_arr at e
  split at e
  · next x hx =>
    split at e
    · next hc => exact ⟨x, x.1.2.1, x.1.2.2, hx, Prod.ext hc.1.1 rfl, hc.1.2, vp_in_iff.mpr hc.2, e⟩
    · cases e
  · cases e
/-- one step, but for calls and returns; the last two: cells and slots that are made -/
def am_step (M : am_M) (pc : Nat) (ls : List (Option Value)) (st : List Value) (h : am_H) : Option am_S := match am_fetch M pc with
  | none => none
  | some (I, _, a, b, sg) => match I with
    | .iadd => am_p2 st fun x y r => some (pc + 1, ls, .int (x + y) :: r, h, 0, 0)
    | .isub => am_p2 st fun x y r => some (pc + 1, ls, .int (x - y) :: r, h, 0, 0)
    | .imul => am_p2 st fun x y r => some (pc + 1, ls, .int (x * y) :: r, h, 0, 0)
    | .iand => am_p2 st fun x y r => some (pc + 1, ls, .int (x &&& y) :: r, h, 0, 0)
    | .ior => am_p2 st fun x y r => some (pc + 1, ls, .int (x ||| y) :: r, h, 0, 0)
    | .ixor => am_p2 st fun x y r => some (pc + 1, ls, .int (x ^^^ y) :: r, h, 0, 0)
    | .ladd => am_q2 st fun x y r => some (pc + 1, ls, .long (x + y) :: r, h, 0, 0)
    | .lsub => am_q2 st fun x y r => some (pc + 1, ls, .long (x - y) :: r, h, 0, 0)
    | .lmul => am_q2 st fun x y r => some (pc + 1, ls, .long (x * y) :: r, h, 0, 0)
    | .land => am_q2 st fun x y r => some (pc + 1, ls, .long (x &&& y) :: r, h, 0, 0)
    | .lor => am_q2 st fun x y r => some (pc + 1, ls, .long (x ||| y) :: r, h, 0, 0)
    | .lxor => am_q2 st fun x y r => some (pc + 1, ls, .long (x ^^^ y) :: r, h, 0, 0)
    | .ishl => am_p2 st fun x y r => some (pc + 1, ls, .int (x <<< (y &&& 31)) :: r, h, 0, 0)
    | .ishr => am_p2 st fun x y r => some (pc + 1, ls, .int (x >>> (y &&& 31)) :: r, h, 0, 0)
    | .iushr => am_p2 st fun x y r => some (pc + 1, ls, .int (x.toUInt32 >>> (y.toUInt32 &&& Int32.toUInt32 31)).toInt32 :: r, h, 0, 0)
    | .lshl => am_q3 st fun x y r => some (pc + 1, ls, .long (x <<< (y.toInt64 &&& 63)) :: r, h, 0, 0)
    | .lshr => am_q3 st fun x y r => some (pc + 1, ls, .long (x >>> (y.toInt64 &&& 63)) :: r, h, 0, 0)
    | .lushr => am_q3 st fun x y r => some (pc + 1, ls, .long (x.toUInt64 >>> (y.toInt64.toUInt64 &&& Int64.toUInt64 63)).toInt64 :: r, h, 0, 0)
    | .ineg => am_p1 st fun x r => some (pc + 1, ls, .int (-x) :: r, h, 0, 0)
    | .lneg => am_q1 st fun x r => some (pc + 1, ls, .long (-x) :: r, h, 0, 0)
    | .idiv => am_p2 st fun x y r => if y = 0 then none else some (pc + 1, ls, .int (x / y) :: r, h, 0, 0)
    | .irem => am_p2 st fun x y r => if y = 0 then none else some (pc + 1, ls, .int (x - x / y * y) :: r, h, 0, 0)
    | .i2l => am_p1 st fun x r => some (pc + 1, ls, .long x.toInt64 :: r, h, 0, 0)
    | .l2i => am_q1 st fun x r => some (pc + 1, ls, .int x.toInt32 :: r, h, 0, 0)
    | .i2c => am_p1 st fun x r => some (pc + 1, ls, .int (x.toUInt32 % 65536).toInt32 :: r, h, 0, 0)
    | .lcmp => am_q2 st fun x y r => some (pc + 1, ls, .int (lg_cmp x y) :: r, h, 0, 0)
    | .iconst n => some (pc + 1, ls, .int (Int32.ofInt n) :: st, h, 0, 0)
    | .bipush n => some (pc + 2, ls, .int (Int8.ofInt n).toInt32 :: st, h, 0, 0)
    | .sipush n => some (pc + 3, ls, .int (Int16.ofInt n).toInt32 :: st, h, 0, 0)
    | .lconst n => some (pc + 1, ls, .long (Int64.ofNat (n : Nat)) :: st, h, 0, 0)
    | .ldc _ => some (pc + 2, ls, .int (Int32.ofNat b) :: st, h, 0, 0)
    | .ldc_w _ => some (pc + 3, ls, .int (Int32.ofNat b) :: st, h, 0, 0)
    | .ldc2_w _ => match sg with
      | 0 => some (pc + 3, ls, .long (Int64.ofNat b) :: st, h, 0, 0)
      | 1 => some (pc + 3, ls, .long (-(Int64.ofNat b)) :: st, h, 0, 0)
      | _ => none
    | .dup => am_v1 st fun x r => if x.category = 1 then some (pc + 1, ls, x :: x :: r, h, 0, 0) else none
    | .pop => am_v1 st fun x r => if x.category = 1 then some (pc + 1, ls, r, h, 0, 0) else none
    | .iload i => match ls[i]? with
      | some (some (.int x)) => some (pc + 2, ls, .int x :: st, h, 0, 0)
      | _ => none
    | .iload_n i => match ls[(i : Nat)]? with
      | some (some (.int x)) => some (pc + 1, ls, .int x :: st, h, 0, 0)
      | _ => none
    | .istore i => am_p1 st fun x r => if i < ls.length then some (pc + 2, am_set1 ls i (.int x), r, h, 0, 0) else none
    | .istore_n i => am_p1 st fun x r => if (i : Nat) < ls.length then some (pc + 1, am_set1 ls i (.int x), r, h, 0, 0) else none
    | .lload i => match ls[i]? with
      | some (some (.long x)) => some (pc + 2, ls, .long x :: st, h, 0, 0)
      | _ => none
    | .lload_n i => match ls[(i : Nat)]? with
      | some (some (.long x)) => some (pc + 1, ls, .long x :: st, h, 0, 0)
      | _ => none
    | .lstore i => am_q1 st fun x r => if i + 1 < ls.length then some (pc + 2, am_set2 ls i (.long x), r, h, 0, 0) else none
    | .lstore_n i => am_q1 st fun x r => if (i : Nat) + 1 < ls.length then some (pc + 1, am_set2 ls i (.long x), r, h, 0, 0) else none
    | .aload i => match ls[i]? with
      | some (some (.ref x)) => some (pc + 2, ls, .ref x :: st, h, 0, 0)
      | _ => none
    | .aload_n i => match ls[(i : Nat)]? with
      | some (some (.ref x)) => some (pc + 1, ls, .ref x :: st, h, 0, 0)
      | _ => none
    | .astore i => am_r1 st fun x r => if i < ls.length then some (pc + 2, am_set1 ls i (.ref x), r, h, 0, 0) else none
    | .astore_n i => am_r1 st fun x r => if (i : Nat) < ls.length then some (pc + 1, am_set1 ls i (.ref x), r, h, 0, 0) else none
    | .iinc i n => match ls[i]? with
      | some (some (.int x)) => some (pc + 3, am_set1 ls i (.int (x + Int32.ofInt n)), st, h, 0, 0)
      | _ => none
    | .goto _ => some (a, ls, st, h, 0, 0)
    | .ifCond .eq _ => am_p1 st fun x r => if x = 0 then some (a, ls, r, h, 0, 0) else some (pc + 3, ls, r, h, 0, 0)
    | .if_icmp .eq _ => am_p2 st fun x y r => if x = y then some (a, ls, r, h, 0, 0) else some (pc + 3, ls, r, h, 0, 0)
    | .ifCond .ne _ => am_p1 st fun x r => if x = 0 then some (pc + 3, ls, r, h, 0, 0) else some (a, ls, r, h, 0, 0)
    | .if_icmp .ne _ => am_p2 st fun x y r => if x = y then some (pc + 3, ls, r, h, 0, 0) else some (a, ls, r, h, 0, 0)
    | .ifCond .lt _ => am_p1 st fun x r => if x < 0 then some (a, ls, r, h, 0, 0) else some (pc + 3, ls, r, h, 0, 0)
    | .if_icmp .lt _ => am_p2 st fun x y r => if x < y then some (a, ls, r, h, 0, 0) else some (pc + 3, ls, r, h, 0, 0)
    | .ifCond .ge _ => am_p1 st fun x r => if 0 ≤ x then some (a, ls, r, h, 0, 0) else some (pc + 3, ls, r, h, 0, 0)
    | .if_icmp .ge _ => am_p2 st fun x y r => if y ≤ x then some (a, ls, r, h, 0, 0) else some (pc + 3, ls, r, h, 0, 0)
    | .ifCond .gt _ => am_p1 st fun x r => if 0 < x then some (a, ls, r, h, 0, 0) else some (pc + 3, ls, r, h, 0, 0)
    | .if_icmp .gt _ => am_p2 st fun x y r => if y < x then some (a, ls, r, h, 0, 0) else some (pc + 3, ls, r, h, 0, 0)
    | .ifCond .le _ => am_p1 st fun x r => if x ≤ 0 then some (a, ls, r, h, 0, 0) else some (pc + 3, ls, r, h, 0, 0)
    | .if_icmp .le _ => am_p2 st fun x y r => if x ≤ y then some (a, ls, r, h, 0, 0) else some (pc + 3, ls, r, h, 0, 0)
    | .getfield _ => am_r1 st fun o r => am_obj h o a fun x => some (pc + 3, ls, am_sv (am_ft a b) x b :: r, h, 0, 0)
    | .putfield _ => am_v1 st fun v r1 => am_r1 r1 fun o r => am_obj h o a fun x => if am_fit (am_ft a b) v = true then some (pc + 3, ls, r, h.set o (am_wr (am_ft a b) x b v), 0, 0) else none
    | .iaload => am_p1 st fun i r1 => am_r1 r1 fun o r => am_arr h o .int i fun x => some (pc + 1, ls, .int (x.2.1 i.toNatClampNeg) :: r, h, 0, 0)
    | .caload => am_p1 st fun i r1 => am_r1 r1 fun o r => am_arr h o .char i fun x => some (pc + 1, ls, .int (x.2.1 i.toNatClampNeg) :: r, h, 0, 0)
    | .baload => am_p1 st fun i r1 => am_r1 r1 fun o r => am_arr h o .boolean i fun x => some (pc + 1, ls, .int (x.2.1 i.toNatClampNeg) :: r, h, 0, 0)
    | .laload => am_p1 st fun i r1 => am_r1 r1 fun o r => am_arr h o .long i fun x => some (pc + 1, ls, .long (x.2.2.1 i.toNatClampNeg) :: r, h, 0, 0)
    | .iastore => am_p1 st fun v r2 => am_p1 r2 fun i r1 => am_r1 r1 fun o r => am_arr h o .int i fun x => some (pc + 1, ls, r, h.set o (x.1, va_up x.2.1 i.toNatClampNeg v, x.2.2), 0, 0)
    | .castore => am_p1 st fun v r2 => am_p1 r2 fun i r1 => am_r1 r1 fun o r => am_arr h o .char i fun x => some (pc + 1, ls, r, h.set o (x.1, va_up x.2.1 i.toNatClampNeg (vp_nar .char v), x.2.2), 0, 0)
    | .bastore => am_p1 st fun v r2 => am_p1 r2 fun i r1 => am_r1 r1 fun o r => am_arr h o .boolean i fun x => some (pc + 1, ls, r, h.set o (x.1, va_up x.2.1 i.toNatClampNeg (vp_nar .boolean v), x.2.2), 0, 0)
    | .lastore => am_q1 st fun v r2 => am_p1 r2 fun i r1 => am_r1 r1 fun o r => am_arr h o .long i fun x => some (pc + 1, ls, r, h.set o (x.1, x.2.1, va_up x.2.2.1 i.toNatClampNeg v, x.2.2.2), 0, 0)
    | .new _ => some (pc + 3, ls, .ref h.length :: st, h ++ [am_new (false, a, 0)], 1, am_n a)
    | .newarray _ => am_p1 st fun i r => if 0 ≤ i.toInt ∧ i.toInt < 100000 then some (pc + 2, ls, .ref h.length :: r, h ++ [am_new (true, a, i.toNatClampNeg)], 1, i.toNatClampNeg) else none
    | .anewarray _ => am_p1 st fun i r => if 0 ≤ i.toInt ∧ i.toInt < 100000 then some (pc + 3, ls, .ref h.length :: r, h ++ [am_new (true, a, i.toNatClampNeg)], 1, i.toNatClampNeg) else none
    | .aastore => am_r1 st fun v r2 => am_p1 r2 fun i r1 => am_r1 r1 fun o r => match h[v]? with
      | some y => match am_cl[y.1.2.1]? with
        | some q => if y.1.1 = false then am_arr h o (.object q.1) i fun x => some (pc + 1, ls, r, h.set o (x.1, x.2.1, x.2.2.1, va_up x.2.2.2 i.toNatClampNeg (some v)), 0, 0) else none
        | none => none
      | none => none
    | .aaload => am_p1 st fun i r1 => am_r1 r1 fun o r => match h[o]? with
      | some y => match am_at y.1.2.1 with
        | .object C => am_arr h o (.object C) i fun x => some (pc + 1, ls, va_rf (x.2.2.2 i.toNatClampNeg) :: r, h, 0, 0)
        | _ => none
      | none => none
    | _ => none
section AMS
variable {l : Launch} {d : Nat} {M : am_M} {pc : Nat} {ls : List (Option Value)} {st : List Value} {h : am_H} {kc ks : Nat} {Q : Option Value → am_H → Prop}
theorem am_s_iadd {pc' kc1 ks1 : Nat} {ls' : List (Option Value)} {st' : List Value} {h' : am_H} {a b w : Nat} (hf : am_fetch M pc = some (.iadd, 1, a, b, w)) (e : am_step M pc ls st h = some (pc', ls', st', h', kc1, ks1)) (k : am_T l d M pc' ls' st' h' kc ks Q) : am_T l d M pc ls st h (kc + kc1) (ks + ks1) Q := by
    unfold am_step at e
    rw [hf] at e
    simp only at e
    obtain ⟨x, y, r, hst, e1⟩ := am_p2_s e; clear e; subst hst; have e := e1; clear e1
    cases e
    exact am_iadd hf k
theorem am_s_isub {pc' kc1 ks1 : Nat} {ls' : List (Option Value)} {st' : List Value} {h' : am_H} {a b w : Nat} (hf : am_fetch M pc = some (.isub, 1, a, b, w)) (e : am_step M pc ls st h = some (pc', ls', st', h', kc1, ks1)) (k : am_T l d M pc' ls' st' h' kc ks Q) : am_T l d M pc ls st h (kc + kc1) (ks + ks1) Q := by
    unfold am_step at e
    rw [hf] at e
    simp only at e
    obtain ⟨x, y, r, hst, e1⟩ := am_p2_s e; clear e; subst hst; have e := e1; clear e1
    cases e
    exact am_isub hf k
theorem am_s_imul {pc' kc1 ks1 : Nat} {ls' : List (Option Value)} {st' : List Value} {h' : am_H} {a b w : Nat} (hf : am_fetch M pc = some (.imul, 1, a, b, w)) (e : am_step M pc ls st h = some (pc', ls', st', h', kc1, ks1)) (k : am_T l d M pc' ls' st' h' kc ks Q) : am_T l d M pc ls st h (kc + kc1) (ks + ks1) Q := by
    unfold am_step at e
    rw [hf] at e
    simp only at e
    obtain ⟨x, y, r, hst, e1⟩ := am_p2_s e; clear e; subst hst; have e := e1; clear e1
    cases e
    exact am_imul hf k
theorem am_s_iand {pc' kc1 ks1 : Nat} {ls' : List (Option Value)} {st' : List Value} {h' : am_H} {a b w : Nat} (hf : am_fetch M pc = some (.iand, 1, a, b, w)) (e : am_step M pc ls st h = some (pc', ls', st', h', kc1, ks1)) (k : am_T l d M pc' ls' st' h' kc ks Q) : am_T l d M pc ls st h (kc + kc1) (ks + ks1) Q := by
    unfold am_step at e
    rw [hf] at e
    simp only at e
    obtain ⟨x, y, r, hst, e1⟩ := am_p2_s e; clear e; subst hst; have e := e1; clear e1
    cases e
    exact am_iand hf k
theorem am_s_ior {pc' kc1 ks1 : Nat} {ls' : List (Option Value)} {st' : List Value} {h' : am_H} {a b w : Nat} (hf : am_fetch M pc = some (.ior, 1, a, b, w)) (e : am_step M pc ls st h = some (pc', ls', st', h', kc1, ks1)) (k : am_T l d M pc' ls' st' h' kc ks Q) : am_T l d M pc ls st h (kc + kc1) (ks + ks1) Q := by
    unfold am_step at e
    rw [hf] at e
    simp only at e
    obtain ⟨x, y, r, hst, e1⟩ := am_p2_s e; clear e; subst hst; have e := e1; clear e1
    cases e
    exact am_ior hf k
theorem am_s_ixor {pc' kc1 ks1 : Nat} {ls' : List (Option Value)} {st' : List Value} {h' : am_H} {a b w : Nat} (hf : am_fetch M pc = some (.ixor, 1, a, b, w)) (e : am_step M pc ls st h = some (pc', ls', st', h', kc1, ks1)) (k : am_T l d M pc' ls' st' h' kc ks Q) : am_T l d M pc ls st h (kc + kc1) (ks + ks1) Q := by
    unfold am_step at e
    rw [hf] at e
    simp only at e
    obtain ⟨x, y, r, hst, e1⟩ := am_p2_s e; clear e; subst hst; have e := e1; clear e1
    cases e
    exact am_ixor hf k
theorem am_s_ladd {pc' kc1 ks1 : Nat} {ls' : List (Option Value)} {st' : List Value} {h' : am_H} {a b w : Nat} (hf : am_fetch M pc = some (.ladd, 1, a, b, w)) (e : am_step M pc ls st h = some (pc', ls', st', h', kc1, ks1)) (k : am_T l d M pc' ls' st' h' kc ks Q) : am_T l d M pc ls st h (kc + kc1) (ks + ks1) Q := by
    unfold am_step at e
    rw [hf] at e
    simp only at e
    obtain ⟨x, y, r, hst, e1⟩ := am_q2_s e; clear e; subst hst; have e := e1; clear e1
    cases e
    exact am_ladd hf k
theorem am_s_lsub {pc' kc1 ks1 : Nat} {ls' : List (Option Value)} {st' : List Value} {h' : am_H} {a b w : Nat} (hf : am_fetch M pc = some (.lsub, 1, a, b, w)) (e : am_step M pc ls st h = some (pc', ls', st', h', kc1, ks1)) (k : am_T l d M pc' ls' st' h' kc ks Q) : am_T l d M pc ls st h (kc + kc1) (ks + ks1) Q := by
    unfold am_step at e
    rw [hf] at e
    simp only at e
    obtain ⟨x, y, r, hst, e1⟩ := am_q2_s e; clear e; subst hst; have e := e1; clear e1
    cases e
    exact am_lsub hf k
theorem am_s_lmul {pc' kc1 ks1 : Nat} {ls' : List (Option Value)} {st' : List Value} {h' : am_H} {a b w : Nat} (hf : am_fetch M pc = some (.lmul, 1, a, b, w)) (e : am_step M pc ls st h = some (pc', ls', st', h', kc1, ks1)) (k : am_T l d M pc' ls' st' h' kc ks Q) : am_T l d M pc ls st h (kc + kc1) (ks + ks1) Q := by
    unfold am_step at e
    rw [hf] at e
    simp only at e
    obtain ⟨x, y, r, hst, e1⟩ := am_q2_s e; clear e; subst hst; have e := e1; clear e1
    cases e
    exact am_lmul hf k
theorem am_s_land {pc' kc1 ks1 : Nat} {ls' : List (Option Value)} {st' : List Value} {h' : am_H} {a b w : Nat} (hf : am_fetch M pc = some (.land, 1, a, b, w)) (e : am_step M pc ls st h = some (pc', ls', st', h', kc1, ks1)) (k : am_T l d M pc' ls' st' h' kc ks Q) : am_T l d M pc ls st h (kc + kc1) (ks + ks1) Q := by
    unfold am_step at e
    rw [hf] at e
    simp only at e
    obtain ⟨x, y, r, hst, e1⟩ := am_q2_s e; clear e; subst hst; have e := e1; clear e1
    cases e
    exact am_land hf k
theorem am_s_lor {pc' kc1 ks1 : Nat} {ls' : List (Option Value)} {st' : List Value} {h' : am_H} {a b w : Nat} (hf : am_fetch M pc = some (.lor, 1, a, b, w)) (e : am_step M pc ls st h = some (pc', ls', st', h', kc1, ks1)) (k : am_T l d M pc' ls' st' h' kc ks Q) : am_T l d M pc ls st h (kc + kc1) (ks + ks1) Q := by
    unfold am_step at e
    rw [hf] at e
    simp only at e
    obtain ⟨x, y, r, hst, e1⟩ := am_q2_s e; clear e; subst hst; have e := e1; clear e1
    cases e
    exact am_lor hf k
theorem am_s_lxor {pc' kc1 ks1 : Nat} {ls' : List (Option Value)} {st' : List Value} {h' : am_H} {a b w : Nat} (hf : am_fetch M pc = some (.lxor, 1, a, b, w)) (e : am_step M pc ls st h = some (pc', ls', st', h', kc1, ks1)) (k : am_T l d M pc' ls' st' h' kc ks Q) : am_T l d M pc ls st h (kc + kc1) (ks + ks1) Q := by
    unfold am_step at e
    rw [hf] at e
    simp only at e
    obtain ⟨x, y, r, hst, e1⟩ := am_q2_s e; clear e; subst hst; have e := e1; clear e1
    cases e
    exact am_lxor hf k
theorem am_s_ishl {pc' kc1 ks1 : Nat} {ls' : List (Option Value)} {st' : List Value} {h' : am_H} {a b w : Nat} (hf : am_fetch M pc = some (.ishl, 1, a, b, w)) (e : am_step M pc ls st h = some (pc', ls', st', h', kc1, ks1)) (k : am_T l d M pc' ls' st' h' kc ks Q) : am_T l d M pc ls st h (kc + kc1) (ks + ks1) Q := by
    unfold am_step at e
    rw [hf] at e
    simp only at e
    obtain ⟨x, y, r, hst, e1⟩ := am_p2_s e; clear e; subst hst; have e := e1; clear e1
    cases e
    exact am_ishl hf k
theorem am_s_ishr {pc' kc1 ks1 : Nat} {ls' : List (Option Value)} {st' : List Value} {h' : am_H} {a b w : Nat} (hf : am_fetch M pc = some (.ishr, 1, a, b, w)) (e : am_step M pc ls st h = some (pc', ls', st', h', kc1, ks1)) (k : am_T l d M pc' ls' st' h' kc ks Q) : am_T l d M pc ls st h (kc + kc1) (ks + ks1) Q := by
    unfold am_step at e
    rw [hf] at e
    simp only at e
    obtain ⟨x, y, r, hst, e1⟩ := am_p2_s e; clear e; subst hst; have e := e1; clear e1
    cases e
    exact am_ishr hf k
theorem am_s_iushr {pc' kc1 ks1 : Nat} {ls' : List (Option Value)} {st' : List Value} {h' : am_H} {a b w : Nat} (hf : am_fetch M pc = some (.iushr, 1, a, b, w)) (e : am_step M pc ls st h = some (pc', ls', st', h', kc1, ks1)) (k : am_T l d M pc' ls' st' h' kc ks Q) : am_T l d M pc ls st h (kc + kc1) (ks + ks1) Q := by
    unfold am_step at e
    rw [hf] at e
    simp only at e
    obtain ⟨x, y, r, hst, e1⟩ := am_p2_s e; clear e; subst hst; have e := e1; clear e1
    cases e
    exact am_iushr hf rfl k
theorem am_s_lshl {pc' kc1 ks1 : Nat} {ls' : List (Option Value)} {st' : List Value} {h' : am_H} {a b w : Nat} (hf : am_fetch M pc = some (.lshl, 1, a, b, w)) (e : am_step M pc ls st h = some (pc', ls', st', h', kc1, ks1)) (k : am_T l d M pc' ls' st' h' kc ks Q) : am_T l d M pc ls st h (kc + kc1) (ks + ks1) Q := by
    unfold am_step at e
    rw [hf] at e
    simp only at e
    obtain ⟨x, y, r, hst, e1⟩ := am_q3_s e; clear e; subst hst; have e := e1; clear e1
    cases e
    exact am_lshl hf rfl k
theorem am_s_lshr {pc' kc1 ks1 : Nat} {ls' : List (Option Value)} {st' : List Value} {h' : am_H} {a b w : Nat} (hf : am_fetch M pc = some (.lshr, 1, a, b, w)) (e : am_step M pc ls st h = some (pc', ls', st', h', kc1, ks1)) (k : am_T l d M pc' ls' st' h' kc ks Q) : am_T l d M pc ls st h (kc + kc1) (ks + ks1) Q := by
    unfold am_step at e
    rw [hf] at e
    simp only at e
    obtain ⟨x, y, r, hst, e1⟩ := am_q3_s e; clear e; subst hst; have e := e1; clear e1
    cases e
    exact am_lshr hf rfl k
theorem am_s_lushr {pc' kc1 ks1 : Nat} {ls' : List (Option Value)} {st' : List Value} {h' : am_H} {a b w : Nat} (hf : am_fetch M pc = some (.lushr, 1, a, b, w)) (e : am_step M pc ls st h = some (pc', ls', st', h', kc1, ks1)) (k : am_T l d M pc' ls' st' h' kc ks Q) : am_T l d M pc ls st h (kc + kc1) (ks + ks1) Q := by
    unfold am_step at e
    rw [hf] at e
    simp only at e
    obtain ⟨x, y, r, hst, e1⟩ := am_q3_s e; clear e; subst hst; have e := e1; clear e1
    cases e
    exact am_lushr hf rfl k
theorem am_s_ineg {pc' kc1 ks1 : Nat} {ls' : List (Option Value)} {st' : List Value} {h' : am_H} {a b w : Nat} (hf : am_fetch M pc = some (.ineg, 1, a, b, w)) (e : am_step M pc ls st h = some (pc', ls', st', h', kc1, ks1)) (k : am_T l d M pc' ls' st' h' kc ks Q) : am_T l d M pc ls st h (kc + kc1) (ks + ks1) Q := by
    unfold am_step at e
    rw [hf] at e
    simp only at e
    obtain ⟨x, r, hst, e1⟩ := am_p1_s e; clear e; subst hst; have e := e1; clear e1
    cases e
    exact am_ineg hf k
theorem am_s_lneg {pc' kc1 ks1 : Nat} {ls' : List (Option Value)} {st' : List Value} {h' : am_H} {a b w : Nat} (hf : am_fetch M pc = some (.lneg, 1, a, b, w)) (e : am_step M pc ls st h = some (pc', ls', st', h', kc1, ks1)) (k : am_T l d M pc' ls' st' h' kc ks Q) : am_T l d M pc ls st h (kc + kc1) (ks + ks1) Q := by
    unfold am_step at e
    rw [hf] at e
    simp only at e
    obtain ⟨x, r, hst, e1⟩ := am_q1_s e; clear e; subst hst; have e := e1; clear e1
    cases e
    exact am_lneg hf k
theorem am_s_idiv {pc' kc1 ks1 : Nat} {ls' : List (Option Value)} {st' : List Value} {h' : am_H} {a b w : Nat} (hf : am_fetch M pc = some (.idiv, 1, a, b, w)) (e : am_step M pc ls st h = some (pc', ls', st', h', kc1, ks1)) (k : am_T l d M pc' ls' st' h' kc ks Q) : am_T l d M pc ls st h (kc + kc1) (ks + ks1) Q := by
    unfold am_step at e
    rw [hf] at e
    simp only at e
    obtain ⟨x, y, r, hst, e1⟩ := am_p2_s e; clear e; subst hst; have e := e1; clear e1
    split at e
    · cases e
    · next hn =>
      cases e
      exact am_idiv hf hn k
theorem am_s_irem {pc' kc1 ks1 : Nat} {ls' : List (Option Value)} {st' : List Value} {h' : am_H} {a b w : Nat} (hf : am_fetch M pc = some (.irem, 1, a, b, w)) (e : am_step M pc ls st h = some (pc', ls', st', h', kc1, ks1)) (k : am_T l d M pc' ls' st' h' kc ks Q) : am_T l d M pc ls st h (kc + kc1) (ks + ks1) Q := by
    unfold am_step at e
    rw [hf] at e
    simp only at e
    obtain ⟨x, y, r, hst, e1⟩ := am_p2_s e; clear e; subst hst; have e := e1; clear e1
    split at e
    · cases e
    · next hn =>
      cases e
      exact am_irem hf hn k
theorem am_s_i2l {pc' kc1 ks1 : Nat} {ls' : List (Option Value)} {st' : List Value} {h' : am_H} {a b w : Nat} (hf : am_fetch M pc = some (.i2l, 1, a, b, w)) (e : am_step M pc ls st h = some (pc', ls', st', h', kc1, ks1)) (k : am_T l d M pc' ls' st' h' kc ks Q) : am_T l d M pc ls st h (kc + kc1) (ks + ks1) Q := by
    unfold am_step at e
    rw [hf] at e
    simp only at e
    obtain ⟨x, r, hst, e1⟩ := am_p1_s e; clear e; subst hst; have e := e1; clear e1
    cases e
    exact am_i2l hf rfl k
theorem am_s_l2i {pc' kc1 ks1 : Nat} {ls' : List (Option Value)} {st' : List Value} {h' : am_H} {a b w : Nat} (hf : am_fetch M pc = some (.l2i, 1, a, b, w)) (e : am_step M pc ls st h = some (pc', ls', st', h', kc1, ks1)) (k : am_T l d M pc' ls' st' h' kc ks Q) : am_T l d M pc ls st h (kc + kc1) (ks + ks1) Q := by
    unfold am_step at e
    rw [hf] at e
    simp only at e
    obtain ⟨x, r, hst, e1⟩ := am_q1_s e; clear e; subst hst; have e := e1; clear e1
    cases e
    exact am_l2i hf rfl k
theorem am_s_i2c {pc' kc1 ks1 : Nat} {ls' : List (Option Value)} {st' : List Value} {h' : am_H} {a b w : Nat} (hf : am_fetch M pc = some (.i2c, 1, a, b, w)) (e : am_step M pc ls st h = some (pc', ls', st', h', kc1, ks1)) (k : am_T l d M pc' ls' st' h' kc ks Q) : am_T l d M pc ls st h (kc + kc1) (ks + ks1) Q := by
    unfold am_step at e
    rw [hf] at e
    simp only at e
    obtain ⟨x, r, hst, e1⟩ := am_p1_s e; clear e; subst hst; have e := e1; clear e1
    cases e
    exact am_i2c hf rfl k
theorem am_s_lcmp {pc' kc1 ks1 : Nat} {ls' : List (Option Value)} {st' : List Value} {h' : am_H} {a b w : Nat} (hf : am_fetch M pc = some (.lcmp, 1, a, b, w)) (e : am_step M pc ls st h = some (pc', ls', st', h', kc1, ks1)) (k : am_T l d M pc' ls' st' h' kc ks Q) : am_T l d M pc ls st h (kc + kc1) (ks + ks1) Q := by
    unfold am_step at e
    rw [hf] at e
    simp only at e
    obtain ⟨x, y, r, hst, e1⟩ := am_q2_s e; clear e; subst hst; have e := e1; clear e1
    cases e
    exact am_lcmp hf k
theorem am_s_iconst_n {pc' kc1 ks1 : Nat} {ls' : List (Option Value)} {st' : List Value} {h' : am_H} {n : Int} {a b w : Nat} (hf : am_fetch M pc = some (.iconst n, 1, a, b, w)) (e : am_step M pc ls st h = some (pc', ls', st', h', kc1, ks1)) (k : am_T l d M pc' ls' st' h' kc ks Q) : am_T l d M pc ls st h (kc + kc1) (ks + ks1) Q := by
    unfold am_step at e
    rw [hf] at e
    simp only at e
    cases e
    exact am_iconst hf rfl k
theorem am_s_bipush_n {pc' kc1 ks1 : Nat} {ls' : List (Option Value)} {st' : List Value} {h' : am_H} {n : Int} {a b w : Nat} (hf : am_fetch M pc = some (.bipush n, 2, a, b, w)) (e : am_step M pc ls st h = some (pc', ls', st', h', kc1, ks1)) (k : am_T l d M pc' ls' st' h' kc ks Q) : am_T l d M pc ls st h (kc + kc1) (ks + ks1) Q := by
    unfold am_step at e
    rw [hf] at e
    simp only at e
    cases e
    exact am_bipush hf rfl k
theorem am_s_sipush_n {pc' kc1 ks1 : Nat} {ls' : List (Option Value)} {st' : List Value} {h' : am_H} {n : Int} {a b w : Nat} (hf : am_fetch M pc = some (.sipush n, 3, a, b, w)) (e : am_step M pc ls st h = some (pc', ls', st', h', kc1, ks1)) (k : am_T l d M pc' ls' st' h' kc ks Q) : am_T l d M pc ls st h (kc + kc1) (ks + ks1) Q := by
    unfold am_step at e
    rw [hf] at e
    simp only at e
    cases e
    exact am_sipush hf rfl k
theorem am_s_lconst_n {pc' kc1 ks1 : Nat} {ls' : List (Option Value)} {st' : List Value} {h' : am_H} {n : Fin 2} {a b w : Nat} (hf : am_fetch M pc = some (.lconst n, 1, a, b, w)) (e : am_step M pc ls st h = some (pc', ls', st', h', kc1, ks1)) (k : am_T l d M pc' ls' st' h' kc ks Q) : am_T l d M pc ls st h (kc + kc1) (ks + ks1) Q := by
    unfold am_step at e
    rw [hf] at e
    simp only at e
    cases e
    exact am_lconst hf rfl k
theorem am_s_ldc {pc' kc1 ks1 : Nat} {ls' : List (Option Value)} {st' : List Value} {h' : am_H} {u0 : Nat} {a b w : Nat} (hf : am_fetch M pc = some (.ldc u0, 2, a, b, w)) (e : am_step M pc ls st h = some (pc', ls', st', h', kc1, ks1)) (k : am_T l d M pc' ls' st' h' kc ks Q) : am_T l d M pc ls st h (kc + kc1) (ks + ks1) Q := by
    unfold am_step at e
    rw [hf] at e
    simp only at e
    cases e
    exact am_ldc hf rfl k
theorem am_s_ldc_w {pc' kc1 ks1 : Nat} {ls' : List (Option Value)} {st' : List Value} {h' : am_H} {u0 : Nat} {a b w : Nat} (hf : am_fetch M pc = some (.ldc_w u0, 3, a, b, w)) (e : am_step M pc ls st h = some (pc', ls', st', h', kc1, ks1)) (k : am_T l d M pc' ls' st' h' kc ks Q) : am_T l d M pc ls st h (kc + kc1) (ks + ks1) Q := by
    unfold am_step at e
    rw [hf] at e
    simp only at e
    cases e
    exact am_ldcw hf rfl k
theorem am_s_ldc2_w {pc' kc1 ks1 : Nat} {ls' : List (Option Value)} {st' : List Value} {h' : am_H} {u0 : Nat} {a b w : Nat} (hf : am_fetch M pc = some (.ldc2_w u0, 3, a, b, w)) (e : am_step M pc ls st h = some (pc', ls', st', h', kc1, ks1)) (k : am_T l d M pc' ls' st' h' kc ks Q) : am_T l d M pc ls st h (kc + kc1) (ks + ks1) Q := by
    unfold am_step at e
    rw [hf] at e
    simp only at e
    split at e
    · cases e
      exact am_ldc2 hf rfl k
    · cases e
      exact am_ldc2m hf rfl k
    · cases e
theorem am_s_dup {pc' kc1 ks1 : Nat} {ls' : List (Option Value)} {st' : List Value} {h' : am_H} {a b w : Nat} (hf : am_fetch M pc = some (.dup, 1, a, b, w)) (e : am_step M pc ls st h = some (pc', ls', st', h', kc1, ks1)) (k : am_T l d M pc' ls' st' h' kc ks Q) : am_T l d M pc ls st h (kc + kc1) (ks + ks1) Q := by
    unfold am_step at e
    rw [hf] at e
    simp only at e
    obtain ⟨x, r, hst, e1⟩ := am_v1_s e; clear e; subst hst; have e := e1; clear e1
    split at e
    · next hc =>
      cases e
      exact am_dup hf hc k
    · cases e
theorem am_s_pop {pc' kc1 ks1 : Nat} {ls' : List (Option Value)} {st' : List Value} {h' : am_H} {a b w : Nat} (hf : am_fetch M pc = some (.pop, 1, a, b, w)) (e : am_step M pc ls st h = some (pc', ls', st', h', kc1, ks1)) (k : am_T l d M pc' ls' st' h' kc ks Q) : am_T l d M pc ls st h (kc + kc1) (ks + ks1) Q := by
    unfold am_step at e
    rw [hf] at e
    simp only at e
    obtain ⟨x, r, hst, e1⟩ := am_v1_s e; clear e; subst hst; have e := e1; clear e1
    split at e
    · next hc =>
      cases e
      exact am_pop hf hc k
    · cases e
theorem am_s_iload_i {pc' kc1 ks1 : Nat} {ls' : List (Option Value)} {st' : List Value} {h' : am_H} {i : Nat} {a b w : Nat} (hf : am_fetch M pc = some (.iload i, 2, a, b, w)) (e : am_step M pc ls st h = some (pc', ls', st', h', kc1, ks1)) (k : am_T l d M pc' ls' st' h' kc ks Q) : am_T l d M pc ls st h (kc + kc1) (ks + ks1) Q := by
    unfold am_step at e
    rw [hf] at e
    simp only at e
    split at e
    · next x hx =>
      cases e
      exact am_iload hf hx k
    · cases e
theorem am_s_iload_n_i {pc' kc1 ks1 : Nat} {ls' : List (Option Value)} {st' : List Value} {h' : am_H} {i : Fin 4} {a b w : Nat} (hf : am_fetch M pc = some (.iload_n i, 1, a, b, w)) (e : am_step M pc ls st h = some (pc', ls', st', h', kc1, ks1)) (k : am_T l d M pc' ls' st' h' kc ks Q) : am_T l d M pc ls st h (kc + kc1) (ks + ks1) Q := by
    unfold am_step at e
    rw [hf] at e
    simp only at e
    split at e
    · next x hx =>
      cases e
      exact am_iload_n hf hx k
    · cases e
theorem am_s_istore_i {pc' kc1 ks1 : Nat} {ls' : List (Option Value)} {st' : List Value} {h' : am_H} {i : Nat} {a b w : Nat} (hf : am_fetch M pc = some (.istore i, 2, a, b, w)) (e : am_step M pc ls st h = some (pc', ls', st', h', kc1, ks1)) (k : am_T l d M pc' ls' st' h' kc ks Q) : am_T l d M pc ls st h (kc + kc1) (ks + ks1) Q := by
    unfold am_step at e
    rw [hf] at e
    simp only at e
    obtain ⟨x, r, hst, e1⟩ := am_p1_s e; clear e; subst hst; have e := e1; clear e1
    split at e
    · next hc =>
      cases e
      exact am_istore hf hc k
    · cases e
theorem am_s_istore_n_i {pc' kc1 ks1 : Nat} {ls' : List (Option Value)} {st' : List Value} {h' : am_H} {i : Fin 4} {a b w : Nat} (hf : am_fetch M pc = some (.istore_n i, 1, a, b, w)) (e : am_step M pc ls st h = some (pc', ls', st', h', kc1, ks1)) (k : am_T l d M pc' ls' st' h' kc ks Q) : am_T l d M pc ls st h (kc + kc1) (ks + ks1) Q := by
    unfold am_step at e
    rw [hf] at e
    simp only at e
    obtain ⟨x, r, hst, e1⟩ := am_p1_s e; clear e; subst hst; have e := e1; clear e1
    split at e
    · next hc =>
      cases e
      exact am_istore_n hf hc k
    · cases e
theorem am_s_lload_i {pc' kc1 ks1 : Nat} {ls' : List (Option Value)} {st' : List Value} {h' : am_H} {i : Nat} {a b w : Nat} (hf : am_fetch M pc = some (.lload i, 2, a, b, w)) (e : am_step M pc ls st h = some (pc', ls', st', h', kc1, ks1)) (k : am_T l d M pc' ls' st' h' kc ks Q) : am_T l d M pc ls st h (kc + kc1) (ks + ks1) Q := by
    unfold am_step at e
    rw [hf] at e
    simp only at e
    split at e
    · next x hx =>
      cases e
      exact am_lload hf hx k
    · cases e
theorem am_s_lload_n_i {pc' kc1 ks1 : Nat} {ls' : List (Option Value)} {st' : List Value} {h' : am_H} {i : Fin 4} {a b w : Nat} (hf : am_fetch M pc = some (.lload_n i, 1, a, b, w)) (e : am_step M pc ls st h = some (pc', ls', st', h', kc1, ks1)) (k : am_T l d M pc' ls' st' h' kc ks Q) : am_T l d M pc ls st h (kc + kc1) (ks + ks1) Q := by
    unfold am_step at e
    rw [hf] at e
    simp only at e
    split at e
    · next x hx =>
      cases e
      exact am_lload_n hf hx k
    · cases e
theorem am_s_lstore_i {pc' kc1 ks1 : Nat} {ls' : List (Option Value)} {st' : List Value} {h' : am_H} {i : Nat} {a b w : Nat} (hf : am_fetch M pc = some (.lstore i, 2, a, b, w)) (e : am_step M pc ls st h = some (pc', ls', st', h', kc1, ks1)) (k : am_T l d M pc' ls' st' h' kc ks Q) : am_T l d M pc ls st h (kc + kc1) (ks + ks1) Q := by
    unfold am_step at e
    rw [hf] at e
    simp only at e
    obtain ⟨x, r, hst, e1⟩ := am_q1_s e; clear e; subst hst; have e := e1; clear e1
    split at e
    · next hc =>
      cases e
      exact am_lstore hf hc k
    · cases e
theorem am_s_lstore_n_i {pc' kc1 ks1 : Nat} {ls' : List (Option Value)} {st' : List Value} {h' : am_H} {i : Fin 4} {a b w : Nat} (hf : am_fetch M pc = some (.lstore_n i, 1, a, b, w)) (e : am_step M pc ls st h = some (pc', ls', st', h', kc1, ks1)) (k : am_T l d M pc' ls' st' h' kc ks Q) : am_T l d M pc ls st h (kc + kc1) (ks + ks1) Q := by
    unfold am_step at e
    rw [hf] at e
    simp only at e
    obtain ⟨x, r, hst, e1⟩ := am_q1_s e; clear e; subst hst; have e := e1; clear e1
    split at e
    · next hc =>
      cases e
      exact am_lstore_n hf hc k
    · cases e
theorem am_s_aload_i {pc' kc1 ks1 : Nat} {ls' : List (Option Value)} {st' : List Value} {h' : am_H} {i : Nat} {a b w : Nat} (hf : am_fetch M pc = some (.aload i, 2, a, b, w)) (e : am_step M pc ls st h = some (pc', ls', st', h', kc1, ks1)) (k : am_T l d M pc' ls' st' h' kc ks Q) : am_T l d M pc ls st h (kc + kc1) (ks + ks1) Q := by
    unfold am_step at e
    rw [hf] at e
    simp only at e
    split at e
    · next x hx =>
      cases e
      exact am_aload hf hx k
    · cases e
theorem am_s_aload_n_i {pc' kc1 ks1 : Nat} {ls' : List (Option Value)} {st' : List Value} {h' : am_H} {i : Fin 4} {a b w : Nat} (hf : am_fetch M pc = some (.aload_n i, 1, a, b, w)) (e : am_step M pc ls st h = some (pc', ls', st', h', kc1, ks1)) (k : am_T l d M pc' ls' st' h' kc ks Q) : am_T l d M pc ls st h (kc + kc1) (ks + ks1) Q := by
    unfold am_step at e
    rw [hf] at e
    simp only at e
    split at e
    · next x hx =>
      cases e
      exact am_aload_n hf hx k
    · cases e
theorem am_s_astore_i {pc' kc1 ks1 : Nat} {ls' : List (Option Value)} {st' : List Value} {h' : am_H} {i : Nat} {a b w : Nat} (hf : am_fetch M pc = some (.astore i, 2, a, b, w)) (e : am_step M pc ls st h = some (pc', ls', st', h', kc1, ks1)) (k : am_T l d M pc' ls' st' h' kc ks Q) : am_T l d M pc ls st h (kc + kc1) (ks + ks1) Q := by
    unfold am_step at e
    rw [hf] at e
    simp only at e
    obtain ⟨x, r, hst, e1⟩ := am_r1_s e; clear e; subst hst; have e := e1; clear e1
    split at e
    · next hc =>
      cases e
      exact am_astore hf hc k
    · cases e
theorem am_s_astore_n_i {pc' kc1 ks1 : Nat} {ls' : List (Option Value)} {st' : List Value} {h' : am_H} {i : Fin 4} {a b w : Nat} (hf : am_fetch M pc = some (.astore_n i, 1, a, b, w)) (e : am_step M pc ls st h = some (pc', ls', st', h', kc1, ks1)) (k : am_T l d M pc' ls' st' h' kc ks Q) : am_T l d M pc ls st h (kc + kc1) (ks + ks1) Q := by
    unfold am_step at e
    rw [hf] at e
    simp only at e
    obtain ⟨x, r, hst, e1⟩ := am_r1_s e; clear e; subst hst; have e := e1; clear e1
    split at e
    · next hc =>
      cases e
      exact am_astore_n hf hc k
    · cases e
theorem am_s_iinc_i_n {pc' kc1 ks1 : Nat} {ls' : List (Option Value)} {st' : List Value} {h' : am_H} {i : Nat} {n : Int} {a b w : Nat} (hf : am_fetch M pc = some (.iinc i n, 3, a, b, w)) (e : am_step M pc ls st h = some (pc', ls', st', h', kc1, ks1)) (k : am_T l d M pc' ls' st' h' kc ks Q) : am_T l d M pc ls st h (kc + kc1) (ks + ks1) Q := by
    unfold am_step at e
    rw [hf] at e
    simp only at e
    split at e
    · next x hx =>
      cases e
      exact am_iinc hf hx rfl k
    · cases e
theorem am_s_goto {pc' kc1 ks1 : Nat} {ls' : List (Option Value)} {st' : List Value} {h' : am_H} {u0 : Int} {a b w : Nat} (hf : am_fetch M pc = some (.goto u0, 3, a, b, w)) (e : am_step M pc ls st h = some (pc', ls', st', h', kc1, ks1)) (k : am_T l d M pc' ls' st' h' kc ks Q) : am_T l d M pc ls st h (kc + kc1) (ks + ks1) Q := by
    unfold am_step at e
    rw [hf] at e
    simp only at e
    cases e
    exact am_goto hf k
theorem am_s_if_ond_eq {pc' kc1 ks1 : Nat} {ls' : List (Option Value)} {st' : List Value} {h' : am_H} {u1 : Int} {a b w : Nat} (hf : am_fetch M pc = some (.ifCond .eq u1, 3, a, b, w)) (e : am_step M pc ls st h = some (pc', ls', st', h', kc1, ks1)) (k : am_T l d M pc' ls' st' h' kc ks Q) : am_T l d M pc ls st h (kc + kc1) (ks + ks1) Q := by
    unfold am_step at e
    rw [hf] at e
    simp only at e
    obtain ⟨x, r, hst, e1⟩ := am_p1_s e; clear e; subst hst; have e := e1; clear e1
    split at e
    · next hc =>
      cases e
      exact am_if_eq hf (fun _ => k) (fun z => absurd hc z)
    · next hc =>
      cases e
      exact am_if_eq hf (fun z => absurd z hc) (fun _ => k)
theorem am_s_if_icmp_eq {pc' kc1 ks1 : Nat} {ls' : List (Option Value)} {st' : List Value} {h' : am_H} {u1 : Int} {a b w : Nat} (hf : am_fetch M pc = some (.if_icmp .eq u1, 3, a, b, w)) (e : am_step M pc ls st h = some (pc', ls', st', h', kc1, ks1)) (k : am_T l d M pc' ls' st' h' kc ks Q) : am_T l d M pc ls st h (kc + kc1) (ks + ks1) Q := by
    unfold am_step at e
    rw [hf] at e
    simp only at e
    obtain ⟨x, y, r, hst, e1⟩ := am_p2_s e; clear e; subst hst; have e := e1; clear e1
    split at e
    · next hc =>
      cases e
      exact am_icmp_eq hf (fun _ => k) (fun z => absurd hc z)
    · next hc =>
      cases e
      exact am_icmp_eq hf (fun z => absurd z hc) (fun _ => k)
theorem am_s_if_ond_ne {pc' kc1 ks1 : Nat} {ls' : List (Option Value)} {st' : List Value} {h' : am_H} {u1 : Int} {a b w : Nat} (hf : am_fetch M pc = some (.ifCond .ne u1, 3, a, b, w)) (e : am_step M pc ls st h = some (pc', ls', st', h', kc1, ks1)) (k : am_T l d M pc' ls' st' h' kc ks Q) : am_T l d M pc ls st h (kc + kc1) (ks + ks1) Q := by
    unfold am_step at e
    rw [hf] at e
    simp only at e
    obtain ⟨x, r, hst, e1⟩ := am_p1_s e; clear e; subst hst; have e := e1; clear e1
    split at e
    · next hc =>
      cases e
      exact am_if_ne hf (fun z => absurd hc z) (fun _ => k)
    · next hc =>
      cases e
      exact am_if_ne hf (fun _ => k) (fun z => absurd z hc)
theorem am_s_if_icmp_ne {pc' kc1 ks1 : Nat} {ls' : List (Option Value)} {st' : List Value} {h' : am_H} {u1 : Int} {a b w : Nat} (hf : am_fetch M pc = some (.if_icmp .ne u1, 3, a, b, w)) (e : am_step M pc ls st h = some (pc', ls', st', h', kc1, ks1)) (k : am_T l d M pc' ls' st' h' kc ks Q) : am_T l d M pc ls st h (kc + kc1) (ks + ks1) Q := by
    unfold am_step at e
    rw [hf] at e
    simp only at e
    obtain ⟨x, y, r, hst, e1⟩ := am_p2_s e; clear e; subst hst; have e := e1; clear e1
    split at e
    · next hc =>
      cases e
      exact am_icmp_ne hf (fun z => absurd hc z) (fun _ => k)
    · next hc =>
      cases e
      exact am_icmp_ne hf (fun _ => k) (fun z => absurd z hc)
theorem am_s_if_ond_lt {pc' kc1 ks1 : Nat} {ls' : List (Option Value)} {st' : List Value} {h' : am_H} {u1 : Int} {a b w : Nat} (hf : am_fetch M pc = some (.ifCond .lt u1, 3, a, b, w)) (e : am_step M pc ls st h = some (pc', ls', st', h', kc1, ks1)) (k : am_T l d M pc' ls' st' h' kc ks Q) : am_T l d M pc ls st h (kc + kc1) (ks + ks1) Q := by
    unfold am_step at e
    rw [hf] at e
    simp only at e
    obtain ⟨x, r, hst, e1⟩ := am_p1_s e; clear e; subst hst; have e := e1; clear e1
    split at e
    · next hc =>
      cases e
      exact am_if_lt hf (fun _ => k) (fun z => absurd hc z)
    · next hc =>
      cases e
      exact am_if_lt hf (fun z => absurd z hc) (fun _ => k)
theorem am_s_if_icmp_lt {pc' kc1 ks1 : Nat} {ls' : List (Option Value)} {st' : List Value} {h' : am_H} {u1 : Int} {a b w : Nat} (hf : am_fetch M pc = some (.if_icmp .lt u1, 3, a, b, w)) (e : am_step M pc ls st h = some (pc', ls', st', h', kc1, ks1)) (k : am_T l d M pc' ls' st' h' kc ks Q) : am_T l d M pc ls st h (kc + kc1) (ks + ks1) Q := by
    unfold am_step at e
    rw [hf] at e
    simp only at e
    obtain ⟨x, y, r, hst, e1⟩ := am_p2_s e; clear e; subst hst; have e := e1; clear e1
    split at e
    · next hc =>
      cases e
      exact am_icmp_lt hf (fun _ => k) (fun z => absurd hc z)
    · next hc =>
      cases e
      exact am_icmp_lt hf (fun z => absurd z hc) (fun _ => k)
theorem am_s_if_ond_ge {pc' kc1 ks1 : Nat} {ls' : List (Option Value)} {st' : List Value} {h' : am_H} {u1 : Int} {a b w : Nat} (hf : am_fetch M pc = some (.ifCond .ge u1, 3, a, b, w)) (e : am_step M pc ls st h = some (pc', ls', st', h', kc1, ks1)) (k : am_T l d M pc' ls' st' h' kc ks Q) : am_T l d M pc ls st h (kc + kc1) (ks + ks1) Q := by
    unfold am_step at e
    rw [hf] at e
    simp only at e
    obtain ⟨x, r, hst, e1⟩ := am_p1_s e; clear e; subst hst; have e := e1; clear e1
    split at e
    · next hc =>
      cases e
      exact am_if_ge hf (fun _ => k) (fun z => absurd hc z)
    · next hc =>
      cases e
      exact am_if_ge hf (fun z => absurd z hc) (fun _ => k)
theorem am_s_if_icmp_ge {pc' kc1 ks1 : Nat} {ls' : List (Option Value)} {st' : List Value} {h' : am_H} {u1 : Int} {a b w : Nat} (hf : am_fetch M pc = some (.if_icmp .ge u1, 3, a, b, w)) (e : am_step M pc ls st h = some (pc', ls', st', h', kc1, ks1)) (k : am_T l d M pc' ls' st' h' kc ks Q) : am_T l d M pc ls st h (kc + kc1) (ks + ks1) Q := by
    unfold am_step at e
    rw [hf] at e
    simp only at e
    obtain ⟨x, y, r, hst, e1⟩ := am_p2_s e; clear e; subst hst; have e := e1; clear e1
    split at e
    · next hc =>
      cases e
      exact am_icmp_ge hf (fun _ => k) (fun z => absurd hc z)
    · next hc =>
      cases e
      exact am_icmp_ge hf (fun z => absurd z hc) (fun _ => k)
theorem am_s_if_ond_gt {pc' kc1 ks1 : Nat} {ls' : List (Option Value)} {st' : List Value} {h' : am_H} {u1 : Int} {a b w : Nat} (hf : am_fetch M pc = some (.ifCond .gt u1, 3, a, b, w)) (e : am_step M pc ls st h = some (pc', ls', st', h', kc1, ks1)) (k : am_T l d M pc' ls' st' h' kc ks Q) : am_T l d M pc ls st h (kc + kc1) (ks + ks1) Q := by
    unfold am_step at e
    rw [hf] at e
    simp only at e
    obtain ⟨x, r, hst, e1⟩ := am_p1_s e; clear e; subst hst; have e := e1; clear e1
    split at e
    · next hc =>
      cases e
      exact am_if_gt hf (fun _ => k) (fun z => absurd hc z)
    · next hc =>
      cases e
      exact am_if_gt hf (fun z => absurd z hc) (fun _ => k)
theorem am_s_if_icmp_gt {pc' kc1 ks1 : Nat} {ls' : List (Option Value)} {st' : List Value} {h' : am_H} {u1 : Int} {a b w : Nat} (hf : am_fetch M pc = some (.if_icmp .gt u1, 3, a, b, w)) (e : am_step M pc ls st h = some (pc', ls', st', h', kc1, ks1)) (k : am_T l d M pc' ls' st' h' kc ks Q) : am_T l d M pc ls st h (kc + kc1) (ks + ks1) Q := by
    unfold am_step at e
    rw [hf] at e
    simp only at e
    obtain ⟨x, y, r, hst, e1⟩ := am_p2_s e; clear e; subst hst; have e := e1; clear e1
    split at e
    · next hc =>
      cases e
      exact am_icmp_gt hf (fun _ => k) (fun z => absurd hc z)
    · next hc =>
      cases e
      exact am_icmp_gt hf (fun z => absurd z hc) (fun _ => k)
theorem am_s_if_ond_le {pc' kc1 ks1 : Nat} {ls' : List (Option Value)} {st' : List Value} {h' : am_H} {u1 : Int} {a b w : Nat} (hf : am_fetch M pc = some (.ifCond .le u1, 3, a, b, w)) (e : am_step M pc ls st h = some (pc', ls', st', h', kc1, ks1)) (k : am_T l d M pc' ls' st' h' kc ks Q) : am_T l d M pc ls st h (kc + kc1) (ks + ks1) Q := by
    unfold am_step at e
    rw [hf] at e
    simp only at e
    obtain ⟨x, r, hst, e1⟩ := am_p1_s e; clear e; subst hst; have e := e1; clear e1
    split at e
    · next hc =>
      cases e
      exact am_if_le hf (fun _ => k) (fun z => absurd hc z)
    · next hc =>
      cases e
      exact am_if_le hf (fun z => absurd z hc) (fun _ => k)
theorem am_s_if_icmp_le {pc' kc1 ks1 : Nat} {ls' : List (Option Value)} {st' : List Value} {h' : am_H} {u1 : Int} {a b w : Nat} (hf : am_fetch M pc = some (.if_icmp .le u1, 3, a, b, w)) (e : am_step M pc ls st h = some (pc', ls', st', h', kc1, ks1)) (k : am_T l d M pc' ls' st' h' kc ks Q) : am_T l d M pc ls st h (kc + kc1) (ks + ks1) Q := by
    unfold am_step at e
    rw [hf] at e
    simp only at e
    obtain ⟨x, y, r, hst, e1⟩ := am_p2_s e; clear e; subst hst; have e := e1; clear e1
    split at e
    · next hc =>
      cases e
      exact am_icmp_le hf (fun _ => k) (fun z => absurd hc z)
    · next hc =>
      cases e
      exact am_icmp_le hf (fun z => absurd z hc) (fun _ => k)
theorem am_s_getfield {pc' kc1 ks1 : Nat} {ls' : List (Option Value)} {st' : List Value} {h' : am_H} {u0 : Nat} {a b w : Nat} (hf : am_fetch M pc = some (.getfield u0, 3, a, b, w)) (e : am_step M pc ls st h = some (pc', ls', st', h', kc1, ks1)) (k : am_T l d M pc' ls' st' h' kc ks Q) : am_T l d M pc ls st h (kc + kc1) (ks + ks1) Q := by
    unfold am_step at e
    rw [hf] at e
    simp only at e
    obtain ⟨o, r, hst, e1⟩ := am_r1_s e; clear e; subst hst; have e := e1; clear e1
    obtain ⟨x, n, hh, hx, e⟩ := am_obj_s e
    cases e
    exact am_get hf hh hx rfl k
theorem am_s_putfield {pc' kc1 ks1 : Nat} {ls' : List (Option Value)} {st' : List Value} {h' : am_H} {u0 : Nat} {a b w : Nat} (hf : am_fetch M pc = some (.putfield u0, 3, a, b, w)) (e : am_step M pc ls st h = some (pc', ls', st', h', kc1, ks1)) (k : am_T l d M pc' ls' st' h' kc ks Q) : am_T l d M pc ls st h (kc + kc1) (ks + ks1) Q := by
    unfold am_step at e
    rw [hf] at e
    simp only at e
    obtain ⟨v, r1, hst, e1⟩ := am_v1_s e; clear e; subst hst; have e := e1; clear e1
    obtain ⟨o, r, hst, e1⟩ := am_r1_s e; clear e; subst hst; have e := e1; clear e1
    obtain ⟨x, n, hh, hx, e⟩ := am_obj_s e
    split at e
    · next hc =>
      cases e
      exact am_put hf hh hx hc k
    · cases e
theorem am_s_iaload {pc' kc1 ks1 : Nat} {ls' : List (Option Value)} {st' : List Value} {h' : am_H} {a b w : Nat} (hf : am_fetch M pc = some (.iaload, 1, a, b, w)) (e : am_step M pc ls st h = some (pc', ls', st', h', kc1, ks1)) (k : am_T l d M pc' ls' st' h' kc ks Q) : am_T l d M pc ls st h (kc + kc1) (ks + ks1) Q := by
    unfold am_step at e
    rw [hf] at e
    simp only at e
    obtain ⟨i, r1, hst, e1⟩ := am_p1_s e; clear e; subst hst; have e := e1; clear e1
    obtain ⟨o, r, hst, e1⟩ := am_r1_s e; clear e; subst hst; have e := e1; clear e1
    obtain ⟨x, t, n, hh, hx, ht, hin, e⟩ := am_arr_s e
    cases e
    exact am_iaload hf hh hx ht hin k
theorem am_s_caload {pc' kc1 ks1 : Nat} {ls' : List (Option Value)} {st' : List Value} {h' : am_H} {a b w : Nat} (hf : am_fetch M pc = some (.caload, 1, a, b, w)) (e : am_step M pc ls st h = some (pc', ls', st', h', kc1, ks1)) (k : am_T l d M pc' ls' st' h' kc ks Q) : am_T l d M pc ls st h (kc + kc1) (ks + ks1) Q := by
    unfold am_step at e
    rw [hf] at e
    simp only at e
    obtain ⟨i, r1, hst, e1⟩ := am_p1_s e; clear e; subst hst; have e := e1; clear e1
    obtain ⟨o, r, hst, e1⟩ := am_r1_s e; clear e; subst hst; have e := e1; clear e1
    obtain ⟨x, t, n, hh, hx, ht, hin, e⟩ := am_arr_s e
    cases e
    exact am_caload hf hh hx ht hin k
theorem am_s_baload {pc' kc1 ks1 : Nat} {ls' : List (Option Value)} {st' : List Value} {h' : am_H} {a b w : Nat} (hf : am_fetch M pc = some (.baload, 1, a, b, w)) (e : am_step M pc ls st h = some (pc', ls', st', h', kc1, ks1)) (k : am_T l d M pc' ls' st' h' kc ks Q) : am_T l d M pc ls st h (kc + kc1) (ks + ks1) Q := by
    unfold am_step at e
    rw [hf] at e
    simp only at e
    obtain ⟨i, r1, hst, e1⟩ := am_p1_s e; clear e; subst hst; have e := e1; clear e1
    obtain ⟨o, r, hst, e1⟩ := am_r1_s e; clear e; subst hst; have e := e1; clear e1
    obtain ⟨x, t, n, hh, hx, ht, hin, e⟩ := am_arr_s e
    cases e
    exact am_baload hf hh hx ht hin k
theorem am_s_laload {pc' kc1 ks1 : Nat} {ls' : List (Option Value)} {st' : List Value} {h' : am_H} {a b w : Nat} (hf : am_fetch M pc = some (.laload, 1, a, b, w)) (e : am_step M pc ls st h = some (pc', ls', st', h', kc1, ks1)) (k : am_T l d M pc' ls' st' h' kc ks Q) : am_T l d M pc ls st h (kc + kc1) (ks + ks1) Q := by
    unfold am_step at e
    rw [hf] at e
    simp only at e
    obtain ⟨i, r1, hst, e1⟩ := am_p1_s e; clear e; subst hst; have e := e1; clear e1
    obtain ⟨o, r, hst, e1⟩ := am_r1_s e; clear e; subst hst; have e := e1; clear e1
    obtain ⟨x, t, n, hh, hx, ht, hin, e⟩ := am_arr_s e
    cases e
    exact am_laload hf hh hx ht hin k
theorem am_s_iastore {pc' kc1 ks1 : Nat} {ls' : List (Option Value)} {st' : List Value} {h' : am_H} {a b w : Nat} (hf : am_fetch M pc = some (.iastore, 1, a, b, w)) (e : am_step M pc ls st h = some (pc', ls', st', h', kc1, ks1)) (k : am_T l d M pc' ls' st' h' kc ks Q) : am_T l d M pc ls st h (kc + kc1) (ks + ks1) Q := by
    unfold am_step at e
    rw [hf] at e
    simp only at e
    obtain ⟨v, r2, hst, e1⟩ := am_p1_s e; clear e; subst hst; have e := e1; clear e1
    obtain ⟨i, r1, hst, e1⟩ := am_p1_s e; clear e; subst hst; have e := e1; clear e1
    obtain ⟨o, r, hst, e1⟩ := am_r1_s e; clear e; subst hst; have e := e1; clear e1
    obtain ⟨x, t, n, hh, hx, ht, hin, e⟩ := am_arr_s e
    cases e
    exact am_iastore hf hh hx ht hin k
theorem am_s_castore {pc' kc1 ks1 : Nat} {ls' : List (Option Value)} {st' : List Value} {h' : am_H} {a b w : Nat} (hf : am_fetch M pc = some (.castore, 1, a, b, w)) (e : am_step M pc ls st h = some (pc', ls', st', h', kc1, ks1)) (k : am_T l d M pc' ls' st' h' kc ks Q) : am_T l d M pc ls st h (kc + kc1) (ks + ks1) Q := by
    unfold am_step at e
    rw [hf] at e
    simp only at e
    obtain ⟨v, r2, hst, e1⟩ := am_p1_s e; clear e; subst hst; have e := e1; clear e1
    obtain ⟨i, r1, hst, e1⟩ := am_p1_s e; clear e; subst hst; have e := e1; clear e1
    obtain ⟨o, r, hst, e1⟩ := am_r1_s e; clear e; subst hst; have e := e1; clear e1
    obtain ⟨x, t, n, hh, hx, ht, hin, e⟩ := am_arr_s e
    cases e
    exact am_castore hf hh hx ht hin k
theorem am_s_bastore {pc' kc1 ks1 : Nat} {ls' : List (Option Value)} {st' : List Value} {h' : am_H} {a b w : Nat} (hf : am_fetch M pc = some (.bastore, 1, a, b, w)) (e : am_step M pc ls st h = some (pc', ls', st', h', kc1, ks1)) (k : am_T l d M pc' ls' st' h' kc ks Q) : am_T l d M pc ls st h (kc + kc1) (ks + ks1) Q := by
    unfold am_step at e
    rw [hf] at e
    simp only at e
    obtain ⟨v, r2, hst, e1⟩ := am_p1_s e; clear e; subst hst; have e := e1; clear e1
    obtain ⟨i, r1, hst, e1⟩ := am_p1_s e; clear e; subst hst; have e := e1; clear e1
    obtain ⟨o, r, hst, e1⟩ := am_r1_s e; clear e; subst hst; have e := e1; clear e1
    obtain ⟨x, t, n, hh, hx, ht, hin, e⟩ := am_arr_s e
    cases e
    exact am_bastore hf hh hx ht hin k
theorem am_s_lastore {pc' kc1 ks1 : Nat} {ls' : List (Option Value)} {st' : List Value} {h' : am_H} {a b w : Nat} (hf : am_fetch M pc = some (.lastore, 1, a, b, w)) (e : am_step M pc ls st h = some (pc', ls', st', h', kc1, ks1)) (k : am_T l d M pc' ls' st' h' kc ks Q) : am_T l d M pc ls st h (kc + kc1) (ks + ks1) Q := by
    unfold am_step at e
    rw [hf] at e
    simp only at e
    obtain ⟨v, r2, hst, e1⟩ := am_q1_s e; clear e; subst hst; have e := e1; clear e1
    obtain ⟨i, r1, hst, e1⟩ := am_p1_s e; clear e; subst hst; have e := e1; clear e1
    obtain ⟨o, r, hst, e1⟩ := am_r1_s e; clear e; subst hst; have e := e1; clear e1
    obtain ⟨x, t, n, hh, hx, ht, hin, e⟩ := am_arr_s e
    cases e
    exact am_lastore hf hh hx ht hin k
theorem am_s_new {pc' kc1 ks1 : Nat} {ls' : List (Option Value)} {st' : List Value} {h' : am_H} {u0 : Nat} {a b w : Nat} (hf : am_fetch M pc = some (.new u0, 3, a, b, w)) (e : am_step M pc ls st h = some (pc', ls', st', h', kc1, ks1)) (k : am_T l d M pc' ls' st' h' kc ks Q) : am_T l d M pc ls st h (kc + kc1) (ks + ks1) Q := by
    unfold am_step at e
    rw [hf] at e
    simp only at e
    cases e
    exact am_newobj hf k
theorem am_s_newarray {pc' kc1 ks1 : Nat} {ls' : List (Option Value)} {st' : List Value} {h' : am_H} {u0 : Jvm.ClassFile.ArrayType} {a b w : Nat} (hf : am_fetch M pc = some (.newarray u0, 2, a, b, w)) (e : am_step M pc ls st h = some (pc', ls', st', h', kc1, ks1)) (k : am_T l d M pc' ls' st' h' kc ks Q) : am_T l d M pc ls st h (kc + kc1) (ks + ks1) Q := by
    unfold am_step at e
    rw [hf] at e
    simp only at e
    obtain ⟨i, r, hst, e1⟩ := am_p1_s e; clear e; subst hst; have e := e1; clear e1
    split at e
    · next hc =>
      cases e
      exact am_newarr hf (am_nneg hc.1) rfl (am_small hc) k
    · cases e
theorem am_s_anewarray {pc' kc1 ks1 : Nat} {ls' : List (Option Value)} {st' : List Value} {h' : am_H} {u0 : Nat} {a b w : Nat} (hf : am_fetch M pc = some (.anewarray u0, 3, a, b, w)) (e : am_step M pc ls st h = some (pc', ls', st', h', kc1, ks1)) (k : am_T l d M pc' ls' st' h' kc ks Q) : am_T l d M pc ls st h (kc + kc1) (ks + ks1) Q := by
    unfold am_step at e
    rw [hf] at e
    simp only at e
    obtain ⟨i, r, hst, e1⟩ := am_p1_s e; clear e; subst hst; have e := e1; clear e1
    split at e
    · next hc =>
      cases e
      exact am_newref hf (am_nneg hc.1) rfl (am_small hc) k
    · cases e
theorem am_s_aastore {pc' kc1 ks1 : Nat} {ls' : List (Option Value)} {st' : List Value} {h' : am_H} {a b w : Nat} (hf : am_fetch M pc = some (.aastore, 1, a, b, w)) (e : am_step M pc ls st h = some (pc', ls', st', h', kc1, ks1)) (k : am_T l d M pc' ls' st' h' kc ks Q) : am_T l d M pc ls st h (kc + kc1) (ks + ks1) Q := by
    unfold am_step at e
    rw [hf] at e
    simp only at e
    obtain ⟨v, r2, hst, e1⟩ := am_r1_s e; clear e; subst hst; have e := e1; clear e1
    obtain ⟨i, r1, hst, e1⟩ := am_p1_s e; clear e; subst hst; have e := e1; clear e1
    obtain ⟨o, r, hst, e1⟩ := am_r1_s e; clear e; subst hst; have e := e1; clear e1
    split at e
    · next y hy =>
      split at e
      · next q hq =>
        split at e
        · next hc =>
          obtain ⟨x, t, n, hh, hx, ht, hin, e⟩ := am_arr_s e
          cases e
          exact am_aastore hf hh hx hq ht hy (n2 := y.1.2.2) (Prod.ext hc rfl) hin k
        · cases e
      · cases e
    · cases e
theorem am_s_aaload {pc' kc1 ks1 : Nat} {ls' : List (Option Value)} {st' : List Value} {h' : am_H} {a b w : Nat} (hf : am_fetch M pc = some (.aaload, 1, a, b, w)) (e : am_step M pc ls st h = some (pc', ls', st', h', kc1, ks1)) (k : am_T l d M pc' ls' st' h' kc ks Q) : am_T l d M pc ls st h (kc + kc1) (ks + ks1) Q := by
    unfold am_step at e
    rw [hf] at e
    simp only at e
    obtain ⟨i, r1, hst, e1⟩ := am_p1_s e; clear e; subst hst; have e := e1; clear e1
    obtain ⟨o, r, hst, e1⟩ := am_r1_s e; clear e; subst hst; have e := e1; clear e1
    split at e
    · next y hy =>
      split at e
      · next C hC =>
        obtain ⟨x, t, n, hh, hx, ht, hin, e⟩ := am_arr_s e
        cases e
        exact am_aaload hf hh hx ht hin rfl k
      · cases e
    · cases e
end AMS
