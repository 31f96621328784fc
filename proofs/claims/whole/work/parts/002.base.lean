/-! the abstract machine: its words -/
abbrev am_I : Type := Jvm.ClassFile.Instr × Nat × Nat × Nat × Nat
abbrev am_M : Type := (Nat × Bool × String × String) × ByteArray × Nat × Option FieldType × List (List (Option am_I)) × List (List Nat)
def am_fetch (M : am_M) (pc : Nat) : Option am_I := match M.2.2.2.2.1[pc / 16]? with
  | some r => match r[pc % 16]? with
    | some o => o
    | none => none
  | none => none
/-- a cell: (is an array, class or array type, length), ints, longs, references -/
abbrev am_C : Type := (Bool × Nat × Nat) × (Nat → Int32) × (Nat → Int64) × (Nat → Option Nat)
abbrev am_H : Type := List am_C
/-- an abstract reference is a place in the abstract heap -/
def am_v (B : Nat) (v : Value) : Value := match v with
  | .ref k => .ref (B + k)
  | .int x => .int x
  | .long x => .long x
  | .null => .null
  | .float x => .float x
  | .double x => .double x
  | .retAddr x => .retAddr x
theorem am_v_cat (B : Nat) (v : Value) : (am_v B v).category = v.category := by cases v <;> rfl
theorem am_v_rf (B : Nat) (o : Option Nat) : am_v B (va_rf o) = va_rf (o.map (fun k => B + k)) := by cases o <;> rfl
theorem am_v_sum (B : Nat) (st : List Value) : ((st.map (am_v B)).map fun v => v.category).sum = (st.map fun v => v.category).sum := by
  rw [List.map_map]
  congr 1
  apply List.map_congr_left
  intro v _
  exact am_v_cat B v
def am_gI (v : Value) : Int32 := match v with
  | .int x => x
  | _ => 0
def am_gL (v : Value) : Int64 := match v with
  | .long x => x
  | _ => 0
def am_gR (v : Value) : Option Nat := match v with
  | .ref k => some k
  | _ => none
/-- what a slot of a type holds -/
def am_sv (ty : FieldType) (c : am_C) (j : Nat) : Value := match ty with
  | .long => .long (c.2.2.1 j)
  | .object _ => va_rf (c.2.2.2 j)
  | .array _ => va_rf (c.2.2.2 j)
  | _ => .int (c.2.1 j)
def am_wr (ty : FieldType) (c : am_C) (j : Nat) (v : Value) : am_C := match ty with
  | .long => (c.1, c.2.1, va_up c.2.2.1 j (am_gL v), c.2.2.2)
  | .object _ => (c.1, c.2.1, c.2.2.1, va_up c.2.2.2 j (am_gR v))
  | .array _ => (c.1, c.2.1, c.2.2.1, va_up c.2.2.2 j (am_gR v))
  | _ => (c.1, va_up c.2.1 j (am_gI v), c.2.2.1, c.2.2.2)
theorem am_wr_1 (ty : FieldType) (c : am_C) (j : Nat) (v : Value) : (am_wr ty c j v).1 = c.1 := by cases ty <;> rfl
theorem am_sv_ne (ty ty' : FieldType) (c : am_C) (j i : Nat) (v : Value) (h : i ≠ j) : am_sv ty' (am_wr ty c j v) i = am_sv ty' c i := by
  cases ty <;> cases ty' <;> simp [am_sv, am_wr, va_up, h]
/-- the values that a slot of a type may get -/
def am_fit (ty : FieldType) (v : Value) : Bool := match ty, v with
  | .long, .long _ => true
  | .int, .int _ => true
  | .boolean, .int x => x == 0 || x == 1
  | .char, .int x => 0 ≤ x && x ≤ 65535
  | .object _, .ref _ => true
  | .object _, .null => true
  | .array _, .ref _ => true
  | .array _, .null => true
  | _, _ => false
theorem am_fit_sv {ty : FieldType} {v : Value} (h : am_fit ty v = true) (c : am_C) (j : Nat) : am_sv ty (am_wr ty c j v) j = v := by
  cases ty <;> cases v <;> simp [am_fit] at h <;> simp [am_sv, am_wr, va_up, am_gI, am_gL, am_gR, va_rf]
theorem am_fit_fits {ty : FieldType} {v : Value} (B : Nat) (h : am_fit ty v = true) : fits ty (am_v B v) = true := by
  cases ty <;> cases v <;> simp [am_fit] at h <;> simp [fits, am_v, h]
theorem am_char_nar {x : Int32} (h1 : 0 ≤ x) (h2 : x ≤ 65535) : vp_nar .char x = x := by
  have e : vp_nar .char x = (x.toUInt32 % 65536).toInt32 := rfl
  rw [e]
  have a1 : (0 : Int) ≤ x.toInt := by simpa using Int32.le_iff_toInt_le.mp h1
  have a2 : x.toInt ≤ 65535 := by simpa using Int32.le_iff_toInt_le.mp h2
  exact lg_i2c_word a1 (by omega)
/-- locals: a value that is known, or none -/
def am_big (o : Option (Option Value)) : Bool := match o with
  | some (some (.long _)) => true
  | some (some (.double _)) => true
  | _ => false
def am_kill (ls : List (Option Value)) (i : Nat) : List (Option Value) := match i with
  | 0 => ls
  | j + 1 => match am_big ls[j]? with
    | true => ls.set j none
    | false => ls
def am_set1 (ls : List (Option Value)) (i : Nat) (v : Value) : List (Option Value) := (am_kill ls i).set i (some v)
def am_set2 (ls : List (Option Value)) (i : Nat) (v : Value) : List (Option Value) := ((am_kill ls i).set (i + 1) none).set i (some v)
def am_sl (args : List Value) : List (Option Value) := args.flatMap fun v => if v.category = 2 then [some v, none] else [some v]
def am_entry (n : Nat) (args : List Value) : List (Option Value) := am_sl args ++ List.replicate (n - (am_sl args).length) none
theorem am_fit_narrow {ty : FieldType} {v : Value} (B : Nat) (h : am_fit ty v = true) : narrow ty (am_v B v) = am_v B v := by
  cases ty <;> cases v <;> simp [am_fit] at h <;> first
    | rfl
    | (rcases h with h | h <;> subst h <;> rfl)
    | exact congrArg Value.int (am_char_nar h.1 h.2)
/-- what comes new: nothing but zeros -/
def am_new (k : Bool × Nat × Nat) : am_C := (k, fun _ => 0, fun _ => 0, fun _ => none)
theorem am_def {ty : FieldType} (h : ty ≠ .float ∧ ty ≠ .double) (B : Nat) (k : Bool × Nat × Nat) (j : Nat) : defaultValue ty = am_v B (am_sv ty (am_new k) j) := by
  cases ty <;> first | rfl | exact absurd rfl h.1 | exact absurd rfl h.2
