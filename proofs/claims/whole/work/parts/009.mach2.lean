/-! the abstract machine: its judgement and its rules -/
def am_X (d : Nat) (M : am_M) (ls : List (Option Value)) (h : am_H) (kc ks : Nat) (p : Program) (R : Room) (s : State) (m : MethodId) (args : Array Value) (meth : Method) (c : Code) (D : va_G) (dA : Nat → ClassId) (B : Nat) (H : Heap) (locs : List Loc) (cells slots : Nat) (lc : Array Slot) : Prop :=
  (am_ok M = true ∧ p.tables.exec = Jvm.exec ∧ c.code = M.2.1 ∧ c.maxLocals = M.2.2.1 ∧ meth.sig.returnType = M.2.2.2.1 ∧ meth.locks = false ∧ meth.name = (am_y M).name ∧ s.vm.findClass (am_y M).cls = some m.cls ∧ (∀ w ∈ am_ws, w.before args s = true) ∧ am_E D dA s ∧ d ≤ R.frames ∧ d * 64 ≤ R.locals) ∧
  am_W D dA B h H ∧ B ≤ s.heap.size ∧ (∀ q : Nat, q < B → H[q]? = s.heap[q]?) ∧ (∀ q ∈ locs, B ≤ q.base) ∧ am_L B M.2.2.1 ls lc ∧ cells + kc ≤ R.cells ∧ slots + ks ≤ R.slots
def am_Q (D : va_G) (dA : Nat → ClassId) (B : Nat) (Q : Option Value → am_H → Prop) : Array Value → State → Outcome → State → Prop := fun _ s0 oc t =>
  (∃ (r : Option Value) (h' : am_H), Q r h' ∧ oc = .returned (r.map (am_v B)) ∧ am_W D dA B h' t.heap) ∧ ∀ q : Nat, q < B → t.heap[q]? = s0.heap[q]?
def am_T (l : Launch) (d : Nat) (M : am_M) (pc : Nat) (ls : List (Option Value)) (st : List Value) (h : am_H) (kc ks : Nat) (Q : Option Value → am_H → Prop) : Prop :=
  ∀ (p : Program) (e : Env) (R : Room) (s : State) (m : MethodId) (args : Array Value) (below : List Frame) (meth : Method) (c : Code) (D : va_G) (dA : Nat → ClassId) (B : Nat) (H : Heap) (locs : List Loc) (cells slots : Nat) (lc : Array Slot),
    am_X d M ls h kc ks p R s m args meth c D dA B H locs cells slots lc →
    W p l e R s m args below meth c H locs cells slots (MQ below (am_Q D dA B Q) args s R.cells R.slots (fun q => B ≤ q)) (F0 m pc lc (st.map (am_v B)))
section AMX
variable {d : Nat} {M : am_M} {ls : List (Option Value)} {h : am_H} {kc ks : Nat} {p : Program} {R : Room} {s : State} {m : MethodId} {args : Array Value} {meth : Method} {c : Code} {D : va_G} {dA : Nat → ClassId} {B : Nat} {H : Heap} {locs : List Loc} {cells slots : Nat} {lc : Array Slot}
theorem am_X.ok (X : am_X d M ls h kc ks p R s m args meth c D dA B H locs cells slots lc) : am_ok M = true := X.1.1
theorem am_X.exec (X : am_X d M ls h kc ks p R s m args meth c D dA B H locs cells slots lc) : p.tables.exec = Jvm.exec := X.1.2.1
theorem am_X.bytes (X : am_X d M ls h kc ks p R s m args meth c D dA B H locs cells slots lc) : c.code = M.2.1 := X.1.2.2.1
theorem am_X.maxl (X : am_X d M ls h kc ks p R s m args meth c D dA B H locs cells slots lc) : c.maxLocals = M.2.2.1 := X.1.2.2.2.1
theorem am_X.ret (X : am_X d M ls h kc ks p R s m args meth c D dA B H locs cells slots lc) : meth.sig.returnType = M.2.2.2.1 := X.1.2.2.2.2.1
theorem am_X.locks (X : am_X d M ls h kc ks p R s m args meth c D dA B H locs cells slots lc) : meth.locks = false := X.1.2.2.2.2.2.1
theorem am_X.name (X : am_X d M ls h kc ks p R s m args meth c D dA B H locs cells slots lc) : meth.name = (am_y M).name := X.1.2.2.2.2.2.2.1
theorem am_X.own (X : am_X d M ls h kc ks p R s m args meth c D dA B H locs cells slots lc) : s.vm.findClass (am_y M).cls = some m.cls := X.1.2.2.2.2.2.2.2.1
theorem am_X.hts (X : am_X d M ls h kc ks p R s m args meth c D dA B H locs cells slots lc) : ∀ w ∈ am_ws, w.before args s = true := X.1.2.2.2.2.2.2.2.2.1
theorem am_X.env (X : am_X d M ls h kc ks p R s m args meth c D dA B H locs cells slots lc) : am_E D dA s := X.1.2.2.2.2.2.2.2.2.2.1
theorem am_X.fr (X : am_X d M ls h kc ks p R s m args meth c D dA B H locs cells slots lc) : d ≤ R.frames := X.1.2.2.2.2.2.2.2.2.2.2.1
theorem am_X.lo (X : am_X d M ls h kc ks p R s m args meth c D dA B H locs cells slots lc) : d * 64 ≤ R.locals := X.1.2.2.2.2.2.2.2.2.2.2.2
theorem am_X.w (X : am_X d M ls h kc ks p R s m args meth c D dA B H locs cells slots lc) : am_W D dA B h H := X.2.1
theorem am_X.bs (X : am_X d M ls h kc ks p R s m args meth c D dA B H locs cells slots lc) : B ≤ s.heap.size := X.2.2.1
theorem am_X.old (X : am_X d M ls h kc ks p R s m args meth c D dA B H locs cells slots lc) : ∀ q : Nat, q < B → H[q]? = s.heap[q]? := X.2.2.2.1
theorem am_X.hloc (X : am_X d M ls h kc ks p R s m args meth c D dA B H locs cells slots lc) : ∀ q ∈ locs, B ≤ q.base := X.2.2.2.2.1
theorem am_X.l (X : am_X d M ls h kc ks p R s m args meth c D dA B H locs cells slots lc) : am_L B M.2.2.1 ls lc := X.2.2.2.2.2.1
theorem am_X.hkc (X : am_X d M ls h kc ks p R s m args meth c D dA B H locs cells slots lc) : cells + kc ≤ R.cells := X.2.2.2.2.2.2.1
theorem am_X.hks (X : am_X d M ls h kc ks p R s m args meth c D dA B H locs cells slots lc) : slots + ks ≤ R.slots := X.2.2.2.2.2.2.2
theorem am_X.dec (X : am_X d M ls h kc ks p R s m args meth c D dA B H locs cells slots lc) {pc : Nat} {I : Jvm.ClassFile.Instr} {n : Nat} {x : Nat × Nat × Nat} (hf : am_fetch M pc = some (I, n, x)) : decode M.2.1 pc = .ok (I, n) := am_dec X.1.1 hf
theorem am_X.loc (X : am_X d M ls h kc ks p R s m args meth c D dA B H locs cells slots lc) {i : Nat} {v : Value} (hl : ls[i]? = some (some v)) : lc[i]? = some (.val (am_v B v)) := X.2.2.2.2.2.1.2.2.2 (i, am_v B v) (am_lv_mem hl)
theorem am_X.lsz (X : am_X d M ls h kc ks p R s m args meth c D dA B H locs cells slots lc) : lc.size = M.2.2.1 := X.2.2.2.2.2.1.2.1
theorem am_X.word (X : am_X d M ls h kc ks p R s m args meth c D dA B H locs cells slots lc) {i : Nat} {w : Nat × Nat × Nat × Nat} (h : am_wat i = some w) : (am_wi w).before args s = true := X.hts _ (am_wat_mem h)
theorem am_X.toL (X : am_X d M ls h kc ks p R s m args meth c D dA B H locs cells slots lc) {ls' : List (Option Value)} {lc' : Array Slot} (hl : am_L B M.2.2.1 ls' lc') : am_X d M ls' h kc ks p R s m args meth c D dA B H locs cells slots lc' := ⟨X.1, X.2.1, X.2.2.1, X.2.2.2.1, X.2.2.2.2.1, hl, X.2.2.2.2.2.2.1, X.2.2.2.2.2.2.2⟩
theorem am_X.toH (X : am_X d M ls h kc ks p R s m args meth c D dA B H locs cells slots lc) {h' : am_H} {H' : Heap} {locs' : List Loc} (hw : am_W D dA B h' H') (ho : ∀ q : Nat, q < B → H'[q]? = H[q]?) (hl : ∀ q ∈ locs', B ≤ q.base) : am_X d M ls h' kc ks p R s m args meth c D dA B H' locs' cells slots lc := ⟨X.1, hw, X.2.2.1, fun q hq => (ho q hq).trans (X.2.2.2.1 q hq), hl, X.2.2.2.2.2.1, X.2.2.2.2.2.2.1, X.2.2.2.2.2.2.2⟩
theorem am_X.locs1 (X : am_X d M ls h kc ks p R s m args meth c D dA B H locs cells slots lc) {a k : Nat} : ∀ q ∈ locs ++ [(⟨B + a, k⟩ : Loc)], B ≤ q.base := by
  intro q hq
  rcases List.mem_append.mp hq with h | h
  · exact X.hloc q h
  · rw [List.mem_singleton.mp h]
    exact Nat.le_add_right _ _
end AMX
section AMR
variable {l : Launch} {d : Nat} {M : am_M} {pc : Nat} {ls : List (Option Value)} {st : List Value} {h : am_H} {kc ks : Nat} {Q : Option Value → am_H → Prop} {z : Nat × Nat × Nat}
/-- less may be known of the locals -/
theorem am_less {ls' : List (Option Value)} (hn : ls'.length = ls.length) (hl : ∀ (i : Nat) (v : Value), ls'[i]? = some (some v) → ls[i]? = some (some v)) (k : am_T l d M pc ls' st h kc ks Q) : am_T l d M pc ls st h kc ks Q :=
  fun p e R s m args below meth c D dA B H locs cells slots lc X => k p e R s m args below meth c D dA B H locs cells slots lc (X.toL (X.l.less (by rw [hn]; exact X.l.1) hl))
theorem am_T.to {Q' : Option Value → am_H → Prop} (k : am_T l d M pc ls st h kc ks Q) (hq : ∀ r h', Q r h' → Q' r h') : am_T l d M pc ls st h kc ks Q' := by
  intro p e R s m args below meth c D dA B H locs cells slots lc X T hT S
  obtain ⟨t, a, o, b1, b2, ⟨⟨r, h', g1, g2, g3⟩, b4⟩, b5⟩ := k p e R s m args below meth c D dA B H locs cells slots lc X T hT S
  exact ⟨t, a, o, b1, b2, ⟨⟨r, h', hq r h' g1, g2, g3⟩, b4⟩, b5⟩

theorem am_iadd {x y : Int32} (hf : am_fetch M pc = some (.iadd, 1, z)) (k : am_T l d M (pc + 1) ls (.int (x + y) :: st) h kc ks Q) : am_T l d M pc ls (.int y :: .int x :: st) h kc ks Q :=
  fun p e R s m args below meth c D dA B H locs cells slots lc X => lv_iadd X.exec X.bytes (X.dec hf) (k p e R s m args below meth c D dA B H locs cells slots lc X)
theorem am_isub {x y : Int32} (hf : am_fetch M pc = some (.isub, 1, z)) (k : am_T l d M (pc + 1) ls (.int (x - y) :: st) h kc ks Q) : am_T l d M pc ls (.int y :: .int x :: st) h kc ks Q :=
  fun p e R s m args below meth c D dA B H locs cells slots lc X => lv_isub X.exec X.bytes (X.dec hf) (k p e R s m args below meth c D dA B H locs cells slots lc X)
theorem am_imul {x y : Int32} (hf : am_fetch M pc = some (.imul, 1, z)) (k : am_T l d M (pc + 1) ls (.int (x * y) :: st) h kc ks Q) : am_T l d M pc ls (.int y :: .int x :: st) h kc ks Q :=
  fun p e R s m args below meth c D dA B H locs cells slots lc X => lv_imul X.exec X.bytes (X.dec hf) (k p e R s m args below meth c D dA B H locs cells slots lc X)
theorem am_iand {x y : Int32} (hf : am_fetch M pc = some (.iand, 1, z)) (k : am_T l d M (pc + 1) ls (.int (x &&& y) :: st) h kc ks Q) : am_T l d M pc ls (.int y :: .int x :: st) h kc ks Q :=
  fun p e R s m args below meth c D dA B H locs cells slots lc X => lv_iand X.exec X.bytes (X.dec hf) (k p e R s m args below meth c D dA B H locs cells slots lc X)
theorem am_ior {x y : Int32} (hf : am_fetch M pc = some (.ior, 1, z)) (k : am_T l d M (pc + 1) ls (.int (x ||| y) :: st) h kc ks Q) : am_T l d M pc ls (.int y :: .int x :: st) h kc ks Q :=
  fun p e R s m args below meth c D dA B H locs cells slots lc X => lv_ior X.exec X.bytes (X.dec hf) (k p e R s m args below meth c D dA B H locs cells slots lc X)
theorem am_ixor {x y : Int32} (hf : am_fetch M pc = some (.ixor, 1, z)) (k : am_T l d M (pc + 1) ls (.int (x ^^^ y) :: st) h kc ks Q) : am_T l d M pc ls (.int y :: .int x :: st) h kc ks Q :=
  fun p e R s m args below meth c D dA B H locs cells slots lc X => lv_ixor X.exec X.bytes (X.dec hf) (k p e R s m args below meth c D dA B H locs cells slots lc X)
theorem am_ladd {x y : Int64} (hf : am_fetch M pc = some (.ladd, 1, z)) (k : am_T l d M (pc + 1) ls (.long (x + y) :: st) h kc ks Q) : am_T l d M pc ls (.long y :: .long x :: st) h kc ks Q :=
  fun p e R s m args below meth c D dA B H locs cells slots lc X => lv_ladd X.exec X.bytes (X.dec hf) (k p e R s m args below meth c D dA B H locs cells slots lc X)
theorem am_lsub {x y : Int64} (hf : am_fetch M pc = some (.lsub, 1, z)) (k : am_T l d M (pc + 1) ls (.long (x - y) :: st) h kc ks Q) : am_T l d M pc ls (.long y :: .long x :: st) h kc ks Q :=
  fun p e R s m args below meth c D dA B H locs cells slots lc X => lv_lsub X.exec X.bytes (X.dec hf) (k p e R s m args below meth c D dA B H locs cells slots lc X)
theorem am_lmul {x y : Int64} (hf : am_fetch M pc = some (.lmul, 1, z)) (k : am_T l d M (pc + 1) ls (.long (x * y) :: st) h kc ks Q) : am_T l d M pc ls (.long y :: .long x :: st) h kc ks Q :=
  fun p e R s m args below meth c D dA B H locs cells slots lc X => lv_lmul X.exec X.bytes (X.dec hf) (k p e R s m args below meth c D dA B H locs cells slots lc X)
theorem am_land {x y : Int64} (hf : am_fetch M pc = some (.land, 1, z)) (k : am_T l d M (pc + 1) ls (.long (x &&& y) :: st) h kc ks Q) : am_T l d M pc ls (.long y :: .long x :: st) h kc ks Q :=
  fun p e R s m args below meth c D dA B H locs cells slots lc X => lv_land X.exec X.bytes (X.dec hf) (k p e R s m args below meth c D dA B H locs cells slots lc X)
theorem am_lor {x y : Int64} (hf : am_fetch M pc = some (.lor, 1, z)) (k : am_T l d M (pc + 1) ls (.long (x ||| y) :: st) h kc ks Q) : am_T l d M pc ls (.long y :: .long x :: st) h kc ks Q :=
  fun p e R s m args below meth c D dA B H locs cells slots lc X => lv_lor X.exec X.bytes (X.dec hf) (k p e R s m args below meth c D dA B H locs cells slots lc X)
theorem am_lxor {x y : Int64} (hf : am_fetch M pc = some (.lxor, 1, z)) (k : am_T l d M (pc + 1) ls (.long (x ^^^ y) :: st) h kc ks Q) : am_T l d M pc ls (.long y :: .long x :: st) h kc ks Q :=
  fun p e R s m args below meth c D dA B H locs cells slots lc X => lv_lxor X.exec X.bytes (X.dec hf) (k p e R s m args below meth c D dA B H locs cells slots lc X)
theorem am_ishl {x y : Int32} (hf : am_fetch M pc = some (.ishl, 1, z)) (k : am_T l d M (pc + 1) ls (.int (x <<< (y &&& 31)) :: st) h kc ks Q) : am_T l d M pc ls (.int y :: .int x :: st) h kc ks Q :=
  fun p e R s m args below meth c D dA B H locs cells slots lc X => lv_ishl X.exec X.bytes (X.dec hf) (k p e R s m args below meth c D dA B H locs cells slots lc X)
theorem am_ishr {x y : Int32} (hf : am_fetch M pc = some (.ishr, 1, z)) (k : am_T l d M (pc + 1) ls (.int (x >>> (y &&& 31)) :: st) h kc ks Q) : am_T l d M pc ls (.int y :: .int x :: st) h kc ks Q :=
  fun p e R s m args below meth c D dA B H locs cells slots lc X => lv_ishr X.exec X.bytes (X.dec hf) (k p e R s m args below meth c D dA B H locs cells slots lc X)
theorem am_iushr {x y v : Int32} (hf : am_fetch M pc = some (.iushr, 1, z)) (hv : (x.toUInt32 >>> (y.toUInt32 &&& Int32.toUInt32 31)).toInt32 = v) (k : am_T l d M (pc + 1) ls (.int v :: st) h kc ks Q) : am_T l d M pc ls (.int y :: .int x :: st) h kc ks Q :=
  fun p e R s m args below meth c D dA B H locs cells slots lc X => lv_iushr X.exec X.bytes (X.dec hf) hv (k p e R s m args below meth c D dA B H locs cells slots lc X)
theorem am_lshl {x v : Int64} {y : Int32} (hf : am_fetch M pc = some (.lshl, 1, z)) (hv : x <<< (y.toInt64 &&& 63) = v) (k : am_T l d M (pc + 1) ls (.long v :: st) h kc ks Q) : am_T l d M pc ls (.int y :: .long x :: st) h kc ks Q :=
  fun p e R s m args below meth c D dA B H locs cells slots lc X => lv_lshl X.exec X.bytes (X.dec hf) hv (k p e R s m args below meth c D dA B H locs cells slots lc X)
theorem am_lshr {x v : Int64} {y : Int32} (hf : am_fetch M pc = some (.lshr, 1, z)) (hv : x >>> (y.toInt64 &&& 63) = v) (k : am_T l d M (pc + 1) ls (.long v :: st) h kc ks Q) : am_T l d M pc ls (.int y :: .long x :: st) h kc ks Q :=
  fun p e R s m args below meth c D dA B H locs cells slots lc X => lv_lshr X.exec X.bytes (X.dec hf) hv (k p e R s m args below meth c D dA B H locs cells slots lc X)
theorem am_lushr {x v : Int64} {y : Int32} (hf : am_fetch M pc = some (.lushr, 1, z)) (hv : (x.toUInt64 >>> (y.toInt64.toUInt64 &&& Int64.toUInt64 63)).toInt64 = v) (k : am_T l d M (pc + 1) ls (.long v :: st) h kc ks Q) : am_T l d M pc ls (.int y :: .long x :: st) h kc ks Q :=
  fun p e R s m args below meth c D dA B H locs cells slots lc X => lv_lushr X.exec X.bytes (X.dec hf) hv (k p e R s m args below meth c D dA B H locs cells slots lc X)
theorem am_ineg {x : Int32} (hf : am_fetch M pc = some (.ineg, 1, z)) (k : am_T l d M (pc + 1) ls (.int (-x) :: st) h kc ks Q) : am_T l d M pc ls (.int x :: st) h kc ks Q :=
  fun p e R s m args below meth c D dA B H locs cells slots lc X => lv_ineg X.exec X.bytes (X.dec hf) (k p e R s m args below meth c D dA B H locs cells slots lc X)
theorem am_lneg {x : Int64} (hf : am_fetch M pc = some (.lneg, 1, z)) (k : am_T l d M (pc + 1) ls (.long (-x) :: st) h kc ks Q) : am_T l d M pc ls (.long x :: st) h kc ks Q :=
  fun p e R s m args below meth c D dA B H locs cells slots lc X => lv_lneg X.exec X.bytes (X.dec hf) (k p e R s m args below meth c D dA B H locs cells slots lc X)
theorem am_idiv {x y : Int32} (hf : am_fetch M pc = some (.idiv, 1, z)) (hne : ¬ y = 0) (k : am_T l d M (pc + 1) ls (.int (x / y) :: st) h kc ks Q) : am_T l d M pc ls (.int y :: .int x :: st) h kc ks Q :=
  fun p e R s m args below meth c D dA B H locs cells slots lc X => lv_idiv X.exec X.bytes (X.dec hf) hne (k p e R s m args below meth c D dA B H locs cells slots lc X)
theorem am_irem {x y : Int32} (hf : am_fetch M pc = some (.irem, 1, z)) (hne : ¬ y = 0) (k : am_T l d M (pc + 1) ls (.int (x - x / y * y) :: st) h kc ks Q) : am_T l d M pc ls (.int y :: .int x :: st) h kc ks Q :=
  fun p e R s m args below meth c D dA B H locs cells slots lc X => lv_irem X.exec X.bytes (X.dec hf) hne (k p e R s m args below meth c D dA B H locs cells slots lc X)
theorem am_i2l {x : Int32} {v : Int64} (hf : am_fetch M pc = some (.i2l, 1, z)) (hv : x.toInt64 = v) (k : am_T l d M (pc + 1) ls (.long v :: st) h kc ks Q) : am_T l d M pc ls (.int x :: st) h kc ks Q :=
  fun p e R s m args below meth c D dA B H locs cells slots lc X => lv_i2l X.exec X.bytes (X.dec hf) hv (k p e R s m args below meth c D dA B H locs cells slots lc X)
theorem am_l2i {x : Int64} {v : Int32} (hf : am_fetch M pc = some (.l2i, 1, z)) (hv : x.toInt32 = v) (k : am_T l d M (pc + 1) ls (.int v :: st) h kc ks Q) : am_T l d M pc ls (.long x :: st) h kc ks Q :=
  fun p e R s m args below meth c D dA B H locs cells slots lc X => lv_l2i X.exec X.bytes (X.dec hf) hv (k p e R s m args below meth c D dA B H locs cells slots lc X)
theorem am_i2c {x v : Int32} (hf : am_fetch M pc = some (.i2c, 1, z)) (hv : (x.toUInt32 % 65536).toInt32 = v) (k : am_T l d M (pc + 1) ls (.int v :: st) h kc ks Q) : am_T l d M pc ls (.int x :: st) h kc ks Q :=
  fun p e R s m args below meth c D dA B H locs cells slots lc X => lv_i2c X.exec X.bytes (X.dec hf) hv (k p e R s m args below meth c D dA B H locs cells slots lc X)
theorem am_lcmp {x y : Int64} (hf : am_fetch M pc = some (.lcmp, 1, z)) (k : am_T l d M (pc + 1) ls (.int (lg_cmp x y) :: st) h kc ks Q) : am_T l d M pc ls (.long y :: .long x :: st) h kc ks Q :=
  fun p e R s m args below meth c D dA B H locs cells slots lc X => W.lcmp X.exec X.bytes (X.dec hf) (k p e R s m args below meth c D dA B H locs cells slots lc X)
theorem am_iconst {n : Int} {v : Int32} (hf : am_fetch M pc = some (.iconst n, 1, z)) (hv : Int32.ofInt n = v) (k : am_T l d M (pc + 1) ls (.int v :: st) h kc ks Q) : am_T l d M pc ls (st) h kc ks Q :=
  fun p e R s m args below meth c D dA B H locs cells slots lc X => lv_iconst X.exec X.bytes (X.dec hf) hv (k p e R s m args below meth c D dA B H locs cells slots lc X)
theorem am_bipush {n : Int} {v : Int32} (hf : am_fetch M pc = some (.bipush n, 2, z)) (hv : (Int8.ofInt n).toInt32 = v) (k : am_T l d M (pc + 2) ls (.int v :: st) h kc ks Q) : am_T l d M pc ls (st) h kc ks Q :=
  fun p e R s m args below meth c D dA B H locs cells slots lc X => lv_bipush X.exec X.bytes (X.dec hf) hv (k p e R s m args below meth c D dA B H locs cells slots lc X)
theorem am_sipush {n : Int} {v : Int32} (hf : am_fetch M pc = some (.sipush n, 3, z)) (hv : (Int16.ofInt n).toInt32 = v) (k : am_T l d M (pc + 3) ls (.int v :: st) h kc ks Q) : am_T l d M pc ls (st) h kc ks Q :=
  fun p e R s m args below meth c D dA B H locs cells slots lc X => lv_sipush X.exec X.bytes (X.dec hf) hv (k p e R s m args below meth c D dA B H locs cells slots lc X)
theorem am_lconst {n : Fin 2} {v : Int64} (hf : am_fetch M pc = some (.lconst n, 1, z)) (hv : Int64.ofNat (n : Nat) = v) (k : am_T l d M (pc + 1) ls (.long v :: st) h kc ks Q) : am_T l d M pc ls (st) h kc ks Q :=
  fun p e R s m args below meth c D dA B H locs cells slots lc X => lv_lconst X.exec X.bytes (X.dec hf) hv (k p e R s m args below meth c D dA B H locs cells slots lc X)
theorem am_dup {v : Value} (hf : am_fetch M pc = some (.dup, 1, z)) (hv : v.category = 1) (k : am_T l d M (pc + 1) ls (v :: v :: st) h kc ks Q) : am_T l d M pc ls (v :: st) h kc ks Q :=
  fun p e R s m args below meth c D dA B H locs cells slots lc X => lv_dup X.exec X.bytes (X.dec hf) ((am_v_cat B v).trans hv) (k p e R s m args below meth c D dA B H locs cells slots lc X)
theorem am_pop {v : Value} (hf : am_fetch M pc = some (.pop, 1, z)) (hv : v.category = 1) (k : am_T l d M (pc + 1) ls st h kc ks Q) : am_T l d M pc ls (v :: st) h kc ks Q :=
  fun p e R s m args below meth c D dA B H locs cells slots lc X => lv_pop X.exec X.bytes (X.dec hf) ((am_v_cat B v).trans hv) (k p e R s m args below meth c D dA B H locs cells slots lc X)
theorem am_dup_x1 {v u : Value} (hf : am_fetch M pc = some (.dup_x1, 1, z)) (hv : v.category = 1) (hu : u.category = 1) (k : am_T l d M (pc + 1) ls (v :: u :: v :: st) h kc ks Q) : am_T l d M pc ls (v :: u :: st) h kc ks Q :=
  fun p e R s m args below meth c D dA B H locs cells slots lc X => lv_dup_x1 X.exec X.bytes (X.dec hf) ((am_v_cat B v).trans hv) ((am_v_cat B u).trans hu) (k p e R s m args below meth c D dA B H locs cells slots lc X)
theorem am_dup_x2 {v u t : Value} (hf : am_fetch M pc = some (.dup_x2, 1, z)) (hv : v.category = 1) (hu : u.category = 1) (ht : t.category = 1) (k : am_T l d M (pc + 1) ls (v :: u :: t :: v :: st) h kc ks Q) : am_T l d M pc ls (v :: u :: t :: st) h kc ks Q :=
  fun p e R s m args below meth c D dA B H locs cells slots lc X => lv_dup_x2 X.exec X.bytes (X.dec hf) ((am_v_cat B v).trans hv) ((am_v_cat B u).trans hu) ((am_v_cat B t).trans ht) (k p e R s m args below meth c D dA B H locs cells slots lc X)
theorem am_dup2 {v u : Value} (hf : am_fetch M pc = some (.dup2, 1, z)) (hv : v.category = 1) (hu : u.category = 1) (k : am_T l d M (pc + 1) ls (v :: u :: v :: u :: st) h kc ks Q) : am_T l d M pc ls (v :: u :: st) h kc ks Q :=
  fun p e R s m args below meth c D dA B H locs cells slots lc X => lv_dup2_11 X.exec X.bytes (X.dec hf) ((am_v_cat B v).trans hv) ((am_v_cat B u).trans hu) (k p e R s m args below meth c D dA B H locs cells slots lc X)
theorem am_dup2l {v : Value} (hf : am_fetch M pc = some (.dup2, 1, z)) (hv : v.category = 2) (k : am_T l d M (pc + 1) ls (v :: v :: st) h kc ks Q) : am_T l d M pc ls (v :: st) h kc ks Q :=
  fun p e R s m args below meth c D dA B H locs cells slots lc X => lv_dup2_2 X.exec X.bytes (X.dec hf) ((am_v_cat B v).trans hv) (k p e R s m args below meth c D dA B H locs cells slots lc X)
theorem am_pop2l {v : Value} (hf : am_fetch M pc = some (.pop2, 1, z)) (hv : v.category = 2) (k : am_T l d M (pc + 1) ls st h kc ks Q) : am_T l d M pc ls (v :: st) h kc ks Q :=
  fun p e R s m args below meth c D dA B H locs cells slots lc X => lv_pop2_2 X.exec X.bytes (X.dec hf) ((am_v_cat B v).trans hv) (k p e R s m args below meth c D dA B H locs cells slots lc X)
theorem am_dup2_x1l {v u : Value} (hf : am_fetch M pc = some (.dup2_x1, 1, z)) (hv : v.category = 2) (hu : u.category = 1) (k : am_T l d M (pc + 1) ls (v :: u :: v :: st) h kc ks Q) : am_T l d M pc ls (v :: u :: st) h kc ks Q :=
  fun p e R s m args below meth c D dA B H locs cells slots lc X => lv_dup2_x1_2 X.exec X.bytes (X.dec hf) ((am_v_cat B v).trans hv) ((am_v_cat B u).trans hu) (k p e R s m args below meth c D dA B H locs cells slots lc X)
theorem am_dup2_x2l {v u t : Value} (hf : am_fetch M pc = some (.dup2_x2, 1, z)) (hv : v.category = 2) (hu : u.category = 1) (ht : t.category = 1) (k : am_T l d M (pc + 1) ls (v :: u :: t :: v :: st) h kc ks Q) : am_T l d M pc ls (v :: u :: t :: st) h kc ks Q :=
  fun p e R s m args below meth c D dA B H locs cells slots lc X => lv_dup2_x2_2 X.exec X.bytes (X.dec hf) ((am_v_cat B v).trans hv) ((am_v_cat B u).trans hu) ((am_v_cat B t).trans ht) (k p e R s m args below meth c D dA B H locs cells slots lc X)
theorem am_iload {i : Nat} {x : Int32} (hf : am_fetch M pc = some (.iload i, 2, z)) (hl : ls[i]? = some (some (.int x))) (k : am_T l d M (pc + 2) ls (.int x :: st) h kc ks Q) : am_T l d M pc ls st h kc ks Q :=
  fun p e R s m args below meth c D dA B H locs cells slots lc X => lv_iload X.exec X.bytes (X.dec hf) (X.loc hl) (k p e R s m args below meth c D dA B H locs cells slots lc X)
theorem am_iload_n {i : Fin 4} {x : Int32} (hf : am_fetch M pc = some (.iload_n i, 1, z)) (hl : ls[(i : Nat)]? = some (some (.int x))) (k : am_T l d M (pc + 1) ls (.int x :: st) h kc ks Q) : am_T l d M pc ls st h kc ks Q :=
  fun p e R s m args below meth c D dA B H locs cells slots lc X => lv_iload_n X.exec X.bytes (X.dec hf) rfl (X.loc hl) (k p e R s m args below meth c D dA B H locs cells slots lc X)
theorem am_istore {i : Nat} {x : Int32} (hf : am_fetch M pc = some (.istore i, 2, z)) (hi : i < ls.length) (k : am_T l d M (pc + 2) (am_set1 ls i (.int x)) st h kc ks Q) : am_T l d M pc ls (.int x :: st) h kc ks Q :=
  fun p e R s m args below meth c D dA B H locs cells slots lc X => lv_istore X.exec X.bytes (X.dec hf) X.l.2 (Nat.lt_of_lt_of_le hi X.l.1) rfl (fun lc' h' => k p e R s m args below meth c D dA B H locs cells slots lc' (X.toL (X.l.set1 (v := .int x) h')))
theorem am_istore_n {i : Fin 4} {x : Int32} (hf : am_fetch M pc = some (.istore_n i, 1, z)) (hi : (i : Nat) < ls.length) (k : am_T l d M (pc + 1) (am_set1 ls i (.int x)) st h kc ks Q) : am_T l d M pc ls (.int x :: st) h kc ks Q :=
  fun p e R s m args below meth c D dA B H locs cells slots lc X => lv_istore_n X.exec X.bytes (X.dec hf) rfl X.l.2 (Nat.lt_of_lt_of_le hi X.l.1) rfl (fun lc' h' => k p e R s m args below meth c D dA B H locs cells slots lc' (X.toL (X.l.set1 (v := .int x) h')))
theorem am_lload {i : Nat} {x : Int64} (hf : am_fetch M pc = some (.lload i, 2, z)) (hl : ls[i]? = some (some (.long x))) (k : am_T l d M (pc + 2) ls (.long x :: st) h kc ks Q) : am_T l d M pc ls st h kc ks Q :=
  fun p e R s m args below meth c D dA B H locs cells slots lc X => lv_lload X.exec X.bytes (X.dec hf) (X.loc hl) (k p e R s m args below meth c D dA B H locs cells slots lc X)
theorem am_lload_n {i : Fin 4} {x : Int64} (hf : am_fetch M pc = some (.lload_n i, 1, z)) (hl : ls[(i : Nat)]? = some (some (.long x))) (k : am_T l d M (pc + 1) ls (.long x :: st) h kc ks Q) : am_T l d M pc ls st h kc ks Q :=
  fun p e R s m args below meth c D dA B H locs cells slots lc X => lv_lload_n X.exec X.bytes (X.dec hf) rfl (X.loc hl) (k p e R s m args below meth c D dA B H locs cells slots lc X)
theorem am_lstore {i : Nat} {x : Int64} (hf : am_fetch M pc = some (.lstore i, 2, z)) (hi : i + 1 < ls.length) (k : am_T l d M (pc + 2) (am_set2 ls i (.long x)) st h kc ks Q) : am_T l d M pc ls (.long x :: st) h kc ks Q :=
  fun p e R s m args below meth c D dA B H locs cells slots lc X => lv_lstore X.exec X.bytes (X.dec hf) X.l.2 (Nat.lt_of_lt_of_le hi X.l.1) rfl (fun lc' h' => k p e R s m args below meth c D dA B H locs cells slots lc' (X.toL (X.l.set2 (v := .long x) h')))
theorem am_lstore_n {i : Fin 4} {x : Int64} (hf : am_fetch M pc = some (.lstore_n i, 1, z)) (hi : (i : Nat) + 1 < ls.length) (k : am_T l d M (pc + 1) (am_set2 ls i (.long x)) st h kc ks Q) : am_T l d M pc ls (.long x :: st) h kc ks Q :=
  fun p e R s m args below meth c D dA B H locs cells slots lc X => lv_lstore_n X.exec X.bytes (X.dec hf) rfl X.l.2 (Nat.lt_of_lt_of_le hi X.l.1) rfl (fun lc' h' => k p e R s m args below meth c D dA B H locs cells slots lc' (X.toL (X.l.set2 (v := .long x) h')))
theorem am_aload {i : Nat} {x : Nat} (hf : am_fetch M pc = some (.aload i, 2, z)) (hl : ls[i]? = some (some (.ref x))) (k : am_T l d M (pc + 2) ls (.ref x :: st) h kc ks Q) : am_T l d M pc ls st h kc ks Q :=
  fun p e R s m args below meth c D dA B H locs cells slots lc X => lv_aload X.exec X.bytes (X.dec hf) (X.loc hl) (k p e R s m args below meth c D dA B H locs cells slots lc X)
theorem am_aload_n {i : Fin 4} {x : Nat} (hf : am_fetch M pc = some (.aload_n i, 1, z)) (hl : ls[(i : Nat)]? = some (some (.ref x))) (k : am_T l d M (pc + 1) ls (.ref x :: st) h kc ks Q) : am_T l d M pc ls st h kc ks Q :=
  fun p e R s m args below meth c D dA B H locs cells slots lc X => lv_aload_n X.exec X.bytes (X.dec hf) rfl (X.loc hl) (k p e R s m args below meth c D dA B H locs cells slots lc X)
theorem am_astore {i : Nat} {x : Nat} (hf : am_fetch M pc = some (.astore i, 2, z)) (hi : i < ls.length) (k : am_T l d M (pc + 2) (am_set1 ls i (.ref x)) st h kc ks Q) : am_T l d M pc ls (.ref x :: st) h kc ks Q :=
  fun p e R s m args below meth c D dA B H locs cells slots lc X => lv_astore X.exec X.bytes (X.dec hf) X.l.2 (Nat.lt_of_lt_of_le hi X.l.1) rfl (fun lc' h' => k p e R s m args below meth c D dA B H locs cells slots lc' (X.toL (X.l.set1 (v := .ref x) h')))
theorem am_astore_n {i : Fin 4} {x : Nat} (hf : am_fetch M pc = some (.astore_n i, 1, z)) (hi : (i : Nat) < ls.length) (k : am_T l d M (pc + 1) (am_set1 ls i (.ref x)) st h kc ks Q) : am_T l d M pc ls (.ref x :: st) h kc ks Q :=
  fun p e R s m args below meth c D dA B H locs cells slots lc X => lv_astore_n X.exec X.bytes (X.dec hf) rfl X.l.2 (Nat.lt_of_lt_of_le hi X.l.1) rfl (fun lc' h' => k p e R s m args below meth c D dA B H locs cells slots lc' (X.toL (X.l.set1 (v := .ref x) h')))
theorem am_iinc {i : Nat} {n : Int} {x v : Int32} (hf : am_fetch M pc = some (.iinc i n, 3, z)) (hl : ls[i]? = some (some (.int x))) (hv : x + Int32.ofInt n = v) (k : am_T l d M (pc + 3) (am_set1 ls i (.int v)) st h kc ks Q) : am_T l d M pc ls st h kc ks Q := by
  intro p e R s m args below meth c D dA B H locs cells slots lc X
  obtain ⟨j, hj⟩ := List.getElem?_of_mem (am_lv_mem (B := B) hl)
  exact lv_iinc X.exec X.bytes (X.dec hf) X.l.2 hj hv (Nat.lt_of_lt_of_le (List.getElem?_eq_some_iff.mp hl).1 X.l.1) rfl (fun lc' h' => k p e R s m args below meth c D dA B H locs cells slots lc' (X.toL (X.l.set1 (v := .int v) h')))
theorem am_goto {off : Int} {t b x : Nat} (hf : am_fetch M pc = some (.goto off, 3, t, b, x)) (k : am_T l d M t ls st h kc ks Q) : am_T l d M pc ls st h kc ks Q :=
  fun p e R s m args below meth c D dA B H locs cells slots lc X => lv_goto X.exec X.bytes (X.dec hf) (of_decide_eq_true (am_aux X.ok hf)) (k p e R s m args below meth c D dA B H locs cells slots lc X)
theorem am_if_eq {off : Int} {t b w : Nat} {x : Int32} (hf : am_fetch M pc = some (.ifCond .eq off, 3, t, b, w)) (kt : x = 0 → am_T l d M t ls st h kc ks Q) (kf : ¬ x = 0 → am_T l d M (pc + 3) ls st h kc ks Q) : am_T l d M pc ls (.int x :: st) h kc ks Q :=
  fun p e R s m args below meth c D dA B H locs cells slots lc X => lv_if_eq X.exec X.bytes (X.dec hf) (of_decide_eq_true (am_aux X.ok hf)) (fun hc => kt hc p e R s m args below meth c D dA B H locs cells slots lc X) (fun hc => kf hc p e R s m args below meth c D dA B H locs cells slots lc X)
theorem am_icmp_eq {off : Int} {t b w : Nat} {x y : Int32} (hf : am_fetch M pc = some (.if_icmp .eq off, 3, t, b, w)) (kt : x = y → am_T l d M t ls st h kc ks Q) (kf : ¬ x = y → am_T l d M (pc + 3) ls st h kc ks Q) : am_T l d M pc ls (.int y :: .int x :: st) h kc ks Q :=
  fun p e R s m args below meth c D dA B H locs cells slots lc X => lv_icmp_eq X.exec X.bytes (X.dec hf) (of_decide_eq_true (am_aux X.ok hf)) (fun hc => kt hc p e R s m args below meth c D dA B H locs cells slots lc X) (fun hc => kf hc p e R s m args below meth c D dA B H locs cells slots lc X)
theorem am_if_ne {off : Int} {t b w : Nat} {x : Int32} (hf : am_fetch M pc = some (.ifCond .ne off, 3, t, b, w)) (kt : ¬ x = 0 → am_T l d M t ls st h kc ks Q) (kf : x = 0 → am_T l d M (pc + 3) ls st h kc ks Q) : am_T l d M pc ls (.int x :: st) h kc ks Q :=
  fun p e R s m args below meth c D dA B H locs cells slots lc X => lv_if_ne X.exec X.bytes (X.dec hf) (of_decide_eq_true (am_aux X.ok hf)) (fun hc => kt hc p e R s m args below meth c D dA B H locs cells slots lc X) (fun hc => kf hc p e R s m args below meth c D dA B H locs cells slots lc X)
theorem am_icmp_ne {off : Int} {t b w : Nat} {x y : Int32} (hf : am_fetch M pc = some (.if_icmp .ne off, 3, t, b, w)) (kt : ¬ x = y → am_T l d M t ls st h kc ks Q) (kf : x = y → am_T l d M (pc + 3) ls st h kc ks Q) : am_T l d M pc ls (.int y :: .int x :: st) h kc ks Q :=
  fun p e R s m args below meth c D dA B H locs cells slots lc X => lv_icmp_ne X.exec X.bytes (X.dec hf) (of_decide_eq_true (am_aux X.ok hf)) (fun hc => kt hc p e R s m args below meth c D dA B H locs cells slots lc X) (fun hc => kf hc p e R s m args below meth c D dA B H locs cells slots lc X)
theorem am_if_lt {off : Int} {t b w : Nat} {x : Int32} (hf : am_fetch M pc = some (.ifCond .lt off, 3, t, b, w)) (kt : x < 0 → am_T l d M t ls st h kc ks Q) (kf : ¬ x < 0 → am_T l d M (pc + 3) ls st h kc ks Q) : am_T l d M pc ls (.int x :: st) h kc ks Q :=
  fun p e R s m args below meth c D dA B H locs cells slots lc X => lv_if_lt X.exec X.bytes (X.dec hf) (of_decide_eq_true (am_aux X.ok hf)) (fun hc => kt hc p e R s m args below meth c D dA B H locs cells slots lc X) (fun hc => kf hc p e R s m args below meth c D dA B H locs cells slots lc X)
theorem am_icmp_lt {off : Int} {t b w : Nat} {x y : Int32} (hf : am_fetch M pc = some (.if_icmp .lt off, 3, t, b, w)) (kt : x < y → am_T l d M t ls st h kc ks Q) (kf : ¬ x < y → am_T l d M (pc + 3) ls st h kc ks Q) : am_T l d M pc ls (.int y :: .int x :: st) h kc ks Q :=
  fun p e R s m args below meth c D dA B H locs cells slots lc X => lv_icmp_lt X.exec X.bytes (X.dec hf) (of_decide_eq_true (am_aux X.ok hf)) (fun hc => kt hc p e R s m args below meth c D dA B H locs cells slots lc X) (fun hc => kf hc p e R s m args below meth c D dA B H locs cells slots lc X)
theorem am_if_ge {off : Int} {t b w : Nat} {x : Int32} (hf : am_fetch M pc = some (.ifCond .ge off, 3, t, b, w)) (kt : 0 ≤ x → am_T l d M t ls st h kc ks Q) (kf : ¬ 0 ≤ x → am_T l d M (pc + 3) ls st h kc ks Q) : am_T l d M pc ls (.int x :: st) h kc ks Q :=
  fun p e R s m args below meth c D dA B H locs cells slots lc X => lv_if_ge X.exec X.bytes (X.dec hf) (of_decide_eq_true (am_aux X.ok hf)) (fun hc => kt hc p e R s m args below meth c D dA B H locs cells slots lc X) (fun hc => kf hc p e R s m args below meth c D dA B H locs cells slots lc X)
theorem am_icmp_ge {off : Int} {t b w : Nat} {x y : Int32} (hf : am_fetch M pc = some (.if_icmp .ge off, 3, t, b, w)) (kt : y ≤ x → am_T l d M t ls st h kc ks Q) (kf : ¬ y ≤ x → am_T l d M (pc + 3) ls st h kc ks Q) : am_T l d M pc ls (.int y :: .int x :: st) h kc ks Q :=
  fun p e R s m args below meth c D dA B H locs cells slots lc X => lv_icmp_ge X.exec X.bytes (X.dec hf) (of_decide_eq_true (am_aux X.ok hf)) (fun hc => kt hc p e R s m args below meth c D dA B H locs cells slots lc X) (fun hc => kf hc p e R s m args below meth c D dA B H locs cells slots lc X)
theorem am_if_gt {off : Int} {t b w : Nat} {x : Int32} (hf : am_fetch M pc = some (.ifCond .gt off, 3, t, b, w)) (kt : 0 < x → am_T l d M t ls st h kc ks Q) (kf : ¬ 0 < x → am_T l d M (pc + 3) ls st h kc ks Q) : am_T l d M pc ls (.int x :: st) h kc ks Q :=
  fun p e R s m args below meth c D dA B H locs cells slots lc X => lv_if_gt X.exec X.bytes (X.dec hf) (of_decide_eq_true (am_aux X.ok hf)) (fun hc => kt hc p e R s m args below meth c D dA B H locs cells slots lc X) (fun hc => kf hc p e R s m args below meth c D dA B H locs cells slots lc X)
theorem am_icmp_gt {off : Int} {t b w : Nat} {x y : Int32} (hf : am_fetch M pc = some (.if_icmp .gt off, 3, t, b, w)) (kt : y < x → am_T l d M t ls st h kc ks Q) (kf : ¬ y < x → am_T l d M (pc + 3) ls st h kc ks Q) : am_T l d M pc ls (.int y :: .int x :: st) h kc ks Q :=
  fun p e R s m args below meth c D dA B H locs cells slots lc X => lv_icmp_gt X.exec X.bytes (X.dec hf) (of_decide_eq_true (am_aux X.ok hf)) (fun hc => kt hc p e R s m args below meth c D dA B H locs cells slots lc X) (fun hc => kf hc p e R s m args below meth c D dA B H locs cells slots lc X)
theorem am_if_le {off : Int} {t b w : Nat} {x : Int32} (hf : am_fetch M pc = some (.ifCond .le off, 3, t, b, w)) (kt : x ≤ 0 → am_T l d M t ls st h kc ks Q) (kf : ¬ x ≤ 0 → am_T l d M (pc + 3) ls st h kc ks Q) : am_T l d M pc ls (.int x :: st) h kc ks Q :=
  fun p e R s m args below meth c D dA B H locs cells slots lc X => lv_if_le X.exec X.bytes (X.dec hf) (of_decide_eq_true (am_aux X.ok hf)) (fun hc => kt hc p e R s m args below meth c D dA B H locs cells slots lc X) (fun hc => kf hc p e R s m args below meth c D dA B H locs cells slots lc X)
theorem am_icmp_le {off : Int} {t b w : Nat} {x y : Int32} (hf : am_fetch M pc = some (.if_icmp .le off, 3, t, b, w)) (kt : x ≤ y → am_T l d M t ls st h kc ks Q) (kf : ¬ x ≤ y → am_T l d M (pc + 3) ls st h kc ks Q) : am_T l d M pc ls (.int y :: .int x :: st) h kc ks Q :=
  fun p e R s m args below meth c D dA B H locs cells slots lc X => lv_icmp_le X.exec X.bytes (X.dec hf) (of_decide_eq_true (am_aux X.ok hf)) (fun hc => kt hc p e R s m args below meth c D dA B H locs cells slots lc X) (fun hc => kf hc p e R s m args below meth c D dA B H locs cells slots lc X)
theorem am_ldc {i a b x : Nat} {v : Int32} (hf : am_fetch M pc = some (.ldc i, 2, a, b, x)) (hv : Int32.ofNat b = v) (k : am_T l d M (pc + 2) ls (.int v :: st) h kc ks Q) : am_T l d M pc ls st h kc ks Q := by
  subst hv
  exact fun p e R s m args below meth c D dA B H locs cells slots lc X => lv_ldc X.exec X.bytes X.own (X.word (of_decide_eq_true (am_aux X.ok hf))) (X.dec hf) (k p e R s m args below meth c D dA B H locs cells slots lc X)
theorem am_ldcw {i a b x : Nat} {v : Int32} (hf : am_fetch M pc = some (.ldc_w i, 3, a, b, x)) (hv : Int32.ofNat b = v) (k : am_T l d M (pc + 3) ls (.int v :: st) h kc ks Q) : am_T l d M pc ls st h kc ks Q := by
  subst hv
  exact fun p e R s m args below meth c D dA B H locs cells slots lc X => lv_ldcw X.exec X.bytes X.own (X.word (of_decide_eq_true (am_aux X.ok hf))) (X.dec hf) (k p e R s m args below meth c D dA B H locs cells slots lc X)
theorem am_ldc2 {i a b : Nat} {v : Int64} (hf : am_fetch M pc = some (.ldc2_w i, 3, a, b, 0)) (hv : Int64.ofNat b = v) (k : am_T l d M (pc + 3) ls (.long v :: st) h kc ks Q) : am_T l d M pc ls st h kc ks Q := by
  subst hv
  exact fun p e R s m args below meth c D dA B H locs cells slots lc X => lv_ldc2 X.exec X.bytes X.own (X.word (of_decide_eq_true (am_aux X.ok hf))) (X.dec hf) (k p e R s m args below meth c D dA B H locs cells slots lc X)
theorem am_ldc2m {i a b : Nat} {v : Int64} (hf : am_fetch M pc = some (.ldc2_w i, 3, a, b, 1)) (hv : -(Int64.ofNat b) = v) (k : am_T l d M (pc + 3) ls (.long v :: st) h kc ks Q) : am_T l d M pc ls st h kc ks Q := by
  subst hv
  exact fun p e R s m args below meth c D dA B H locs cells slots lc X => lv_ldc2 X.exec X.bytes X.own (X.word (of_decide_eq_true (am_aux X.ok hf))) (X.dec hf) (k p e R s m args below meth c D dA B H locs cells slots lc X)
theorem am_X.leave {p : Program} {R : Room} {s : State} {m : MethodId} {args : Array Value} {meth : Method} {c : Code} {D : va_G} {dA : Nat → ClassId} {B : Nat} {H : Heap} {locs : List Loc} {cells slots : Nat} {lc : Array Slot} (X : am_X d M ls h kc ks p R s m args meth c D dA B H locs cells slots lc) {r : Option Value} (hq : Q r h) (t : State) (ht : t.heap = H) : am_Q D dA B Q args s (.returned (r.map (am_v B))) t :=
  ⟨⟨r, h, hq, rfl, by rw [ht]; exact X.w⟩, fun q hlt => by rw [ht]; exact X.old q hlt⟩
theorem am_ireturn {x : Int32} (hf : am_fetch M pc = some (.ireturn, 1, z)) (hr : M.2.2.2.1 = some .int) (hq : Q (some (.int x)) h) : am_T l d M pc ls [.int x] h kc ks Q :=
  fun p e R s m args below meth c D dA B H locs cells slots lc X => W.widen (Nat.le_trans (Nat.le_add_right _ _) X.hkc) (Nat.le_trans (Nat.le_add_right _ _) X.hks) (W.iret (hlocks := X.locks) X.exec X.bytes (X.ret.trans hr) (fun t ht _ => X.leave hq t ht) X.hloc (X.dec hf))
theorem am_zreturn {x : Int32} (hf : am_fetch M pc = some (.ireturn, 1, z)) (hr : M.2.2.2.1 = some .boolean) (hx : x = 0 ∨ x = 1) (hq : Q (some (.int x)) h) : am_T l d M pc ls [.int x] h kc ks Q :=
  fun p e R s m args below meth c D dA B H locs cells slots lc X => W.widen (Nat.le_trans (Nat.le_add_right _ _) X.hkc) (Nat.le_trans (Nat.le_add_right _ _) X.hks) (W.zret (hlocks := X.locks) X.exec X.bytes (X.ret.trans hr) (by rcases hx with rfl | rfl <;> rfl) (fun t ht _ => X.leave hq t ht) X.hloc (X.dec hf))
theorem am_creturn {x : Int32} (hf : am_fetch M pc = some (.ireturn, 1, z)) (hr : M.2.2.2.1 = some .char) (hx : narrow .char (.int x) = .int x) (hq : Q (some (.int x)) h) : am_T l d M pc ls [.int x] h kc ks Q :=
  fun p e R s m args below meth c D dA B H locs cells slots lc X => W.widen (Nat.le_trans (Nat.le_add_right _ _) X.hkc) (Nat.le_trans (Nat.le_add_right _ _) X.hks) (W.zret (hlocks := X.locks) X.exec X.bytes (X.ret.trans hr) hx (fun t ht _ => X.leave hq t ht) X.hloc (X.dec hf))
theorem am_lreturn {x : Int64} (hf : am_fetch M pc = some (.lreturn, 1, z)) (hr : M.2.2.2.1 = some .long) (hq : Q (some (.long x)) h) : am_T l d M pc ls [.long x] h kc ks Q :=
  fun p e R s m args below meth c D dA B H locs cells slots lc X => W.widen (Nat.le_trans (Nat.le_add_right _ _) X.hkc) (Nat.le_trans (Nat.le_add_right _ _) X.hks) (W.lret (hlocks := X.locks) X.exec X.bytes (X.ret.trans hr) (fun t ht _ => X.leave hq t ht) X.hloc (X.dec hf))
theorem am_return (hf : am_fetch M pc = some (.return_, 1, z)) (hr : M.2.2.2.1 = none) (hq : Q none h) : am_T l d M pc ls [] h kc ks Q :=
  fun p e R s m args below meth c D dA B H locs cells slots lc X => W.widen (Nat.le_trans (Nat.le_add_right _ _) X.hkc) (Nat.le_trans (Nat.le_add_right _ _) X.hks) (W.vret (hlocks := X.locks) X.exec X.bytes (X.ret.trans hr) (fun t ht _ => X.leave hq t ht) X.hloc (X.dec hf))
end AMR
