/-! decoding by bytes -/
abbrev am_K (α : Type) : Type := Jvm.ClassFile.Decoder α
theorem am_rb {α β : Type} (r : am_K α) (f : α → am_K β) (code : ByteArray) (p : Nat) : (r >>= f : am_K β).runAt code p = (match r.runAt code p with
  | .ok q => (f q.1).runAt code q.2
  | .error e => .error e) := by
  show (Except.bind (r.runAt code p) _ : Except _ _) = _
  cases r.runAt code p <;> rfl
def am_b1 (code : ByteArray) (p b : Nat) : Prop := (Jvm.ClassFile.Reader.u1 : am_K Nat).runAt code p = .ok (b, p + 1)
theorem am_b1_of {code : ByteArray} {p b : Nat} (h : (code.data.toList.map UInt8.toNat)[p]? = some b) : am_b1 code p b := by
  rw [List.getElem?_map] at h
  cases hc : code.data.toList[p]? with
  | none => rw [hc] at h; cases h
  | some c =>
    rw [hc] at h
    have hb : c.toNat = b := Option.some.inj h
    obtain ⟨hp, he⟩ := List.getElem?_eq_some_iff.mp hc
    have hp2 : p < code.size := by
      rw [Array.length_toList] at hp
      exact hp
    have e2 : code[p] = c := by
      rw [← he]
      rfl
    show (Jvm.ClassFile.Reader.u1 : am_K Nat).runAt code p = _
    unfold Jvm.ClassFile.Reader.u1
    rw [am_rb]
    show ((do let p ← get; _) : am_K Nat).runAt code p = _
    rw [am_rb]
    show (if h : p < code.size then _ else _ : am_K Nat).runAt code p = _
    rw [dif_pos hp2]
    show Except.ok (code[p].toNat, p + 1) = _
    rw [e2, hb]
theorem am_u2r {code : ByteArray} {p b c : Nat} (h : am_b1 code p b) (h2 : am_b1 code (p + 1) c) : (Jvm.ClassFile.Reader.u2 : am_K Nat).runAt code p = .ok (b * 256 + c, p + 2) := by
  unfold Jvm.ClassFile.Reader.u2
  rw [am_rb, h]
  show ((Jvm.ClassFile.Reader.u1 : am_K Nat) >>= fun lo => pure (b * 256 + lo)).runAt code (p + 1) = _
  rw [am_rb, h2]
  rfl
theorem am_mr {α β : Type} (r : am_K α) (f : α → β) (code : ByteArray) (p : Nat) : (f <$> r : am_K β).runAt code p = (match r.runAt code p with
  | .ok q => .ok (f q.1, q.2)
  | .error e => .error e) := by
  show (Except.bind (r.runAt code p) _ : Except _ _) = _
  cases r.runAt code p <;> rfl
theorem am_s2r {code : ByteArray} {p b c : Nat} (h : am_b1 code p b) (h2 : am_b1 code (p + 1) c) : (Jvm.ClassFile.Reader.s2 : am_K Int).runAt code p = .ok (Jvm.ClassFile.Reader.signed 16 (b * 256 + c), p + 2) := by
  unfold Jvm.ClassFile.Reader.s2
  rw [am_mr, am_u2r h h2]
theorem am_s1r {code : ByteArray} {p b : Nat} (h : am_b1 code p b) : (Jvm.ClassFile.Reader.s1 : am_K Int).runAt code p = .ok (Jvm.ClassFile.Reader.signed 8 b, p + 1) := by
  unfold Jvm.ClassFile.Reader.s1
  rw [am_mr, h]
theorem am_dc {code : ByteArray} {pc op n : Nat} {I : Jvm.ClassFile.Instr} {F : Nat → am_K Jvm.ClassFile.Instr} (hF : Jvm.ClassFile.Decoder.instr pc = (Jvm.ClassFile.Reader.u1 >>= F)) (h0 : am_b1 code pc op) (h : (F op).runAt code (pc + 1) = .ok (I, pc + n)) : decode code pc = .ok (I, n) := by
  have e : decode code pc = (match (Jvm.ClassFile.Decoder.instr pc).runAt code pc with
    | .ok q => .ok (q.1, q.2 - pc)
    | .error e => .error e) := by
    show (Except.bind ((Jvm.ClassFile.Decoder.instr pc).runAt code pc) _ : Except _ _) = _
    cases (Jvm.ClassFile.Decoder.instr pc).runAt code pc <;> rfl
  rw [e, hF, am_rb, h0]
  show (match (F op).runAt code (pc + 1) with
    | .ok q => Except.ok (q.1, q.2 - pc)
    | .error e => .error e) = _
  rw [h]
  show Except.ok (I, pc + n - pc) = _
  rw [Nat.add_sub_cancel_left]
def am_dcd (b0 b1 b2 : Nat) : Option (Jvm.ClassFile.Instr × Nat) := match b0 with
  | 2 => some (.iconst (-1), 1)
  | 3 => some (.iconst 0, 1)
  | 4 => some (.iconst 1, 1)
  | 5 => some (.iconst 2, 1)
  | 6 => some (.iconst 3, 1)
  | 7 => some (.iconst 4, 1)
  | 8 => some (.iconst 5, 1)
  | 9 => some (.lconst 0, 1)
  | 10 => some (.lconst 1, 1)
  | 16 => some (.bipush (Jvm.ClassFile.Reader.signed 8 b1), 2)
  | 17 => some (.sipush (Jvm.ClassFile.Reader.signed 16 (b1 * 256 + b2)), 3)
  | 18 => some (.ldc (b1), 2)
  | 19 => some (.ldc_w (b1 * 256 + b2), 3)
  | 20 => some (.ldc2_w (b1 * 256 + b2), 3)
  | 21 => some (.iload (b1), 2)
  | 22 => some (.lload (b1), 2)
  | 25 => some (.aload (b1), 2)
  | 26 => some (.iload_n 0, 1)
  | 27 => some (.iload_n 1, 1)
  | 28 => some (.iload_n 2, 1)
  | 29 => some (.iload_n 3, 1)
  | 30 => some (.lload_n 0, 1)
  | 31 => some (.lload_n 1, 1)
  | 32 => some (.lload_n 2, 1)
  | 33 => some (.lload_n 3, 1)
  | 42 => some (.aload_n 0, 1)
  | 43 => some (.aload_n 1, 1)
  | 44 => some (.aload_n 2, 1)
  | 45 => some (.aload_n 3, 1)
  | 46 => some (.iaload, 1)
  | 47 => some (.laload, 1)
  | 50 => some (.aaload, 1)
  | 51 => some (.baload, 1)
  | 52 => some (.caload, 1)
  | 54 => some (.istore (b1), 2)
  | 55 => some (.lstore (b1), 2)
  | 58 => some (.astore (b1), 2)
  | 59 => some (.istore_n 0, 1)
  | 60 => some (.istore_n 1, 1)
  | 61 => some (.istore_n 2, 1)
  | 62 => some (.istore_n 3, 1)
  | 63 => some (.lstore_n 0, 1)
  | 64 => some (.lstore_n 1, 1)
  | 65 => some (.lstore_n 2, 1)
  | 66 => some (.lstore_n 3, 1)
  | 75 => some (.astore_n 0, 1)
  | 76 => some (.astore_n 1, 1)
  | 77 => some (.astore_n 2, 1)
  | 78 => some (.astore_n 3, 1)
  | 79 => some (.iastore, 1)
  | 80 => some (.lastore, 1)
  | 83 => some (.aastore, 1)
  | 84 => some (.bastore, 1)
  | 85 => some (.castore, 1)
  | 87 => some (.pop, 1)
  | 88 => some (.pop2, 1)
  | 89 => some (.dup, 1)
  | 90 => some (.dup_x1, 1)
  | 91 => some (.dup_x2, 1)
  | 92 => some (.dup2, 1)
  | 93 => some (.dup2_x1, 1)
  | 94 => some (.dup2_x2, 1)
  | 96 => some (.iadd, 1)
  | 97 => some (.ladd, 1)
  | 100 => some (.isub, 1)
  | 101 => some (.lsub, 1)
  | 104 => some (.imul, 1)
  | 105 => some (.lmul, 1)
  | 108 => some (.idiv, 1)
  | 112 => some (.irem, 1)
  | 116 => some (.ineg, 1)
  | 117 => some (.lneg, 1)
  | 120 => some (.ishl, 1)
  | 121 => some (.lshl, 1)
  | 122 => some (.ishr, 1)
  | 123 => some (.lshr, 1)
  | 124 => some (.iushr, 1)
  | 125 => some (.lushr, 1)
  | 126 => some (.iand, 1)
  | 127 => some (.land, 1)
  | 128 => some (.ior, 1)
  | 129 => some (.lor, 1)
  | 130 => some (.ixor, 1)
  | 131 => some (.lxor, 1)
  | 132 => some (.iinc b1 (Jvm.ClassFile.Reader.signed 8 b2), 3)
  | 133 => some (.i2l, 1)
  | 136 => some (.l2i, 1)
  | 146 => some (.i2c, 1)
  | 148 => some (.lcmp, 1)
  | 153 => some (.ifCond .eq (Jvm.ClassFile.Reader.signed 16 (b1 * 256 + b2)), 3)
  | 154 => some (.ifCond .ne (Jvm.ClassFile.Reader.signed 16 (b1 * 256 + b2)), 3)
  | 155 => some (.ifCond .lt (Jvm.ClassFile.Reader.signed 16 (b1 * 256 + b2)), 3)
  | 156 => some (.ifCond .ge (Jvm.ClassFile.Reader.signed 16 (b1 * 256 + b2)), 3)
  | 157 => some (.ifCond .gt (Jvm.ClassFile.Reader.signed 16 (b1 * 256 + b2)), 3)
  | 158 => some (.ifCond .le (Jvm.ClassFile.Reader.signed 16 (b1 * 256 + b2)), 3)
  | 159 => some (.if_icmp .eq (Jvm.ClassFile.Reader.signed 16 (b1 * 256 + b2)), 3)
  | 160 => some (.if_icmp .ne (Jvm.ClassFile.Reader.signed 16 (b1 * 256 + b2)), 3)
  | 161 => some (.if_icmp .lt (Jvm.ClassFile.Reader.signed 16 (b1 * 256 + b2)), 3)
  | 162 => some (.if_icmp .ge (Jvm.ClassFile.Reader.signed 16 (b1 * 256 + b2)), 3)
  | 163 => some (.if_icmp .gt (Jvm.ClassFile.Reader.signed 16 (b1 * 256 + b2)), 3)
  | 164 => some (.if_icmp .le (Jvm.ClassFile.Reader.signed 16 (b1 * 256 + b2)), 3)
  | 167 => some (.goto (Jvm.ClassFile.Reader.signed 16 (b1 * 256 + b2)), 3)
  | 172 => some (.ireturn, 1)
  | 173 => some (.lreturn, 1)
  | 176 => some (.areturn, 1)
  | 177 => some (.return_, 1)
  | 180 => some (.getfield (b1 * 256 + b2), 3)
  | 181 => some (.putfield (b1 * 256 + b2), 3)
  | 182 => some (.invokevirtual (b1 * 256 + b2), 3)
  | 183 => some (.invokespecial (b1 * 256 + b2), 3)
  | 184 => some (.invokestatic (b1 * 256 + b2), 3)
  | 187 => some (.new (b1 * 256 + b2), 3)
  | 188 => match b1 with
    | 4 => some (.newarray .boolean, 2)
    | 5 => some (.newarray .char, 2)
    | 10 => some (.newarray .int, 2)
    | 11 => some (.newarray .long, 2)
    | _ => none
  | 189 => some (.anewarray (b1 * 256 + b2), 3)
  | 190 => some (.arraylength, 1)
  | _ => none
theorem am_dc_2 {code : ByteArray} {pc : Nat} (h0 : am_b1 code pc 2) : decode code pc = .ok (.iconst (-1), 1) := am_dc rfl h0 rfl
theorem am_dc_3 {code : ByteArray} {pc : Nat} (h0 : am_b1 code pc 3) : decode code pc = .ok (.iconst 0, 1) := am_dc rfl h0 rfl
theorem am_dc_4 {code : ByteArray} {pc : Nat} (h0 : am_b1 code pc 4) : decode code pc = .ok (.iconst 1, 1) := am_dc rfl h0 rfl
theorem am_dc_5 {code : ByteArray} {pc : Nat} (h0 : am_b1 code pc 5) : decode code pc = .ok (.iconst 2, 1) := am_dc rfl h0 rfl
theorem am_dc_6 {code : ByteArray} {pc : Nat} (h0 : am_b1 code pc 6) : decode code pc = .ok (.iconst 3, 1) := am_dc rfl h0 rfl
theorem am_dc_7 {code : ByteArray} {pc : Nat} (h0 : am_b1 code pc 7) : decode code pc = .ok (.iconst 4, 1) := am_dc rfl h0 rfl
theorem am_dc_8 {code : ByteArray} {pc : Nat} (h0 : am_b1 code pc 8) : decode code pc = .ok (.iconst 5, 1) := am_dc rfl h0 rfl
theorem am_dc_9 {code : ByteArray} {pc : Nat} (h0 : am_b1 code pc 9) : decode code pc = .ok (.lconst 0, 1) := am_dc rfl h0 rfl
theorem am_dc_10 {code : ByteArray} {pc : Nat} (h0 : am_b1 code pc 10) : decode code pc = .ok (.lconst 1, 1) := am_dc rfl h0 rfl
theorem am_dc_16 {code : ByteArray} {pc b1 : Nat} (h0 : am_b1 code pc 16) (h1 : am_b1 code (pc + 1) b1) : decode code pc = .ok (.bipush (Jvm.ClassFile.Reader.signed 8 b1), 2) := am_dc rfl h0 (by
  show ((Jvm.ClassFile.Reader.s1 : am_K Int) >>= fun x => (pure (Jvm.ClassFile.Instr.bipush x) : am_K Jvm.ClassFile.Instr)).runAt code (pc + 1) = _
  rw [am_rb, am_s1r h1]
  rfl)
theorem am_dc_17 {code : ByteArray} {pc b1 b2 : Nat} (h0 : am_b1 code pc 17) (h1 : am_b1 code (pc + 1) b1) (h2 : am_b1 code (pc + 2) b2) : decode code pc = .ok (.sipush (Jvm.ClassFile.Reader.signed 16 (b1 * 256 + b2)), 3) := am_dc rfl h0 (by
  show ((Jvm.ClassFile.Reader.s2 : am_K Int) >>= fun x => (pure (Jvm.ClassFile.Instr.sipush x) : am_K Jvm.ClassFile.Instr)).runAt code (pc + 1) = _
  rw [am_rb, am_s2r h1 h2]
  rfl)
theorem am_dc_18 {code : ByteArray} {pc b1 : Nat} (h0 : am_b1 code pc 18) (h1 : am_b1 code (pc + 1) b1) : decode code pc = .ok (.ldc (b1), 2) := am_dc rfl h0 (by
  show ((Jvm.ClassFile.Reader.u1 : am_K Nat) >>= fun x => (pure (Jvm.ClassFile.Instr.ldc x) : am_K Jvm.ClassFile.Instr)).runAt code (pc + 1) = _
  rw [am_rb, h1]
  rfl)
theorem am_dc_19 {code : ByteArray} {pc b1 b2 : Nat} (h0 : am_b1 code pc 19) (h1 : am_b1 code (pc + 1) b1) (h2 : am_b1 code (pc + 2) b2) : decode code pc = .ok (.ldc_w (b1 * 256 + b2), 3) := am_dc rfl h0 (by
  show ((Jvm.ClassFile.Reader.u2 : am_K Nat) >>= fun x => (pure (Jvm.ClassFile.Instr.ldc_w x) : am_K Jvm.ClassFile.Instr)).runAt code (pc + 1) = _
  rw [am_rb, am_u2r h1 h2]
  rfl)
theorem am_dc_20 {code : ByteArray} {pc b1 b2 : Nat} (h0 : am_b1 code pc 20) (h1 : am_b1 code (pc + 1) b1) (h2 : am_b1 code (pc + 2) b2) : decode code pc = .ok (.ldc2_w (b1 * 256 + b2), 3) := am_dc rfl h0 (by
  show ((Jvm.ClassFile.Reader.u2 : am_K Nat) >>= fun x => (pure (Jvm.ClassFile.Instr.ldc2_w x) : am_K Jvm.ClassFile.Instr)).runAt code (pc + 1) = _
  rw [am_rb, am_u2r h1 h2]
  rfl)
theorem am_dc_21 {code : ByteArray} {pc b1 : Nat} (h0 : am_b1 code pc 21) (h1 : am_b1 code (pc + 1) b1) : decode code pc = .ok (.iload (b1), 2) := am_dc rfl h0 (by
  show ((Jvm.ClassFile.Reader.u1 : am_K Nat) >>= fun x => (pure (Jvm.ClassFile.Instr.iload x) : am_K Jvm.ClassFile.Instr)).runAt code (pc + 1) = _
  rw [am_rb, h1]
  rfl)
theorem am_dc_22 {code : ByteArray} {pc b1 : Nat} (h0 : am_b1 code pc 22) (h1 : am_b1 code (pc + 1) b1) : decode code pc = .ok (.lload (b1), 2) := am_dc rfl h0 (by
  show ((Jvm.ClassFile.Reader.u1 : am_K Nat) >>= fun x => (pure (Jvm.ClassFile.Instr.lload x) : am_K Jvm.ClassFile.Instr)).runAt code (pc + 1) = _
  rw [am_rb, h1]
  rfl)
theorem am_dc_25 {code : ByteArray} {pc b1 : Nat} (h0 : am_b1 code pc 25) (h1 : am_b1 code (pc + 1) b1) : decode code pc = .ok (.aload (b1), 2) := am_dc rfl h0 (by
  show ((Jvm.ClassFile.Reader.u1 : am_K Nat) >>= fun x => (pure (Jvm.ClassFile.Instr.aload x) : am_K Jvm.ClassFile.Instr)).runAt code (pc + 1) = _
  rw [am_rb, h1]
  rfl)
theorem am_dc_26 {code : ByteArray} {pc : Nat} (h0 : am_b1 code pc 26) : decode code pc = .ok (.iload_n 0, 1) := am_dc rfl h0 rfl
theorem am_dc_27 {code : ByteArray} {pc : Nat} (h0 : am_b1 code pc 27) : decode code pc = .ok (.iload_n 1, 1) := am_dc rfl h0 rfl
theorem am_dc_28 {code : ByteArray} {pc : Nat} (h0 : am_b1 code pc 28) : decode code pc = .ok (.iload_n 2, 1) := am_dc rfl h0 rfl
theorem am_dc_29 {code : ByteArray} {pc : Nat} (h0 : am_b1 code pc 29) : decode code pc = .ok (.iload_n 3, 1) := am_dc rfl h0 rfl
theorem am_dc_30 {code : ByteArray} {pc : Nat} (h0 : am_b1 code pc 30) : decode code pc = .ok (.lload_n 0, 1) := am_dc rfl h0 rfl
theorem am_dc_31 {code : ByteArray} {pc : Nat} (h0 : am_b1 code pc 31) : decode code pc = .ok (.lload_n 1, 1) := am_dc rfl h0 rfl
theorem am_dc_32 {code : ByteArray} {pc : Nat} (h0 : am_b1 code pc 32) : decode code pc = .ok (.lload_n 2, 1) := am_dc rfl h0 rfl
theorem am_dc_33 {code : ByteArray} {pc : Nat} (h0 : am_b1 code pc 33) : decode code pc = .ok (.lload_n 3, 1) := am_dc rfl h0 rfl
theorem am_dc_42 {code : ByteArray} {pc : Nat} (h0 : am_b1 code pc 42) : decode code pc = .ok (.aload_n 0, 1) := am_dc rfl h0 rfl
theorem am_dc_43 {code : ByteArray} {pc : Nat} (h0 : am_b1 code pc 43) : decode code pc = .ok (.aload_n 1, 1) := am_dc rfl h0 rfl
theorem am_dc_44 {code : ByteArray} {pc : Nat} (h0 : am_b1 code pc 44) : decode code pc = .ok (.aload_n 2, 1) := am_dc rfl h0 rfl
theorem am_dc_45 {code : ByteArray} {pc : Nat} (h0 : am_b1 code pc 45) : decode code pc = .ok (.aload_n 3, 1) := am_dc rfl h0 rfl
theorem am_dc_46 {code : ByteArray} {pc : Nat} (h0 : am_b1 code pc 46) : decode code pc = .ok (.iaload, 1) := am_dc rfl h0 rfl
theorem am_dc_47 {code : ByteArray} {pc : Nat} (h0 : am_b1 code pc 47) : decode code pc = .ok (.laload, 1) := am_dc rfl h0 rfl
theorem am_dc_50 {code : ByteArray} {pc : Nat} (h0 : am_b1 code pc 50) : decode code pc = .ok (.aaload, 1) := am_dc rfl h0 rfl
theorem am_dc_51 {code : ByteArray} {pc : Nat} (h0 : am_b1 code pc 51) : decode code pc = .ok (.baload, 1) := am_dc rfl h0 rfl
theorem am_dc_52 {code : ByteArray} {pc : Nat} (h0 : am_b1 code pc 52) : decode code pc = .ok (.caload, 1) := am_dc rfl h0 rfl
theorem am_dc_54 {code : ByteArray} {pc b1 : Nat} (h0 : am_b1 code pc 54) (h1 : am_b1 code (pc + 1) b1) : decode code pc = .ok (.istore (b1), 2) := am_dc rfl h0 (by
  show ((Jvm.ClassFile.Reader.u1 : am_K Nat) >>= fun x => (pure (Jvm.ClassFile.Instr.istore x) : am_K Jvm.ClassFile.Instr)).runAt code (pc + 1) = _
  rw [am_rb, h1]
  rfl)
theorem am_dc_55 {code : ByteArray} {pc b1 : Nat} (h0 : am_b1 code pc 55) (h1 : am_b1 code (pc + 1) b1) : decode code pc = .ok (.lstore (b1), 2) := am_dc rfl h0 (by
  show ((Jvm.ClassFile.Reader.u1 : am_K Nat) >>= fun x => (pure (Jvm.ClassFile.Instr.lstore x) : am_K Jvm.ClassFile.Instr)).runAt code (pc + 1) = _
  rw [am_rb, h1]
  rfl)
theorem am_dc_58 {code : ByteArray} {pc b1 : Nat} (h0 : am_b1 code pc 58) (h1 : am_b1 code (pc + 1) b1) : decode code pc = .ok (.astore (b1), 2) := am_dc rfl h0 (by
  show ((Jvm.ClassFile.Reader.u1 : am_K Nat) >>= fun x => (pure (Jvm.ClassFile.Instr.astore x) : am_K Jvm.ClassFile.Instr)).runAt code (pc + 1) = _
  rw [am_rb, h1]
  rfl)
theorem am_dc_59 {code : ByteArray} {pc : Nat} (h0 : am_b1 code pc 59) : decode code pc = .ok (.istore_n 0, 1) := am_dc rfl h0 rfl
theorem am_dc_60 {code : ByteArray} {pc : Nat} (h0 : am_b1 code pc 60) : decode code pc = .ok (.istore_n 1, 1) := am_dc rfl h0 rfl
theorem am_dc_61 {code : ByteArray} {pc : Nat} (h0 : am_b1 code pc 61) : decode code pc = .ok (.istore_n 2, 1) := am_dc rfl h0 rfl
theorem am_dc_62 {code : ByteArray} {pc : Nat} (h0 : am_b1 code pc 62) : decode code pc = .ok (.istore_n 3, 1) := am_dc rfl h0 rfl
theorem am_dc_63 {code : ByteArray} {pc : Nat} (h0 : am_b1 code pc 63) : decode code pc = .ok (.lstore_n 0, 1) := am_dc rfl h0 rfl
theorem am_dc_64 {code : ByteArray} {pc : Nat} (h0 : am_b1 code pc 64) : decode code pc = .ok (.lstore_n 1, 1) := am_dc rfl h0 rfl
theorem am_dc_65 {code : ByteArray} {pc : Nat} (h0 : am_b1 code pc 65) : decode code pc = .ok (.lstore_n 2, 1) := am_dc rfl h0 rfl
theorem am_dc_66 {code : ByteArray} {pc : Nat} (h0 : am_b1 code pc 66) : decode code pc = .ok (.lstore_n 3, 1) := am_dc rfl h0 rfl
theorem am_dc_75 {code : ByteArray} {pc : Nat} (h0 : am_b1 code pc 75) : decode code pc = .ok (.astore_n 0, 1) := am_dc rfl h0 rfl
theorem am_dc_76 {code : ByteArray} {pc : Nat} (h0 : am_b1 code pc 76) : decode code pc = .ok (.astore_n 1, 1) := am_dc rfl h0 rfl
theorem am_dc_77 {code : ByteArray} {pc : Nat} (h0 : am_b1 code pc 77) : decode code pc = .ok (.astore_n 2, 1) := am_dc rfl h0 rfl
theorem am_dc_78 {code : ByteArray} {pc : Nat} (h0 : am_b1 code pc 78) : decode code pc = .ok (.astore_n 3, 1) := am_dc rfl h0 rfl
theorem am_dc_79 {code : ByteArray} {pc : Nat} (h0 : am_b1 code pc 79) : decode code pc = .ok (.iastore, 1) := am_dc rfl h0 rfl
theorem am_dc_80 {code : ByteArray} {pc : Nat} (h0 : am_b1 code pc 80) : decode code pc = .ok (.lastore, 1) := am_dc rfl h0 rfl
theorem am_dc_83 {code : ByteArray} {pc : Nat} (h0 : am_b1 code pc 83) : decode code pc = .ok (.aastore, 1) := am_dc rfl h0 rfl
theorem am_dc_84 {code : ByteArray} {pc : Nat} (h0 : am_b1 code pc 84) : decode code pc = .ok (.bastore, 1) := am_dc rfl h0 rfl
theorem am_dc_85 {code : ByteArray} {pc : Nat} (h0 : am_b1 code pc 85) : decode code pc = .ok (.castore, 1) := am_dc rfl h0 rfl
theorem am_dc_87 {code : ByteArray} {pc : Nat} (h0 : am_b1 code pc 87) : decode code pc = .ok (.pop, 1) := am_dc rfl h0 rfl
theorem am_dc_88 {code : ByteArray} {pc : Nat} (h0 : am_b1 code pc 88) : decode code pc = .ok (.pop2, 1) := am_dc rfl h0 rfl
theorem am_dc_89 {code : ByteArray} {pc : Nat} (h0 : am_b1 code pc 89) : decode code pc = .ok (.dup, 1) := am_dc rfl h0 rfl
theorem am_dc_90 {code : ByteArray} {pc : Nat} (h0 : am_b1 code pc 90) : decode code pc = .ok (.dup_x1, 1) := am_dc rfl h0 rfl
theorem am_dc_91 {code : ByteArray} {pc : Nat} (h0 : am_b1 code pc 91) : decode code pc = .ok (.dup_x2, 1) := am_dc rfl h0 rfl
theorem am_dc_92 {code : ByteArray} {pc : Nat} (h0 : am_b1 code pc 92) : decode code pc = .ok (.dup2, 1) := am_dc rfl h0 rfl
theorem am_dc_93 {code : ByteArray} {pc : Nat} (h0 : am_b1 code pc 93) : decode code pc = .ok (.dup2_x1, 1) := am_dc rfl h0 rfl
theorem am_dc_94 {code : ByteArray} {pc : Nat} (h0 : am_b1 code pc 94) : decode code pc = .ok (.dup2_x2, 1) := am_dc rfl h0 rfl
theorem am_dc_96 {code : ByteArray} {pc : Nat} (h0 : am_b1 code pc 96) : decode code pc = .ok (.iadd, 1) := am_dc rfl h0 rfl
theorem am_dc_97 {code : ByteArray} {pc : Nat} (h0 : am_b1 code pc 97) : decode code pc = .ok (.ladd, 1) := am_dc rfl h0 rfl
theorem am_dc_100 {code : ByteArray} {pc : Nat} (h0 : am_b1 code pc 100) : decode code pc = .ok (.isub, 1) := am_dc rfl h0 rfl
theorem am_dc_101 {code : ByteArray} {pc : Nat} (h0 : am_b1 code pc 101) : decode code pc = .ok (.lsub, 1) := am_dc rfl h0 rfl
theorem am_dc_104 {code : ByteArray} {pc : Nat} (h0 : am_b1 code pc 104) : decode code pc = .ok (.imul, 1) := am_dc rfl h0 rfl
theorem am_dc_105 {code : ByteArray} {pc : Nat} (h0 : am_b1 code pc 105) : decode code pc = .ok (.lmul, 1) := am_dc rfl h0 rfl
theorem am_dc_108 {code : ByteArray} {pc : Nat} (h0 : am_b1 code pc 108) : decode code pc = .ok (.idiv, 1) := am_dc rfl h0 rfl
theorem am_dc_112 {code : ByteArray} {pc : Nat} (h0 : am_b1 code pc 112) : decode code pc = .ok (.irem, 1) := am_dc rfl h0 rfl
theorem am_dc_116 {code : ByteArray} {pc : Nat} (h0 : am_b1 code pc 116) : decode code pc = .ok (.ineg, 1) := am_dc rfl h0 rfl
theorem am_dc_117 {code : ByteArray} {pc : Nat} (h0 : am_b1 code pc 117) : decode code pc = .ok (.lneg, 1) := am_dc rfl h0 rfl
theorem am_dc_120 {code : ByteArray} {pc : Nat} (h0 : am_b1 code pc 120) : decode code pc = .ok (.ishl, 1) := am_dc rfl h0 rfl
theorem am_dc_121 {code : ByteArray} {pc : Nat} (h0 : am_b1 code pc 121) : decode code pc = .ok (.lshl, 1) := am_dc rfl h0 rfl
theorem am_dc_122 {code : ByteArray} {pc : Nat} (h0 : am_b1 code pc 122) : decode code pc = .ok (.ishr, 1) := am_dc rfl h0 rfl
theorem am_dc_123 {code : ByteArray} {pc : Nat} (h0 : am_b1 code pc 123) : decode code pc = .ok (.lshr, 1) := am_dc rfl h0 rfl
theorem am_dc_124 {code : ByteArray} {pc : Nat} (h0 : am_b1 code pc 124) : decode code pc = .ok (.iushr, 1) := am_dc rfl h0 rfl
theorem am_dc_125 {code : ByteArray} {pc : Nat} (h0 : am_b1 code pc 125) : decode code pc = .ok (.lushr, 1) := am_dc rfl h0 rfl
theorem am_dc_126 {code : ByteArray} {pc : Nat} (h0 : am_b1 code pc 126) : decode code pc = .ok (.iand, 1) := am_dc rfl h0 rfl
theorem am_dc_127 {code : ByteArray} {pc : Nat} (h0 : am_b1 code pc 127) : decode code pc = .ok (.land, 1) := am_dc rfl h0 rfl
theorem am_dc_128 {code : ByteArray} {pc : Nat} (h0 : am_b1 code pc 128) : decode code pc = .ok (.ior, 1) := am_dc rfl h0 rfl
theorem am_dc_129 {code : ByteArray} {pc : Nat} (h0 : am_b1 code pc 129) : decode code pc = .ok (.lor, 1) := am_dc rfl h0 rfl
theorem am_dc_130 {code : ByteArray} {pc : Nat} (h0 : am_b1 code pc 130) : decode code pc = .ok (.ixor, 1) := am_dc rfl h0 rfl
theorem am_dc_131 {code : ByteArray} {pc : Nat} (h0 : am_b1 code pc 131) : decode code pc = .ok (.lxor, 1) := am_dc rfl h0 rfl
theorem am_dc_132 {code : ByteArray} {pc b1 b2 : Nat} (h0 : am_b1 code pc 132) (h1 : am_b1 code (pc + 1) b1) (h2 : am_b1 code (pc + 2) b2) : decode code pc = .ok (.iinc b1 (Jvm.ClassFile.Reader.signed 8 b2), 3) := am_dc rfl h0 (by
  show ((Jvm.ClassFile.Reader.u1 : am_K Nat) >>= fun x => (Jvm.ClassFile.Reader.s1 : am_K Int) >>= fun y => (pure (Jvm.ClassFile.Instr.iinc x y) : am_K Jvm.ClassFile.Instr)).runAt code (pc + 1) = _
  rw [am_rb, h1]
  show ((Jvm.ClassFile.Reader.s1 : am_K Int) >>= fun y => (pure (Jvm.ClassFile.Instr.iinc b1 y) : am_K Jvm.ClassFile.Instr)).runAt code (pc + 1 + 1) = _
  rw [am_rb, am_s1r h2]
  rfl)
theorem am_dc_133 {code : ByteArray} {pc : Nat} (h0 : am_b1 code pc 133) : decode code pc = .ok (.i2l, 1) := am_dc rfl h0 rfl
theorem am_dc_136 {code : ByteArray} {pc : Nat} (h0 : am_b1 code pc 136) : decode code pc = .ok (.l2i, 1) := am_dc rfl h0 rfl
theorem am_dc_146 {code : ByteArray} {pc : Nat} (h0 : am_b1 code pc 146) : decode code pc = .ok (.i2c, 1) := am_dc rfl h0 rfl
theorem am_dc_148 {code : ByteArray} {pc : Nat} (h0 : am_b1 code pc 148) : decode code pc = .ok (.lcmp, 1) := am_dc rfl h0 rfl
theorem am_dc_153 {code : ByteArray} {pc b1 b2 : Nat} (h0 : am_b1 code pc 153) (h1 : am_b1 code (pc + 1) b1) (h2 : am_b1 code (pc + 2) b2) : decode code pc = .ok (.ifCond .eq (Jvm.ClassFile.Reader.signed 16 (b1 * 256 + b2)), 3) := am_dc rfl h0 (by
  show ((Jvm.ClassFile.Reader.s2 : am_K Int) >>= fun x => (pure (Jvm.ClassFile.Instr.ifCond .eq x) : am_K Jvm.ClassFile.Instr)).runAt code (pc + 1) = _
  rw [am_rb, am_s2r h1 h2]
  rfl)
theorem am_dc_154 {code : ByteArray} {pc b1 b2 : Nat} (h0 : am_b1 code pc 154) (h1 : am_b1 code (pc + 1) b1) (h2 : am_b1 code (pc + 2) b2) : decode code pc = .ok (.ifCond .ne (Jvm.ClassFile.Reader.signed 16 (b1 * 256 + b2)), 3) := am_dc rfl h0 (by
  show ((Jvm.ClassFile.Reader.s2 : am_K Int) >>= fun x => (pure (Jvm.ClassFile.Instr.ifCond .ne x) : am_K Jvm.ClassFile.Instr)).runAt code (pc + 1) = _
  rw [am_rb, am_s2r h1 h2]
  rfl)
theorem am_dc_155 {code : ByteArray} {pc b1 b2 : Nat} (h0 : am_b1 code pc 155) (h1 : am_b1 code (pc + 1) b1) (h2 : am_b1 code (pc + 2) b2) : decode code pc = .ok (.ifCond .lt (Jvm.ClassFile.Reader.signed 16 (b1 * 256 + b2)), 3) := am_dc rfl h0 (by
  show ((Jvm.ClassFile.Reader.s2 : am_K Int) >>= fun x => (pure (Jvm.ClassFile.Instr.ifCond .lt x) : am_K Jvm.ClassFile.Instr)).runAt code (pc + 1) = _
  rw [am_rb, am_s2r h1 h2]
  rfl)
theorem am_dc_156 {code : ByteArray} {pc b1 b2 : Nat} (h0 : am_b1 code pc 156) (h1 : am_b1 code (pc + 1) b1) (h2 : am_b1 code (pc + 2) b2) : decode code pc = .ok (.ifCond .ge (Jvm.ClassFile.Reader.signed 16 (b1 * 256 + b2)), 3) := am_dc rfl h0 (by
  show ((Jvm.ClassFile.Reader.s2 : am_K Int) >>= fun x => (pure (Jvm.ClassFile.Instr.ifCond .ge x) : am_K Jvm.ClassFile.Instr)).runAt code (pc + 1) = _
  rw [am_rb, am_s2r h1 h2]
  rfl)
theorem am_dc_157 {code : ByteArray} {pc b1 b2 : Nat} (h0 : am_b1 code pc 157) (h1 : am_b1 code (pc + 1) b1) (h2 : am_b1 code (pc + 2) b2) : decode code pc = .ok (.ifCond .gt (Jvm.ClassFile.Reader.signed 16 (b1 * 256 + b2)), 3) := am_dc rfl h0 (by
  show ((Jvm.ClassFile.Reader.s2 : am_K Int) >>= fun x => (pure (Jvm.ClassFile.Instr.ifCond .gt x) : am_K Jvm.ClassFile.Instr)).runAt code (pc + 1) = _
  rw [am_rb, am_s2r h1 h2]
  rfl)
theorem am_dc_158 {code : ByteArray} {pc b1 b2 : Nat} (h0 : am_b1 code pc 158) (h1 : am_b1 code (pc + 1) b1) (h2 : am_b1 code (pc + 2) b2) : decode code pc = .ok (.ifCond .le (Jvm.ClassFile.Reader.signed 16 (b1 * 256 + b2)), 3) := am_dc rfl h0 (by
  show ((Jvm.ClassFile.Reader.s2 : am_K Int) >>= fun x => (pure (Jvm.ClassFile.Instr.ifCond .le x) : am_K Jvm.ClassFile.Instr)).runAt code (pc + 1) = _
  rw [am_rb, am_s2r h1 h2]
  rfl)
theorem am_dc_159 {code : ByteArray} {pc b1 b2 : Nat} (h0 : am_b1 code pc 159) (h1 : am_b1 code (pc + 1) b1) (h2 : am_b1 code (pc + 2) b2) : decode code pc = .ok (.if_icmp .eq (Jvm.ClassFile.Reader.signed 16 (b1 * 256 + b2)), 3) := am_dc rfl h0 (by
  show ((Jvm.ClassFile.Reader.s2 : am_K Int) >>= fun x => (pure (Jvm.ClassFile.Instr.if_icmp .eq x) : am_K Jvm.ClassFile.Instr)).runAt code (pc + 1) = _
  rw [am_rb, am_s2r h1 h2]
  rfl)
theorem am_dc_160 {code : ByteArray} {pc b1 b2 : Nat} (h0 : am_b1 code pc 160) (h1 : am_b1 code (pc + 1) b1) (h2 : am_b1 code (pc + 2) b2) : decode code pc = .ok (.if_icmp .ne (Jvm.ClassFile.Reader.signed 16 (b1 * 256 + b2)), 3) := am_dc rfl h0 (by
  show ((Jvm.ClassFile.Reader.s2 : am_K Int) >>= fun x => (pure (Jvm.ClassFile.Instr.if_icmp .ne x) : am_K Jvm.ClassFile.Instr)).runAt code (pc + 1) = _
  rw [am_rb, am_s2r h1 h2]
  rfl)
theorem am_dc_161 {code : ByteArray} {pc b1 b2 : Nat} (h0 : am_b1 code pc 161) (h1 : am_b1 code (pc + 1) b1) (h2 : am_b1 code (pc + 2) b2) : decode code pc = .ok (.if_icmp .lt (Jvm.ClassFile.Reader.signed 16 (b1 * 256 + b2)), 3) := am_dc rfl h0 (by
  show ((Jvm.ClassFile.Reader.s2 : am_K Int) >>= fun x => (pure (Jvm.ClassFile.Instr.if_icmp .lt x) : am_K Jvm.ClassFile.Instr)).runAt code (pc + 1) = _
  rw [am_rb, am_s2r h1 h2]
  rfl)
theorem am_dc_162 {code : ByteArray} {pc b1 b2 : Nat} (h0 : am_b1 code pc 162) (h1 : am_b1 code (pc + 1) b1) (h2 : am_b1 code (pc + 2) b2) : decode code pc = .ok (.if_icmp .ge (Jvm.ClassFile.Reader.signed 16 (b1 * 256 + b2)), 3) := am_dc rfl h0 (by
  show ((Jvm.ClassFile.Reader.s2 : am_K Int) >>= fun x => (pure (Jvm.ClassFile.Instr.if_icmp .ge x) : am_K Jvm.ClassFile.Instr)).runAt code (pc + 1) = _
  rw [am_rb, am_s2r h1 h2]
  rfl)
theorem am_dc_163 {code : ByteArray} {pc b1 b2 : Nat} (h0 : am_b1 code pc 163) (h1 : am_b1 code (pc + 1) b1) (h2 : am_b1 code (pc + 2) b2) : decode code pc = .ok (.if_icmp .gt (Jvm.ClassFile.Reader.signed 16 (b1 * 256 + b2)), 3) := am_dc rfl h0 (by
  show ((Jvm.ClassFile.Reader.s2 : am_K Int) >>= fun x => (pure (Jvm.ClassFile.Instr.if_icmp .gt x) : am_K Jvm.ClassFile.Instr)).runAt code (pc + 1) = _
  rw [am_rb, am_s2r h1 h2]
  rfl)
theorem am_dc_164 {code : ByteArray} {pc b1 b2 : Nat} (h0 : am_b1 code pc 164) (h1 : am_b1 code (pc + 1) b1) (h2 : am_b1 code (pc + 2) b2) : decode code pc = .ok (.if_icmp .le (Jvm.ClassFile.Reader.signed 16 (b1 * 256 + b2)), 3) := am_dc rfl h0 (by
  show ((Jvm.ClassFile.Reader.s2 : am_K Int) >>= fun x => (pure (Jvm.ClassFile.Instr.if_icmp .le x) : am_K Jvm.ClassFile.Instr)).runAt code (pc + 1) = _
  rw [am_rb, am_s2r h1 h2]
  rfl)
theorem am_dc_167 {code : ByteArray} {pc b1 b2 : Nat} (h0 : am_b1 code pc 167) (h1 : am_b1 code (pc + 1) b1) (h2 : am_b1 code (pc + 2) b2) : decode code pc = .ok (.goto (Jvm.ClassFile.Reader.signed 16 (b1 * 256 + b2)), 3) := am_dc rfl h0 (by
  show ((Jvm.ClassFile.Reader.s2 : am_K Int) >>= fun x => (pure (Jvm.ClassFile.Instr.goto x) : am_K Jvm.ClassFile.Instr)).runAt code (pc + 1) = _
  rw [am_rb, am_s2r h1 h2]
  rfl)
theorem am_dc_172 {code : ByteArray} {pc : Nat} (h0 : am_b1 code pc 172) : decode code pc = .ok (.ireturn, 1) := am_dc rfl h0 rfl
theorem am_dc_173 {code : ByteArray} {pc : Nat} (h0 : am_b1 code pc 173) : decode code pc = .ok (.lreturn, 1) := am_dc rfl h0 rfl
theorem am_dc_176 {code : ByteArray} {pc : Nat} (h0 : am_b1 code pc 176) : decode code pc = .ok (.areturn, 1) := am_dc rfl h0 rfl
theorem am_dc_177 {code : ByteArray} {pc : Nat} (h0 : am_b1 code pc 177) : decode code pc = .ok (.return_, 1) := am_dc rfl h0 rfl
theorem am_dc_180 {code : ByteArray} {pc b1 b2 : Nat} (h0 : am_b1 code pc 180) (h1 : am_b1 code (pc + 1) b1) (h2 : am_b1 code (pc + 2) b2) : decode code pc = .ok (.getfield (b1 * 256 + b2), 3) := am_dc rfl h0 (by
  show ((Jvm.ClassFile.Reader.u2 : am_K Nat) >>= fun x => (pure (Jvm.ClassFile.Instr.getfield x) : am_K Jvm.ClassFile.Instr)).runAt code (pc + 1) = _
  rw [am_rb, am_u2r h1 h2]
  rfl)
theorem am_dc_181 {code : ByteArray} {pc b1 b2 : Nat} (h0 : am_b1 code pc 181) (h1 : am_b1 code (pc + 1) b1) (h2 : am_b1 code (pc + 2) b2) : decode code pc = .ok (.putfield (b1 * 256 + b2), 3) := am_dc rfl h0 (by
  show ((Jvm.ClassFile.Reader.u2 : am_K Nat) >>= fun x => (pure (Jvm.ClassFile.Instr.putfield x) : am_K Jvm.ClassFile.Instr)).runAt code (pc + 1) = _
  rw [am_rb, am_u2r h1 h2]
  rfl)
theorem am_dc_182 {code : ByteArray} {pc b1 b2 : Nat} (h0 : am_b1 code pc 182) (h1 : am_b1 code (pc + 1) b1) (h2 : am_b1 code (pc + 2) b2) : decode code pc = .ok (.invokevirtual (b1 * 256 + b2), 3) := am_dc rfl h0 (by
  show ((Jvm.ClassFile.Reader.u2 : am_K Nat) >>= fun x => (pure (Jvm.ClassFile.Instr.invokevirtual x) : am_K Jvm.ClassFile.Instr)).runAt code (pc + 1) = _
  rw [am_rb, am_u2r h1 h2]
  rfl)
theorem am_dc_183 {code : ByteArray} {pc b1 b2 : Nat} (h0 : am_b1 code pc 183) (h1 : am_b1 code (pc + 1) b1) (h2 : am_b1 code (pc + 2) b2) : decode code pc = .ok (.invokespecial (b1 * 256 + b2), 3) := am_dc rfl h0 (by
  show ((Jvm.ClassFile.Reader.u2 : am_K Nat) >>= fun x => (pure (Jvm.ClassFile.Instr.invokespecial x) : am_K Jvm.ClassFile.Instr)).runAt code (pc + 1) = _
  rw [am_rb, am_u2r h1 h2]
  rfl)
theorem am_dc_184 {code : ByteArray} {pc b1 b2 : Nat} (h0 : am_b1 code pc 184) (h1 : am_b1 code (pc + 1) b1) (h2 : am_b1 code (pc + 2) b2) : decode code pc = .ok (.invokestatic (b1 * 256 + b2), 3) := am_dc rfl h0 (by
  show ((Jvm.ClassFile.Reader.u2 : am_K Nat) >>= fun x => (pure (Jvm.ClassFile.Instr.invokestatic x) : am_K Jvm.ClassFile.Instr)).runAt code (pc + 1) = _
  rw [am_rb, am_u2r h1 h2]
  rfl)
theorem am_dc_187 {code : ByteArray} {pc b1 b2 : Nat} (h0 : am_b1 code pc 187) (h1 : am_b1 code (pc + 1) b1) (h2 : am_b1 code (pc + 2) b2) : decode code pc = .ok (.new (b1 * 256 + b2), 3) := am_dc rfl h0 (by
  show ((Jvm.ClassFile.Reader.u2 : am_K Nat) >>= fun x => (pure (Jvm.ClassFile.Instr.new x) : am_K Jvm.ClassFile.Instr)).runAt code (pc + 1) = _
  rw [am_rb, am_u2r h1 h2]
  rfl)
theorem am_dc_188_4 {code : ByteArray} {pc : Nat} (h0 : am_b1 code pc 188) (h1 : am_b1 code (pc + 1) 4) : decode code pc = .ok (.newarray .boolean, 2) := am_dc rfl h0 (by
  show (Jvm.ClassFile.Decoder.newarray pc).runAt code (pc + 1) = _
  unfold Jvm.ClassFile.Decoder.newarray
  rw [am_rb, h1]
  rfl)
theorem am_dc_188_5 {code : ByteArray} {pc : Nat} (h0 : am_b1 code pc 188) (h1 : am_b1 code (pc + 1) 5) : decode code pc = .ok (.newarray .char, 2) := am_dc rfl h0 (by
  show (Jvm.ClassFile.Decoder.newarray pc).runAt code (pc + 1) = _
  unfold Jvm.ClassFile.Decoder.newarray
  rw [am_rb, h1]
  rfl)
theorem am_dc_188_10 {code : ByteArray} {pc : Nat} (h0 : am_b1 code pc 188) (h1 : am_b1 code (pc + 1) 10) : decode code pc = .ok (.newarray .int, 2) := am_dc rfl h0 (by
  show (Jvm.ClassFile.Decoder.newarray pc).runAt code (pc + 1) = _
  unfold Jvm.ClassFile.Decoder.newarray
  rw [am_rb, h1]
  rfl)
theorem am_dc_188_11 {code : ByteArray} {pc : Nat} (h0 : am_b1 code pc 188) (h1 : am_b1 code (pc + 1) 11) : decode code pc = .ok (.newarray .long, 2) := am_dc rfl h0 (by
  show (Jvm.ClassFile.Decoder.newarray pc).runAt code (pc + 1) = _
  unfold Jvm.ClassFile.Decoder.newarray
  rw [am_rb, h1]
  rfl)
theorem am_dc_189 {code : ByteArray} {pc b1 b2 : Nat} (h0 : am_b1 code pc 189) (h1 : am_b1 code (pc + 1) b1) (h2 : am_b1 code (pc + 2) b2) : decode code pc = .ok (.anewarray (b1 * 256 + b2), 3) := am_dc rfl h0 (by
  show ((Jvm.ClassFile.Reader.u2 : am_K Nat) >>= fun x => (pure (Jvm.ClassFile.Instr.anewarray x) : am_K Jvm.ClassFile.Instr)).runAt code (pc + 1) = _
  rw [am_rb, am_u2r h1 h2]
  rfl)
theorem am_dc_190 {code : ByteArray} {pc : Nat} (h0 : am_b1 code pc 190) : decode code pc = .ok (.arraylength, 1) := am_dc rfl h0 rfl
theorem am_dcd_ok {code : ByteArray} {pc b0 b1 b2 n : Nat} {I : Jvm.ClassFile.Instr} (h : am_dcd b0 b1 b2 = some (I, n)) (h0 : am_b1 code pc b0) (h1 : 2 ≤ n → am_b1 code (pc + 1) b1) (h2 : 3 ≤ n → am_b1 code (pc + 2) b2) : decode code pc = .ok (I, n) := by
  unfold am_dcd at h
  split at h
  · cases h; exact am_dc_2 h0
  · cases h; exact am_dc_3 h0
  · cases h; exact am_dc_4 h0
  · cases h; exact am_dc_5 h0
  · cases h; exact am_dc_6 h0
  · cases h; exact am_dc_7 h0
  · cases h; exact am_dc_8 h0
  · cases h; exact am_dc_9 h0
  · cases h; exact am_dc_10 h0
  · cases h; exact am_dc_16 h0 (h1 (by decide))
  · cases h; exact am_dc_17 h0 (h1 (by decide)) (h2 (by decide))
  · cases h; exact am_dc_18 h0 (h1 (by decide))
  · cases h; exact am_dc_19 h0 (h1 (by decide)) (h2 (by decide))
  · cases h; exact am_dc_20 h0 (h1 (by decide)) (h2 (by decide))
  · cases h; exact am_dc_21 h0 (h1 (by decide))
  · cases h; exact am_dc_22 h0 (h1 (by decide))
  · cases h; exact am_dc_25 h0 (h1 (by decide))
  · cases h; exact am_dc_26 h0
  · cases h; exact am_dc_27 h0
  · cases h; exact am_dc_28 h0
  · cases h; exact am_dc_29 h0
  · cases h; exact am_dc_30 h0
  · cases h; exact am_dc_31 h0
  · cases h; exact am_dc_32 h0
  · cases h; exact am_dc_33 h0
  · cases h; exact am_dc_42 h0
  · cases h; exact am_dc_43 h0
  · cases h; exact am_dc_44 h0
  · cases h; exact am_dc_45 h0
  · cases h; exact am_dc_46 h0
  · cases h; exact am_dc_47 h0
  · cases h; exact am_dc_50 h0
  · cases h; exact am_dc_51 h0
  · cases h; exact am_dc_52 h0
  · cases h; exact am_dc_54 h0 (h1 (by decide))
  · cases h; exact am_dc_55 h0 (h1 (by decide))
  · cases h; exact am_dc_58 h0 (h1 (by decide))
  · cases h; exact am_dc_59 h0
  · cases h; exact am_dc_60 h0
  · cases h; exact am_dc_61 h0
  · cases h; exact am_dc_62 h0
  · cases h; exact am_dc_63 h0
  · cases h; exact am_dc_64 h0
  · cases h; exact am_dc_65 h0
  · cases h; exact am_dc_66 h0
  · cases h; exact am_dc_75 h0
  · cases h; exact am_dc_76 h0
  · cases h; exact am_dc_77 h0
  · cases h; exact am_dc_78 h0
  · cases h; exact am_dc_79 h0
  · cases h; exact am_dc_80 h0
  · cases h; exact am_dc_83 h0
  · cases h; exact am_dc_84 h0
  · cases h; exact am_dc_85 h0
  · cases h; exact am_dc_87 h0
  · cases h; exact am_dc_88 h0
  · cases h; exact am_dc_89 h0
  · cases h; exact am_dc_90 h0
  · cases h; exact am_dc_91 h0
  · cases h; exact am_dc_92 h0
  · cases h; exact am_dc_93 h0
  · cases h; exact am_dc_94 h0
  · cases h; exact am_dc_96 h0
  · cases h; exact am_dc_97 h0
  · cases h; exact am_dc_100 h0
  · cases h; exact am_dc_101 h0
  · cases h; exact am_dc_104 h0
  · cases h; exact am_dc_105 h0
  · cases h; exact am_dc_108 h0
  · cases h; exact am_dc_112 h0
  · cases h; exact am_dc_116 h0
  · cases h; exact am_dc_117 h0
  · cases h; exact am_dc_120 h0
  · cases h; exact am_dc_121 h0
  · cases h; exact am_dc_122 h0
  · cases h; exact am_dc_123 h0
  · cases h; exact am_dc_124 h0
  · cases h; exact am_dc_125 h0
  · cases h; exact am_dc_126 h0
  · cases h; exact am_dc_127 h0
  · cases h; exact am_dc_128 h0
  · cases h; exact am_dc_129 h0
  · cases h; exact am_dc_130 h0
  · cases h; exact am_dc_131 h0
  · cases h; exact am_dc_132 h0 (h1 (by decide)) (h2 (by decide))
  · cases h; exact am_dc_133 h0
  · cases h; exact am_dc_136 h0
  · cases h; exact am_dc_146 h0
  · cases h; exact am_dc_148 h0
  · cases h; exact am_dc_153 h0 (h1 (by decide)) (h2 (by decide))
  · cases h; exact am_dc_154 h0 (h1 (by decide)) (h2 (by decide))
  · cases h; exact am_dc_155 h0 (h1 (by decide)) (h2 (by decide))
  · cases h; exact am_dc_156 h0 (h1 (by decide)) (h2 (by decide))
  · cases h; exact am_dc_157 h0 (h1 (by decide)) (h2 (by decide))
  · cases h; exact am_dc_158 h0 (h1 (by decide)) (h2 (by decide))
  · cases h; exact am_dc_159 h0 (h1 (by decide)) (h2 (by decide))
  · cases h; exact am_dc_160 h0 (h1 (by decide)) (h2 (by decide))
  · cases h; exact am_dc_161 h0 (h1 (by decide)) (h2 (by decide))
  · cases h; exact am_dc_162 h0 (h1 (by decide)) (h2 (by decide))
  · cases h; exact am_dc_163 h0 (h1 (by decide)) (h2 (by decide))
  · cases h; exact am_dc_164 h0 (h1 (by decide)) (h2 (by decide))
  · cases h; exact am_dc_167 h0 (h1 (by decide)) (h2 (by decide))
  · cases h; exact am_dc_172 h0
  · cases h; exact am_dc_173 h0
  · cases h; exact am_dc_176 h0
  · cases h; exact am_dc_177 h0
  · cases h; exact am_dc_180 h0 (h1 (by decide)) (h2 (by decide))
  · cases h; exact am_dc_181 h0 (h1 (by decide)) (h2 (by decide))
  · cases h; exact am_dc_182 h0 (h1 (by decide)) (h2 (by decide))
  · cases h; exact am_dc_183 h0 (h1 (by decide)) (h2 (by decide))
  · cases h; exact am_dc_184 h0 (h1 (by decide)) (h2 (by decide))
  · cases h; exact am_dc_187 h0 (h1 (by decide)) (h2 (by decide))
  · split at h
    · cases h; exact am_dc_188_4 h0 (h1 (by decide))
    · cases h; exact am_dc_188_5 h0 (h1 (by decide))
    · cases h; exact am_dc_188_10 h0 (h1 (by decide))
    · cases h; exact am_dc_188_11 h0 (h1 (by decide))
    · cases h
  · cases h; exact am_dc_189 h0 (h1 (by decide)) (h2 (by decide))
  · cases h; exact am_dc_190 h0
  · cases h
/-- bytes in rows of sixteen -/
def am_by (B : List (List Nat)) (p : Nat) : Option Nat := match B[p / 16]? with
  | some r => r[p % 16]?
  | none => none
def am_rows : List (List Nat) → Bool
  | [] => true
  | [_] => true
  | r :: s :: t => decide (r.length = 16) && am_rows (s :: t)
theorem am_by_flat : ∀ (B : List (List Nat)) (p b : Nat), am_rows B = true → am_by B p = some b → B.flatten[p]? = some b
  | [], p, b, _, h => by simp [am_by] at h
  | r :: t, p, b, hr, h => by
    by_cases hp : p < 16
    · have e : p / 16 = 0 := Nat.div_eq_of_lt hp
      have e2 : p % 16 = p := Nat.mod_eq_of_lt hp
      simp only [am_by, e, e2, List.getElem?_cons_zero] at h
      rw [List.flatten_cons, List.getElem?_append_left (List.getElem?_eq_some_iff.mp h).1]
      exact h
    · have e : p / 16 = (p - 16) / 16 + 1 := by omega
      have e2 : p % 16 = (p - 16) % 16 := by omega
      simp only [am_by, e, e2, List.getElem?_cons_succ] at h
      cases t with
      | nil => simp at h
      | cons s t =>
        simp only [am_rows, Bool.and_eq_true, decide_eq_true_eq] at hr
        rw [List.flatten_cons, List.getElem?_append_right (by omega), hr.1]
        exact am_by_flat (s :: t) (p - 16) b hr.2 h
