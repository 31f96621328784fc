/-! THE CLAIM OUT OF ONE WALK OF THE LAW'S BODY. Your part is whole_start (and what it stands on); all else here is the same for every law, but numbers. -/
def R_law : String := "HedgeCheckLaw"
def lw_P (b : Addr) (xs : List Int32) (args : Array Value) (s : State) : Prop := args = #[.ref b] ∧ s.IntsAt b xs ∧ xs.length ≤ 1536 ∧ (Jvm.Cond.and given_1 narrow_1).before args s = true
def lw_Q (_ : Array Value) (s : State) (o : Outcome) (t : State) : Prop := o = .returned (some (.int 1)) ∧ Framed s o t [] 600000 7302250
def lw_Z (below : List Frame) (a : Array Value) (s : State) : State → Prop := fun t => ∃ o, t.status = .running ∧ Ended t below o ∧ lw_Q a s o t
/-- the law's own end, with 1 on the stack, nothing written that was there before, its room as the claim has it -/
theorem lw_ret {p : Program} {l : Launch} {e : Env} {s : State} {m : MethodId} {below : List Frame} {meth : Method} {c : Code} {b : Nat} (hx : p.tables.exec = Jvm.exec) (hb : c.code = code) (hr : meth.sig.returnType = ret) (hlocks : meth.locks = false) {pc : Nat} {H : Heap} {ls : Array Slot} (hdg : decode code pc = .ok (.ireturn, 1)) : W p l e room_1 s m #[Value.ref b] below meth c H [] 600000 7302250 (lw_Z below #[Value.ref b] s) (F0 m pc ls [.int 1]) := by
  intro T hT X
  obtain ⟨fs, hret, hrun, hended, hW, hframe⟩ := X.leave (v := some (.int 1)) (hlocks := hlocks) (fun h => by rw [hr] at h; cases h)
  have hmeth' : T.vm.method? m = some meth := X.method'
  refine ⟨T.setFrames fs, ?_, .returned (some (.int 1)), hrun, hended, rfl, ⟨_, rfl⟩, hW, hframe⟩
  jvm_step X.here [X.here.top, hx, hb, hdg, hmeth', hr, ret, narrow_b1]
  (try refine ⟨rfl, ?_⟩); (try refine ⟨rfl, ?_⟩)
  first | (intro acts; rw [hret _ acts rfl rfl rfl]) | rw [hret _ _ rfl rfl rfl]
  exact Steps.refl _
/-- what holds at the law's entry: the machine, the code, the tables' words (any of lw_tbl by 'hts w (by decide +kernel)'), the script of L ints xs at the cell b, what the Statement gives of the start (any of its parts by flat_of_before) -/
def lw_At (p : Program) (s : State) (m : MethodId) (meth : Method) (c : Code) (b L : Nat) (xs : Nat → Int32) : Prop :=
  p.tables.exec = Jvm.exec ∧ c.code = code ∧ meth.sig.returnType = ret ∧ c.maxLocals = 4 ∧ s.vm.findClass R_law = some m.cls ∧ (∀ w ∈ lw_tbl, w.before #[Value.ref b] s = true) ∧ va_X b L xs s s.heap ∧ b < s.heap.size ∧ meth.locks = false ∧ (Jvm.Cond.and given_1 narrow_1).before #[Value.ref b] s = true
/-! the law: its own walk over the abstract machine -/
def M_law_c : List (List (Option am_I)) := [[some (.new 7, 3, 0, 114, 0), none, none, some (.dup, 1, 0, 0, 0), some (.invokespecial 9, 3, 0, 116, 0), none, none, some (.astore_n 1, 1, 0, 0, 0), some (.new 10, 3, 10, 815, 0), none, none, some (.dup, 1, 0, 0, 0), some (.invokespecial 12, 3, 120, 817, 0), none, none, some (.astore_n 2, 1, 0, 0, 0)],
  [some (.iconst 0, 1, 0, 0, 0), some (.istore_n 3, 1, 0, 0, 0), some (.iload_n 3, 1, 0, 0, 0), some (.aload_n 0, 1, 0, 0, 0), some (.arraylength, 1, 0, 0, 0), some (.iconst 3, 1, 0, 0, 0), some (.isub, 1, 0, 0, 0), some (.if_icmp .gt 525, 3, 548, 0, 0), none, none, some (.aload_n 0, 1, 0, 0, 0), some (.iload_n 3, 1, 0, 0, 0), some (.iaload, 1, 0, 0, 0), some (.bipush 31, 2, 0, 0, 0), none, some (.iand, 1, 0, 0, 0)],
  [none, none, none, none, none, none, none, none, none, none, none, none, none, none, none, none],
  [none, none, none, none, none, none, none, none, none, none, none, none, none, none, none, none],
  [none, none, none, none, none, none, none, none, none, none, none, none, none, none, none, none],
  [none, none, none, none, none, none, none, none, none, none, none, none, none, none, none, none],
  [none, none, none, none, none, none, none, none, none, none, none, none, none, none, none, none],
  [none, none, none, none, none, none, none, none, none, none, none, none, none, none, none, none],
  [some (.aload_n 1, 1, 0, 0, 0), some (.aload_n 0, 1, 0, 0, 0), some (.iload_n 3, 1, 0, 0, 0), some (.iconst 1, 1, 0, 0, 0), some (.iadd, 1, 0, 0, 0), some (.iaload, 1, 0, 0, 0), some (.i2c, 1, 0, 0, 0), some (.invokevirtual 13, 3, 10, 396, 0), none, none, some (.aload_n 2, 1, 0, 0, 0), some (.aload_n 0, 1, 0, 0, 0), some (.iload_n 3, 1, 0, 0, 0), some (.iconst 1, 1, 0, 0, 0), some (.iadd, 1, 0, 0, 0), some (.iaload, 1, 0, 0, 0)],
  [some (.i2c, 1, 0, 0, 0), some (.invokevirtual 17, 3, 121, 893, 0), none, none, some (.if_icmp .eq 394, 3, 542, 0, 0), none, none, some (.iconst 0, 1, 0, 0, 0), some (.ireturn, 1, 0, 0, 0), some (.aload_n 1, 1, 0, 0, 0), some (.invokevirtual 18, 3, 11, 400, 0), none, none, some (.aload_n 2, 1, 0, 0, 0), some (.invokevirtual 21, 3, 122, 897, 0), none],
  [none, some (.goto 381, 3, 542, 0, 0), none, none, some (.aload_n 1, 1, 0, 0, 0), some (.invokevirtual 22, 3, 12, 404, 0), none, none, some (.aload_n 2, 1, 0, 0, 0), some (.invokevirtual 26, 3, 123, 901, 0), none, none, some (.if_icmp .eq 370, 3, 542, 0, 0), none, none, some (.iconst 0, 1, 0, 0, 0)],
  [some (.ireturn, 1, 0, 0, 0), some (.aload_n 1, 1, 0, 0, 0), some (.invokevirtual 27, 3, 42, 501, 0), none, none, some (.aload_n 2, 1, 0, 0, 0), some (.invokevirtual 30, 3, 135, 938, 0), none, none, some (.if_icmp .eq 357, 3, 542, 0, 0), none, none, some (.iconst 0, 1, 0, 0, 0), some (.ireturn, 1, 0, 0, 0), some (.aload_n 1, 1, 0, 0, 0), some (.invokevirtual 31, 3, 46, 516, 0)],
  [none, none, some (.aload_n 2, 1, 0, 0, 0), some (.invokevirtual 34, 3, 183, 1099, 0), none, none, some (.if_icmp .eq 344, 3, 542, 0, 0), none, none, some (.iconst 0, 1, 0, 0, 0), some (.ireturn, 1, 0, 0, 0), some (.aload_n 1, 1, 0, 0, 0), some (.aload_n 0, 1, 0, 0, 0), some (.iload_n 3, 1, 0, 0, 0), some (.iconst 1, 1, 0, 0, 0), some (.iadd, 1, 0, 0, 0)],
  [some (.iaload, 1, 0, 0, 0), some (.invokevirtual 35, 3, 47, 520, 0), none, none, some (.aload_n 2, 1, 0, 0, 0), some (.aload_n 0, 1, 0, 0, 0), some (.iload_n 3, 1, 0, 0, 0), some (.iconst 1, 1, 0, 0, 0), some (.iadd, 1, 0, 0, 0), some (.iaload, 1, 0, 0, 0), some (.invokevirtual 39, 3, 185, 1106, 0), none, none, some (.if_icmp .eq 321, 3, 542, 0, 0), none, none],
  [some (.iconst 0, 1, 0, 0, 0), some (.ireturn, 1, 0, 0, 0), some (.aload_n 1, 1, 0, 0, 0), some (.aload_n 0, 1, 0, 0, 0), some (.iload_n 3, 1, 0, 0, 0), some (.iconst 1, 1, 0, 0, 0), some (.iadd, 1, 0, 0, 0), some (.iaload, 1, 0, 0, 0), some (.invokevirtual 40, 3, 49, 528, 0), none, none, some (.aload_n 2, 1, 0, 0, 0), some (.aload_n 0, 1, 0, 0, 0), some (.iload_n 3, 1, 0, 0, 0), some (.iconst 1, 1, 0, 0, 0), some (.iadd, 1, 0, 0, 0)],
  [some (.iaload, 1, 0, 0, 0), some (.invokevirtual 44, 3, 186, 1110, 0), none, none, some (.if_icmp .eq 298, 3, 542, 0, 0), none, none, some (.iconst 0, 1, 0, 0, 0), some (.ireturn, 1, 0, 0, 0), some (.aload_n 1, 1, 0, 0, 0), some (.invokevirtual 45, 3, 59, 568, 0), none, none, some (.aload_n 2, 1, 0, 0, 0), some (.invokevirtual 48, 3, 137, 945, 0), none],
  [none, some (.if_icmp .eq 285, 3, 542, 0, 0), none, none, some (.iconst 0, 1, 0, 0, 0), some (.ireturn, 1, 0, 0, 0), some (.aload_n 1, 1, 0, 0, 0), some (.aload_n 0, 1, 0, 0, 0), some (.iload_n 3, 1, 0, 0, 0), some (.iconst 1, 1, 0, 0, 0), some (.iadd, 1, 0, 0, 0), some (.iaload, 1, 0, 0, 0), some (.invokevirtual 49, 3, 69, 607, 0), none, none, some (.aload_n 2, 1, 0, 0, 0)],
  [some (.aload_n 0, 1, 0, 0, 0), some (.iload_n 3, 1, 0, 0, 0), some (.iconst 1, 1, 0, 0, 0), some (.iadd, 1, 0, 0, 0), some (.iaload, 1, 0, 0, 0), some (.invokevirtual 53, 3, 149, 983, 0), none, none, some (.lcmp, 1, 0, 0, 0), some (.ifCond .eq 261, 3, 542, 0, 0), none, none, some (.iconst 0, 1, 0, 0, 0), some (.ireturn, 1, 0, 0, 0), some (.aload_n 1, 1, 0, 0, 0), some (.aload_n 0, 1, 0, 0, 0)],
  [some (.iload_n 3, 1, 0, 0, 0), some (.iconst 1, 1, 0, 0, 0), some (.iadd, 1, 0, 0, 0), some (.iaload, 1, 0, 0, 0), some (.aload_n 0, 1, 0, 0, 0), some (.iload_n 3, 1, 0, 0, 0), some (.iconst 2, 1, 0, 0, 0), some (.iadd, 1, 0, 0, 0), some (.iaload, 1, 0, 0, 0), some (.invokevirtual 54, 3, 71, 618, 0), none, none, some (.aload_n 2, 1, 0, 0, 0), some (.aload_n 0, 1, 0, 0, 0), some (.iload_n 3, 1, 0, 0, 0), some (.iconst 1, 1, 0, 0, 0)],
  [some (.iadd, 1, 0, 0, 0), some (.iaload, 1, 0, 0, 0), some (.aload_n 0, 1, 0, 0, 0), some (.iload_n 3, 1, 0, 0, 0), some (.iconst 2, 1, 0, 0, 0), some (.iadd, 1, 0, 0, 0), some (.iaload, 1, 0, 0, 0), some (.invokevirtual 58, 3, 152, 996, 0), none, none, some (.lcmp, 1, 0, 0, 0), some (.ifCond .eq 227, 3, 542, 0, 0), none, none, some (.iconst 0, 1, 0, 0, 0), some (.ireturn, 1, 0, 0, 0)],
  [some (.aload_n 1, 1, 0, 0, 0), some (.aload_n 0, 1, 0, 0, 0), some (.iload_n 3, 1, 0, 0, 0), some (.iconst 1, 1, 0, 0, 0), some (.iadd, 1, 0, 0, 0), some (.iaload, 1, 0, 0, 0), some (.aload_n 0, 1, 0, 0, 0), some (.iload_n 3, 1, 0, 0, 0), some (.iconst 2, 1, 0, 0, 0), some (.iadd, 1, 0, 0, 0), some (.iaload, 1, 0, 0, 0), some (.invokevirtual 59, 3, 72, 623, 0), none, none, some (.aload_n 2, 1, 0, 0, 0), some (.aload_n 0, 1, 0, 0, 0)],
  [some (.iload_n 3, 1, 0, 0, 0), some (.iconst 1, 1, 0, 0, 0), some (.iadd, 1, 0, 0, 0), some (.iaload, 1, 0, 0, 0), some (.aload_n 0, 1, 0, 0, 0), some (.iload_n 3, 1, 0, 0, 0), some (.iconst 2, 1, 0, 0, 0), some (.iadd, 1, 0, 0, 0), some (.iaload, 1, 0, 0, 0), some (.invokevirtual 62, 3, 153, 1000, 0), none, none, some (.lcmp, 1, 0, 0, 0), some (.ifCond .eq 193, 3, 542, 0, 0), none, none],
  [some (.iconst 0, 1, 0, 0, 0), some (.ireturn, 1, 0, 0, 0), some (.aload_n 1, 1, 0, 0, 0), some (.aload_n 0, 1, 0, 0, 0), some (.iload_n 3, 1, 0, 0, 0), some (.iconst 1, 1, 0, 0, 0), some (.iadd, 1, 0, 0, 0), some (.iaload, 1, 0, 0, 0), some (.invokevirtual 63, 3, 82, 661, 0), none, none, some (.aload_n 2, 1, 0, 0, 0), some (.aload_n 0, 1, 0, 0, 0), some (.iload_n 3, 1, 0, 0, 0), some (.iconst 1, 1, 0, 0, 0), some (.iadd, 1, 0, 0, 0)],
  [some (.iaload, 1, 0, 0, 0), some (.invokevirtual 66, 3, 158, 1018, 0), none, none, some (.lcmp, 1, 0, 0, 0), some (.ifCond .eq 169, 3, 542, 0, 0), none, none, some (.iconst 0, 1, 0, 0, 0), some (.ireturn, 1, 0, 0, 0), some (.aload_n 1, 1, 0, 0, 0), some (.aload_n 0, 1, 0, 0, 0), some (.iload_n 3, 1, 0, 0, 0), some (.iconst 1, 1, 0, 0, 0), some (.iadd, 1, 0, 0, 0), some (.iaload, 1, 0, 0, 0)],
  [some (.invokevirtual 67, 3, 92, 701, 0), none, none, some (.aload_n 2, 1, 0, 0, 0), some (.aload_n 0, 1, 0, 0, 0), some (.iload_n 3, 1, 0, 0, 0), some (.iconst 1, 1, 0, 0, 0), some (.iadd, 1, 0, 0, 0), some (.iaload, 1, 0, 0, 0), some (.invokevirtual 70, 3, 172, 1061, 0), none, none, some (.if_icmp .eq 146, 3, 542, 0, 0), none, none, some (.iconst 0, 1, 0, 0, 0)],
  [some (.ireturn, 1, 0, 0, 0), some (.aload_n 1, 1, 0, 0, 0), some (.aload_n 0, 1, 0, 0, 0), some (.iload_n 3, 1, 0, 0, 0), some (.iconst 1, 1, 0, 0, 0), some (.iadd, 1, 0, 0, 0), some (.iaload, 1, 0, 0, 0), some (.invokevirtual 71, 3, 95, 715, 0), none, none, some (.aload_n 2, 1, 0, 0, 0), some (.aload_n 0, 1, 0, 0, 0), some (.iload_n 3, 1, 0, 0, 0), some (.iconst 1, 1, 0, 0, 0), some (.iadd, 1, 0, 0, 0), some (.iaload, 1, 0, 0, 0)],
  [some (.invokevirtual 74, 3, 173, 1065, 0), none, none, some (.if_icmp .eq 123, 3, 542, 0, 0), none, none, some (.iconst 0, 1, 0, 0, 0), some (.ireturn, 1, 0, 0, 0), some (.aload_n 1, 1, 0, 0, 0), some (.aload_n 0, 1, 0, 0, 0), some (.iload_n 3, 1, 0, 0, 0), some (.iconst 1, 1, 0, 0, 0), some (.iadd, 1, 0, 0, 0), some (.iaload, 1, 0, 0, 0), some (.invokevirtual 75, 3, 104, 746, 0), none],
  [none, some (.aload_n 2, 1, 0, 0, 0), some (.aload_n 0, 1, 0, 0, 0), some (.iload_n 3, 1, 0, 0, 0), some (.iconst 1, 1, 0, 0, 0), some (.iadd, 1, 0, 0, 0), some (.iaload, 1, 0, 0, 0), some (.invokevirtual 78, 3, 181, 1090, 0), none, none, some (.if_icmp .eq 100, 3, 542, 0, 0), none, none, some (.iconst 0, 1, 0, 0, 0), some (.ireturn, 1, 0, 0, 0), some (.aload_n 1, 1, 0, 0, 0)],
  [some (.aload_n 0, 1, 0, 0, 0), some (.iload_n 3, 1, 0, 0, 0), some (.iconst 1, 1, 0, 0, 0), some (.iadd, 1, 0, 0, 0), some (.iaload, 1, 0, 0, 0), some (.invokevirtual 79, 3, 108, 762, 0), none, none, some (.aload_n 2, 1, 0, 0, 0), some (.aload_n 0, 1, 0, 0, 0), some (.iload_n 3, 1, 0, 0, 0), some (.iconst 1, 1, 0, 0, 0), some (.iadd, 1, 0, 0, 0), some (.iaload, 1, 0, 0, 0), some (.invokevirtual 82, 3, 193, 1137, 0), none],
  [none, some (.if_icmp .eq 77, 3, 542, 0, 0), none, none, some (.iconst 0, 1, 0, 0, 0), some (.ireturn, 1, 0, 0, 0), some (.aload_n 1, 1, 0, 0, 0), some (.invokevirtual 83, 3, 115, 794, 0), none, none, some (.aload_n 2, 1, 0, 0, 0), some (.invokevirtual 86, 3, 189, 1120, 0), none, none, some (.if_icmp .eq 64, 3, 542, 0, 0), none],
  [none, some (.iconst 0, 1, 0, 0, 0), some (.ireturn, 1, 0, 0, 0), some (.aload_n 1, 1, 0, 0, 0), some (.aload_n 0, 1, 0, 0, 0), some (.iload_n 3, 1, 0, 0, 0), some (.iconst 1, 1, 0, 0, 0), some (.iadd, 1, 0, 0, 0), some (.iaload, 1, 0, 0, 0), some (.invokevirtual 87, 3, 116, 798, 0), none, none, some (.aload_n 2, 1, 0, 0, 0), some (.aload_n 0, 1, 0, 0, 0), some (.iload_n 3, 1, 0, 0, 0), some (.iconst 1, 1, 0, 0, 0)],
  [some (.iadd, 1, 0, 0, 0), some (.iaload, 1, 0, 0, 0), some (.invokevirtual 90, 3, 190, 1124, 0), none, none, some (.if_icmp .eq 41, 3, 542, 0, 0), none, none, some (.iconst 0, 1, 0, 0, 0), some (.ireturn, 1, 0, 0, 0), some (.aload_n 1, 1, 0, 0, 0), some (.aload_n 0, 1, 0, 0, 0), some (.iload_n 3, 1, 0, 0, 0), some (.iconst 1, 1, 0, 0, 0), some (.iadd, 1, 0, 0, 0), some (.iaload, 1, 0, 0, 0)],
  [some (.invokevirtual 91, 3, 117, 802, 0), none, none, some (.aload_n 2, 1, 0, 0, 0), some (.aload_n 0, 1, 0, 0, 0), some (.iload_n 3, 1, 0, 0, 0), some (.iconst 1, 1, 0, 0, 0), some (.iadd, 1, 0, 0, 0), some (.iaload, 1, 0, 0, 0), some (.invokevirtual 94, 3, 191, 1128, 0), none, none, some (.if_icmp .eq 18, 3, 542, 0, 0), none, none, some (.iconst 0, 1, 0, 0, 0)],
  [some (.ireturn, 1, 0, 0, 0), some (.aload_n 1, 1, 0, 0, 0), some (.invokevirtual 95, 3, 118, 806, 0), none, none, some (.aload_n 2, 1, 0, 0, 0), some (.invokevirtual 99, 3, 192, 1132, 0), none, none, some (.if_icmp .eq 5, 3, 542, 0, 0), none, none, some (.iconst 0, 1, 0, 0, 0), some (.ireturn, 1, 0, 0, 0), some (.iinc 3 3, 3, 0, 0, 0), none],
  [none, some (.goto (-527), 3, 18, 0, 0), none, none, some (.iconst 1, 1, 0, 0, 0), some (.ireturn, 1, 0, 0, 0), none, none, none, none, none, none, none, none, none, none]]
def M_law_b : List (List Nat) := [[187, 0, 7, 89, 183, 0, 9, 76, 187, 0, 10, 89, 183, 0, 12, 77], [3, 62, 29, 42, 190, 6, 100, 163, 2, 13, 42, 29, 46, 16, 31, 126], [170, 0, 0, 0, 0, 0, 1, 254, 0, 0, 0, 0, 0, 0, 0, 19], [0, 0, 0, 96, 0, 0, 0, 121, 0, 0, 0, 132, 0, 0, 0, 145], [0, 0, 0, 158, 0, 0, 0, 171, 0, 0, 0, 194, 0, 0, 0, 217], [0, 0, 0, 230, 0, 0, 0, 254, 0, 0, 1, 32, 0, 0, 1, 66], [0, 0, 1, 90, 0, 0, 1, 113, 0, 0, 1, 136, 0, 0, 1, 159], [0, 0, 1, 182, 0, 0, 1, 195, 0, 0, 1, 218, 0, 0, 1, 241], [43, 42, 29, 4, 96, 46, 146, 182, 0, 13, 44, 42, 29, 4, 96, 46], [146, 182, 0, 17, 159, 1, 138, 3, 172, 43, 182, 0, 18, 44, 182, 0], [21, 167, 1, 125, 43, 182, 0, 22, 44, 182, 0, 26, 159, 1, 114, 3], [172, 43, 182, 0, 27, 44, 182, 0, 30, 159, 1, 101, 3, 172, 43, 182], [0, 31, 44, 182, 0, 34, 159, 1, 88, 3, 172, 43, 42, 29, 4, 96], [46, 182, 0, 35, 44, 42, 29, 4, 96, 46, 182, 0, 39, 159, 1, 65], [3, 172, 43, 42, 29, 4, 96, 46, 182, 0, 40, 44, 42, 29, 4, 96], [46, 182, 0, 44, 159, 1, 42, 3, 172, 43, 182, 0, 45, 44, 182, 0], [48, 159, 1, 29, 3, 172, 43, 42, 29, 4, 96, 46, 182, 0, 49, 44], [42, 29, 4, 96, 46, 182, 0, 53, 148, 153, 1, 5, 3, 172, 43, 42], [29, 4, 96, 46, 42, 29, 5, 96, 46, 182, 0, 54, 44, 42, 29, 4], [96, 46, 42, 29, 5, 96, 46, 182, 0, 58, 148, 153, 0, 227, 3, 172], [43, 42, 29, 4, 96, 46, 42, 29, 5, 96, 46, 182, 0, 59, 44, 42], [29, 4, 96, 46, 42, 29, 5, 96, 46, 182, 0, 62, 148, 153, 0, 193], [3, 172, 43, 42, 29, 4, 96, 46, 182, 0, 63, 44, 42, 29, 4, 96], [46, 182, 0, 66, 148, 153, 0, 169, 3, 172, 43, 42, 29, 4, 96, 46], [182, 0, 67, 44, 42, 29, 4, 96, 46, 182, 0, 70, 159, 0, 146, 3], [172, 43, 42, 29, 4, 96, 46, 182, 0, 71, 44, 42, 29, 4, 96, 46], [182, 0, 74, 159, 0, 123, 3, 172, 43, 42, 29, 4, 96, 46, 182, 0], [75, 44, 42, 29, 4, 96, 46, 182, 0, 78, 159, 0, 100, 3, 172, 43], [42, 29, 4, 96, 46, 182, 0, 79, 44, 42, 29, 4, 96, 46, 182, 0], [82, 159, 0, 77, 3, 172, 43, 182, 0, 83, 44, 182, 0, 86, 159, 0], [64, 3, 172, 43, 42, 29, 4, 96, 46, 182, 0, 87, 44, 42, 29, 4], [96, 46, 182, 0, 90, 159, 0, 41, 3, 172, 43, 42, 29, 4, 96, 46], [182, 0, 91, 44, 42, 29, 4, 96, 46, 182, 0, 94, 159, 0, 18, 3], [172, 43, 182, 0, 95, 44, 182, 0, 99, 159, 0, 5, 3, 172, 132, 3], [3, 167, 253, 241, 4, 172]]
def M_law : am_M := ((14, false, "law", "([I)Z"), code, 4, some .boolean, M_law_c, M_law_b)
theorem lw_ok : am_ok M_law = true := by decide +kernel
theorem lw_dec {pc n : Nat} {I : Jvm.ClassFile.Instr} {x : Nat × Nat × Nat} (hf : am_fetch M_law pc = some (I, n, x)) : decode code pc = .ok (I, n) := am_dec lw_ok hf
theorem lw_sw : decode code 32 = .ok (.tableswitch 510 0 19 #[96, 121, 132, 145, 158, 171, 194, 217, 230, 254, 288, 322, 346, 369, 392, 415, 438, 451, 474, 497], 96) := by decide +kernel
def lw_v (B b : Nat) (v : Value) : Value := match v with
  | .retAddr _ => .ref b
  | .ref k => .ref (B + k)
  | .int x => .int x
  | .long x => .long x
  | .null => .null
  | .float x => .float x
  | .double x => .double x
theorem lw_v_cat (B b : Nat) (v : Value) : (lw_v B b v).category = v.category := by cases v <;> rfl
def lw_G (s : State) (D : va_G) (dA : Nat → ClassId) (h : am_H) (kc ks : Nat) (H : Heap) (locs : List Loc) (cells slots : Nat) : Prop := am_W D dA s.heap.size h H ∧ (∀ q : Nat, q < s.heap.size → H[q]? = s.heap[q]?) ∧ (∀ q ∈ locs, s.heap.size ≤ q.base) ∧ cells + kc ≤ 600000 ∧ slots + ks ≤ 7302250
def lw_T (l : Launch) (b L : Nat) (xs : Nat → Int32) (pc : Nat) (lv : List (Nat × Value)) (st : List Value) (h : am_H) (kc ks : Nat) : Prop :=
  ∀ (p : Program) (e : Env) (s : State) (m : MethodId) (below : List Frame) (meth : Method) (c : Code) (D : va_G) (dA : Nat → ClassId) (H : Heap) (locs : List Loc) (cells slots : Nat) (lc : Array Slot), lw_At p s m meth c b L xs → am_E D dA s → lw_G s D dA h kc ks H locs cells slots → lv_has lc 4 (lv.map (fun q => (q.1, lw_v s.heap.size b q.2))) →
    W p l e room_1 s m #[Value.ref b] below meth c H locs cells slots (lw_Z below #[Value.ref b] s) (F0 m pc lc (st.map (lw_v s.heap.size b)))
section LWR
variable {l : Launch} {b L : Nat} {xs : Nat → Int32} {pc : Nat} {lv lv' : List (Nat × Value)} {st : List Value} {h : am_H} {kc ks : Nat} {z : Nat × Nat × Nat}
theorem lw_iconst {n : Int} {v : Int32} (hf : am_fetch M_law pc = some (.iconst n, 1, z)) (hv : Int32.ofInt n = v) (k : lw_T l b L xs (pc + 1) lv (.int v :: st) h kc ks) : lw_T l b L xs pc lv (st) h kc ks :=
  fun p e s m below meth c D dA H locs cells slots lc C0 hE G hl => lv_iconst C0.1 C0.2.1 (lw_dec hf) hv (k p e s m below meth c D dA H locs cells slots lc C0 hE G hl)
theorem lw_bipush {n : Int} {v : Int32} (hf : am_fetch M_law pc = some (.bipush n, 2, z)) (hv : (Int8.ofInt n).toInt32 = v) (k : lw_T l b L xs (pc + 2) lv (.int v :: st) h kc ks) : lw_T l b L xs pc lv (st) h kc ks :=
  fun p e s m below meth c D dA H locs cells slots lc C0 hE G hl => lv_bipush C0.1 C0.2.1 (lw_dec hf) hv (k p e s m below meth c D dA H locs cells slots lc C0 hE G hl)
theorem lw_iadd {x y : Int32} (hf : am_fetch M_law pc = some (.iadd, 1, z)) (k : lw_T l b L xs (pc + 1) lv (.int (x + y) :: st) h kc ks) : lw_T l b L xs pc lv (.int y :: .int x :: st) h kc ks :=
  fun p e s m below meth c D dA H locs cells slots lc C0 hE G hl => lv_iadd C0.1 C0.2.1 (lw_dec hf) (k p e s m below meth c D dA H locs cells slots lc C0 hE G hl)
theorem lw_isub {x y : Int32} (hf : am_fetch M_law pc = some (.isub, 1, z)) (k : lw_T l b L xs (pc + 1) lv (.int (x - y) :: st) h kc ks) : lw_T l b L xs pc lv (.int y :: .int x :: st) h kc ks :=
  fun p e s m below meth c D dA H locs cells slots lc C0 hE G hl => lv_isub C0.1 C0.2.1 (lw_dec hf) (k p e s m below meth c D dA H locs cells slots lc C0 hE G hl)
theorem lw_iand {x y : Int32} (hf : am_fetch M_law pc = some (.iand, 1, z)) (k : lw_T l b L xs (pc + 1) lv (.int (x &&& y) :: st) h kc ks) : lw_T l b L xs pc lv (.int y :: .int x :: st) h kc ks :=
  fun p e s m below meth c D dA H locs cells slots lc C0 hE G hl => lv_iand C0.1 C0.2.1 (lw_dec hf) (k p e s m below meth c D dA H locs cells slots lc C0 hE G hl)
theorem lw_i2c {x v : Int32} (hf : am_fetch M_law pc = some (.i2c, 1, z)) (hv : (x.toUInt32 % 65536).toInt32 = v) (k : lw_T l b L xs (pc + 1) lv (.int v :: st) h kc ks) : lw_T l b L xs pc lv (.int x :: st) h kc ks :=
  fun p e s m below meth c D dA H locs cells slots lc C0 hE G hl => lv_i2c C0.1 C0.2.1 (lw_dec hf) hv (k p e s m below meth c D dA H locs cells slots lc C0 hE G hl)
theorem lw_lcmp {x y : Int64} (hf : am_fetch M_law pc = some (.lcmp, 1, z)) (k : lw_T l b L xs (pc + 1) lv (.int (lg_cmp x y) :: st) h kc ks) : lw_T l b L xs pc lv (.long y :: .long x :: st) h kc ks :=
  fun p e s m below meth c D dA H locs cells slots lc C0 hE G hl => W.lcmp C0.1 C0.2.1 (lw_dec hf) (k p e s m below meth c D dA H locs cells slots lc C0 hE G hl)
theorem lw_dup {v : Value} (hf : am_fetch M_law pc = some (.dup, 1, z)) (hv : v.category = 1) (k : lw_T l b L xs (pc + 1) lv (v :: v :: st) h kc ks) : lw_T l b L xs pc lv (v :: st) h kc ks :=
  fun p e s m below meth c D dA H locs cells slots lc C0 hE G hl => lv_dup C0.1 C0.2.1 (lw_dec hf) ((lw_v_cat _ b v).trans hv) (k p e s m below meth c D dA H locs cells slots lc C0 hE G hl)
theorem lw_lget {lc : Array Slot} {B : Nat} (hl : lv_has lc 4 (lv.map (fun q => (q.1, lw_v B b q.2)))) {j i : Nat} {v : Value} (hj : lv[j]? = some (i, v)) : lc[i]? = some (.val (lw_v B b v)) := by
  refine hl.2.2 (i, lw_v B b v) (List.mem_of_getElem? (i := j) ?_)
  rw [List.getElem?_map, hj]
  rfl
theorem lw_aload {i : Fin 4} {j : Nat} {x : Nat} (hf : am_fetch M_law pc = some (.aload_n i, 1, z)) (hj : lv[j]? = some ((i : Nat), .ref x)) (k : lw_T l b L xs (pc + 1) lv (.ref x :: st) h kc ks) : lw_T l b L xs pc lv st h kc ks :=
  fun p e s m below meth c D dA H locs cells slots lc C0 hE G hl => lv_aload_n C0.1 C0.2.1 (lw_dec hf) rfl (lw_lget hl hj) (k p e s m below meth c D dA H locs cells slots lc C0 hE G hl)
theorem lw_aload0 {i : Fin 4} {j : Nat} {x : Nat} (hf : am_fetch M_law pc = some (.aload_n i, 1, z)) (hj : lv[j]? = some ((i : Nat), .retAddr x)) (k : lw_T l b L xs (pc + 1) lv (.retAddr x :: st) h kc ks) : lw_T l b L xs pc lv st h kc ks :=
  fun p e s m below meth c D dA H locs cells slots lc C0 hE G hl => lv_aload_n C0.1 C0.2.1 (lw_dec hf) rfl (lw_lget hl hj) (k p e s m below meth c D dA H locs cells slots lc C0 hE G hl)
theorem lw_iload {i : Fin 4} {j : Nat} {x : Int32} (hf : am_fetch M_law pc = some (.iload_n i, 1, z)) (hj : lv[j]? = some ((i : Nat), .int x)) (k : lw_T l b L xs (pc + 1) lv (.int x :: st) h kc ks) : lw_T l b L xs pc lv st h kc ks :=
  fun p e s m below meth c D dA H locs cells slots lc C0 hE G hl => lv_iload_n C0.1 C0.2.1 (lw_dec hf) rfl (lw_lget hl hj) (k p e s m below meth c D dA H locs cells slots lc C0 hE G hl)
theorem lw_sub {lc : Array Slot} {B : Nat} {a : List (Nat × Value)} (hl : lv_has lc 4 (a.map (fun q => (q.1, lw_v B b q.2)))) (hs : ∀ q ∈ lv', q ∈ a) : lv_has lc 4 (lv'.map (fun q => (q.1, lw_v B b q.2))) := by
  refine ⟨hl.1, hl.2.1, fun q hq => ?_⟩
  obtain ⟨u, hu, rfl⟩ := List.mem_map.mp hq
  exact hl.2.2 _ (List.mem_map.mpr ⟨u, hs u hu, rfl⟩)
theorem lw_filt (B : Nat) (i : Nat) : ∀ a : List (Nat × Value), (a.map (fun q => (q.1, lw_v B b q.2))).filter (fun q => !(q.1 == i) && !(q.1 + 1 == i && q.2.category == 2)) = (a.filter (fun q => !(q.1 == i) && !(q.1 + 1 == i && q.2.category == 2))).map (fun q => (q.1, lw_v B b q.2))
  | [] => rfl
  | x :: a => by
    rw [List.map_cons, List.filter_cons, List.filter_cons]
    simp only [lw_v_cat]
    split
    · rw [List.map_cons, lw_filt B i a]
    · exact lw_filt B i a
theorem lw_astore {i : Fin 4} {x : Nat} (hf : am_fetch M_law pc = some (.astore_n i, 1, z)) (hv : ((i : Nat), Value.ref x) :: lv.filter (fun q => !(q.1 == (i : Nat)) && !(q.1 + 1 == (i : Nat) && q.2.category == 2)) = lv') (k : lw_T l b L xs (pc + 1) lv' st h kc ks) : lw_T l b L xs pc lv (.ref x :: st) h kc ks := by
  subst hv
  exact fun p e s m below meth c D dA H locs cells slots lc C0 hE G hl => lv_astore_n C0.1 C0.2.1 (lw_dec hf) rfl hl i.isLt (by rw [lw_filt]; rfl) (fun lc' h' => k p e s m below meth c D dA H locs cells slots lc' C0 hE G h')
theorem lw_istore {i : Fin 4} {x : Int32} (hf : am_fetch M_law pc = some (.istore_n i, 1, z)) (hv : ((i : Nat), Value.int x) :: lv.filter (fun q => !(q.1 == (i : Nat)) && !(q.1 + 1 == (i : Nat) && q.2.category == 2)) = lv') (k : lw_T l b L xs (pc + 1) lv' st h kc ks) : lw_T l b L xs pc lv (.int x :: st) h kc ks := by
  subst hv
  exact fun p e s m below meth c D dA H locs cells slots lc C0 hE G hl => lv_istore_n C0.1 C0.2.1 (lw_dec hf) rfl hl i.isLt (by rw [lw_filt]; rfl) (fun lc' h' => k p e s m below meth c D dA H locs cells slots lc' C0 hE G h')
theorem lw_iinc {i j : Nat} {n : Int} {x v : Int32} (hf : am_fetch M_law pc = some (.iinc i n, 3, z)) (hj : lv[j]? = some (i, .int x)) (hi : i < 4) (hx : x + Int32.ofInt n = v) (hv : (i, Value.int v) :: lv.filter (fun q => !(q.1 == i) && !(q.1 + 1 == i && q.2.category == 2)) = lv') (k : lw_T l b L xs (pc + 3) lv' st h kc ks) : lw_T l b L xs pc lv st h kc ks := by
  subst hv
  exact fun p e s m below meth c D dA H locs cells slots lc C0 hE G hl => lv_iinc C0.1 C0.2.1 (lw_dec hf) hl (k := j) (by rw [List.getElem?_map, hj]; rfl) hx hi (by rw [lw_filt]; rfl) (fun lc' h' => k p e s m below meth c D dA H locs cells slots lc' C0 hE G h')
theorem lw_goto {off : Int} {t y u : Nat} (hf : am_fetch M_law pc = some (.goto off, 3, t, y, u)) (k : lw_T l b L xs t lv st h kc ks) : lw_T l b L xs pc lv st h kc ks :=
  fun p e s m below meth c D dA H locs cells slots lc C0 hE G hl => lv_goto C0.1 C0.2.1 (lw_dec hf) (of_decide_eq_true (am_aux lw_ok hf)) (k p e s m below meth c D dA H locs cells slots lc C0 hE G hl)
theorem lw_ifeq {off : Int} {t y u : Nat} {x : Int32} (hf : am_fetch M_law pc = some (.ifCond .eq off, 3, t, y, u)) (hx : x = 0) (k : lw_T l b L xs t lv st h kc ks) : lw_T l b L xs pc lv (.int x :: st) h kc ks :=
  fun p e s m below meth c D dA H locs cells slots lc C0 hE G hl => lv_if_eq C0.1 C0.2.1 (lw_dec hf) (of_decide_eq_true (am_aux lw_ok hf)) (fun _ => k p e s m below meth c D dA H locs cells slots lc C0 hE G hl) (fun q => absurd hx q)
theorem lw_icmpeq {off : Int} {t y u : Nat} {x : Int32} (hf : am_fetch M_law pc = some (.if_icmp .eq off, 3, t, y, u)) (k : lw_T l b L xs t lv st h kc ks) : lw_T l b L xs pc lv (.int x :: .int x :: st) h kc ks :=
  fun p e s m below meth c D dA H locs cells slots lc C0 hE G hl => lv_icmp_eq C0.1 C0.2.1 (lw_dec hf) (of_decide_eq_true (am_aux lw_ok hf)) (fun _ => k p e s m below meth c D dA H locs cells slots lc C0 hE G hl) (fun q => absurd rfl q)
theorem lw_icmpgt {off : Int} {t y u : Nat} {x1 x2 : Int32} (hf : am_fetch M_law pc = some (.if_icmp .gt off, 3, t, y, u)) (kt : x2 < x1 → lw_T l b L xs t lv st h kc ks) (kf : ¬ x2 < x1 → lw_T l b L xs (pc + 3) lv st h kc ks) : lw_T l b L xs pc lv (.int x2 :: .int x1 :: st) h kc ks :=
  fun p e s m below meth c D dA H locs cells slots lc C0 hE G hl => lv_icmp_gt C0.1 C0.2.1 (lw_dec hf) (of_decide_eq_true (am_aux lw_ok hf)) (fun q => kt q p e s m below meth c D dA H locs cells slots lc C0 hE G hl) (fun q => kf q p e s m below meth c D dA H locs cells slots lc C0 hE G hl)
theorem lw_swin {x : Int32} {off : Int} {t : Nat} (hx : ¬ x.toInt < 0) (hx2 : ¬ 19 < x.toInt) (ho : (#[96, 121, 132, 145, 158, 171, 194, 217, 230, 254, 288, 322, 346, 369, 392, 415, 438, 451, 474, 497] : Array Int)[x.toInt.toNat]? = some off) (ht : (32 : Int) + off = (t : Int)) (k : lw_T l b L xs t lv st h kc ks) : lw_T l b L xs 32 lv (.int x :: st) h kc ks :=
  fun p e s m below meth c D dA H locs cells slots lc C0 hE G hl => lv_tableIn C0.1 C0.2.1 lw_sw hx hx2 (by rw [Int.sub_zero]; exact ho) ht (k p e s m below meth c D dA H locs cells slots lc C0 hE G hl)
theorem lw_swout {x : Int32} (hx : x.toInt < 0 ∨ 19 < x.toInt) (k : lw_T l b L xs 542 lv st h kc ks) : lw_T l b L xs 32 lv (.int x :: st) h kc ks :=
  fun p e s m below meth c D dA H locs cells slots lc C0 hE G hl => lv_tableOut C0.1 C0.2.1 lw_sw hx rfl (k p e s m below meth c D dA H locs cells slots lc C0 hE G hl)
theorem lw_G.S {s : State} {D : va_G} {dA : Nat → ClassId} {H : Heap} {locs : List Loc} {cells slots : Nat} (G : lw_G s D dA h kc ks H locs cells slots) : va_S (fun q => s.heap.size ≤ q) s.heap H locs := ⟨by rw [G.1.1]; exact Nat.le_add_right _ _, fun q hq _ => G.2.1 q hq, G.2.2.1⟩
theorem lw_slen {x : Nat} (hf : am_fetch M_law pc = some (.arraylength, 1, z)) (k : lw_T l b L xs (pc + 1) lv (.int (nI L) :: st) h kc ks) : lw_T l b L xs pc lv (.retAddr x :: st) h kc ks :=
  fun p e s m below meth c D dA H locs cells slots lc C0 hE G hl => va_slen (A := fun q => s.heap.size ≤ q) C0.1 C0.2.1 C0.2.2.2.2.2.2.1 C0.2.2.2.2.2.2.2.1 (Nat.not_le.mpr C0.2.2.2.2.2.2.2.1) G.S (lw_dec hf) (k p e s m below meth c D dA H locs cells slots lc C0 hE G hl)
theorem lw_sld {x i : Nat} (hf : am_fetch M_law pc = some (.iaload, 1, z)) (hi : i < L) (hL : L < 2 ^ 31) (k : lw_T l b L xs (pc + 1) lv (.int (xs i) :: st) h kc ks) : lw_T l b L xs pc lv (.int (nI i) :: .retAddr x :: st) h kc ks := by
  intro p e s m below meth c D dA H locs cells slots lc C0 hE G hl
  refine va_sld (A := fun q => s.heap.size ≤ q) C0.1 C0.2.1 C0.2.2.2.2.2.2.1 C0.2.2.2.2.2.2.2.1 (Nat.not_le.mpr C0.2.2.2.2.2.2.2.1) G.S (vp_in_nI hi hL) (lw_dec hf) ?_
  rw [nI_clamp (by omega)]
  exact k p e s m below meth c D dA H locs cells slots lc C0 hE G hl
theorem lw_end (hf : am_fetch M_law pc = some (.ireturn, 1, z)) : lw_T l b L xs pc lv [.int 1] h kc ks := by
  intro p e s m below meth c D dA H locs cells slots lc C0 hE G hl
  refine va_forget G.2.2.1 (W.widen (Nat.le_trans (Nat.le_add_right _ _) G.2.2.2.1) (Nat.le_trans (Nat.le_add_right _ _) G.2.2.2.2) ?_)
  exact lw_ret C0.1 C0.2.1 C0.2.2.1 C0.2.2.2.2.2.2.2.2.1 (lw_dec hf)
/-- calls of the law -/
theorem lw_back {d kc1 ks1 : Nat} {Q2 : Option Value → am_H → Prop} {p : Program} {e : Env} {s : State} {m : MethodId} {a : Array Value} {below : List Frame} {meth : Method} {c : Code} {D : va_G} {dA : Nat → ClassId} {H : Heap} {locs : List Loc} {cells slots : Nat} {lc : Array Slot} {st0 : List Value}
    (C0 : lw_At p s m meth c b L xs) (hE : am_E D dA s) (G : lw_G s D dA h (kc + kc1) (ks + ks1) H locs cells slots) (hl : lv_has lc 4 (lv.map (fun q => (q.1, lw_v s.heap.size b q.2))))
    (hr : va_Run p l e room_1 s m #[Value.ref b] below meth c H locs cells slots kc1 ks1 (F0 m pc lc st0) (st.map (lw_v s.heap.size b)) (am_Q D dA s.heap.size Q2 a) (fun q => s.heap.size ≤ q))
    (hty : ∀ r h', Q2 r h' → ∀ v, r = some v → lw_v s.heap.size b v = am_v s.heap.size v)
    (hk : ∀ r h', Q2 r h' → lw_T l b L xs (pc + 3) lv (r.toList ++ st) h' kc ks) :
    W p l e room_1 s m #[Value.ref b] below meth c H locs cells slots (lw_Z below #[Value.ref b] s) (F0 m pc lc st0) := by
  intro T hT XX
  obtain ⟨v, st₀, t, T', L', h0, X', hL, e1, e2, ⟨⟨r, h', hq, hv, hw⟩, hfr⟩, stp⟩ := hr T hT XX
  have hv : v = r.map (am_v s.heap.size) := Outcome.returned.inj hv
  subst hv
  have hG : lw_G s D dA h' kc ks T'.heap (locs ++ L') (cells + kc1) (slots + ks1) :=
    ⟨by rw [e1]; exact hw, fun q hlt => by rw [e1, hfr q hlt, h0]; exact G.2.1 q hlt, fun q hq => by
      rcases List.mem_append.mp hq with h | h
      · exact G.2.2.1 q h
      · exact hL q h, by have := G.2.2.2.1; omega, by have := G.2.2.2.2; omega⟩
  obtain ⟨t2, a1, b1⟩ := hk r h' hq p e s m below meth c D dA T'.heap (locs ++ L') (cells + kc1) (slots + ks1) lc C0 hE hG hl T' rfl X'
  refine ⟨t2, stp t2 ?_, b1⟩
  have e3 : (r.toList ++ st).map (lw_v s.heap.size b) = (r.map (am_v s.heap.size)).toList ++ st.map (lw_v s.heap.size b) := by
    cases r with
    | none => rfl
    | some v => simp [hty _ _ hq v rfl]
  rw [e3] at a1
  exact a1
theorem lw_v_am {B : Nat} {v : Value} (hv : ∀ x, v ≠ .retAddr x) : lw_v B b v = am_v B v := by
  cases v <;> first | rfl | exact absurd rfl (hv _)
theorem lw_rev {B : Nat} {As : List Value} (ha : ∀ v ∈ As, ∀ x, v ≠ .retAddr x) (s2 : List Value) : (As.reverse ++ s2).map (lw_v B b) = (As.map (am_v B)).reverse ++ s2.map (lw_v B b) := by
  rw [List.map_append, List.map_reverse]
  congr 2
  apply List.map_congr_left
  intro v hv
  exact lw_v_am (ha v hv)
theorem lw_sum (B : Nat) (st : List Value) : ((st.map (lw_v B b)).map fun v => v.category).sum = (st.map fun v => v.category).sum := by
  rw [List.map_map]
  congr 1
  apply List.map_congr_left
  intro v _
  exact lw_v_cat B b v
theorem lw_room {d maxL : Nat} (hd : d ≤ 1000) (hm : maxL ≤ 45) (kc1 ks1 : Nat) : (am_rm d kc1 ks1).frames + 1 ≤ room_1.frames ∧ 8 + (maxL + 11) + (am_rm d kc1 ks1).locals ≤ room_1.locals := by
  show d + 1 ≤ 2048 ∧ 8 + (maxL + 11) + d * 64 ≤ 84000
  omega
theorem lw_callv {d kc1 ks1 i idx pos a n kk : Nat} {x : am_C} {q : vw_C} {ci : Nat} {As : List Value} {Q2 : Option Value → am_H → Prop} (hf : am_fetch M_law pc = some (.invokevirtual idx, 3, i, pos, 0)) (hd : d ≤ 1000) (hp : (am_p i).2.2.2 = kk + 2) (hh : h[a]? = some x) (hx : x.1 = (false, ci, n)) (hq : am_cl[ci]? = some q) (hc : q.1 = (am_y (am_m i)).cls) (hn : As.length = am_na i) (hlen : (am_sl (.ref a :: As)).length ≤ (am_m i).2.2.1) (hs : (st.map fun v => v.category).sum ≤ 8) (ha : ∀ v ∈ As, ∀ x, v ≠ .retAddr x)
    (hT : am_T l d (am_m i) 0 (am_entry (am_m i).2.2.1 (.ref a :: As)) [] h kc1 ks1 Q2) (hty : ∀ r h', Q2 r h' → ∀ v, r = some v → ∀ x, v ≠ .retAddr x) (hk : ∀ r h', Q2 r h' → lw_T l b L xs (pc + 3) lv (r.toList ++ st) h' kc ks) : lw_T l b L xs pc lv (As.reverse ++ .ref a :: st) h (kc + kc1) (ks + ks1) := by
  intro p e s m below meth c D dA H locs cells slots lc C0 hE G hl
  have hoa := am_aux lw_ok hf
  simp only [am_okA, am_okL, Bool.and_eq_true, decide_eq_true_eq] at hoa
  obtain ⟨hi, hlk⟩ := hoa
  have hok := (am_all i hi).1
  have sp := am_okm_spec hok
  have sv := am_okm_v hok hp
  have hts : ∀ w ∈ am_ws, w.before #[Value.ref b] s = true := fun w hw => C0.2.2.2.2.2.1 w (am_ws_tbl w hw)
  have hat := G.1.2 a x hh
  rw [am_ce_obj hx] at hat
  have hrecv := va_recv (q0 := 0) hE.1 (am_P1 hat) hq rfl
  have hmet := am_met hi hT hlen D dA s.heap.size
  have hrun := va_runV (p := p) (e := e) (R := room_1) (below := below) (meth := meth) (cells := cells) (slots := slots) (locs := locs) (nL := 4) (C := (am_y (am_m i)).cls) (b := s.heap.size + a) (As := As.map (am_v s.heap.size)) (rest := st.map (lw_v s.heap.size b)) (n := am_na i) (g := F0 m pc lc ((As.reverse ++ .ref a :: st).map (lw_v s.heap.size b))) ⟨C0.1, C0.2.1, C0.2.2.2.1, C0.2.2.2.2.1, hts⟩ hmet
    ⟨callB_of (am_na i) hts (am_good hok) rfl rfl rfl (hts _ (am_wat_mem sp.2.1)) (hts _ (am_wat_mem hlk)) sp.2.2.2.1 (lw_room hd sp.2.2.2.2 kc1 ks1), hts _ (am_wat_mem sv.1), hts _ (am_wat_mem sv.2)⟩
    ⟨am_Pc.blind, by rw [← hc]; exact hrecv, fun U hU hW => ⟨rfl, by rw [hU]; exact G.1, hE.warm hW⟩⟩ rfl (by rw [List.length_map]; exact hn) hl.1 (lw_rev ha (.ref a :: st)) (by rw [lw_sum]; show 2 * 0 + _ ≤ 8; omega) (lw_dec hf) ⟨by have := G.2.2.2.1; show _ ≤ 600000; omega, by have := G.2.2.2.2; show _ ≤ 7302250; omega⟩
  exact lw_back (d := d) C0 hE G hl hrun (fun r h' hq v hv => lw_v_am (hty r h' hq v hv)) hk
theorem lw_calli {d kc1 ks1 i idx pos a : Nat} {Q2 : Option Value → am_H → Prop} (hf : am_fetch M_law pc = some (.invokespecial idx, 3, i, pos, 0)) (hd : d ≤ 1000) (hp : (am_p i).2.2.2 = 1) (hr : (am_m i).2.2.2.1 = none) (hn : 0 = am_na i) (hlen : (am_sl [.ref a]).length ≤ (am_m i).2.2.1) (hs : (st.map fun v => v.category).sum ≤ 8)
    (hT : am_T l d (am_m i) 0 (am_entry (am_m i).2.2.1 [.ref a]) [] h kc1 ks1 Q2) (hty : ∀ r h', Q2 r h' → r = none) (hk : ∀ r h', Q2 r h' → lw_T l b L xs (pc + 3) lv st h' kc ks) : lw_T l b L xs pc lv (.ref a :: st) h (kc + kc1) (ks + ks1) := by
  intro p e s m below meth c D dA H locs cells slots lc C0 hE G hl
  have hoa := am_aux lw_ok hf
  simp only [am_okA, am_okL, Bool.and_eq_true, decide_eq_true_eq] at hoa
  obtain ⟨hi, hlk⟩ := hoa
  have hok := (am_all i hi).1
  have sp := am_okm_spec hok
  have sv := am_okm_i hok hp
  have hts : ∀ w ∈ am_ws, w.before #[Value.ref b] s = true := fun w hw => C0.2.2.2.2.2.1 w (am_ws_tbl w hw)
  have hmet := am_met hi hT hlen D dA s.heap.size
  have hrun := va_runI (p := p) (e := e) (R := room_1) (below := below) (meth := meth) (cells := cells) (slots := slots) (locs := locs) (nL := 4) (b := s.heap.size + a) (As := []) (rest := st.map (lw_v s.heap.size b)) (n := am_na i) (bytes := (am_m i).2.1) (maxL := (am_m i).2.2.1) (g := F0 m pc lc ((.ref a :: st).map (lw_v s.heap.size b))) ⟨C0.1, C0.2.1, C0.2.2.2.1, C0.2.2.2.2.1, hts⟩ hmet
    ⟨by have := callB_of (R := room_1) (s := s) (args := #[Value.ref b]) (own := R_law) (index := idx) (am_na i) hts (am_good hok) rfl (rm := am_rm d kc1 ks1) rfl rfl (hts _ (am_wat_mem sp.2.1)) (hts _ (am_wat_mem hlk)) sp.2.2.2.1 (lw_room hd sp.2.2.2.2 kc1 ks1); rw [hr] at this; exact this, sv.2, hts _ (am_wat_mem sv.1)⟩
    ⟨am_Pc.blind, fun U hU hW => ⟨rfl, by rw [hU]; exact G.1, hE.warm hW⟩⟩ rfl hn hl.1 rfl (by rw [lw_sum]; show 2 * 0 + _ ≤ 8; omega) (lw_dec hf) ⟨by have := G.2.2.2.1; show _ ≤ 600000; omega, by have := G.2.2.2.2; show _ ≤ 7302250; omega⟩
  exact lw_back (d := d) C0 hE G hl hrun (fun r h' hq v hv => by rw [hty r h' hq] at hv; cases hv) (fun r h' hq => by have := hk r h' hq; rw [hty r h' hq]; exact this)
theorem lw_new {idx ci pos y : Nat} (hf : am_fetch M_law pc = some (.new idx, 3, ci, pos, y)) (k : lw_T l b L xs (pc + 3) lv (.ref h.length :: st) (h ++ [am_new (false, ci, 0)]) kc ks) : lw_T l b L xs pc lv st h (kc + 1) (ks + am_n ci) := by
  intro p e s m below meth c D dA H locs cells slots lc C0 hE G hl
  have hoa := am_aux lw_ok hf
  simp only [am_okA, am_okC, Bool.and_eq_true, decide_eq_true_eq] at hoa
  have hts : ∀ w ∈ am_ws, w.before #[Value.ref b] s = true := fun w hw => C0.2.2.2.2.2.1 w (am_ws_tbl w hw)
  have hq := am_cl_in hoa.1
  have hcl := am_clok ci _ hq
  have hKn := hE.1.1 ci _ hq
  refine W.newcK C0.1 C0.2.1 C0.2.2.2.2.1 (hts _ (am_wat_mem hoa.2)) (hts _ hcl.2.2.2.1) (hts _ hcl.2.2.2.2.1) rfl (lw_dec hf) (by have := G.2.2.2.1; show _ ≤ 600000; omega) (by have := G.2.2.2.2; show _ ≤ 7302250; simp only; omega) hKn.2.1 G.1.1 fun H1 kC hkC e1 z1 o1 => ?_
  refine k p e s m below meth c D dA H1 locs _ _ lc C0 hE ⟨G.1.push ?_ (by rw [z1, G.1.1]) (fun q hq => o1 q (by rw [← G.1.1]; exact hq)), fun q hq => (o1 q (by omega)).trans (G.2.1 q hq), G.2.2.1, by have := G.2.2.2.1; omega, by have := G.2.2.2.2; simp only; omega⟩ hl
  rw [am_ce_obj (n := 0) rfl]
  refine ⟨_, hq, (u_born (am_ft ci) hts hcl.1 hKn hkC e1 hcl.2.1).to (fun j hj => ?_)⟩
  show _ = ((List.range (am_n ci)).map _).getD j Value.null
  rw [List.getD_eq_getElem?_getD, List.getElem?_map, List.getElem?_range hj]
  exact am_def (hcl.2.2.2.2.2 j hj) s.heap.size _ j
end LWR
