/-! the abstract machine: calls -/
def am_mw (M : am_M) : List Cond := Cond.code (am_y M) M.2.1 M.2.2.1 M.2.2.2.1 :: am_ws
def am_rm (d kc ks : Nat) : Room := { frames := d, cells := kc, slots := ks, locals := d * 64 }
def am_Pc (D : va_G) (dA : Nat → ClassId) (B : Nat) (args : List Value) (h : am_H) : Array Value → State → Prop := va_Pc (args.map (am_v B)) (fun U => am_W D dA B h U.heap ∧ am_E D dA U)
theorem am_Pc.blind {D : va_G} {dA : Nat → ClassId} {B : Nat} {args : List Value} {h : am_H} : FrameBlind (am_Pc D dA B args h) := fun a U g mk q => ⟨q.1, q.2.1, q.2.2.call⟩
theorem am_okm_spec {i : Nat} (hk : am_okm i = true) : am_wat (am_p i).1 = some (0, i, 0, 0) ∧ am_wat (am_p i).2.1 = some (4, (am_m i).1.1, 0, 0) ∧ plainName (am_y (am_m i)).cls = true ∧ ((am_y (am_m i)).cls ≠ "java/lang/invoke/MethodHandle" ∧ (am_y (am_m i)).cls ≠ "java/lang/invoke/VarHandle" ∧ (parseMethodDescriptor (am_y (am_m i)).desc).map (fun d => d.parameters.length) = some (am_na i)) ∧ (am_m i).2.2.1 ≤ 45 := by
  simp only [am_okm, Bool.and_eq_true, decide_eq_true_eq] at hk
  have h2 := am_cn_plain _ hk.2.2.1
  exact ⟨hk.1, hk.2.1, h2.1, ⟨h2.2.1, h2.2.2, hk.2.2.2.1⟩, hk.2.2.2.2.1⟩
theorem am_okm_s {i : Nat} (hk : am_okm i = true) (h0 : (am_p i).2.2.2 = 0) : am_wat (am_p i).2.2.1 = some (2, i, 0, 0) := by
  simp only [am_okm, Bool.and_eq_true, decide_eq_true_eq] at hk
  have h := hk.2.2.2.2.2
  rw [h0] at h
  exact of_decide_eq_true h
theorem am_okm_i {i : Nat} (hk : am_okm i = true) (h0 : (am_p i).2.2.2 = 1) : am_wat (am_p i).2.2.1 = some (1, i, 0, 0) ∧ (am_y (am_m i)).name = "<init>" := by
  simp only [am_okm, Bool.and_eq_true, decide_eq_true_eq] at hk
  have h := hk.2.2.2.2.2
  rw [h0] at h
  simp only [Bool.and_eq_true, decide_eq_true_eq] at h
  exact ⟨h.1, by simp only [am_y, h.2]⟩
theorem am_okm_v {i k : Nat} (hk : am_okm i = true) (h0 : (am_p i).2.2.2 = k + 2) : am_wat (am_p i).2.2.1 = some (1, i, 0, 0) ∧ am_wat k = some (3, i, 0, 0) := by
  simp only [am_okm, Bool.and_eq_true, decide_eq_true_eq] at hk
  have h := hk.2.2.2.2.2
  rw [h0] at h
  simp only [Bool.and_eq_true, decide_eq_true_eq] at h
  exact h
theorem am_good {i : Nat} (hk : am_okm i = true) : GoodIn am_ws (am_mw (am_m i)) := by
  intro w hw
  have hm : w ∈ am_ws := by
    rcases List.mem_cons.mp hw with h | h
    · rw [h]
      exact am_wat_mem (w := (0, i, 0, 0)) (am_okm_spec hk).1
    · exact h
  exact ⟨hm, good_of_word (am_ws_good w hm)⟩
/-- a method's contract, of a walk of its body -/
theorem am_met {l : Launch} {d i : Nat} {args : List Value} {h : am_H} {kc ks : Nat} {Q : Option Value → am_H → Prop} (hi : i < am_nm) (hT : am_T l d (am_m i) 0 (am_entry (am_m i).2.2.1 args) [] h kc ks Q) (hlen : (am_sl args).length ≤ (am_m i).2.2.1) (D : va_G) (dA : Nat → ClassId) (B : Nat) :
    Met l (am_y (am_m i)) (am_mw (am_m i)) (am_rm d kc ks) (am_Pc D dA B args h) (am_Q D dA B Q) kc ks (fun q => B ≤ q) := by
  have hok := am_all i hi
  refine Met.ofW (cc := (am_m i).2.1) (maxL := (am_m i).2.2.1) (ret := (am_m i).2.2.2.1) (am_okm_spec hok.1).2.2.1 rfl ?_
  intro p e s m a below meth c s₁ Bd hml hv
  obtain ⟨rfl, hW, hE⟩ := hv
  have hts := atoms_spec (ws := am_mw (am_m i)) Bd.pre
  rw [lg_entry_eq]
  exact hT p e _ s m _ below meth c D dA B s.heap [] 0 0 _ ⟨⟨hok.2, Bd.exec, Bd.bytes, hml, Bd.returns, Bd.notSynchronized, (name_of_methodNamed Bd.named Bd.method).1, findClass_of_methodNamed Bd.named, fun w hw => hts w (List.mem_cons_of_mem _ hw), hE, Nat.le_refl _, Nat.le_refl _⟩, hW, by rw [hW.1]; exact Nat.le_add_right _ _, fun _ _ => rfl, fun q hq => (by cases hq), am_L.entry hlen, by show 0 + kc ≤ kc; omega, by show 0 + ks ≤ ks; omega⟩
section AMK
variable {l : Launch} {d : Nat} {M : am_M} {pc : Nat} {ls : List (Option Value)} {st : List Value} {h : am_H} {kc ks kc1 ks1 : Nat} {Q Q2 : Option Value → am_H → Prop} {z : Nat × Nat × Nat}
/-- behind a call -/
theorem am_back {p : Program} {e : Env} {R : Room} {s : State} {m : MethodId} {args a : Array Value} {below : List Frame} {meth : Method} {c : Code} {D : va_G} {dA : Nat → ClassId} {B : Nat} {H : Heap} {locs : List Loc} {cells slots : Nat} {lc : Array Slot} {st0 : List Value}
    (X : am_X (d + 1) M ls h (kc + kc1) (ks + ks1) p R s m args meth c D dA B H locs cells slots lc)
    (hr : va_Run p l e R s m args below meth c H locs cells slots kc1 ks1 (F0 m pc lc st0) (st.map (am_v B)) (am_Q D dA B Q2 a) (fun q => B ≤ q))
    (hk : ∀ r h', Q2 r h' → am_T l (d + 1) M (pc + 3) ls (r.toList ++ st) h' kc ks Q) :
    W p l e R s m args below meth c H locs cells slots (MQ below (am_Q D dA B Q) args s R.cells R.slots (fun q => B ≤ q)) (F0 m pc lc st0) := by
  intro T hT XX
  obtain ⟨v, st₀, t, T', L, h0, X', hL, e1, e2, ⟨⟨r, h', hq, hv, hw⟩, hfr⟩, stp⟩ := hr T hT XX
  have hv : v = r.map (am_v B) := Outcome.returned.inj hv
  subst hv
  have hx : am_X (d + 1) M ls h' kc ks p R s m args meth c D dA B T'.heap (locs ++ L) (cells + kc1) (slots + ks1) lc :=
    ⟨X.1, by rw [e1]; exact hw, X.bs, fun q hlt => by rw [e1, hfr q hlt, h0]; exact X.old q hlt, fun q hq => by
      rcases List.mem_append.mp hq with h | h
      · exact X.hloc q h
      · exact hL q h, X.l, by have := X.hkc; omega, by have := X.hks; omega⟩
  obtain ⟨t2, a1, b1⟩ := hk r h' hq p e R s m args below meth c D dA B T'.heap (locs ++ L) (cells + kc1) (slots + ks1) lc hx T' rfl X'
  refine ⟨t2, stp t2 ?_, b1⟩
  have e3 : (r.toList ++ st).map (am_v B) = (r.map (am_v B)).toList ++ st.map (am_v B) := by cases r <;> rfl
  rw [e3] at a1
  exact a1
theorem am_X.roomy {p : Program} {R : Room} {s : State} {m : MethodId} {args : Array Value} {meth : Method} {c : Code} {D : va_G} {dA : Nat → ClassId} {B : Nat} {H : Heap} {locs : List Loc} {cells slots : Nat} {lc : Array Slot} {maxL : Nat} (X : am_X (d + 1) M ls h (kc + kc1) (ks + ks1) p R s m args meth c D dA B H locs cells slots lc) (hm : maxL ≤ 45) : (am_rm d kc1 ks1).frames + 1 ≤ R.frames ∧ 8 + (maxL + 11) + (am_rm d kc1 ks1).locals ≤ R.locals := by
  refine ⟨X.fr, ?_⟩
  have := X.lo
  show 8 + (maxL + 11) + d * 64 ≤ R.locals
  omega
theorem am_map_rev (B : Nat) (As st : List Value) : (As.reverse ++ st).map (am_v B) = (As.map (am_v B)).reverse ++ st.map (am_v B) := by
  rw [List.map_append, List.map_reverse]
theorem am_callv {i idx pos a n b kk : Nat} {x : am_C} {q : vw_C} {ci : Nat} {As : List Value} (hf : am_fetch M pc = some (.invokevirtual idx, 3, i, pos, 0)) (hp : (am_p i).2.2.2 = kk + 2) (hh : h[a]? = some x) (hx : x.1 = (false, ci, n)) (hq : am_cl[ci]? = some q) (hc : q.1 = (am_y (am_m i)).cls) (hn : As.length = am_na i) (hl : (am_sl (.ref a :: As)).length ≤ (am_m i).2.2.1) (hs : (st.map fun v => v.category).sum ≤ 8)
    (hT : am_T l d (am_m i) 0 (am_entry (am_m i).2.2.1 (.ref a :: As)) [] h kc1 ks1 Q2) (hk : ∀ r h', Q2 r h' → am_T l (d + 1) M (pc + 3) ls (r.toList ++ st) h' kc ks Q) : am_T l (d + 1) M pc ls (As.reverse ++ .ref a :: st) h (kc + kc1) (ks + ks1) Q := by
  intro p e R s m args below meth c D dA B H locs cells slots lc X
  have hoa := am_aux X.ok hf
  simp only [am_okA, am_okL, Bool.and_eq_true, decide_eq_true_eq] at hoa
  obtain ⟨hi, hlk⟩ := hoa
  have hok := (am_all i hi).1
  have sp := am_okm_spec hok
  have sv := am_okm_v hok hp
  have hat := X.w.2 a x hh
  rw [am_ce_obj hx] at hat
  have hrecv := va_recv (q0 := 0) X.env.1 (am_P1 hat) hq rfl
  have hmet := am_met hi hT hl D dA B
  have hrun := va_runV (p := p) (e := e) (R := R) (below := below) (meth := meth) (cells := cells) (slots := slots) (locs := locs) (nL := M.2.2.1) (C := (am_y (am_m i)).cls) (b := B + a) (As := As.map (am_v B)) (rest := st.map (am_v B)) (n := am_na i) (g := F0 m pc lc ((As.reverse ++ .ref a :: st).map (am_v B))) ⟨X.exec, X.bytes, X.maxl, X.own, X.hts⟩ hmet
    ⟨callB_of (am_na i) X.hts (am_good hok) rfl rfl rfl (X.word sp.2.1) (X.word hlk) sp.2.2.2.1 (X.roomy sp.2.2.2.2), X.word sv.1, X.word sv.2⟩
    ⟨am_Pc.blind, by rw [← hc]; exact hrecv, fun U hU hW => ⟨rfl, by rw [hU]; exact X.w, X.env.warm hW⟩⟩ rfl (by rw [List.length_map]; exact hn) X.lsz (am_map_rev B As (.ref a :: st)) (by rw [am_v_sum]; show 2 * 0 + _ ≤ 8; omega) (X.dec hf) ⟨by have := X.hkc; omega, by have := X.hks; omega⟩
  exact am_back X hrun hk
theorem am_calls {i idx pos : Nat} {As : List Value} (hf : am_fetch M pc = some (.invokestatic idx, 3, i, pos, 0)) (hp : (am_p i).2.2.2 = 0) (hn : As.length = am_na i) (hl : (am_sl As).length ≤ (am_m i).2.2.1) (hs : (st.map fun v => v.category).sum ≤ 8)
    (hT : am_T l d (am_m i) 0 (am_entry (am_m i).2.2.1 As) [] h kc1 ks1 Q2) (hk : ∀ r h', Q2 r h' → am_T l (d + 1) M (pc + 3) ls (r.toList ++ st) h' kc ks Q) : am_T l (d + 1) M pc ls (As.reverse ++ st) h (kc + kc1) (ks + ks1) Q := by
  intro p e R s m args below meth c D dA B H locs cells slots lc X
  have hoa := am_aux X.ok hf
  simp only [am_okA, am_okL, Bool.and_eq_true, decide_eq_true_eq] at hoa
  obtain ⟨hi, hlk⟩ := hoa
  have hok := (am_all i hi).1
  have sp := am_okm_spec hok
  have hmet := am_met hi hT hl D dA B
  have hrun := va_runS (p := p) (e := e) (R := R) (below := below) (meth := meth) (cells := cells) (slots := slots) (locs := locs) (nL := M.2.2.1) (As := As.map (am_v B)) (rest := st.map (am_v B)) (n := am_na i) (g := F0 m pc lc ((As.reverse ++ st).map (am_v B))) ⟨X.exec, X.bytes, X.maxl, X.own, X.hts⟩ hmet
    ⟨callB_of (am_na i) X.hts (am_good hok) rfl rfl rfl (X.word sp.2.1) (X.word hlk) sp.2.2.2.1 (X.roomy sp.2.2.2.2), X.word (am_okm_s hok hp)⟩
    ⟨am_Pc.blind, fun U hU hW => ⟨rfl, by rw [hU]; exact X.w, X.env.warm hW⟩⟩ rfl (by rw [List.length_map]; exact hn) X.lsz (am_map_rev B As st) (by rw [am_v_sum]; show 2 * 0 + _ ≤ 8; omega) (X.dec hf) ⟨by have := X.hkc; omega, by have := X.hks; omega⟩
  exact am_back X hrun hk
theorem am_calln {i idx pos : Nat} {As : List Value} (hf : am_fetch M pc = some (.invokestatic idx, 3, i, pos, 1)) (hp : (am_p i).2.2.2 = 0) (hn : As.length = am_na i) (hl : (am_sl As).length ≤ (am_m i).2.2.1) (hs : (st.map fun v => v.category).sum ≤ 8)
    (hT : am_T l d (am_m i) 0 (am_entry (am_m i).2.2.1 As) [] h kc1 ks1 Q2) (hk : ∀ r h', Q2 r h' → am_T l (d + 1) M (pc + 3) ls (r.toList ++ st) h' kc ks Q) : am_T l (d + 1) M pc ls (As.reverse ++ st) h (kc + kc1) (ks + ks1) Q := by
  intro p e R s m args below meth c D dA B H locs cells slots lc X
  have hoa := am_aux X.ok hf
  simp only [am_okA, am_okL, Bool.and_eq_true, decide_eq_true_eq] at hoa
  obtain ⟨hi, hlk⟩ := hoa
  have hok := (am_all i hi).1
  have sp := am_okm_spec hok
  have hmet := am_met hi hT hl D dA B
  have hnw := X.env.2.1 _ (List.mem_map.mpr ⟨_, List.mem_of_getElem? hlk, rfl⟩)
  have hrun := va_runSN (p := p) (e := e) (R := R) (below := below) (meth := meth) (cells := cells) (slots := slots) (locs := locs) (nL := M.2.2.1) (As := As.map (am_v B)) (rest := st.map (am_v B)) (n := am_na i) (g := F0 m pc lc ((As.reverse ++ st).map (am_v B))) ⟨X.exec, X.bytes, X.maxl, X.own, X.hts⟩ hmet
    ⟨va_cnB (am_na i) X.hts (am_good hok) rfl rfl rfl hnw (X.word sp.2.1) sp.2.2.2.1 (X.roomy sp.2.2.2.2), X.word (am_okm_s hok hp), trivial⟩
    ⟨am_Pc.blind, fun U hU hW => ⟨rfl, by rw [hU]; exact X.w, X.env.warm hW⟩⟩ rfl (by rw [List.length_map]; exact hn) X.lsz (am_map_rev B As st) (by rw [am_v_sum]; show 2 * 0 + _ ≤ 8; omega) (X.dec hf) ⟨by have := X.hkc; omega, by have := X.hks; omega⟩
  exact am_back X hrun hk
theorem am_calli {i idx pos a : Nat} {As : List Value} (hf : am_fetch M pc = some (.invokespecial idx, 3, i, pos, 0)) (hp : (am_p i).2.2.2 = 1) (hr : (am_m i).2.2.2.1 = none) (hn : As.length = am_na i) (hl : (am_sl (.ref a :: As)).length ≤ (am_m i).2.2.1) (hs : (st.map fun v => v.category).sum ≤ 8)
    (hT : am_T l d (am_m i) 0 (am_entry (am_m i).2.2.1 (.ref a :: As)) [] h kc1 ks1 Q2) (hk : ∀ r h', Q2 r h' → am_T l (d + 1) M (pc + 3) ls (r.toList ++ st) h' kc ks Q) : am_T l (d + 1) M pc ls (As.reverse ++ .ref a :: st) h (kc + kc1) (ks + ks1) Q := by
  intro p e R s m args below meth c D dA B H locs cells slots lc X
  have hoa := am_aux X.ok hf
  simp only [am_okA, am_okL, Bool.and_eq_true, decide_eq_true_eq] at hoa
  obtain ⟨hi, hlk⟩ := hoa
  have hok := (am_all i hi).1
  have sp := am_okm_spec hok
  have sv := am_okm_i hok hp
  have hmet := am_met hi hT hl D dA B
  have hrun := va_runI (p := p) (e := e) (R := R) (below := below) (meth := meth) (cells := cells) (slots := slots) (locs := locs) (nL := M.2.2.1) (b := B + a) (As := As.map (am_v B)) (rest := st.map (am_v B)) (n := am_na i) (bytes := (am_m i).2.1) (maxL := (am_m i).2.2.1) (g := F0 m pc lc ((As.reverse ++ .ref a :: st).map (am_v B))) ⟨X.exec, X.bytes, X.maxl, X.own, X.hts⟩ hmet
    ⟨by have := callB_of (R := R) (s := s) (args := args) (own := (am_y M).cls) (index := idx) (am_na i) X.hts (am_good hok) rfl (rm := am_rm d kc1 ks1) rfl rfl (X.word sp.2.1) (X.word hlk) sp.2.2.2.1 (X.roomy sp.2.2.2.2); rw [hr] at this; exact this, sv.2, X.word sv.1⟩
    ⟨am_Pc.blind, fun U hU hW => ⟨rfl, by rw [hU]; exact X.w, X.env.warm hW⟩⟩ rfl (by rw [List.length_map]; exact hn) X.lsz (am_map_rev B As (.ref a :: st)) (by rw [am_v_sum]; show 2 * 0 + _ ≤ 8; omega) (X.dec hf) ⟨by have := X.hkc; omega, by have := X.hks; omega⟩
  exact am_back X hrun hk
theorem am_callin {i idx pos a : Nat} {As : List Value} (hf : am_fetch M pc = some (.invokespecial idx, 3, i, pos, 1)) (hp : (am_p i).2.2.2 = 1) (hr : (am_m i).2.2.2.1 = none) (hn : As.length = am_na i) (hl : (am_sl (.ref a :: As)).length ≤ (am_m i).2.2.1) (hs : (st.map fun v => v.category).sum ≤ 8)
    (hT : am_T l d (am_m i) 0 (am_entry (am_m i).2.2.1 (.ref a :: As)) [] h kc1 ks1 Q2) (hk : ∀ r h', Q2 r h' → am_T l (d + 1) M (pc + 3) ls (r.toList ++ st) h' kc ks Q) : am_T l (d + 1) M pc ls (As.reverse ++ .ref a :: st) h (kc + kc1) (ks + ks1) Q := by
  intro p e R s m args below meth c D dA B H locs cells slots lc X
  have hoa := am_aux X.ok hf
  simp only [am_okA, am_okL, Bool.and_eq_true, decide_eq_true_eq] at hoa
  obtain ⟨hi, hlk⟩ := hoa
  have hok := (am_all i hi).1
  have sp := am_okm_spec hok
  have sv := am_okm_i hok hp
  have hmet := am_met hi hT hl D dA B
  have hnw := X.env.2.1 _ (List.mem_map.mpr ⟨_, List.mem_of_getElem? hlk, rfl⟩)
  have hrun := va_runIN (p := p) (e := e) (R := R) (below := below) (meth := meth) (cells := cells) (slots := slots) (locs := locs) (nL := M.2.2.1) (b := B + a) (As := As.map (am_v B)) (rest := st.map (am_v B)) (n := am_na i) (bytes := (am_m i).2.1) (maxL := (am_m i).2.2.1) (g := F0 m pc lc ((As.reverse ++ .ref a :: st).map (am_v B))) ⟨X.exec, X.bytes, X.maxl, X.own, X.hts⟩ hmet
    ⟨by have := va_cnB (R := R) (s := s) (args := args) (own := (am_y M).cls) (index := idx) (am_na i) X.hts (am_good hok) rfl (rm := am_rm d kc1 ks1) rfl rfl hnw (X.word sp.2.1) sp.2.2.2.1 (X.roomy sp.2.2.2.2); rw [hr] at this; exact this, sv.2, X.word sv.1⟩
    ⟨am_Pc.blind, fun U hU hW => ⟨rfl, by rw [hU]; exact X.w, X.env.warm hW⟩⟩ rfl (by rw [List.length_map]; exact hn) X.lsz (am_map_rev B As (.ref a :: st)) (by rw [am_v_sum]; show 2 * 0 + _ ≤ 8; omega) (X.dec hf) ⟨by have := X.hkc; omega, by have := X.hks; omega⟩
  exact am_back X hrun hk
end AMK
