/-! the claim's start: the twenty operations, and the fresh objects -/
theorem all_ops (l : Launch) : law_ops l Inv2 := by
  refine ⟨fun x => ?_, ?_, ?_, ?_, ?_, fun x => ?_, fun x => ?_, ?_, fun x => ?_, fun x y => ?_, fun x y => ?_, fun x => ?_, fun x => ?_, fun x => ?_, fun x => ?_, fun x => ?_, ?_, fun x => ?_, fun x => ?_, ?_⟩
  · exact w_type (fun v => ⟨v, rfl⟩) x
  · exact w_clear rfl
  · exact w_enter (fun v => ⟨v, rfl⟩)
  · exact w_read (fun v => ⟨v, rfl⟩)
  · exact w_size (fun v => ⟨v, rfl⟩)
  · exact w_text (fun v => ⟨v, rfl⟩) x
  · exact w_valid (fun v => ⟨v, rfl⟩) x
  · exact w_kinds (fun v => ⟨v, rfl⟩)
  · exact w_least (fun v => ⟨v, rfl⟩) x
  · exact w_differ (fun v => ⟨v, rfl⟩) x y
  · exact w_show (fun v => ⟨v, rfl⟩) x y
  · exact w_uncovered (fun v => ⟨v, rfl⟩) x
  · exact w_useless (fun v => ⟨v, rfl⟩) x
  · exact w_wrong (fun v => ⟨v, rfl⟩) x
  · exact w_safe (fun v => ⟨v, rfl⟩) x
  · exact w_run (fun v => ⟨v, rfl⟩) x
  · exact w_valueSize (fun v => ⟨v, rfl⟩)
  · exact w_value (fun v => ⟨v, rfl⟩) x
  · exact w_valueValid (fun v => ⟨v, rfl⟩) x
  · exact w_take (fun v => ⟨v, rfl⟩)
theorem whole_start {p : Program} {e : Env} {s : State} {m : MethodId} {below : List Frame} {meth : Method} {c : Code} (l : Launch) {b L : Nat} {xs : Nat → Int32} (hL : L ≤ 1536) (C0 : lw_At p s m meth c b L xs) : W p l e room_1 s m #[Value.ref b] below meth c s.heap [] 0 0 (lw_Z below #[Value.ref b] s) (entryFrame m ([Value.ref b] : List Value).toArray 4) :=
  whole_of (Inv := fun _ => Inv2) (fun _ mi ml mr hz => Inv_0 mi ml mr hz) (fun l => all_ops l) l hL C0
