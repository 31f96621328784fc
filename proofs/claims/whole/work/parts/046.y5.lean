/-! what the class picks for a pair of names -/
theorem pick_two {S : Rs} {cnt : Nat} {km : Nat → Int64} {m m' : Int64} {a b : Nat} (h40 : cnt ≤ 40) (h : MemB S cnt km m a) (h' : MemB S cnt km m' b) : ∀ k, k < cnt → tb (m &&& (m' ^^^ -1)) k = (fun x => pkM S (fun _ => x) a (some b) 0) (km k) := by
  intro k hk
  rw [tb_and, tb_not (by omega), h k, h' k, decide_eq_true hk]
  simp [pkM]
