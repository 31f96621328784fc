/-! bits of longs and ints -/
def tb (m : Int64) (r : Nat) : Bool := m.toBitVec.getLsbD r
def ti (m : Int32) (r : Nat) : Bool := m.toBitVec.getLsbD r
theorem tb_ext {a b : Int64} (h : ∀ r, r < 64 → tb a r = tb b r) : a = b := by
  apply Int64.toBitVec_inj.mp
  exact BitVec.eq_of_getLsbD_eq h
theorem ti_ext {a b : Int32} (h : ∀ r, r < 32 → ti a r = ti b r) : a = b := by
  apply Int32.toBitVec_inj.mp
  exact BitVec.eq_of_getLsbD_eq h
theorem tb_ge {a : Int64} {r : Nat} (h : 64 ≤ r) : tb a r = false := BitVec.getLsbD_of_ge _ _ h
theorem ti_ge {a : Int32} {r : Nat} (h : 32 ≤ r) : ti a r = false := BitVec.getLsbD_of_ge _ _ h
theorem tb_or (a b : Int64) (r : Nat) : tb (a ||| b) r = (tb a r || tb b r) := by simp [tb]
theorem tb_and (a b : Int64) (r : Nat) : tb (a &&& b) r = (tb a r && tb b r) := by simp [tb]
theorem ti_or (a b : Int32) (r : Nat) : ti (a ||| b) r = (ti a r || ti b r) := by simp [ti]
theorem ti_and (a b : Int32) (r : Nat) : ti (a &&& b) r = (ti a r && ti b r) := by simp [ti]
theorem tb_0 (r : Nat) : tb 0 r = false := by simp [tb]
theorem ti_0 (r : Nat) : ti 0 r = false := by simp [ti]
theorem tb_1 (r : Nat) : tb 1 r = decide (r = 0) := by
  show (1#64 : BitVec 64).getLsbD r = _
  simp
theorem tb_neg1 {r : Nat} (h : r < 64) : tb (-1) r = true := by
  show (BitVec.allOnes 64).getLsbD r = true
  rw [BitVec.getLsbD_allOnes]
  exact decide_eq_true h
theorem tb_not {a : Int64} {r : Nat} (h : r < 64) : tb (a ^^^ (-1)) r = !(tb a r) := by
  have : tb (a ^^^ (-1)) r = (tb a r ^^ tb (-1) r) := by
    show (a ^^^ (-1)).toBitVec.getLsbD r = _
    rw [Int64.toBitVec_xor, BitVec.getLsbD_xor]
    rfl
  rw [this, tb_neg1 h]
  cases tb a r <;> rfl
theorem lg_cmp_0 {x y : Int64} : lg_cmp x y = 0 ↔ x = y := by
  unfold lg_cmp
  constructor
  · intro h
    split at h
    · exact absurd h (by decide)
    · split at h
      · assumption
      · exact absurd h (by decide)
  · intro h
    subst h
    simp
theorem tb_amt : ∀ r, r < 64 → ((nI r).toInt64 &&& 63).toBitVec.smod 64 = BitVec.ofNat 64 r := by decide +kernel
theorem tb_amu : ∀ r, r < 64 → ((nI r).toInt64.toUInt64 &&& Int64.toUInt64 63).toBitVec % 64 = BitVec.ofNat 64 r := by decide +kernel
theorem ti_amt : ∀ r, r < 32 → (nI r &&& 31).toBitVec.smod 32 = BitVec.ofNat 32 r := by decide +kernel
theorem ti_amu : ∀ r, r < 32 → ((nI r).toUInt32 &&& Int32.toUInt32 31).toBitVec % 32 = BitVec.ofNat 32 r := by decide +kernel
theorem tb_shl (m : Int64) {r : Nat} (hr : r < 64) (j : Nat) : tb (m <<< ((nI r).toInt64 &&& 63)) j = (decide (j < 64) && (decide (r ≤ j) && tb m (j - r))) := by
  unfold tb
  rw [Int64.toBitVec_shiftLeft, tb_amt r hr, BitVec.shiftLeft_eq', BitVec.toNat_ofNat, Nat.mod_eq_of_lt (by omega), BitVec.getLsbD_shiftLeft]
  by_cases h1 : j < 64 <;> by_cases h2 : j < r <;> simp [h1, h2] <;> omega
theorem tb_shr (m : Int64) {r : Nat} (hr : r < 64) {j : Nat} (hj : r + j < 64) : tb (m >>> ((nI r).toInt64 &&& 63)) j = tb m (r + j) := by
  unfold tb
  rw [Int64.toBitVec_shiftRight, tb_amt r hr, BitVec.sshiftRight_eq', BitVec.toNat_ofNat, Nat.mod_eq_of_lt (by omega), BitVec.getLsbD_sshiftRight]
  simp [hj]
  omega
theorem tb_ushr (m : Int64) {r : Nat} (hr : r < 64) (j : Nat) : tb (m.toUInt64 >>> ((nI r).toInt64.toUInt64 &&& Int64.toUInt64 63)).toInt64 j = tb m (r + j) := by
  show (m.toUInt64 >>> ((nI r).toInt64.toUInt64 &&& Int64.toUInt64 63)).toBitVec.getLsbD j = _
  rw [UInt64.toBitVec_shiftRight, tb_amu r hr, BitVec.ushiftRight_eq', BitVec.toNat_ofNat, Nat.mod_eq_of_lt (by omega), BitVec.getLsbD_ushiftRight]
  rfl
theorem tb_bit {r : Nat} (hr : r < 64) (j : Nat) : tb (1 <<< ((nI r).toInt64 &&& 63)) j = decide (j = r) := by
  rw [tb_shl 1 hr, tb_1]
  by_cases h : j = r
  · subst h
    simp [hr]
  · have : ¬ (r ≤ j ∧ j - r = 0) := by omega
    simp [h]
    omega
theorem tb_low {m : Int64} : m &&& 1 = 1 ↔ tb m 0 = true := by
  constructor
  · intro h
    have : tb (m &&& 1) 0 = true := by rw [h]; decide
    rw [tb_and, Bool.and_eq_true] at this
    exact this.1
  · intro h
    apply tb_ext
    intro r hr
    rw [tb_and, tb_1]
    by_cases h0 : r = 0
    · subst h0
      simp [h]
    · simp [h0]
theorem tb_low0 {m : Int64} : m &&& 1 = 0 ↔ tb m 0 = false := by
  constructor
  · intro h
    have : tb (m &&& 1) 0 = false := by rw [h]; decide
    rw [tb_and] at this
    simpa [tb_1] using this
  · intro h
    apply tb_ext
    intro r hr
    rw [tb_and, tb_1, tb_0]
    by_cases h0 : r = 0
    · subst h0
      simp [h]
    · simp [h0]
/-- (mask >> r & 1) == 1 -/
theorem tb_test {m : Int64} {r : Nat} (hr : r < 64) : lg_cmp ((m >>> ((nI r).toInt64 &&& 63)) &&& 1) 1 = 0 ↔ tb m r = true := by
  rw [lg_cmp_0, tb_low, tb_shr m hr (by omega), Nat.add_zero]
/-- (mask >>> r & 1) != 0 -/
theorem tb_utest {m : Int64} {r : Nat} (hr : r < 64) : lg_cmp ((m.toUInt64 >>> ((nI r).toInt64.toUInt64 &&& Int64.toUInt64 63)).toInt64 &&& 1) 0 = 0 ↔ tb m r = false := by
  rw [lg_cmp_0, tb_low0, tb_ushr m hr, Nat.add_zero]
/-- (mask >> r & 1) == 0 -/
theorem tb_test0 {m : Int64} {r : Nat} (hr : r < 64) : lg_cmp ((m >>> ((nI r).toInt64 &&& 63)) &&& 1) 0 = 0 ↔ tb m r = false := by
  rw [lg_cmp_0, tb_low0, tb_shr m hr (by omega), Nat.add_zero]
/-- (a & b) != 0 -/
theorem tb_meet {a b : Int64} : lg_cmp (a &&& b) 0 = 0 ↔ ∀ r, r < 64 → ¬ (tb a r = true ∧ tb b r = true) := by
  rw [lg_cmp_0]
  constructor
  · intro h r _ q
    have : tb (a &&& b) r = true := by rw [tb_and, q.1, q.2]; rfl
    rw [h, tb_0] at this
    cases this
  · intro h
    apply tb_ext
    intro r hr
    rw [tb_and, tb_0]
    have := h r hr
    cases h1 : tb a r <;> cases h2 : tb b r <;> simp_all
