/-! the class: belongs, fitting, joined; one value with the reference's belongs -/
def skS (S : Rs) (r : Nat) : Bool := decide (r < S.1 ∧ 1 ≤ S.2.1 r ∧ S.2.1 r ≤ 5 ∧ 0 < S.2.2.2.1 r)
def woS (S : Rs) (n r : Nat) : Bool := decide (r < S.1 ∧ S.2.2.2.2 r = n)
def tlS (S : Rs) (n r : Nat) : Bool := decide (r < S.1 ∧ S.2.1 r = 10 + n)
def enS (S : Rs) (r : Nat) : Bool := decide (r < S.1 ∧ S.2.1 r = 0)
def one (k r : Nat) : Bool := decide (r = k)
def fx (w : Nat) : Nat := if w = 1 then 4 else w - 2
/-- the class's rests hold the system S; ip: the rest of an item -/
def repX (S : Rs) (ip : Nat → Nat) (n : Nat) (mi : Nat → Nat → Int32) (ml : Nat → Nat → Int64) : Prop :=
  (mi 84 0 = nI n ∧ n ≤ 16) ∧
  (∀ j, j < n → ip j < S.1 ∧ 1 ≤ S.2.1 (ip j) ∧ S.2.1 (ip j) ≤ 5 ∧ mi 85 j = nI (fx (S.2.1 (ip j))) ∧ (2 ≤ S.2.1 (ip j) → mi 86 j = nI (S.2.2.1 (ip j))) ∧ tb (ml 88 j) = one (ip j + 1) ∧ tb (ml 87 j) = (fun r => decide (r = ip j ∧ S.2.2.2.1 (ip j) = 1)) ∧ ml 89 j = spF (skS S) (woS S) (tlS S) (one (ip j))) ∧
  (∀ r, r < S.1 → 1 ≤ S.2.1 r → S.2.1 r ≤ 5 → ∃ j, j < n ∧ ip j = r) ∧
  (∀ k, k < 6 → tb (ml 90 k) = woS S k) ∧ (∀ k, k < 6 → tb (ml 91 k) = tlS S k) ∧ tb (ml 84 8) = skS S ∧ ml 84 10 = spF (skS S) (woS S) (tlS S) (enS S)
def ofI (p : Nat → Bool) : Int32 := ⟨⟨BitVec.ofNat 32 ((List.range 32).foldl (fun a r => a ||| (if p r then 2 ^ r else 0)) 0)⟩⟩
theorem ti_ofI (p : Nat → Bool) {r : Nat} (h : r < 32) : ti (ofI p) r = p r := by
  show (BitVec.ofNat 32 _).getLsbD r = _
  rw [BitVec.getLsbD_ofNat, fold_bit p 32 r]
  simp [h]
theorem ofI_eq {p : Nat → Bool} {m : Int32} (h : ∀ r, r < 32 → ti m r = p r) : m = ofI p := ti_ext fun r hr => by rw [h r hr, ti_ofI p hr]
def fitP (S : Rs) (ip : Nat → Nat) (n f : Nat) (c : Nat → Bool) (j : Nat) : Bool := decide (j < n) && (decide (S.2.1 (ip j) = f) && (decide (f = 1) || inN S c (S.2.2.1 (ip j))))
def goP (S : Rs) (b : Nat → Bool) (r : Nat) : Bool := b (r + 1) || (decide (S.2.2.2.1 r = 1) && b r)
theorem Lfp_pos {S : Rs} (hS : okS S) {ip : Nat → Nat} {n f : Nat} {i b : Nat → Bool} (hf : 1 ≤ f) (hip : ∀ j, j < n → ip j < S.1 ∧ 1 ≤ S.2.1 (ip j) ∧ S.2.1 (ip j) ≤ 5) (hall : ∀ r, r < S.1 → 1 ≤ S.2.1 r → S.2.1 r ≤ 5 → ∃ j, j < n ∧ ip j = r) (r : Nat) :
    Lfp S f i b r ↔ ∃ j, fitP S ip n f i j = true ∧ goP S b (ip j) = true ∧ Sp (skS S) (woS S) (tlS S) (one (ip j)) r := by
  have h64 := hS.1
  constructor
  · rintro ⟨hr, h⟩
    have hc := h (fun r => @decide (∃ j, fitP S ip n f i j = true ∧ goP S b (ip j) = true ∧ Sp (skS S) (woS S) (tlS S) (one (ip j)) r) (Classical.propDecidable _)) ?_
    · exact @of_decide_eq_true _ (Classical.propDecidable _) hc
    intro q hq hm
    refine @decide_eq_true _ (Classical.propDecidable _) ?_
    unfold mayB at hm
    split at hm
    · next h1 => exact absurd (of_decide_eq_true hm) (by omega)
    · next h1 =>
      split at hm
      · next h2 =>
        obtain ⟨q', a1, a2, a3⟩ := inN_iff.mp hm
        obtain ⟨j, b1, b2, b3⟩ := @of_decide_eq_true _ (Classical.propDecidable _) a3
        refine ⟨j, b1, b2, by omega, fun X hX hC => hC.2 (S.2.1 q - 10) ?_ ⟨q', by omega, decide_eq_true ⟨a1, a2⟩, b3.2 X hX hC⟩ q (by omega) (decide_eq_true ⟨hq, by omega⟩)⟩
        have := (hS.2 q hq).1
        omega
      · next h2 =>
        rw [Bool.or_eq_true] at hm
        rcases hm with hm | hm
        · rw [Bool.and_eq_true] at hm
          obtain ⟨j, b1, b2, b3⟩ := @of_decide_eq_true _ (Classical.propDecidable _) hm.2
          have := (hS.2 q hq).1
          refine ⟨j, b1, b2, by omega, fun X hX hC => hC.1 q (by omega) (decide_eq_true ⟨hq, by omega, by omega, of_decide_eq_true hm.1⟩) (by omega) (b3.2 X hX hC)⟩
        · rw [Bool.and_eq_true, Bool.and_eq_true] at hm
          obtain ⟨⟨c1, c2⟩, c3⟩ := hm
          have c1 : f = S.2.1 q := of_decide_eq_true c1
          have := (hS.2 q hq).1
          obtain ⟨j, hj, rfl⟩ := hall q hq (by omega) (by omega)
          refine ⟨j, ?_, c3, by omega, fun X hX _ => hX _ (by omega) (decide_eq_true rfl)⟩
          unfold fitP
          rw [decide_eq_true hj, decide_eq_true c1.symm, c2]
          rfl
  · rintro ⟨j, h1, h2, h3⟩
    unfold fitP at h1
    simp only [Bool.and_eq_true, decide_eq_true_eq] at h1
    obtain ⟨hj, hw, hin⟩ := h1
    have hipj := hip j hj
    have key : ∀ X : Nat → Bool, (∀ q, q < S.1 → mayB S f i b X q = true → X q = true) → ∀ q, Sp (skS S) (woS S) (tlS S) (one (ip j)) q → q < S.1 ∧ X q = true := by
      intro X hX q hq
      have := hq.2 (fun r => decide (r < S.1) && X r) ?_ ⟨?_, ?_⟩
      · simpa using this
      · intro q2 _ e
        have e : q2 = ip j := of_decide_eq_true e
        subst e
        have : X (ip j) = true := by
          refine hX _ hipj.1 ?_
          unfold mayB
          rw [if_neg (by omega), if_neg (by omega), decide_eq_true hw.symm, hin]
          unfold goP at h2
          rw [h2]
          simp
        simp [hipj.1, this]
      · intro r hr hs hr1 hx
        have hs := of_decide_eq_true hs
        simp only [Bool.and_eq_true, decide_eq_true_eq] at hx ⊢
        refine ⟨hs.1, hX r hs.1 ?_⟩
        unfold mayB
        rw [if_neg (by omega), if_neg (by omega), decide_eq_true hs.2.2.2, hx.2]
        rfl
      · intro k hk hex r hr ht
        have ht := of_decide_eq_true ht
        obtain ⟨q', c1, c2, c3⟩ := hex
        have c2 := of_decide_eq_true c2
        simp only [Bool.and_eq_true, decide_eq_true_eq] at c3 ⊢
        refine ⟨ht.1, hX r ht.1 ?_⟩
        unfold mayB
        rw [if_neg (by omega), if_pos (by omega), show S.2.1 r - 10 = k by omega]
        exact inN_iff.mpr ⟨q', c2.1, c2.2, c3.2⟩
    refine ⟨?_, fun X hX => (key X hX r h3).2⟩
    exact (key (fun _ => true) (fun _ _ _ => rfl) r h3).1
theorem Lfp_zero {S : Rs} (hS : okS S) {i b : Nat → Bool} (r : Nat) : Lfp S 0 i b r ↔ Sp (skS S) (woS S) (tlS S) (enS S) r := by
  have h64 := hS.1
  constructor
  · rintro ⟨hr, h⟩
    have hc := h (fun r => @decide (Sp (skS S) (woS S) (tlS S) (enS S) r) (Classical.propDecidable _)) ?_
    · exact @of_decide_eq_true _ (Classical.propDecidable _) hc
    intro q hq hm
    refine @decide_eq_true _ (Classical.propDecidable _) ?_
    have hw := (hS.2 q hq).1
    unfold mayB at hm
    split at hm
    · next h1 => exact ⟨by omega, fun X hX _ => hX q (by omega) (decide_eq_true ⟨hq, h1⟩)⟩
    · next h1 =>
      split at hm
      · next h2 =>
        obtain ⟨q', a1, a2, a3⟩ := inN_iff.mp hm
        have b3 := @of_decide_eq_true _ (Classical.propDecidable _) a3
        exact ⟨by omega, fun X hX hC => hC.2 (S.2.1 q - 10) (by omega) ⟨q', by omega, decide_eq_true ⟨a1, a2⟩, b3.2 X hX hC⟩ q (by omega) (decide_eq_true ⟨hq, by omega⟩)⟩
      · next h2 =>
        rw [Bool.or_eq_true] at hm
        rcases hm with hm | hm
        · rw [Bool.and_eq_true] at hm
          have b3 := @of_decide_eq_true _ (Classical.propDecidable _) hm.2
          exact ⟨by omega, fun X hX hC => hC.1 q (by omega) (decide_eq_true ⟨hq, by omega, by omega, of_decide_eq_true hm.1⟩) (by omega) (b3.2 X hX hC)⟩
        · rw [Bool.and_eq_true, Bool.and_eq_true] at hm
          exact absurd (of_decide_eq_true hm.1.1) (by omega)
  · intro h3
    have key : ∀ X : Nat → Bool, (∀ q, q < S.1 → mayB S 0 i b X q = true → X q = true) → r < S.1 ∧ X r = true := by
      intro X hX
      have := h3.2 (fun r => decide (r < S.1) && X r) ?_ ⟨?_, ?_⟩
      · simpa using this
      · intro q2 _ e
        have e := of_decide_eq_true e
        have : X q2 = true := by
          refine hX _ e.1 ?_
          unfold mayB
          rw [if_pos e.2]
          rfl
        simp [e.1, this]
      · intro r hr hs hr1 hx
        have hs := of_decide_eq_true hs
        simp only [Bool.and_eq_true, decide_eq_true_eq] at hx ⊢
        refine ⟨hs.1, hX r hs.1 ?_⟩
        unfold mayB
        rw [if_neg (by omega), if_neg (by omega), decide_eq_true hs.2.2.2, hx.2]
        rfl
      · intro k hk hex r hr ht
        have ht := of_decide_eq_true ht
        obtain ⟨q', c1, c2, c3⟩ := hex
        have c2 := of_decide_eq_true c2
        simp only [Bool.and_eq_true, decide_eq_true_eq] at c3 ⊢
        refine ⟨ht.1, hX r ht.1 ?_⟩
        unfold mayB
        rw [if_neg (by omega), if_pos (by omega), show S.2.1 r - 10 = k by omega]
        exact inN_iff.mpr ⟨q', c2.1, c2.2, c3.2⟩
    exact ⟨(key (fun _ => true) (fun _ _ _ => rfl)).1, fun X hX => (key X hX).2⟩
theorem belF_zero {S : Rs} (hS : okS S) (i b : Nat → Bool) : spF (skS S) (woS S) (tlS S) (enS S) = belF S 0 i b := by
  refine ofB_eq (fun r hr => ?_)
  rw [Lfp_zero hS]
  exact tb_ofB _ hr
section X2
variable {l : Launch} {d : Nat} {mi : Nat → Nat → Int32} {ml : Nat → Nat → Int64} {mr : Nat → Nat → Option Nat} {S : Rs} {ip : Nat → Nat} {n : Nat}
theorem c_S_belongs (hR : SR mr) (hS : okS S) (hX : repX S ip n mi ml) (mask : Int64) (k : Nat) (hk : k < 6) : am_T l d M_S_belongs 0 [some (.ref 84), some (.long mask), none, some (.int (nI k))] [] (hm mi ml mr) 0 0 (fun v h' => v = some (.int (bI (inN S (tb mask) k))) ∧ h' = hm mi ml mr) := by
  have h64 := hS.1
  refine am_lload_n rfl rfl ?_
  refine am_aload_n rfl rfl ?_
  refine ho_getR rfl (by first | rfl | assumption) rfl (by first | assumption | exact hR _ _ _ rfl) ?_
  refine am_iload_n rfl rfl ?_
  refine ho_laload rfl (by first | rfl | assumption) (by omega) ?_
  refine am_land rfl ?_
  refine am_lconst (v := 0) rfl (by decide) ?_
  refine am_lcmp rfl ?_
  refine am_if_eq rfl (fun q => ?_) (fun q => ?_)
  · have q := tb_meet.mp q
    have : inN S (tb mask) k = false := by
      cases hc : inN S (tb mask) k
      · rfl
      · obtain ⟨r, a1, a2, a3⟩ := inN_iff.mp hc
        exact absurd ⟨a3, by rw [hX.2.2.2.1 k hk]; exact decide_eq_true ⟨a1, a2⟩⟩ (q r (by omega))
    refine am_iconst (v := nI 0) rfl (by decide) ?_
    exact am_zreturn rfl rfl (Or.inl rfl) ⟨by rw [this]; rfl, rfl⟩
  · have : inN S (tb mask) k = true := by
      cases hc : inN S (tb mask) k
      · refine absurd (tb_meet.mpr (fun r hr hq => ?_)) q
        rw [hX.2.2.2.1 k hk] at hq
        have h2 := of_decide_eq_true hq.2
        rw [inN_iff.mpr ⟨r, h2.1, h2.2, hq.1⟩] at hc
        cases hc
      · rfl
    refine am_iconst (v := nI 1) rfl (by decide) ?_
    refine am_goto rfl ?_
    exact am_zreturn rfl rfl (Or.inr rfl) ⟨by rw [this]; rfl, rfl⟩
end X2
