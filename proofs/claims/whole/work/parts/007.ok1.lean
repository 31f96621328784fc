/-! the checks of words, classes and methods -/
theorem am_ws_good : ∀ w ∈ am_ws, goodWord w = true := by
  have h : am_wc.all (fun r => r.all (fun q => goodWord (am_wi q))) = true := by decide +kernel
  intro w hw
  obtain ⟨q, hq, rfl⟩ := List.mem_map.mp hw
  obtain ⟨r, hr, hq⟩ := List.mem_flatten.mp hq
  exact List.all_eq_true.mp (List.all_eq_true.mp h r hr) q hq
def am_fpl : List (List Nat) := [[380, 381, 382, 383, 384, 385, 386, 387, 388, 389, 390, 391, 392, 393, 394, 395], [147, 148, 149, 150, 151, 152, 153, 154], [188, 189, 190, 191, 192, 193, 194, 195, 196], [212, 213, 214], [225, 226, 227, 228], [247, 248, 249, 250, 251, 252, 253, 254, 255, 256, 257, 258], [288, 289, 290, 291, 292, 293, 294, 295, 296, 297, 298, 299, 300], [316, 317, 318, 319, 320, 321], [336, 337, 338, 339, 340, 341, 342, 343], [358, 359, 360, 361, 362, 363], [857, 858, 859, 860, 861, 862, 863, 864, 865, 866, 867, 868, 869, 870, 871, 872, 873, 874, 875, 876, 877, 878, 879, 880, 881, 882, 883, 884, 885, 886, 887, 888, 889, 890, 891, 892]]
def am_ipl : List (Nat × Nat) := [(115, 100), (123, 101), (158, 102), (198, 103), (216, 104), (230, 105), (261, 106), (303, 107), (323, 108), (345, 109), (816, 110)]
def am_clchk (ci : Nat) : Bool := (List.range (am_n ci)).all (fun k => decide (am_wat ((am_fpl.getD ci []).getD k 0) = some (10, ci, k, 0)) && (decide (parseFieldDescriptor (am_F ci k).2.2.1 = some (am_ft ci k)) && (decide (am_ft ci k ≠ .float ∧ am_ft ci k ≠ .double) && (List.range (am_n ci)).all (fun b => decide (k = b) || decide ((am_F ci k).2.1 ≠ (am_F ci b).2.1))))) && (decide (am_wat (am_ipl.getD ci (0, 0)).1 = some (11, ci, 0, 0)) && decide (am_wat (am_ipl.getD ci (0, 0)).2 = some (4, ci, 0, 0)))
theorem am_clchk_0 : am_clchk 0 = true := by decide +kernel
theorem am_clchk_1 : am_clchk 1 = true := by decide +kernel
theorem am_clchk_2 : am_clchk 2 = true := by decide +kernel
theorem am_clchk_3 : am_clchk 3 = true := by decide +kernel
theorem am_clchk_4 : am_clchk 4 = true := by decide +kernel
theorem am_clchk_5 : am_clchk 5 = true := by decide +kernel
theorem am_clchk_6 : am_clchk 6 = true := by decide +kernel
theorem am_clchk_7 : am_clchk 7 = true := by decide +kernel
theorem am_clchk_8 : am_clchk 8 = true := by decide +kernel
theorem am_clchk_9 : am_clchk 9 = true := by decide +kernel
theorem am_clchk_10 : am_clchk 10 = true := by decide +kernel
theorem am_clchk_all (ci : Nat) (h : ci < am_ncl) : am_clchk ci = true := by
  have h : ci < 11 := h
  match ci, h with
  | 0, _ => exact am_clchk_0
  | 1, _ => exact am_clchk_1
  | 2, _ => exact am_clchk_2
  | 3, _ => exact am_clchk_3
  | 4, _ => exact am_clchk_4
  | 5, _ => exact am_clchk_5
  | 6, _ => exact am_clchk_6
  | 7, _ => exact am_clchk_7
  | 8, _ => exact am_clchk_8
  | 9, _ => exact am_clchk_9
  | 10, _ => exact am_clchk_10
  | k + 11, h => exact absurd h (by omega)
theorem am_clok (ci : Nat) (q : vw_C) (h : am_cl[ci]? = some q) : (∀ w ∈ u_ws q.1 q.2.1 q.2.2, w ∈ am_ws) ∧ (∀ k, k < q.2.2 → parseFieldDescriptor (q.2.1 k).2.2.1 = some (am_ft ci k)) ∧ (∀ a, a < q.2.2 → ∀ b, b < q.2.2 → a ≠ b → (q.2.1 a).2.1 ≠ (q.2.1 b).2.1) ∧ Cond.instantiable q.1 q.2.2 ∈ am_ws ∧ Cond.initialized q.1 ∈ am_ws ∧ ∀ k, k < q.2.2 → am_ft ci k ≠ .float ∧ am_ft ci k ≠ .double := by
  obtain ⟨hlt, rfl⟩ := am_cl_at h
  have hc := am_clchk_all ci hlt
  simp only [am_clchk, Bool.and_eq_true, decide_eq_true_eq, List.all_eq_true, List.mem_range, Bool.or_eq_true] at hc
  refine ⟨fun w hw => ?_, fun k hk => (hc.1 k hk).2.1, fun a ha b hb hab => ?_, am_wat_mem hc.2.1, am_wat_mem hc.2.2, fun k hk => (hc.1 k hk).2.2.1⟩
  · obtain ⟨k, hk, rfl⟩ := List.mem_map.mp hw
    exact am_wat_mem (w := (10, ci, k, 0)) (hc.1 k (List.mem_range.mp hk)).1
  · rcases (hc.1 a ha).2.2.2 b hb with h | h
    · exact absurd h hab
    · exact h
theorem am_oi : Cond.instanceMethod Lib.objectInit ∈ am_ws ∧ Cond.code Lib.objectInit ⟨#[0xb1]⟩ 1 none ∈ am_ws := ⟨am_wat_mem (p := 120) (w := (15, 0, 0, 0)) (by decide +kernel), am_wat_mem (p := 121) (w := (16, 0, 0, 0)) (by decide +kernel)⟩
theorem am_mw1 : Cond.static Lib.Math.max.name ∈ am_ws ∧ Cond.initialized "java/lang/Math" ∈ am_ws ∧ Cond.code Lib.Math.max.name Lib.Math.max.code 2 (some .int) ∈ am_ws := ⟨am_wat_mem (p := 680) (w := (21, 0, 0, 0)) (by decide +kernel), am_wat_mem (p := 111) (w := (4, 12, 0, 0)) (by decide +kernel), am_wat_mem (p := 681) (w := (22, 0, 0, 0)) (by decide +kernel)⟩
theorem am_mw2 : Cond.static Lib.MathLoose.min_long.x ∈ am_ws ∧ Cond.initialized "java/lang/Math" ∈ am_ws ∧ Cond.code Lib.MathLoose.min_long.x Lib.MathLoose.min_long.code 4 (some .long) ∈ am_ws := ⟨am_wat_mem (p := 602) (w := (24, 0, 0, 0)) (by decide +kernel), am_wat_mem (p := 111) (w := (4, 12, 0, 0)) (by decide +kernel), am_wat_mem (p := 603) (w := (25, 0, 0, 0)) (by decide +kernel)⟩
def am_chk (a n : Nat) : Bool := (List.range n).all (fun j => am_okm (a + j) && am_ok (am_m (a + j)))
theorem am_chk_s {a n : Nat} (h : am_chk a n = true) {i : Nat} (h1 : a ≤ i) (h2 : i < a + n) : am_okm i = true ∧ am_ok (am_m i) = true := by
  have := List.all_eq_true.mp h (i - a) (List.mem_range.mpr (by omega))
  rw [show a + (i - a) = i by omega] at this
  simpa using this
