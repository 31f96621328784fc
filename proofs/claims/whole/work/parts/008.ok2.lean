theorem am_chk_0 : am_chk 0 10 = true := by decide +kernel
theorem am_chk_10 : am_chk 10 10 = true := by decide +kernel
theorem am_chk_20 : am_chk 20 10 = true := by decide +kernel
theorem am_chk_30 : am_chk 30 10 = true := by decide +kernel
theorem am_chk_40 : am_chk 40 10 = true := by decide +kernel
theorem am_chk_50 : am_chk 50 10 = true := by decide +kernel
theorem am_chk_60 : am_chk 60 10 = true := by decide +kernel
theorem am_chk_70 : am_chk 70 10 = true := by decide +kernel
theorem am_chk_80 : am_chk 80 10 = true := by decide +kernel
theorem am_chk_90 : am_chk 90 10 = true := by decide +kernel
theorem am_chk_100 : am_chk 100 10 = true := by decide +kernel
theorem am_chk_110 : am_chk 110 10 = true := by decide +kernel
theorem am_chk_120 : am_chk 120 10 = true := by decide +kernel
theorem am_chk_130 : am_chk 130 10 = true := by decide +kernel
theorem am_chk_140 : am_chk 140 10 = true := by decide +kernel
theorem am_chk_150 : am_chk 150 10 = true := by decide +kernel
theorem am_chk_160 : am_chk 160 10 = true := by decide +kernel
theorem am_chk_170 : am_chk 170 10 = true := by decide +kernel
theorem am_chk_180 : am_chk 180 10 = true := by decide +kernel
theorem am_chk_190 : am_chk 190 7 = true := by decide +kernel
theorem am_all (i : Nat) (h : i < am_nm) : am_okm i = true ∧ am_ok (am_m i) = true := by
  have h : i < 197 := h
  rcases Nat.lt_or_ge i 10 with h0 | h0
  · exact am_chk_s am_chk_0 (by omega) (by omega)
  rcases Nat.lt_or_ge i 20 with h10 | h10
  · exact am_chk_s am_chk_10 (by omega) (by omega)
  rcases Nat.lt_or_ge i 30 with h20 | h20
  · exact am_chk_s am_chk_20 (by omega) (by omega)
  rcases Nat.lt_or_ge i 40 with h30 | h30
  · exact am_chk_s am_chk_30 (by omega) (by omega)
  rcases Nat.lt_or_ge i 50 with h40 | h40
  · exact am_chk_s am_chk_40 (by omega) (by omega)
  rcases Nat.lt_or_ge i 60 with h50 | h50
  · exact am_chk_s am_chk_50 (by omega) (by omega)
  rcases Nat.lt_or_ge i 70 with h60 | h60
  · exact am_chk_s am_chk_60 (by omega) (by omega)
  rcases Nat.lt_or_ge i 80 with h70 | h70
  · exact am_chk_s am_chk_70 (by omega) (by omega)
  rcases Nat.lt_or_ge i 90 with h80 | h80
  · exact am_chk_s am_chk_80 (by omega) (by omega)
  rcases Nat.lt_or_ge i 100 with h90 | h90
  · exact am_chk_s am_chk_90 (by omega) (by omega)
  rcases Nat.lt_or_ge i 110 with h100 | h100
  · exact am_chk_s am_chk_100 (by omega) (by omega)
  rcases Nat.lt_or_ge i 120 with h110 | h110
  · exact am_chk_s am_chk_110 (by omega) (by omega)
  rcases Nat.lt_or_ge i 130 with h120 | h120
  · exact am_chk_s am_chk_120 (by omega) (by omega)
  rcases Nat.lt_or_ge i 140 with h130 | h130
  · exact am_chk_s am_chk_130 (by omega) (by omega)
  rcases Nat.lt_or_ge i 150 with h140 | h140
  · exact am_chk_s am_chk_140 (by omega) (by omega)
  rcases Nat.lt_or_ge i 160 with h150 | h150
  · exact am_chk_s am_chk_150 (by omega) (by omega)
  rcases Nat.lt_or_ge i 170 with h160 | h160
  · exact am_chk_s am_chk_160 (by omega) (by omega)
  rcases Nat.lt_or_ge i 180 with h170 | h170
  · exact am_chk_s am_chk_170 (by omega) (by omega)
  rcases Nat.lt_or_ge i 190 with h180 | h180
  · exact am_chk_s am_chk_180 (by omega) (by omega)
  exact am_chk_s am_chk_190 (by omega) (by omega)
