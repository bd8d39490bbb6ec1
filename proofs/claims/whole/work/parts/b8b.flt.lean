theorem chkF_1 : chkF 1 = true := by decide +kernel
theorem chkF_2 : chkF 2 = true := by decide +kernel
theorem chkF_3 : chkF 3 = true := by decide +kernel
theorem chkF_4 : chkF 4 = true := by decide +kernel
theorem chkF_5 : chkF 5 = true := by decide +kernel
theorem chkF_6 : chkF 6 = true := by decide +kernel
theorem chkF_7 : chkF 7 = true := by decide +kernel
theorem chkF_8 : chkF 8 = true := by decide +kernel
theorem chkF_9 : chkF 9 = true := by decide +kernel
theorem chkF_10 : chkF 10 = true := by decide +kernel
theorem chkF_11 : chkF 11 = true := by decide +kernel
theorem chkF_12 : chkF 12 = true := by decide +kernel
theorem chkF_13 : chkF 13 = true := by decide +kernel
theorem chkF_14 : chkF 14 = true := by decide +kernel
theorem chkF_15 : chkF 15 = true := by decide +kernel
theorem chkF_16 : chkF 16 = true := by decide +kernel
theorem chkF_17 : chkF 17 = true := by decide +kernel
theorem chkF_18 : chkF 18 = true := by decide +kernel
theorem chkF_19 : chkF 19 = true := by decide +kernel
theorem chkF_20 : chkF 20 = true := by decide +kernel
theorem chkF_all {n : Nat} (h1 : 1 ≤ n) (h2 : n ≤ 20) : chkF n = true := by
  rcases (show n = 1 ∨ n = 2 ∨ n = 3 ∨ n = 4 ∨ n = 5 ∨ n = 6 ∨ n = 7 ∨ n = 8 ∨ n = 9 ∨ n = 10 ∨ n = 11 ∨ n = 12 ∨ n = 13 ∨ n = 14 ∨ n = 15 ∨ n = 16 ∨ n = 17 ∨ n = 18 ∨ n = 19 ∨ n = 20 by omega) with rfl | rfl | rfl | rfl | rfl | rfl | rfl | rfl | rfl | rfl | rfl | rfl | rfl | rfl | rfl | rfl | rfl | rfl | rfl | rfl
  · exact chkF_1
  · exact chkF_2
  · exact chkF_3
  · exact chkF_4
  · exact chkF_5
  · exact chkF_6
  · exact chkF_7
  · exact chkF_8
  · exact chkF_9
  · exact chkF_10
  · exact chkF_11
  · exact chkF_12
  · exact chkF_13
  · exact chkF_14
  · exact chkF_15
  · exact chkF_16
  · exact chkF_17
  · exact chkF_18
  · exact chkF_19
  · exact chkF_20
