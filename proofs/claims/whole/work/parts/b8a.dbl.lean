theorem chkA_1 : chkA 1 = true := by decide +kernel
theorem chkA_2 : chkA 2 = true := by decide +kernel
theorem chkA_3 : chkA 3 = true := by decide +kernel
theorem chkA_4 : chkA 4 = true := by decide +kernel
theorem chkA_5 : chkA 5 = true := by decide +kernel
theorem chkA_6 : chkA 6 = true := by decide +kernel
theorem chkA_7 : chkA 7 = true := by decide +kernel
theorem chkA_8 : chkA 8 = true := by decide +kernel
theorem chkA_9 : chkA 9 = true := by decide +kernel
theorem chkA_10 : chkA 10 = true := by decide +kernel
theorem chkA_11 : chkA 11 = true := by decide +kernel
theorem chkA_12 : chkA 12 = true := by decide +kernel
theorem chkA_13 : chkA 13 = true := by decide +kernel
theorem chkA_14 : chkA 14 = true := by decide +kernel
theorem chkA_15 : chkA 15 = true := by decide +kernel
theorem chkA_16 : chkA 16 = true := by decide +kernel
theorem chkA_17 : chkA 17 = true := by decide +kernel
theorem chkA_18 : chkA 18 = true := by decide +kernel
theorem chkA_19 : chkA 19 = true := by decide +kernel
theorem chkA_20 : chkA 20 = true := by decide +kernel
theorem chkA_all {n : Nat} (h1 : 1 ≤ n) (h2 : n ≤ 20) : chkA n = true := by
  rcases (show n = 1 ∨ n = 2 ∨ n = 3 ∨ n = 4 ∨ n = 5 ∨ n = 6 ∨ n = 7 ∨ n = 8 ∨ n = 9 ∨ n = 10 ∨ n = 11 ∨ n = 12 ∨ n = 13 ∨ n = 14 ∨ n = 15 ∨ n = 16 ∨ n = 17 ∨ n = 18 ∨ n = 19 ∨ n = 20 by omega) with rfl | rfl | rfl | rfl | rfl | rfl | rfl | rfl | rfl | rfl | rfl | rfl | rfl | rfl | rfl | rfl | rfl | rfl | rfl | rfl
  · exact chkA_1
  · exact chkA_2
  · exact chkA_3
  · exact chkA_4
  · exact chkA_5
  · exact chkA_6
  · exact chkA_7
  · exact chkA_8
  · exact chkA_9
  · exact chkA_10
  · exact chkA_11
  · exact chkA_12
  · exact chkA_13
  · exact chkA_14
  · exact chkA_15
  · exact chkA_16
  · exact chkA_17
  · exact chkA_18
  · exact chkA_19
  · exact chkA_20
