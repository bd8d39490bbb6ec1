def kyS (c : Nat) : List Nat := (List.range (c + 1)).flatMap (fun f => (List.range (c + 1 - f)).map (fun v => f + 21 * v))
def pc (c : Nat) : Nat := pz 4294967296 (kyS c)
def dgt (G i j : Nat) : Nat := G / (4294967296 ^ 21) ^ j % 4294967296 ^ 21 / 4294967296 ^ i % 4294967296
def mxF (f : Nat → Nat) : Nat → Nat
  | 0 => f 0
  | n + 1 => max (mxF f n) (f (n + 1))
def allF (p : Nat → Bool) : Nat → Bool
  | 0 => p 0
  | n + 1 => allF p n && p (n + 1)
def chk (G : Nat) : Bool :=
  allF (fun m => Nat.ble (dgt G m 0) 159) 20 &&
  (allF (fun s => Nat.ble (mxF (fun i => dgt G i 0 + dgt G (s - i) 0) s + mxF (fun i => dgt G i 0 + dgt G (20 - s - i) 0) (20 - s)) 320) 20 &&
  allF (fun s => Nat.ble (mxF (fun r => dgt G (20 - r - s) (r + s) + dgt G r s) (20 - s) + mxF (fun j => dgt G (s - j) j + dgt G j 0) s) 4800) 20)
/-- all that are sorted, with 20 in all -/
def chkC (d0 : Nat) : Bool := allF (fun d1 => allF (fun d2 => Nat.blt 20 (d0 + d1 + d2) || (Nat.blt d2 (20 - d0 - d1 - d2) || chk (pc d0 * (pc d1 * (pc d2 * (pc (20 - d0 - d1 - d2) * 1)))))) d1) d0
theorem chk_0 : chkC 0 = true := by decide +kernel
theorem chk_1 : chkC 1 = true := by decide +kernel
theorem chk_2 : chkC 2 = true := by decide +kernel
theorem chk_3 : chkC 3 = true := by decide +kernel
theorem chk_4 : chkC 4 = true := by decide +kernel
theorem chk_5 : chkC 5 = true := by decide +kernel
theorem chk_6 : chkC 6 = true := by decide +kernel
theorem chk_7 : chkC 7 = true := by decide +kernel
theorem chk_8 : chkC 8 = true := by decide +kernel
theorem chk_9 : chkC 9 = true := by decide +kernel
theorem chk_10 : chkC 10 = true := by decide +kernel
theorem chk_11 : chkC 11 = true := by decide +kernel
theorem chk_12 : chkC 12 = true := by decide +kernel
theorem chk_13 : chkC 13 = true := by decide +kernel
theorem chk_14 : chkC 14 = true := by decide +kernel
theorem chk_15 : chkC 15 = true := by decide +kernel
theorem chk_16 : chkC 16 = true := by decide +kernel
theorem chk_17 : chkC 17 = true := by decide +kernel
theorem chk_18 : chkC 18 = true := by decide +kernel
theorem chk_19 : chkC 19 = true := by decide +kernel
theorem chk_20 : chkC 20 = true := by decide +kernel
