-- DOUBLES AND FLOATS OF SMALL TABLES, one by one
def allB (f : Nat → Bool) : Nat → Bool
  | 0 => true
  | n + 1 => allB f n && f n
theorem allB_get {f : Nat → Bool} : ∀ {n i : Nat}, allB f n = true → i < n → f i = true
  | 0, _, _, h => absurd h (by omega)
  | n + 1, i, h, hi => by
    have h : (allB f n && f n) = true := h
    rw [Bool.and_eq_true] at h
    by_cases c : i = n
    · rw [c]; exact h.2
    · exact allB_get h.1 (by omega)
/-- a number is made before it is used -/
def frc (x : Nat) (f : Nat → Bool) : Bool := match x with
  | 0 => f 0
  | k + 1 => f (k + 1)
theorem frc_eq (x : Nat) (f : Nat → Bool) : frc x f = f x := by cases x <;> rfl
def frD (x : UInt64) (f : UInt64 → Bool) : Bool := frc x.toNat (fun n => f (UInt64.ofNat n))
theorem frD_eq (x : UInt64) (f : UInt64 → Bool) : frD x f = f x := by
  unfold frD
  rw [frc_eq, UInt64.ofNat_toNat]
def frF (x : UInt32) (f : UInt32 → Bool) : Bool := frc x.toNat (fun n => f (UInt32.ofNat n))
theorem frF_eq (x : UInt32) (f : UInt32 → Bool) : frF x f = f x := by
  unfold frF
  rw [frc_eq, UInt32.ofNat_toNat]
def okd (x : UInt64) : Bool := decide (x &&& 0x7fffffffffffffff ≤ 0x7ff0000000000000)
def okf (x : UInt32) : Bool := decide (x &&& 0x7fffffff ≤ 0x7f800000)
def rngD (x : UInt64) : Bool := decide (x.toNat = 0) || (decide (1000 * 2 ^ 52 ≤ x.toNat) && decide (x.toNat < 1040 * 2 ^ 52))
/-- one cell of a double sum -/
def chkO (D o : UInt64) : Bool := okd o && frD (FP.dmul o o) (fun m => okd m && frD (FP.ddiv m D) (fun t => okd t && rngD t))
def chkD (D : UInt64) (p v : Nat) : Bool := okd D && (if p = 0 then decide (Op.cmpValue (FP.dcmp D FP.dconst0) .l ≤ 0) else decide (¬ Op.cmpValue (FP.dcmp D FP.dconst0) .l ≤ 0) && frD (FP.dsub (FP.i2d (nI v)) D) (chkO D))
def chkA (n : Nat) : Bool := allB (fun c => allB (fun r => frD (FP.ddiv (FP.i2d (nI (r * c))) (FP.i2d (nI n))) (fun D => allB (fun k => chkD D (r * c) (r + c - n + k)) (r + 1 - (r + c - n)))) (c + 1)) (n + 1)
/-- one float: how the class makes its bits -/
def chkB (x : UInt32) (w : UInt64) : Bool := okd w && ((decide (w.toNat = 0) && decide (x.toInt32 = 0)) || (decide (1 * 2 ^ 52 ≤ w.toNat) && (decide (w.toNat < 2046 * 2 ^ 52) && (if 0 ≤ Op.cmpValue (FP.fcmp x FP.fconst0) .g then decide ((((w.toInt64.toUInt64 >>> ((29 : Int32).toInt64.toUInt64 &&& Int64.toUInt64 63)).toInt64) - 7516192768).toInt32 = x.toInt32) else decide ((((w.toInt64.toUInt64 >>> ((29 : Int32).toInt64.toUInt64 &&& Int64.toUInt64 63)).toInt64) - 7516192768).toInt32 ||| (-2147483648) = x.toInt32)))))
def chkX (x : UInt32) : Bool := okf x && (decide (Op.cmpValue (FP.fcmp x x) .l = 0) && frD (FP.f2d (if 0 ≤ Op.cmpValue (FP.fcmp x FP.fconst0) .g then x else FP.fneg x)) (chkB x))
def chkF (n : Nat) : Bool := allB (fun c => allB (fun r => frF (FP.fdiv (FP.i2f (nI (r * c))) (FP.i2f (nI n))) (fun D => okf D && allB (fun k => frF (FP.fsub (FP.i2f (nI (r + c - n + k))) D) chkX) (r + 1 - (r + c - n)))) (c + 1)) (n + 1)
theorem chkX_0 : chkX (FP.fsub (FP.i2f (nI 0)) FP.fconst0) = true := by decide +kernel
