-- THE DOCUMENT'S STATE: the tape, the latest fault, rows, columns, lines, holes, the table, acts, what it was before each
abbrev AS : Type := (Nat × (Nat → Nat)) × (Int32 × Int32) × (Nat × Nat × Nat × (Nat → Nat → Bool)) × (Nat → Nat → Nat) × Nat × (Nat → Nat → Nat → Nat)
abbrev tL (a : AS) : Nat := a.1.1
abbrev tB (a : AS) : Nat → Nat := a.1.2
abbrev fK (a : AS) : Int32 := a.2.1.1
abbrev fP (a : AS) : Int32 := a.2.1.2
abbrev nR (a : AS) : Nat := a.2.2.1.1
abbrev nC (a : AS) : Nat := a.2.2.1.2.1
abbrev nLn (a : AS) : Nat := a.2.2.1.2.2.1
abbrev hol (a : AS) : Nat → Nat → Bool := a.2.2.1.2.2.2
abbrev cel (a : AS) : Nat → Nat → Nat := a.2.2.2.1
abbrev nA (a : AS) : Nat := a.2.2.2.2.1
abbrev pst (a : AS) : Nat → Nat → Nat → Nat := a.2.2.2.2.2
/-- bits as a number -/
def bsum (f : Nat → Bool) (n : Nat) : Nat := fb_sm (fun k => if f k then 2 ^ k else 0) n
theorem bsum_lt (f : Nat → Bool) : ∀ n, bsum f n < 2 ^ n
  | 0 => by show 0 < 1; omega
  | n + 1 => by
    have := bsum_lt f n
    show bsum f n + (if f n then 2 ^ n else 0) < 2 ^ (n + 1)
    rw [Nat.pow_succ]
    split <;> omega
theorem bsum_bit (f : Nat → Bool) : ∀ n k, (bsum f n).testBit k = (decide (k < n) && f k)
  | 0, k => by
    show (0 : Nat).testBit k = _
    rw [Nat.zero_testBit]
    simp
  | n + 1, k => by
    have hl := bsum_lt f n
    have ih := bsum_bit f n k
    show (bsum f n + (if f n then 2 ^ n else 0)).testBit k = _
    cases hf : f n with
    | false =>
      simp only [Bool.false_eq_true, if_false, Nat.add_zero, ih]
      by_cases h : k = n
      · subst h; simp [hf]
      · by_cases h2 : k < n
        · simp [h2, Nat.lt_succ_of_lt h2]
        · simp [h2, show ¬ k < n + 1 by omega]
    | true =>
      simp only [if_true]
      rw [Nat.add_comm]
      by_cases h : k = n
      · subst h
        rw [Nat.testBit_two_pow_add_eq]
        simp [ih, hf]
      · by_cases h2 : k < n
        · rw [Nat.testBit_two_pow_add_gt h2, ih]
          simp [h2, Nat.lt_succ_of_lt h2]
        · rw [Nat.testBit_lt_two_pow]
          · simp [show ¬ k < n + 1 by omega]
          · have e : 2 ^ n + bsum f n < 2 ^ (n + 1) := by rw [Nat.pow_succ]; omega
            exact Nat.lt_of_lt_of_le e (Nat.pow_le_pow_right (by decide) (by omega))
/-- a table as the model lays it -/
def flt (C : Nat) (t : Nat → Nat → Nat) (k : Nat) : Nat := t (k / C) (k % C)
def hM (a : AS) : Nat := bsum (fun k => hol a (k / nC a) (k % nC a)) (nR a * nC a)
def hC (a : AS) : Nat := bsum (fun k => hol a (k / 4) (k % 4)) 16
def s4 (f : Nat → Nat) : Nat := f 0 + f 1 + f 2 + f 3
def rsum (t : Nat → Nat → Nat) (y : Nat) : Nat := s4 (t y)
def csum (t : Nat → Nat → Nat) (x : Nat) : Nat := s4 (fun y => t y x)
def tsum (t : Nat → Nat → Nat) : Nat := s4 (rsum t)
/-- a table of the size and the holes of a -/
def Tab (R C : Nat) (h : Nat → Nat → Bool) (t : Nat → Nat → Nat) : Prop := (∀ y x, ¬ (y < R ∧ x < C) → t y x = 0) ∧ ∀ y x, h y x = true → t y x = 0
def Sam (t u : Nat → Nat → Nat) : Prop := (∀ y, rsum u y = rsum t y) ∧ ∀ x, csum u x = csum t x
def Told (a : AS) : Prop := 2 ≤ nR a ∧ nR a ≤ 4 ∧ 2 ≤ nC a ∧ nC a ≤ 4 ∧ 0 < nLn a ∧ nLn a < 1000 ∧ (∀ y x, hol a y x = true → y < nR a ∧ x < nC a) ∧ tsum (cel a) ≤ 20 ∧ (∀ y x, rsum (cel a) y ≤ 14 ∨ csum (cel a) x ≤ 14) ∧ Tab (nR a) (nC a) (hol a) (cel a) ∧ ∀ i, i < nA a → Tab (nR a) (nC a) (hol a) (pst a i) ∧ Sam (cel a) (pst a i)
def NoTab (a : AS) : Prop := nR a = 0 ∧ nC a = 0 ∧ nLn a = 0 ∧ nA a = 0 ∧ (∀ y x, hol a y x = false) ∧ ∀ y x, cel a y x = 0
def WF (a : AS) : Prop := tL a ≤ 300 ∧ (∀ i, i < tL a → tB a i < 256) ∧ nA a ≤ 20 ∧ (NoTab a ∨ Told a)
/-- the model's store holds a -/
def IM (a : AS) (S : St) : Prop :=
  S.1 80 4 = nI (tL a) ∧ (∀ i, i < tL a → S.1 84 i = nI (tB a i)) ∧ S.1 80 5 = fK a ∧ S.1 80 6 = fP a ∧
  S.1 81 0 = nI (nR a) ∧ S.1 81 1 = nI (nC a) ∧ S.1 81 2 = nI (hM a) ∧ S.1 81 3 = nI (nLn a) ∧ S.1 81 4 = nI (nA a) ∧
  (∀ k, k < 16 → S.1 81 (5 + k) = nI (flt (nC a) (cel a) k)) ∧ ∀ i, i < nA a → ∀ k, k < 16 → S.1 83 (16 * i + k) = nI (flt (nC a) (pst a i) k)
theorem WF.le {a : AS} (h : WF a) : nR a ≤ 4 ∧ nC a ≤ 4 ∧ nLn a < 1000 ∧ tL a ≤ 300 ∧ nA a ≤ 20 := by
  obtain ⟨h1, -, h2, h3 | h3⟩ := h
  · obtain ⟨q1, q2, q3, q4, -⟩ := h3
    omega
  · obtain ⟨q1, q2, q3, q4, q5, q6, -⟩ := h3
    omega
/-- order with small numbers -/
theorem nIlt {x y : Int32} {a b : Nat} (hx : x = nI a) (hy : y = nI b) (ha : a < 2 ^ 31) (hb : b < 2 ^ 31) : x < y ↔ a < b := by rw [hx, hy, nI_ltI ha hb]
theorem nIle {x y : Int32} {a b : Nat} (hx : x = nI a) (hy : y = nI b) (ha : a < 2 ^ 31) (hb : b < 2 ^ 31) : x ≤ y ↔ a ≤ b := by rw [hx, hy, nI_leI ha hb]
theorem in64 {x : Int32} {n : Nat} (hn : n < 2 ^ 31) : ((0 : Int64) ≤ x.toInt64 ∧ x.toInt64 ≤ (nI n - 1).toInt64) ↔ vp_in x n := by
  rw [vp_in_iff, fa_le64, fa_le64, Int32.toInt_toInt64, Int32.toInt_toInt64]
  have e : (nI n - 1).toInt = (n : Int) - 1 := by
    rw [fb_subI, nI_toInt hn]
    · rfl
    · rw [nI_toInt hn]; show -2147483648 ≤ (n : Int) - 1; omega
    · rw [nI_toInt hn]; show (n : Int) - 1 < 2147483648; omega
  rw [e]
  show (0 : Int) ≤ x.toInt ∧ _ ↔ _
  omega
theorem in64b {x : Int32} {n : Nat} (hn : n < 2 ^ 31) : ((0 : Int64) ≤ x.toInt64 ∧ x.toInt64 ≤ (nI n).toInt64) ↔ vp_in x (n + 1) := by
  rw [vp_in_iff, fa_le64, fa_le64, Int32.toInt_toInt64, Int32.toInt_toInt64, nI_toInt hn]
  show (0 : Int) ≤ x.toInt ∧ _ ↔ _
  push_cast
  omega
theorem vin_cl {x : Int32} {n : Nat} (h : vp_in x n) : x.toNatClampNeg < n := Nat.not_le.mp fun q => h (Or.inr q)
theorem vin_eq {x : Int32} {n : Nat} (h : vp_in x n) (hn : n < 2 ^ 31) : x = nI x.toNatClampNeg := by
  obtain ⟨j, hj, e⟩ := vp_in_of h hn
  rw [e, nI_clamp (by omega)]
section M1
variable {g : GX} {d : Nat} {ρ : Rs} {S : St} {a : AS}
theorem sM_in {Q : Int32 → St → Prop} (hρ : Ok ρ) {x y z : Int64} (h : Q (if y ≤ x ∧ x ≤ z then 1 else 0) S) : CALLi g d mX12_in [.long x, .long y, .long z] ρ ρ S Q := by
  refine eX12_in hρ ?_
  by_cases h1 : x < y
  · rw [if_pos h1]
    rw [if_neg (fun q => by rw [fa_lt64] at h1; rw [fa_le64] at q; omega)] at h
    exact h
  · rw [if_neg h1]
    by_cases h2 : z < x
    · rw [if_pos h2]
      rw [if_neg (fun q => by rw [fa_lt64] at h2; rw [fa_le64 x z] at q; omega)] at h
      exact h
    · rw [if_neg h2]
      rw [if_pos ⟨by rw [fa_lt64] at h1; rw [fa_le64]; omega, by rw [fa_lt64] at h2; rw [fa_le64]; omega⟩] at h
      exact h
theorem sM_many {Q : Int32 → St → Prop} (hρ : Ok ρ) (hI : IM a S) (h : Q (nI (nR a * nC a)) S) : CALLi g d mX12_many [.ref 80] ρ ρ S Q := by
  refine eX12_many hρ ?_
  rw [hI.2.2.2.2.1, hI.2.2.2.2.2.1, pk_mul]
  exact h
theorem sM_place {Q : Int32 → St → Prop} (hρ : Ok ρ) (hI : IM a S) {y x : Nat} (h : Q (nI (y * nC a + x)) S) : CALLi g d mX12_place [.ref 80, .int (nI y), .int (nI x)] ρ ρ S Q := by
  refine eX12_place hρ ?_
  rw [hI.2.2.2.2.2.1, pk_mul, nI_add]
  exact h
theorem sM_isCell1 {Q : Int32 → St → Prop} (hρ : Ok ρ) (hW : WF a) (hI : IM a S) {x1 x2 : Int32} (h1 : vp_in x1 (nR a)) (h2 : vp_in x2 (nC a)) (h : Q 1 S) : CALLi g (d + 1) mX12_isCell [.ref 80, .int x1, .int x2] ρ ρ S Q := by
  have hl := hW.le
  refine eX12_isCell hρ (sM_in hρ ?_)
  rw [hI.2.2.2.2.1, if_pos ((in64 (by omega)).mpr h1)]
  rw [if_neg (by decide)]
  refine sM_in hρ ?_
  rw [hI.2.2.2.2.2.1, if_pos ((in64 (by omega)).mpr h2), if_neg (by decide)]
  exact h
theorem sM_isCell0 {Q : Int32 → St → Prop} (hρ : Ok ρ) (hW : WF a) (hI : IM a S) {x1 x2 : Int32} (h1 : ¬ (vp_in x1 (nR a) ∧ vp_in x2 (nC a))) (h : Q 0 S) : CALLi g (d + 1) mX12_isCell [.ref 80, .int x1, .int x2] ρ ρ S Q := by
  have hl := hW.le
  refine eX12_isCell hρ (sM_in hρ ?_)
  rw [hI.2.2.2.2.1]
  by_cases q : vp_in x1 (nR a)
  · rw [if_pos ((in64 (by omega)).mpr q), if_neg (by decide)]
    refine sM_in hρ ?_
    rw [hI.2.2.2.2.2.1, if_neg (fun z => h1 ⟨q, (in64 (by omega)).mp z⟩), if_pos rfl]
    exact h
  · rw [if_neg (fun z => q ((in64 (by omega)).mp z)), if_pos rfl]
    exact h
end M1
