/-- how many of the first n bits are set -/
def popc (m : Nat) (n : Nat) : Nat := fb_sm (fun k => if m.testBit k then 1 else 0) n
def bcE (x0 : Int32) : Int32 :=
  let x1 := x0 - (((x0.toUInt32 >>> ((1 : Int32).toUInt32 &&& Int32.toUInt32 31)).toInt32) &&& 1431655765)
  let x2 := (x1 &&& 858993459) + (((x1.toUInt32 >>> ((2 : Int32).toUInt32 &&& Int32.toUInt32 31)).toInt32) &&& 858993459)
  let x3 := (x2 + ((x2.toUInt32 >>> ((4 : Int32).toUInt32 &&& Int32.toUInt32 31)).toInt32)) &&& 252645135
  let x4 := x3 + ((x3.toUInt32 >>> ((8 : Int32).toUInt32 &&& Int32.toUInt32 31)).toInt32)
  let x5 := x4 + ((x4.toUInt32 >>> ((16 : Int32).toUInt32 &&& Int32.toUInt32 31)).toInt32)
  x5 &&& 63
def bcN (m : Nat) : Nat :=
  let x1 := m - (m / 2 &&& 1431655765)
  let x2 := (x1 &&& 858993459) + (x1 / 4 &&& 858993459)
  let x3 := (x2 + x2 / 16) &&& 252645135
  let x4 := x3 + x3 / 256
  let x5 := x4 + x4 / 65536
  x5 % 64
theorem ush_n {m k : Nat} (hm : m < 2 ^ 32) (hk : k < 32) : (((nI m).toUInt32 >>> ((nI k).toUInt32 &&& Int32.toUInt32 31)).toInt32) = nI (m / 2 ^ k) := pk_ushrN hm (nI k) k (s_u k hk)
theorem bcE_eq {m : Nat} (hm : m < 65536) : bcE (nI m) = nI (bcN m) := by
  unfold bcE bcN
  have h1 : m / 2 &&& 1431655765 ≤ m := Nat.le_trans Nat.and_le_left (Nat.div_le_self _ _)
  have e1 : nI m - (((nI m).toUInt32 >>> ((1 : Int32).toUInt32 &&& Int32.toUInt32 31)).toInt32 &&& 1431655765) = nI (m - (m / 2 &&& 1431655765)) := by
    have e := ush_n (m := m) (k := 1) (by omega) (by omega)
    rw [show (1 : Int32) = nI 1 from rfl, e, show (1431655765 : Int32) = nI 1431655765 from rfl, fa_and, pk_sub h1]
  dsimp only
  rw [e1]
  generalize hx1 : m - (m / 2 &&& 1431655765) = x1
  have b1 : x1 < 65536 := by omega
  have e2 : (nI x1 &&& 858993459) + (((nI x1).toUInt32 >>> ((2 : Int32).toUInt32 &&& Int32.toUInt32 31)).toInt32 &&& 858993459) = nI ((x1 &&& 858993459) + (x1 / 4 &&& 858993459)) := by
    have e := ush_n (m := x1) (k := 2) (by omega) (by omega)
    rw [show (2 : Int32) = nI 2 from rfl, e, show (858993459 : Int32) = nI 858993459 from rfl, fa_and, fa_and, nI_add]
  rw [e2]
  have b2 : (x1 &&& 858993459) + (x1 / 4 &&& 858993459) < 131072 := by
    have q1 : x1 &&& 858993459 ≤ x1 := Nat.and_le_left
    have q2 : x1 / 4 &&& 858993459 ≤ x1 / 4 := Nat.and_le_left
    omega
  generalize (x1 &&& 858993459) + (x1 / 4 &&& 858993459) = x2 at b2
  have e3 : (nI x2 + ((nI x2).toUInt32 >>> ((4 : Int32).toUInt32 &&& Int32.toUInt32 31)).toInt32) &&& 252645135 = nI ((x2 + x2 / 16) &&& 252645135) := by
    have e := ush_n (m := x2) (k := 4) (by omega) (by omega)
    rw [show (4 : Int32) = nI 4 from rfl, e, nI_add, show (252645135 : Int32) = nI 252645135 from rfl, fa_and]
  rw [e3]
  have b3 : (x2 + x2 / 16) &&& 252645135 < 262144 := by
    have q1 : (x2 + x2 / 16) &&& 252645135 ≤ x2 + x2 / 16 := Nat.and_le_left
    omega
  generalize (x2 + x2 / 16) &&& 252645135 = x3 at b3
  have e4 : nI x3 + ((nI x3).toUInt32 >>> ((8 : Int32).toUInt32 &&& Int32.toUInt32 31)).toInt32 = nI (x3 + x3 / 256) := by
    have e := ush_n (m := x3) (k := 8) (by omega) (by omega)
    rw [show (8 : Int32) = nI 8 from rfl, e, nI_add]
  rw [e4]
  have b4 : x3 + x3 / 256 < 524288 := by omega
  generalize x3 + x3 / 256 = x4 at b4
  have e5 : nI x4 + ((nI x4).toUInt32 >>> ((16 : Int32).toUInt32 &&& Int32.toUInt32 31)).toInt32 = nI (x4 + x4 / 65536) := by
    have e := ush_n (m := x4) (k := 16) (by omega) (by omega)
    rw [show (16 : Int32) = nI 16 from rfl, e, nI_add]
  rw [e5]
  show nI (x4 + x4 / 65536) &&& nI (2 ^ 6 - 1) = _
  rw [fa_mask]
theorem land_split {a b M N : Nat} (hb : b < 256) (hN : N < 256) : (256 * a + b) &&& (256 * M + N) = 256 * (a &&& M) + (b &&& N) := by
  have hbN : b &&& N < 2 ^ 8 := Nat.lt_of_le_of_lt Nat.and_le_left hb
  apply Nat.eq_of_testBit_eq
  intro i
  rw [Nat.testBit_and, show (256 : Nat) = 2 ^ 8 from rfl, Nat.testBit_two_pow_mul_add a hb, Nat.testBit_two_pow_mul_add M hN, Nat.testBit_two_pow_mul_add (a &&& M) hbN]
  split <;> rw [Nat.testBit_and]
def bx1 (m : Nat) : Nat := m - (m / 2 &&& 85)
def bx2 (m : Nat) : Nat := (bx1 m &&& 51) + (bx1 m / 4 &&& 51)
def bx3 (m : Nat) : Nat := (bx2 m + bx2 m / 16) &&& 15
theorem byte_t : ∀ b, b < 256 → bx1 b < 256 ∧ bx2 b % 16 ≤ 4 ∧ bx2 b / 16 ≤ 4 ∧ bx3 b = popc b 8 ∧ (b / 2 &&& 85) ≤ b := by decide +kernel
theorem byte_u : ∀ b, b < 128 → (128 + b) &&& 85 = b &&& 85 := by decide +kernel
theorem byte_v : ∀ r, r < 4 → ∀ b, b < 64 → (64 * r + b) &&& 51 = b &&& 51 := by decide +kernel
theorem byte_w : ∀ r, r < 9 → ∀ b, b < 9 → (16 * r + b) &&& 15 = b := by decide +kernel
theorem popc_byte {a b : Nat} (hb : b < 256) : popc (256 * a + b) 16 = popc a 8 + popc b 8 := by
  unfold popc
  rw [show (16 : Nat) = 8 + 8 from rfl, fb_sm_split, Nat.add_comm]
  congr 1
  · refine fb_sm_cong (fun k _ => ?_)
    have e : (256 * a + b).testBit (8 + k) = a.testBit k := by
      rw [show (256 : Nat) = 2 ^ 8 from rfl, Nat.testBit_two_pow_mul_add a hb, if_neg (by omega), Nat.add_sub_cancel_left]
    rw [e]
  · refine fb_sm_cong (fun k hk => ?_)
    have e : (256 * a + b).testBit k = b.testBit k := by
      rw [show (256 : Nat) = 2 ^ 8 from rfl, Nat.testBit_two_pow_mul_add a hb, if_pos hk]
    rw [e]
theorem bcN_eq {m : Nat} (hm : m < 65536) : bcN m = popc m 16 := by
  obtain ⟨a, b, ha, hb, rfl⟩ : ∃ a b, a < 256 ∧ b < 256 ∧ m = 256 * a + b := ⟨m / 256, m % 256, by omega, by omega, by omega⟩
  obtain ⟨a1, a2, a3, a4, a5⟩ := byte_t a ha
  obtain ⟨b1, b2, b3, b4, b5⟩ := byte_t b hb
  rw [popc_byte hb, ← a4, ← b4]
  unfold bcN
  have e1 : (256 * a + b) - ((256 * a + b) / 2 &&& 1431655765) = 256 * bx1 a + bx1 b := by
    have z : (256 * a + b) / 2 &&& 1431655765 = 256 * (a / 2 &&& 85) + (b / 2 &&& 85) := by
      rw [show (256 * a + b) / 2 = 256 * (a / 2) + (128 * (a % 2) + b / 2) by omega, show 1431655765 = 256 * 5592405 + 85 from rfl, land_split (by omega) (by decide)]
      have q : (128 * (a % 2) + b / 2) &&& 85 = b / 2 &&& 85 := by
        rcases (show a % 2 = 0 ∨ a % 2 = 1 by omega) with h | h
        · rw [h]; congr 1; omega
        · rw [h]; exact byte_u (b / 2) (by omega)
      rw [q]
      congr 2
      have := land_split (a := 0) (b := a / 2) (M := 21845) (N := 85) (by omega) (by decide)
      simpa using this
    rw [z]
    unfold bx1
    omega
  dsimp only
  rw [e1]
  have e2 : ((256 * bx1 a + bx1 b) &&& 858993459) + ((256 * bx1 a + bx1 b) / 4 &&& 858993459) = 256 * bx2 a + bx2 b := by
    have s1 : (256 * bx1 a + bx1 b) &&& 858993459 = 256 * (bx1 a &&& 51) + (bx1 b &&& 51) := by
      rw [show 858993459 = 256 * 3355443 + 51 from rfl, land_split b1 (by decide)]
      congr 2
      have := land_split (a := 0) (b := bx1 a) (M := 13107) (N := 51) a1 (by decide)
      simpa using this
    have s2 : (256 * bx1 a + bx1 b) / 4 &&& 858993459 = 256 * (bx1 a / 4 &&& 51) + (bx1 b / 4 &&& 51) := by
      rw [show (256 * bx1 a + bx1 b) / 4 = 256 * (bx1 a / 4) + (64 * (bx1 a % 4) + bx1 b / 4) by omega, show 858993459 = 256 * 3355443 + 51 from rfl, land_split (by omega) (by decide), byte_v _ (by omega) _ (by omega)]
      congr 2
      have := land_split (a := 0) (b := bx1 a / 4) (M := 13107) (N := 51) (by omega) (by decide)
      simpa using this
    rw [s1, s2]
    unfold bx2
    omega
  rw [e2]
  have e3 : ((256 * bx2 a + bx2 b) + (256 * bx2 a + bx2 b) / 16) &&& 252645135 = 256 * bx3 a + bx3 b := by
    have p1 : (256 * bx2 a + bx2 b) + (256 * bx2 a + bx2 b) / 16 = 256 * (bx2 a + bx2 a / 16) + (16 * (bx2 b / 16 + bx2 a % 16) + (bx2 b % 16 + bx2 b / 16)) := by omega
    rw [p1, show 252645135 = 256 * 986895 + 15 from rfl, land_split (by omega) (by decide), byte_w _ (by omega) _ (by omega)]
    have s3 : bx3 b = bx2 b % 16 + bx2 b / 16 := by
      unfold bx3
      rw [show bx2 b + bx2 b / 16 = 16 * (bx2 b / 16) + (bx2 b % 16 + bx2 b / 16) by omega, byte_w _ (by omega) _ (by omega)]
    rw [s3]
    congr 2
    unfold bx3
    have := land_split (a := 0) (b := bx2 a + bx2 a / 16) (M := 3855) (N := 15) (by omega) (by decide)
    simpa using this
  rw [e3]
  have q1 : bx3 a < 256 := by rw [a4]; exact Nat.lt_of_le_of_lt (fb_sm_bound (c := 1) (fun k _ => by split <;> omega)) (by decide)
  have q2 : bx3 b ≤ 8 := by rw [b4]; exact fb_sm_bound (c := 1) (fun k _ => by split <;> omega)
  have q3 : bx3 a ≤ 8 := by rw [a4]; exact fb_sm_bound (c := 1) (fun k _ => by split <;> omega)
  clear e1 e2 e3 a1 a2 a3 a4 a5 b1 b2 b3 b4 b5 ha hb hm
  generalize bx3 a = A at *
  generalize bx3 b = B at *
  have z1 : (256 * A + B) / 256 = A := by omega
  rw [z1]
  have z2 : (256 * A + B + A) / 65536 = 0 := by omega
  rw [z2]
  omega
/-- how many holes -/
def nH (a : AS) : Nat := s4 (fun y => s4 (fun x => if hol a y x then 1 else 0))
theorem popc_C (a : AS) : popc (hC a) 16 = nH a := by
  have e : ∀ k, k < 16 → (if (hC a).testBit k then 1 else 0) = (if hol a (k / 4) (k % 4) then 1 else 0) := by
    intro k hk
    have := hC_bit (a := a) (y := k / 4) (x := k % 4) (by omega) (by omega)
    rw [show 4 * (k / 4) + k % 4 = k by omega] at this
    rw [this]
  unfold popc
  rw [fb_sm_cong e]
  have hb2 : ∀ y x, (if hol a y x then 1 else 0) = (fun y x => if hol a y x then 1 else 0) y x := fun _ _ => rfl
  simp only [nH, s4, fb_sm]
  generalize (fun y x => if hol a y x then 1 else 0) = b at hb2
  simp only [hb2]
  show 0 + b 0 0 + b 0 1 + b 0 2 + b 0 3 + b 1 0 + b 1 1 + b 1 2 + b 1 3 + b 2 0 + b 2 1 + b 2 2 + b 2 3 + b 3 0 + b 3 1 + b 3 2 + b 3 3 = _
  omega
theorem popc_M {a : AS} (h : WF a) : popc (hM a) 16 = nH a := by
  have hl := h.le
  have hz : ∀ y x, ¬ (y < nR a ∧ x < nC a) → hol a y x = false := by
    intro y x q
    rcases h.2.2.2 with z | z
    · exact z.2.2.2.2.1 y x
    · cases e : hol a y x with
      | false => rfl
      | true => exact absurd (z.2.2.2.2.2.2.1 y x e) q
  have e : ∀ k, k < 16 → (if (hM a).testBit k then 1 else 0) = (if k < nR a * nC a then (if hol a (k / nC a) (k % nC a) then 1 else 0) else 0) := by
    intro k hk
    unfold hM
    rw [bsum_bit]
    by_cases q : k < nR a * nC a
    · simp [q]
    · simp [q]
  unfold popc
  rw [fb_sm_cong e]
  have ez : ∀ y x, ¬ (y < nR a ∧ x < nC a) → (if hol a y x then 1 else 0) = 0 := fun y x q => by rw [hz y x q]; rfl
  simp only [nH, s4, fb_sm]
  generalize hb : (fun y x => if hol a y x then 1 else 0) = b at *
  have hb2 : ∀ y x, (if hol a y x then 1 else 0) = b y x := fun y x => by rw [← hb]
  simp only [hb2] at ez ⊢
  rcases told_cases h with ⟨q1, q2⟩ | ⟨q1, q2⟩
  · have : ∀ y x, b y x = 0 := fun y x => ez y x (by omega)
    simp [this]
  · rcases (show nR a = 2 ∨ nR a = 3 ∨ nR a = 4 by omega) with r | r | r <;> rcases (show nC a = 2 ∨ nC a = 3 ∨ nC a = 4 by omega) with c | c | c <;> rw [r, c] at ez ⊢ <;> simp [ez] <;> omega
theorem flat_sum {C : Nat} (t : Nat → Nat → Nat) : ∀ R, fb_sm (flt C t) (R * C) = fb_sm (fun y => fb_sm (t y) C) R
  | 0 => by rw [Nat.zero_mul]; rfl
  | R + 1 => by
    rw [Nat.succ_mul, fb_sm_split, flat_sum t R, fb_sm_succ]
    congr 1
    exact fb_sm_cong (fun k hk => flt_at t hk)
theorem tsum_flat {a : AS} (h : WF a) : fb_sm (flt (nC a) (cel a)) (nR a * nC a) = tsum (cel a) := by
  have hl := h.le
  rw [flat_sum, fb_sm_cong (fun k _ => h.tab.row_sm hl.2.1 k)]
  unfold tsum
  rw [s4_sm]
  refine (sm_tail hl.1 (fun k h1 _ => ?_)).symm
  simp only [rsum, s4]
  rw [h.tab.1 k 0 (by omega), h.tab.1 k 1 (by omega), h.tab.1 k 2 (by omega), h.tab.1 k 3 (by omega)]
section K1
variable {g : GX} {d : Nat} {ρ : Rs} {S : St} {a : AS}
theorem sM_totalNow {Q : Int32 → St → Prop} (hρ : Ok ρ) (hW : WF a) (hI : IM a S) (h : Q (nI (tsum (cel a))) S) : CALLi g (d + 1) mX12_totalNow [.ref 80] ρ ρ S Q := by
  have hl := hW.le
  have e2 := mul44 hl.1 hl.2.1
  refine eX12_totalNow hρ ?_
  have key : ∀ k x, x + k = nR a * nC a → AW g ρ (QI Q) (d + 1) mX12_totalNow 4 [(0, .ref 80), (1, .int (nI (fb_sm (flt (nC a) (cel a)) x))), (2, .int (nI x))] [] ρ S := by
    intro k
    induction k with
    | zero =>
      intro x hx
      refine eX12_totalNow_4 hρ (sM_many hρ hI ?_)
      rw [if_pos (nI_le (by omega) (by omega)), show x = nR a * nC a by omega, tsum_flat hW]
      exact h
    | succ k ih =>
      intro x hx
      refine eX12_totalNow_4 hρ (sM_many hρ hI ?_)
      rw [if_neg (nI_ge (by omega) (by omega))]
      have e3 : (5 : Int32) + nI x = nI (5 + x) := nI_add 5 _
      rw [e3]
      refine ⟨vp_in_nI (by omega) (by omega), ?_⟩
      rw [nI_clamp (by omega), hI.2.2.2.2.2.2.2.2.2.1 x (by omega), nI_add, nI_1]
      exact ih (x + 1) (by omega)
  exact key (nR a * nC a) 0 (by omega)
theorem sM_bitsOf {Q : Int32 → St → Prop} (hρ : Ok ρ) {m : Nat} (hm : m < 65536) (h : Q (nI (popc m 16)) S) : CALLi g d mX12_bitsOf [.int (nI m)] ρ ρ S Q := by
  refine eX12_bitsOf hρ ?_
  have key : ∀ k x, x + k = 16 → AW g ρ (QI Q) d mX12_bitsOf 4 [(0, .int (nI m)), (1, .int (nI (popc m x))), (2, .int (nI x))] [] ρ S := by
    intro k
    induction k with
    | zero =>
      intro x hx
      refine eX12_bitsOf_4 hρ ?_
      rw [if_pos (show (16 : Int32) ≤ nI x from nI_le (a := 16) (by omega) (by omega)), show x = 16 by omega]
      exact h
    | succ k ih =>
      intro x hx
      refine eX12_bitsOf_4 hρ ?_
      rw [if_neg (show ¬ (16 : Int32) ≤ nI x from nI_ge (b := 16) (by omega) (by omega)), shr_bit (by omega) (by omega), nI_add, nI_1]
      exact ih (x + 1) (by omega)
  exact key 16 0 (by omega)
/-- what count answers -/
def cntV (a : AS) (x : Int32) : Int32 := if x = 0 then nI (nR a) else if x = 1 then nI (nC a) else if x = 2 then nI (tsum (cel a)) else if x = 3 then nI (nH a) else if x = 4 then nI (nA a) else if x = 5 then nI (nLn a) else if x = 6 then nI (tL a) else -1
theorem sC_count {Q : Int32 → St → Prop} (hρ : Ok ρ) (hI : IB a S) {x1 : Int32} (h : Q (cntV a x1) S) : CALLi g (d + 4) mX11_count [.ref 16, .int x1] ρ ρ S Q := by
  refine eX11_count hρ ?_
  have i1 : S.1 21 0 = nI (nR a) := hI.2.2.2.2.1
  have i2 : S.1 21 1 = nI (nC a) := hI.2.2.2.2.2.1
  have i3 : S.1 21 2 = nI (nLn a) := hI.2.2.2.2.2.2.1
  have i4 : S.1 21 3 = nI (tsum (cel a)) := hI.2.2.2.2.2.2.2.1
  have i5 : S.1 21 4 = nI (hC a) := hI.2.2.2.2.2.2.2.2.1
  have i6 : S.1 21 8 = nI (nA a) := hI.2.2.2.2.2.2.2.2.2.2.2.2.1
  have i7 : S.1 17 1 = nI (tL a) := hI.1
  rw [i1, i2, i3, i4, i5, i6, i7]
  unfold cntV at h
  by_cases q0 : x1 = 0
  · rw [if_pos q0] at h ⊢; exact h
  rw [if_neg q0] at h ⊢
  by_cases q1 : x1 = 1
  · rw [if_pos q1] at h ⊢; exact h
  rw [if_neg q1] at h ⊢
  by_cases q2 : x1 = 2
  · rw [if_pos q2] at h ⊢; exact h
  rw [if_neg q2] at h ⊢
  by_cases q3 : x1 = 3
  · rw [if_pos q3] at h ⊢
    refine eJ6_bitCount_0f7a4 hρ ?_
    show Q (bcE (nI (hC a))) S
    rw [bcE_eq (hC_lt a), bcN_eq (hC_lt a), popc_C]
    exact h
  rw [if_neg q3] at h ⊢
  by_cases q4 : x1 = 4
  · rw [if_pos q4] at h ⊢; exact h
  rw [if_neg q4] at h ⊢
  by_cases q5 : x1 = 5
  · rw [if_pos q5] at h ⊢; exact h
  rw [if_neg q5] at h ⊢
  by_cases q6 : x1 = 6
  · rw [if_pos q6] at h ⊢; exact h
  rw [if_neg q6] at h ⊢
  exact h
theorem sM_count {Q : Int32 → St → Prop} (hρ : Ok ρ) (hW : WF a) (hI : IM a S) {x1 : Int32} (h : Q (cntV a x1) S) : CALLi g (d + 2) mX12_count [.ref 80, .int x1] ρ ρ S Q := by
  refine eX12_count hρ ?_
  have i1 : S.1 81 0 = nI (nR a) := hI.2.2.2.2.1
  have i2 : S.1 81 1 = nI (nC a) := hI.2.2.2.2.2.1
  have i3 : S.1 81 3 = nI (nLn a) := hI.2.2.2.2.2.2.2.1
  have i5 : S.1 81 2 = nI (hM a) := hI.2.2.2.2.2.2.1
  have i6 : S.1 81 4 = nI (nA a) := hI.2.2.2.2.2.2.2.2.1
  have i7 : S.1 80 4 = nI (tL a) := hI.1
  rw [i1, i2, i3, i5, i6, i7]
  unfold cntV at h
  by_cases q0 : x1 = 0
  · rw [if_pos q0] at h ⊢; exact h
  rw [if_neg q0] at h ⊢
  by_cases q1 : x1 = 1
  · rw [if_pos q1] at h ⊢; exact h
  rw [if_neg q1] at h ⊢
  by_cases q2 : x1 = 2
  · rw [if_pos q2] at h ⊢
    exact sM_totalNow hρ hW hI h
  rw [if_neg q2] at h ⊢
  by_cases q3 : x1 = 3
  · rw [if_pos q3] at h ⊢
    refine sM_bitsOf hρ (hM_lt a hW) ?_
    rw [popc_M hW]
    exact h
  rw [if_neg q3] at h ⊢
  by_cases q4 : x1 = 4
  · rw [if_pos q4] at h ⊢; exact h
  rw [if_neg q4] at h ⊢
  by_cases q5 : x1 = 5
  · rw [if_pos q5] at h ⊢; exact h
  rw [if_neg q5] at h ⊢
  by_cases q6 : x1 = 6
  · rw [if_pos q6] at h ⊢; exact h
  rw [if_neg q6] at h ⊢
  exact h
end K1
