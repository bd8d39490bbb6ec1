-- DRAWS
theorem lNdiv {a b : Nat} (ha : a < 2 ^ 63) (hb : b < 2 ^ 63) : lN a / lN b = lN (a / b) := by
  have hq : a / b ≤ a := Nat.div_le_self a b
  apply Int64.toInt_inj.mp
  rw [Int64.toInt_div, pf_lI ha, pf_lI hb, pf_lI (by omega)]
  show Int.bmod ((a / b : Nat) : Int) (2 ^ 64) = ((a / b : Nat) : Int)
  generalize a / b = q at hq
  exact Int.bmod_eq_of_le (by omega) (by omega)
theorem lNrem {a b : Nat} (ha : a < 2 ^ 63) (hb : b < 2 ^ 63) : lN a - lN a / lN b * lN b = lN (a % b) := by
  have h := Nat.div_add_mod a b
  rw [Nat.mul_comm] at h
  rw [lNdiv ha hb, lN_mul, lN_sub (by omega)]
  congr 1
  omega
def nxt (n : Nat) : Nat := (1103515245 * n + 12345) % 2147483648
def drw (n m : Nat) : Nat := nxt n / 65536 % m
def dro (n m x : Nat) : Nat := if x ≤ drw n (m - 1) then drw n (m - 1) + 1 else drw n (m - 1)
theorem nxt_lt (n : Nat) : nxt n < 2147483648 := Nat.mod_lt _ (by decide)
theorem drw_lt {n m : Nat} (h : 0 < m) : drw n m < m := Nat.mod_lt _ h
theorem dro_lt {n m x : Nat} (h : 2 ≤ m) : dro n m x < m ∧ dro n m x ≠ x := by
  have := drw_lt (n := n) (m := m - 1) (by omega)
  unfold dro
  split <;> omega
section DR
variable {g : GX} {d : Nat} {ρ : Rs} {S : St}
theorem draw_v {n m : Nat} (hm : 0 < m) (hm2 : m < 2 ^ 31) : ((lN (nxt n) / 65536) - (lN (nxt n) / 65536) / (nI m).toInt64 * (nI m).toInt64).toInt32 = nI (drw n m) := by
  have h1 := nxt_lt n
  have e : lN (nxt n) / (65536 : Int64) = lN (nxt n / 65536) := lNdiv (b := 65536) (by omega) (by decide)
  rw [e, nI_l hm2, lNrem (by omega) (by omega), lN_i]
  rfl
theorem m_ne {m : Nat} (hm : 0 < m) (hm2 : m < 2 ^ 31) : ¬ (nI m).toInt64 = (0 : Int64) := by
  rw [nI_l hm2]
  intro z
  have := (lN_eq (b := 0) hm2 (by decide)).mp z
  omega
theorem sC_draw {Q : Int32 → St → Prop} (hρ : Ok ρ) (hF : ∀ k ∈ ([25] : List Nat), gF g k) {n m : Nat} (hm : 0 < m) (hm2 : m < 2 ^ 31) (e : S.2 25 0 = lN n) (h : Q (nI (drw n m)) (setL S 25 0 (lN (nxt n)))) : CALLi g (d + 3) mX0_draw [.ref 25, .int (nI m)] ρ ρ S Q := by
  refine eX0_draw hρ hF ?_
  have ex : (((1103515245 : Int64) * lN n) + 12345) &&& 2147483647 = lN (nxt n) := by
    show (lN 1103515245 * lN n + lN 12345) &&& lN (2 ^ 31 - 1) = _
    rw [lN_mul, lN_add, fb_maskL]
    rfl
  rw [e, ex, if_pos (show (0 : Int32) < nI m from nI_lt (a := 0) hm hm2), draw_v hm hm2]
  exact ⟨m_ne hm hm2, h⟩
theorem sC_drawOther {Q : Int32 → St → Prop} (hρ : Ok ρ) (hF : ∀ k ∈ ([25] : List Nat), gF g k) {n m x : Nat} (hm : 2 ≤ m) (hm2 : m < 100) (hx : x < 100) (e : S.2 25 0 = lN n) (h : Q (nI (dro n m x)) (setL S 25 0 (lN (nxt n)))) : CALLi g (d + 4) mX0_drawOther [.ref 25, .int (nI m), .int (nI x)] ρ ρ S Q := by
  refine eX0_drawOther hρ ?_
  have hl := drw_lt (n := n) (m := m - 1) (by omega)
  rw [show nI m - 1 = nI (m - 1) from pk_sub (b := 1) (by omega)]
  refine sC_draw hρ hF (by omega) (by omega) e ?_
  have il : nI x ≤ nI (drw n (m - 1)) ↔ x ≤ drw n (m - 1) := nI_leI (by omega) (by omega)
  unfold dro at h
  by_cases c : x ≤ drw n (m - 1)
  · rw [if_pos (il.mpr c), nI_1]
    rw [if_pos c] at h
    exact h
  · rw [if_neg (fun z => c (il.mp z))]
    rw [if_neg c] at h
    exact h
theorem sM_draw {Q : Int32 → St → Prop} (hρ : Ok ρ) (hF : ∀ k ∈ ([80] : List Nat), gF g k) {n m : Nat} (hn : n < 2147483648) (hm : 0 < m) (hm2 : m < 2 ^ 31) (e : S.2 80 39 = lN n) (h : Q (nI (drw n m)) (setL S 80 39 (lN (nxt n)))) : CALLi g d mX12_draw [.ref 80, .int (nI m)] ρ ρ S Q := by
  refine eX12_draw hρ hF ?_
  have ex : (((1103515245 : Int64) * lN n) + 12345) - (((1103515245 : Int64) * lN n) + 12345) / 2147483648 * 2147483648 = lN (nxt n) := by
    show (lN 1103515245 * lN n + lN 12345) - (lN 1103515245 * lN n + lN 12345) / lN 2147483648 * lN 2147483648 = _
    rw [lN_mul, lN_add, lNrem (by omega) (by decide)]
    rfl
  rw [e, ex, draw_v hm hm2]
  exact ⟨m_ne hm hm2, h⟩
theorem sM_drawOther {Q : Int32 → St → Prop} (hρ : Ok ρ) (hF : ∀ k ∈ ([80] : List Nat), gF g k) {n m x : Nat} (hn : n < 2147483648) (hm : 2 ≤ m) (hm2 : m < 100) (hx : x < 100) (e : S.2 80 39 = lN n) (h : Q (nI (dro n m x)) (setL S 80 39 (lN (nxt n)))) : CALLi g (d + 1) mX12_drawOther [.ref 80, .int (nI m), .int (nI x)] ρ ρ S Q := by
  refine eX12_drawOther hρ ?_
  have hl := drw_lt (n := n) (m := m - 1) (by omega)
  rw [show nI m - 1 = nI (m - 1) from pk_sub (b := 1) (by omega)]
  refine sM_draw hρ hF hn (by omega) (by omega) e ?_
  have il : nI x ≤ nI (drw n (m - 1)) ↔ x ≤ drw n (m - 1) := nI_leI (by omega) (by omega)
  unfold dro at h
  by_cases c : x ≤ drw n (m - 1)
  · rw [if_pos (il.mpr c), nI_1]
    rw [if_pos c] at h
    exact h
  · rw [if_neg (fun z => c (il.mp z))]
    rw [if_neg c] at h
    exact h
end DR
