-- NO ARRAY IS TOO SMALL
theorem allF_iff {p : Nat → Bool} : ∀ n, allF p n = true ↔ ∀ k, k ≤ n → p k = true
  | 0 => by
    show p 0 = true ↔ _
    constructor
    · intro h k hk; rw [show k = 0 by omega]; exact h
    · intro h; exact h 0 (Nat.le_refl _)
  | n + 1 => by
    show (allF p n && p (n + 1)) = true ↔ _
    rw [Bool.and_eq_true, allF_iff n]
    constructor
    · rintro ⟨h1, h2⟩ k hk
      by_cases c : k = n + 1
      · rw [c]; exact h2
      · exact h1 k (by omega)
    · intro h
      exact ⟨fun k hk => h k (by omega), h (n + 1) (Nat.le_refl _)⟩
theorem mxF_ge {f : Nat → Nat} {i : Nat} : ∀ n, i ≤ n → f i ≤ mxF f n
  | 0, h => by rw [show i = 0 by omega]; exact Nat.le_refl _
  | n + 1, h => by
    show _ ≤ max (mxF f n) (f (n + 1))
    by_cases c : i = n + 1
    · rw [c]; omega
    · have := mxF_ge (f := f) n (show i ≤ n by omega)
      omega
theorem chkC_all : ∀ d, d ≤ 20 → chkC d = true := by
  intro d hd
  have h : d = 0 ∨ d = 1 ∨ d = 2 ∨ d = 3 ∨ d = 4 ∨ d = 5 ∨ d = 6 ∨ d = 7 ∨ d = 8 ∨ d = 9 ∨ d = 10 ∨ d = 11 ∨ d = 12 ∨ d = 13 ∨ d = 14 ∨ d = 15 ∨ d = 16 ∨ d = 17 ∨ d = 18 ∨ d = 19 ∨ d = 20 := by omega
  rcases h with h | h | h | h | h | h | h | h | h | h | h | h | h | h | h | h | h | h | h | h | h <;> rw [h]
  · exact chk_0
  · exact chk_1
  · exact chk_2
  · exact chk_3
  · exact chk_4
  · exact chk_5
  · exact chk_6
  · exact chk_7
  · exact chk_8
  · exact chk_9
  · exact chk_10
  · exact chk_11
  · exact chk_12
  · exact chk_13
  · exact chk_14
  · exact chk_15
  · exact chk_16
  · exact chk_17
  · exact chk_18
  · exact chk_19
  · exact chk_20
theorem chk_get {d0 d1 d2 d3 : Nat} (h1 : d1 ≤ d0) (h2 : d2 ≤ d1) (h3 : d3 ≤ d2) (hs : d0 + d1 + d2 + d3 = 20) : chk (pc d0 * (pc d1 * (pc d2 * (pc d3 * 1)))) = true := by
  have h := chkC_all d0 (by omega)
  unfold chkC at h
  have k1 := (allF_iff d0).mp h d1 h1
  have k2 := (allF_iff d1).mp k1 d2 h2
  have e1 : Nat.blt 20 (d0 + d1 + d2) = false := by
    cases c : Nat.blt 20 (d0 + d1 + d2) with
    | false => rfl
    | true =>
      have : 20 + 1 ≤ d0 + d1 + d2 := Nat.le_of_ble_eq_true c
      omega
  have e3 : 20 - d0 - d1 - d2 = d3 := by omega
  have e2 : Nat.blt d2 d3 = false := by
    cases c : Nat.blt d2 d3 with
    | false => rfl
    | true =>
      have : d2 + 1 ≤ d3 := Nat.le_of_ble_eq_true c
      omega
  rw [e1, e3, e2, Bool.false_or, Bool.false_or] at k2
  exact k2
/-- sorted, the product stays -/
def Srt (c0 c1 c2 c3 : Nat) : Prop := ∃ d0 d1 d2 d3, d1 ≤ d0 ∧ d2 ≤ d1 ∧ d3 ≤ d2 ∧ d0 + d1 + d2 + d3 = c0 + c1 + c2 + c3 ∧ ∀ f : Nat → Nat, f c0 * (f c1 * (f c2 * (f c3 * 1))) = f d0 * (f d1 * (f d2 * (f d3 * 1)))
theorem Srt.s01 {c0 c1 c2 c3 : Nat} (h : Srt c1 c0 c2 c3) : Srt c0 c1 c2 c3 := by
  obtain ⟨d0, d1, d2, d3, h1, h2, h3, h4, h5⟩ := h
  exact ⟨d0, d1, d2, d3, h1, h2, h3, by omega, fun f => by rw [← h5 f, Nat.mul_left_comm]⟩
theorem Srt.s12 {c0 c1 c2 c3 : Nat} (h : Srt c0 c2 c1 c3) : Srt c0 c1 c2 c3 := by
  obtain ⟨d0, d1, d2, d3, h1, h2, h3, h4, h5⟩ := h
  exact ⟨d0, d1, d2, d3, h1, h2, h3, by omega, fun f => by rw [← h5 f, Nat.mul_left_comm (f c1)]⟩
theorem Srt.s23 {c0 c1 c2 c3 : Nat} (h : Srt c0 c1 c3 c2) : Srt c0 c1 c2 c3 := by
  obtain ⟨d0, d1, d2, d3, h1, h2, h3, h4, h5⟩ := h
  exact ⟨d0, d1, d2, d3, h1, h2, h3, by omega, fun f => by rw [← h5 f, Nat.mul_left_comm (f c2)]⟩
theorem Srt.rf {c0 c1 c2 c3 : Nat} (h1 : c1 ≤ c0) (h2 : c2 ≤ c1) (h3 : c3 ≤ c2) : Srt c0 c1 c2 c3 := ⟨c0, c1, c2, c3, h1, h2, h3, rfl, fun _ => rfl⟩
theorem Srt.i3 {c0 c1 c2 c3 : Nat} (h1 : c1 ≤ c0) (h2 : c2 ≤ c1) : Srt c0 c1 c2 c3 := by
  by_cases a3 : c3 ≤ c2
  · exact Srt.rf h1 h2 a3
  · refine Srt.s23 ?_
    by_cases a2 : c3 ≤ c1
    · exact Srt.rf h1 a2 (by omega)
    · refine Srt.s12 ?_
      by_cases a1 : c3 ≤ c0
      · exact Srt.rf a1 (by omega) h2
      · exact Srt.s01 (Srt.rf (by omega) h1 h2)
theorem Srt.i2 {c0 c1 c2 c3 : Nat} (h1 : c1 ≤ c0) : Srt c0 c1 c2 c3 := by
  by_cases a2 : c2 ≤ c1
  · exact Srt.i3 h1 a2
  · refine Srt.s12 ?_
    by_cases a1 : c2 ≤ c0
    · exact Srt.i3 a1 (by omega)
    · exact Srt.s01 (Srt.i3 (by omega) h1)
theorem Srt.all (c0 c1 c2 c3 : Nat) : Srt c0 c1 c2 c3 := by
  by_cases a1 : c1 ≤ c0
  · exact Srt.i2 a1
  · exact Srt.s01 (Srt.i2 (by omega))
theorem kyS_mem {c s : Nat} : s ∈ kyS c ↔ ∃ f v, f + v ≤ c ∧ s = f + 21 * v := by
  unfold kyS
  rw [List.mem_flatMap]
  constructor
  · rintro ⟨f, hf, hs⟩
    obtain ⟨v, hv, rfl⟩ := List.mem_map.mp hs
    have h1 := List.mem_range.mp hf
    have h2 := List.mem_range.mp hv
    exact ⟨f, v, by omega, rfl⟩
  · rintro ⟨f, v, h, rfl⟩
    exact ⟨f, List.mem_range.mpr (by omega), List.mem_map.mpr ⟨v, List.mem_range.mpr (by omega), rfl⟩⟩
theorem kyS_len : ∀ c, c < 21 → (kyS c).length ≤ 231 := by decide +kernel
def S4 (c0 c1 c2 c3 : Nat) : List (List Nat) := [kyS c0, kyS c1, kyS c2, kyS c3]
theorem modZ (x Z i n : Nat) (hZ : 0 < Z) (hi : i < n) : x % Z ^ n / Z ^ i % Z = x / Z ^ i % Z := by
  have h := Nat.div_add_mod x (Z ^ n)
  have e : Z ^ n = Z ^ i * (Z * Z ^ (n - i - 1)) := by
    rw [← Nat.pow_succ', ← Nat.pow_add]
    congr 1
    omega
  have hp := Nat.pow_pos (n := i) hZ
  have e2 : x / Z ^ i = Z * Z ^ (n - i - 1) * (x / Z ^ n) + x % Z ^ n / Z ^ i := by
    rw [← Nat.mul_add_div hp]
    congr 1
    rw [← Nat.mul_assoc, ← e]
    exact h.symm
  rw [e2, Nat.mul_assoc, Nat.mul_add_mod]
theorem cn_dgt {c0 c1 c2 c3 : Nat} (hs : c0 + c1 + c2 + c3 = 20) {i j : Nat} (hi : i ≤ 20) (hj : j ≤ 20) : cn (S4 c0 c1 c2 c3) (i + 21 * j) = dgt (gfz 4294967296 (S4 c0 c1 c2 c3)) i j := by
  have hm : ∀ S, S ∈ S4 c0 c1 c2 c3 → ∃ c, c ≤ 20 ∧ S = kyS c := by
    intro S hS
    unfold S4 at hS
    simp at hS
    rcases hS with h | h | h | h
    · exact ⟨c0, by omega, h⟩
    · exact ⟨c1, by omega, h⟩
    · exact ⟨c2, by omega, h⟩
    · exact ⟨c3, by omega, h⟩
  have h1 := gf_ev 4294967296 (S4 c0 c1 c2 c3) 440 (fun S hS s hs => by
    obtain ⟨c, hc, rfl⟩ := hm S hS
    obtain ⟨f, v, h, rfl⟩ := kyS_mem.mp hs
    omega) 1761 (by show 4 * 440 + 1 ≤ 1761; omega)
  have h2 : ∀ k, cn (S4 c0 c1 c2 c3) k < 4294967296 := fun k => by
    have := cn_le (S4 c0 c1 c2 c3) 231 (fun S hS => by
      obtain ⟨c, hc, rfl⟩ := hm S hS
      exact kyS_len c (by omega)) k
    exact Nat.lt_of_le_of_lt this (by show 231 ^ 4 < 4294967296; decide)
  have h3 := ev_dig (Z := 4294967296) (by decide) h2 (k := i + 21 * j) 1761 (by omega)
  rw [← h1] at h3
  unfold dgt
  rw [modZ _ 4294967296 i 21 (by decide) (by omega), Nat.div_div_eq_div_mul, ← Nat.pow_mul, ← Nat.pow_add, Nat.add_comm (21 * j) i, h3]
theorem cap {c0 c1 c2 c3 : Nat} (hs : c0 + c1 + c2 + c3 = 20) : (∀ m, m ≤ 20 → cn (S4 c0 c1 c2 c3) (m + 21 * 0) ≤ 159) ∧ ∀ r0 r1 r2 r3, r0 + r1 + r2 + r3 = 20 → cn (S4 c0 c1 c2 c3) (r0 + 21 * 0) + cn (S4 c0 c1 c2 c3) (r1 + 21 * 0) + cn (S4 c0 c1 c2 c3) (r2 + 21 * 0) + cn (S4 c0 c1 c2 c3) (r3 + 21 * 0) ≤ 320 ∧ cn (S4 c0 c1 c2 c3) (r0 + 21 * (r1 + r2 + r3)) + cn (S4 c0 c1 c2 c3) (r1 + 21 * (r2 + r3)) + cn (S4 c0 c1 c2 c3) (r2 + 21 * r3) + cn (S4 c0 c1 c2 c3) (r3 + 21 * 0) ≤ 4800 := by
  obtain ⟨d0, d1, d2, d3, e1, e2, e3, e4, e5⟩ := Srt.all c0 c1 c2 c3
  have hg : gfz 4294967296 (S4 c0 c1 c2 c3) = pc d0 * (pc d1 * (pc d2 * (pc d3 * 1))) := e5 pc
  have hc := chk_get e1 e2 e3 (by omega)
  rw [← hg] at hc
  have cd := fun {i j : Nat} (hi : i ≤ 20) (hj : j ≤ 20) => cn_dgt hs hi hj
  generalize gfz 4294967296 (S4 c0 c1 c2 c3) = G at hc cd
  unfold chk at hc
  rw [Bool.and_eq_true, Bool.and_eq_true] at hc
  obtain ⟨k1, k2, k3⟩ := hc
  refine ⟨fun m hm => ?_, fun r0 r1 r2 r3 hr => ⟨?_, ?_⟩⟩
  · rw [cd hm (by omega)]
    exact Nat.le_of_ble_eq_true ((allF_iff 20).mp k1 m hm)
  · rw [cd (show r0 ≤ 20 by omega) (show 0 ≤ 20 by omega), cd (show r1 ≤ 20 by omega) (show 0 ≤ 20 by omega), cd (show r2 ≤ 20 by omega) (show 0 ≤ 20 by omega), cd (show r3 ≤ 20 by omega) (show 0 ≤ 20 by omega)]
    have z := Nat.le_of_ble_eq_true ((allF_iff 20).mp k2 (r0 + r1) (by omega))
    have m1 := mxF_ge (f := fun i => dgt G i 0 + dgt G (r0 + r1 - i) 0) (i := r0) (r0 + r1) (by omega)
    have m2 := mxF_ge (f := fun i => dgt G i 0 + dgt G (20 - (r0 + r1) - i) 0) (i := r2) (20 - (r0 + r1)) (by omega)
    rw [show r0 + r1 - r0 = r1 by omega] at m1
    rw [show 20 - (r0 + r1) - r2 = r3 by omega] at m2
    omega
  · rw [cd (show r0 ≤ 20 by omega) (show r1 + r2 + r3 ≤ 20 by omega), cd (show r1 ≤ 20 by omega) (show r2 + r3 ≤ 20 by omega), cd (show r2 ≤ 20 by omega) (show r3 ≤ 20 by omega), cd (show r3 ≤ 20 by omega) (show 0 ≤ 20 by omega)]
    have z := Nat.le_of_ble_eq_true ((allF_iff 20).mp k3 (r2 + r3) (by omega))
    have m1 := mxF_ge (f := fun r => dgt G (20 - r - (r2 + r3)) (r + (r2 + r3)) + dgt G r (r2 + r3)) (i := r1) (20 - (r2 + r3)) (by omega)
    have m2 := mxF_ge (f := fun j => dgt G (r2 + r3 - j) j + dgt G j 0) (i := r3) (r2 + r3) (by omega)
    rw [show 20 - r1 - (r2 + r3) = r0 by omega, show r1 + (r2 + r3) = r1 + r2 + r3 by omega] at m1
    rw [show r2 + r3 - r3 = r2 by omega] at m2
    omega
