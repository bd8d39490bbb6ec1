-- THE LAW'S LOOP
section LP
variable {g : GX} {d : Nat}
theorem and63 (x : Int32) : ∃ m, m < 64 ∧ x &&& 63 = nI m := by
  refine ⟨(x &&& 63).toBitVec.toNat, ?_, ?_⟩
  · have e : (x &&& 63).toBitVec = x.toBitVec &&& 63#32 := rfl
    rw [e, BitVec.toNat_and, show (63#32 : BitVec 32).toNat = 2 ^ 6 - 1 from rfl, Nat.and_two_pow_sub_one_eq_mod]
    exact Nat.mod_lt _ (by decide)
  · exact (Int32.ofNat_bitVecToNat (x &&& 63).toBitVec).symm
theorem law_turn {i : Nat} {b : AS} {p : Bool} {ρ : Rs} (hA : ∀ k, 16 ≤ k → gF g k) (hL : gN g ≤ 3072) (hi : i + 5 < gN g) (hW : WF b) (hN : NR ρ) : LWs g d i b p ρ := by
  obtain ⟨m, hm, ho⟩ := and63 (gX g i)
  by_cases c : 42 ≤ m
  · refine law_nx hA hL hi hW hN (fun k hk z => ?_)
    have := (nI_eq (by omega) (by omega)).mp (ho.symm.trans z)
    omega
  rcases (show m = 0 ∨ m = 1 ∨ m = 2 ∨ m = 3 ∨ m = 4 ∨ m = 5 ∨ m = 6 ∨ m = 7 ∨ m = 8 ∨ m = 9 ∨ m = 10 ∨ m = 11 ∨ m = 12 ∨ m = 13 ∨ m = 14 ∨ m = 15 ∨ m = 16 ∨ m = 17 ∨ m = 18 ∨ m = 19 ∨ m = 20 ∨ m = 21 ∨ m = 22 ∨ m = 23 ∨ m = 24 ∨ m = 25 ∨ m = 26 ∨ m = 27 ∨ m = 28 ∨ m = 29 ∨ m = 30 ∨ m = 31 ∨ m = 32 ∨ m = 33 ∨ m = 34 ∨ m = 35 ∨ m = 36 ∨ m = 37 ∨ m = 38 ∨ m = 39 ∨ m = 40 ∨ m = 41 by omega) with rfl | rfl | rfl | rfl | rfl | rfl | rfl | rfl | rfl | rfl | rfl | rfl | rfl | rfl | rfl | rfl | rfl | rfl | rfl | rfl | rfl | rfl | rfl | rfl | rfl | rfl | rfl | rfl | rfl | rfl | rfl | rfl | rfl | rfl | rfl | rfl | rfl | rfl | rfl | rfl | rfl | rfl
  · exact law_n0 hA hL hi hW hN ho
  · exact law_n1 hA hL hi hW hN ho
  · exact law_n2 hA hL hi hW hN ho
  · exact law_n3 hA hL hi hW hN ho
  · exact law_n4 hA hL hi hW hN ho
  · exact law_n5 hA hL hi hW hN ho
  · exact law_n6 hA hL hi hW hN ho
  · exact law_n7 hA hL hi hW hN ho
  · exact law_n8 hA hL hi hW hN ho
  · exact law_n9 hA hL hi hW hN ho
  · exact law_n10 hA hL hi hW hN ho
  · exact law_n11 hA hL hi hW hN ho
  · exact law_n12 hA hL hi hW hN ho
  · exact law_n13 hA hL hi hW hN ho
  · exact law_n14 hA hL hi hW hN ho
  · exact law_n15 hA hL hi hW hN ho
  · exact law_n16 hA hL hi hW hN ho
  · exact law_n17 hA hL hi hW hN ho
  · exact law_n18 hA hL hi hW hN ho
  · exact law_n19 hA hL hi hW hN ho
  · exact law_n20 hA hL hi hW hN ho
  · exact law_n21 hA hL hi hW hN ho
  · exact law_n22 hA hL hi hW hN ho
  · exact law_n23 hA hL hi hW hN ho
  · exact law_n24 hA hL hi hW hN ho
  · exact law_n25 hA hL hi hW hN ho
  · exact law_n26 hA hL hi hW hN ho
  · exact law_n27 hA hL hi hW hN ho
  · exact law_n28 hA hL hi hW hN ho
  · exact law_n29 hA hL hi hW hN ho
  · exact law_n30 hA hL hi hW hN ho
  · exact law_n31 hA hL hi hW hN ho
  · exact law_n32 hA hL hi hW hN ho
  · exact law_n33 hA hL hi hW hN ho
  · exact law_n34 hA hL hi hW hN ho
  · exact law_n35 hA hL hi hW hN ho
  · exact law_n36 hA hL hi hW hN ho
  · exact law_n37 hA hL hi hW hN ho
  · exact law_n38 hA hL hi hW hN ho
  · exact law_n39 hA hL hi hW hN ho
  · exact law_n40 hA hL hi hW hN ho
  · exact law_n41 hA hL hi hW hN ho
theorem law_loop (hA : ∀ k, 16 ≤ k → gF g k) (hL : gN g ≤ 3072) {B : Nat} : ∀ k i b p ρ, gN g ≤ i + 6 * k + 5 → i ≤ 6144 → WF b → NR ρ → ru ρ + psi (nlen ρ) + 5 * k ≤ B → rc ρ ≤ ru ρ → ∃ ρ', (rc ρ ≤ rc ρ' ∧ ru ρ ≤ ru ρ') ∧ ru ρ' ≤ B ∧ rc ρ' ≤ ru ρ' ∧ ∀ S, ST b p ρ S → AW g ρ' (QI (fun v _ => v = 1)) (d + 29 + 1) mL_law 18 [(0, .ref 11), (1, .ref 16), (2, .ref 80), (3, .int (nI i))] [] ρ S := by
  have fin : ∀ i (b : AS) (p : Bool) (ρ : Rs), gN g ≤ i + 5 → i ≤ 6144 → NR ρ → ∀ S, AW g ρ (QI (fun v _ => v = 1)) (d + 29 + 1) mL_law 18 [(0, .ref 11), (1, .ref 16), (2, .ref 80), (3, .int (nI i))] [] ρ S := by
    intro i b p ρ h1 h2 hN S
    refine eL_law_18 hN.1 (ρ2 := ρ) (ρ55 := ρ) (ρ57 := ρ) (ρ59 := ρ) (ρ61 := ρ) (ρ63 := ρ) (ρ65 := ρ) (ρ67 := ρ) (ρ69 := ρ) (ρ71 := ρ) hN.1 (Nat.le_refl _) (Nat.le_refl _) hN.1 (Nat.le_refl _) (Nat.le_refl _) hN.1 (Nat.le_refl _) (Nat.le_refl _) hN.1 (Nat.le_refl _) (Nat.le_refl _) hN.1 (Nat.le_refl _) (Nat.le_refl _) hN.1 (Nat.le_refl _) (Nat.le_refl _) hN.1 (Nat.le_refl _) (Nat.le_refl _) hN.1 (Nat.le_refl _) (Nat.le_refl _) hN.1 (Nat.le_refl _) (Nat.le_refl _) hN.1 (Nat.le_refl _) (Nat.le_refl _) (Nat.le_refl _) (Nat.le_refl _) ?_
    rw [if_pos ((law_lt (by omega) (by omega)).mpr (by omega))]
    exact ⟨rfl, rfl⟩
  intro k
  induction k with
  | zero =>
    intro i b p ρ h1 h2 hW hN hB hc
    exact ⟨ρ, ⟨Nat.le_refl _, Nat.le_refl _⟩, by omega, hc, fun S _ => fin i b p ρ (by omega) h2 hN S⟩
  | succ k ih =>
    intro i b p ρ h1 h2 hW hN hB hc
    by_cases c : i + 5 < gN g
    · obtain ⟨b', p', ρ1, nr1, bu, go⟩ := law_turn (d := d) (p := p) hA hL c hW hN
      by_cases hW' : WF b'
      · obtain ⟨ρ', r1, r2, r3, r4⟩ := ih (i + 6) b' p' ρ1 (by omega) (by omega) hW' nr1 (by have := bu.2.1; omega) (bu.2.2 hc)
        have b1 := bu.1
        refine ⟨ρ', ⟨by omega, by omega⟩, r2, r3, fun S hs => go ρ' _ r1.1 r1.2 (by omega) (by omega) S hs (fun S2 h2 => ?_)⟩
        rw [show nI i + 6 = nI (i + 6) from nI_add i 6]
        exact r4 S2 h2
      · have b1 := bu.1
        refine ⟨ρ1, b1, by have := bu.2.1; omega, bu.2.2 hc, fun S hs => go ρ1 _ (Nat.le_refl _) (Nat.le_refl _) b1.1 b1.2 S hs (fun S2 h2 => absurd h2.1 hW')⟩
    · exact ⟨ρ, ⟨Nat.le_refl _, Nat.le_refl _⟩, by omega, hc, fun S _ => fin i b p ρ (by omega) h2 hN S⟩
end LP
