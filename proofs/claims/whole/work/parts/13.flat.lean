-- indexes inside, and arrays of four rows
theorem vlt {i : Int32} {n : Nat} (h : vp_in i n) : i.toNatClampNeg < n := Nat.not_le.mp fun q => h (Or.inr q)
theorem vnn {i : Int32} {n : Nat} (h : vp_in i n) : ¬ i < 0 := fun q => h (Or.inl q)
theorem flr {i : Int32} {n : Nat} (h : vp_in i (4 * n)) : i.toNatClampNeg / n < 4 := Nat.div_lt_of_lt_mul (by rw [Nat.mul_comm]; exact vlt h)
theorem vnI {i : Int32} {n : Nat} (h : vp_in i n) : ∃ j, j < n ∧ j < 2 ^ 31 ∧ i = nI j := by
  obtain ⟨j, hj, rfl⟩ := nI_of (vnn h)
  have z := vlt h
  rw [nI_clamp hj] at z
  exact ⟨j, z, hj, rfl⟩
theorem vge {i : Int32} {n : Nat} (h : vp_in i n) (hn : n < 2147483648) : ¬ Int32.ofNat n ≤ i := by
  obtain ⟨j, h1, h2, rfl⟩ := vnI h
  exact nI_ge h1 hn
theorem vmono {i : Int32} {n m : Nat} (h : vp_in i n) (hm : n ≤ m) : vp_in i m := fun q => q.elim (fun q => h (Or.inl q)) (fun q => h (Or.inr (Nat.le_trans hm q)))
theorem slot_in {w f c : Int32} {n : Nat} (hc : c = nI n) (hn : n ≤ 480) (hw : vp_in w 4) (hf : vp_in f n) : vp_in (w * c + f) (4 * n) ∧ (w * c + f).toNatClampNeg / n = w.toNatClampNeg ∧ (w * c + f).toNatClampNeg % n = f.toNatClampNeg := by
  obtain ⟨a, ha, ha2, rfl⟩ := vnI hw
  obtain ⟨b, hb, hb2, rfl⟩ := vnI hf
  have e : nI a * c + nI b = nI (a * n + b) := by
    rw [hc, show nI a * nI n = nI (a * n) from (Int32.ofNat_mul a n).symm, nI_add]
  have h1 : a * n ≤ 3 * n := Nat.mul_le_mul_right n (by omega)
  have h2 : a * n + b < 4 * n := by omega
  rw [e, nI_clamp (by omega), nI_clamp ha2, nI_clamp hb2]
  refine ⟨vp_in_nI h2 (by omega), ?_, ?_⟩
  · rw [Nat.mul_comm, Nat.mul_add_div (by omega), Nat.div_eq_of_lt hb, Nat.add_zero]
  · rw [Nat.mul_comm, Nat.mul_add_mod, Nat.mod_eq_of_lt hb]
theorem bzO {c : Prop} [Decidable c] {A B : Prop} (h : if c then B else A) : if (if c then (1 : Int32) else 0) = 0 then A else B := by
  by_cases q : c
  · rw [if_pos q] at h ⊢; rw [if_neg (by decide)]; exact h
  · rw [if_neg q] at h ⊢; rw [if_pos rfl]; exact h
theorem bzN {c : Prop} [Decidable c] {A B : Prop} (h : if c then A else B) : if (if c then (0 : Int32) else 1) = 0 then A else B := by
  by_cases q : c
  · rw [if_pos q] at h ⊢; rw [if_pos rfl]; exact h
  · rw [if_neg q] at h ⊢; rw [if_neg (by decide)]; exact h
section Flat
variable {g : GX} {ρ' : Rs} {Q : Option Value → St → Prop} {d : Nat} {M : MD} {pc : Nat} {ls : List (Nat × Value)} {st : List Value} {ρ : Rs} {S : St}
theorem AW_flslot {k : Nat} {w f : Int32} (hd0 : decode M.2.1 pc = .ok (.laload, 1)) (h1 : 16 ≤ k) (h2 : k < rn ρ) (hs : shp ρ k = .inr (3, 480)) (hw : vp_in w 4) (hf : vp_in f 480) {v : Int64} (hv : S.2 (k + 1 + w.toNatClampNeg) f.toNatClampNeg = v) (kk : AW g ρ' Q d M (pc + 1) ls (.long v :: st) ρ S) : AW g ρ' Q d M pc ls (.int (w * 480 + f) :: .ref k :: st) ρ S := by
  obtain ⟨a, b, c⟩ := slot_in (c := 480) rfl (Nat.le_refl 480) hw hf
  exact AW_flald hd0 h1 h2 hs a b c hv kk
end Flat
