-- ONE TURN OF THE LAW, and its room
def psi (m : Nat) : Nat := if m ≤ 36000 then 216000 - 2 * m else if m < 72000 then 72000 else 0
theorem psi_gl {m : Nat} (h1 : 256 ≤ m) (h2 : m < 72000) : gl m + psi (gl m) ≤ psi m := by
  unfold gl psi
  by_cases c1 : 2 * m < 72000
  · rw [if_pos c1, if_pos (show m ≤ 36000 by omega)]
    by_cases c2 : 2 * m ≤ 36000
    · rw [if_pos c2]; omega
    · rw [if_neg c2, if_pos c1]; omega
  · rw [if_neg c1, if_neg (show ¬ 72000 ≤ 36000 by omega), if_neg (show ¬ 72000 < 72000 by omega)]
    by_cases c2 : m ≤ 36000
    · rw [if_pos c2]; omega
    · rw [if_neg c2, if_pos h2]; exact Nat.le_refl _
/-- what one turn may take: at most five slots more than the row of the near may take -/
def BU (ρ ρ1 : Rs) : Prop := (rc ρ ≤ rc ρ1 ∧ ru ρ ≤ ru ρ1) ∧ ru ρ1 + psi (nlen ρ1) ≤ ru ρ + psi (nlen ρ) + 5 ∧ (rc ρ ≤ ru ρ → rc ρ1 ≤ ru ρ1)
theorem bud_0 (ρ : Rs) : BU ρ ρ := ⟨⟨Nat.le_refl _, Nat.le_refl _⟩, Nat.le_add_right _ _, fun h => h⟩
theorem ens_bud {ρ : Rs} (h : NR ρ) {m : Nat} (hm : m ≤ nlen ρ) (hm2 : m < 72000) : ru (ens m ρ) + psi (nlen (ens m ρ)) ≤ ru ρ + psi (nlen ρ) ∧ (rc ρ ≤ ru ρ → rc (ens m ρ) ≤ ru (ens m ρ)) := by
  unfold ens
  by_cases c : m < nlen ρ
  · rw [if_pos c]; exact ⟨Nat.le_refl _, fun h => h⟩
  · rw [if_neg c]
    have e := grw_nlen h.1.1
    have hp := psi_gl h.2.2.1 (by omega)
    have hb := (gl_b h.2.2.1 h.2.2.2.1).1
    have e1 : ru (grw ρ) = ru ρ + gl (nlen ρ) := rfl
    have e2 : rc (grw ρ) = rc ρ + 1 := rfl
    rw [e, e1, e2]
    exact ⟨by omega, fun _ => by omega⟩
theorem psh_bud : ∀ t m {ρ : Rs}, NR ρ → m ≤ nlen ρ → m + t ≤ 72000 → ru (psh m t ρ) + psi (nlen (psh m t ρ)) ≤ ru ρ + psi (nlen ρ) ∧ (rc ρ ≤ ru ρ → rc (psh m t ρ) ≤ ru (psh m t ρ))
  | 0, _, _, _, _, _ => ⟨Nat.le_refl _, fun h => h⟩
  | t + 1, m, ρ, h, h1, h2 => by
    have e := ens_bud h h1 (by omega)
    have i := psh_bud t (m + 1) (h.ens m) (by have := (ens_lt h h1 (by omega)).1; omega) (by omega)
    show ru (psh (m + 1) t (ens m ρ)) + psi (nlen (psh (m + 1) t (ens m ρ))) ≤ _ ∧ (_ → rc (psh (m + 1) t (ens m ρ)) ≤ ru (psh (m + 1) t (ens m ρ)))
    exact ⟨by omega, fun q => i.2 (e.2 q)⟩
section BG
variable {ρ : Rs} {b : AS} {p : Bool}
theorem bud_p (hW : WF b) (hN : NR ρ) : BU ρ (prQ b p ρ) := by
  refine ⟨prQ_rc b p ρ, ?_⟩
  unfold prQ
  by_cases c1 : nR b = 0
  · rw [if_pos c1]; exact ⟨Nat.le_add_right _ _, fun h => h⟩
  rw [if_neg c1]
  rcases Nat.lt_or_ge 1000 (KK b).length with c2 | c2
  · rw [if_pos c2]; exact ⟨Nat.le_add_right _ _, fun h => h⟩
  rw [if_neg (Nat.not_lt.mpr c2)]
  by_cases c3 : p = true
  · rw [if_pos c3]; exact ⟨Nat.le_add_right _ _, fun h => h⟩
  rw [if_neg c3]
  have hf := FNo_le hW (KK b).length
  have := psh_bud (FNo b (KK b).length) 0 hN (Nat.zero_le _) (by omega)
  exact ⟨by omega, this.2⟩
theorem bud_w {x : Int32} (hW : WF b) (hN : NR ρ) : BU ρ (witQ b p x ρ) := by
  unfold witQ
  split
  · exact bud_p hW hN
  · exact bud_0 ρ
theorem bud_y {x y : Int32} (hW : WF b) (hN : NR ρ) : BU ρ (wayQ b p x y ρ) := by
  unfold wayQ
  split
  · split
    · have h := bud_p (p := p) hW hN
      have e := swk_rc x.toNatClampNeg (prQ b p ρ)
      have l := swk_len x.toNatClampNeg (prQ b p ρ)
      unfold BU at h ⊢
      rw [e.1, e.2, l]
      exact h
    · exact bud_p hW hN
  · exact bud_0 ρ
theorem nw_len {n s : Nat} (hN : NR ρ) : nlen (newR ρ n s) = nlen ρ := by
  obtain ⟨h1, ⟨kn, r1, r2, r3, r4⟩, -⟩ := hN
  have hN : 95 ≤ rn ρ := h1.1
  have e70 : rR (newR ρ n s) 70 = rR ρ 70 := if_neg (by omega)
  exact nlen_of (by rw [e70]; exact r1) (by rw [newR_shp r3]; exact r4)
theorem NR.nw (h : NR ρ) (n s : Nat) : NR (newR ρ n s) := by
  have el := nw_len (n := n) (s := s) h
  obtain ⟨h1, ⟨kn, r1, r2, r3, r4⟩, h3, h4, ka, kb, h5, h6, h7⟩ := h
  have hN : 95 ≤ rn ρ := h1.1
  have e70 : rR (newR ρ n s) 70 = rR ρ 70 := if_neg (by omega)
  exact ⟨h1.newR n s, ⟨kn, by rw [e70]; exact r1, r2, Nat.lt_succ_of_lt r3, by rw [newR_shp r3, el]; exact r4⟩, by rw [el]; exact h3, by rw [el]; exact h4, ka, kb, by rw [e70]; exact h5, by rw [e70]; exact h6, h7⟩
theorem nr_f (hN : NR ρ) : NR (fdQ b ρ) := by
  unfold fdQ
  split
  · exact hN.nw 5 5
  · exact hN
theorem bud_f (hN : NR ρ) : BU ρ (fdQ b ρ) := by
  unfold fdQ
  split
  · refine ⟨⟨Nat.le_succ _, Nat.le_add_right _ _⟩, ?_, fun h => ?_⟩
    · rw [nw_len hN]
      show ru ρ + 5 + _ ≤ _
      omega
    · show rc ρ + 1 ≤ ru ρ + 5
      omega
  · exact bud_0 ρ
end BG
/-- one turn of the law's loop at place i -/
def LWs (g : GX) (d i : Nat) (b : AS) (p : Bool) (ρ : Rs) : Prop := ∃ b' p' ρ1, NR ρ1 ∧ BU ρ ρ1 ∧ ∀ (ρ' : Rs) (Q : Int32 → St → Prop), rc ρ1 ≤ rc ρ' → ru ρ1 ≤ ru ρ' → rc ρ ≤ rc ρ' → ru ρ ≤ ru ρ' → ∀ S, ST b p ρ S → (∀ S2, ST b' p' ρ1 S2 → AW g ρ' (QI Q) (d + 29 + 1) mL_law 18 [(0, .ref 11), (1, .ref 16), (2, .ref 80), (3, .int (nI i + 6))] [] ρ1 S2) → AW g ρ' (QI Q) (d + 29 + 1) mL_law 18 [(0, .ref 11), (1, .ref 16), (2, .ref 80), (3, .int (nI i))] [] ρ S
theorem law_lt {L i : Nat} (hL : L < 2 ^ 30) (hi : i < 2 ^ 30) : ((Int32.ofNat L) - 6) < nI i ↔ L < i + 6 := by
  rw [Int32.lt_iff_toInt_lt, show (Int32.ofNat L - 6).toInt = (L : Int) - 6 from pk_sub_toInt (b := 6) hL (by omega), nI_toInt (by omega)]
  omega
theorem law_in {g : GX} {i : Nat} (hi : i + 5 < gN g) (hL : gN g ≤ 3072) : ¬ ((Int32.ofNat (gN g)) - 6) < nI i := fun z => by
  have := (law_lt (by omega) (by omega)).mp z
  omega
