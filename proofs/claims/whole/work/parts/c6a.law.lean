section LW
variable {g : GX} {d : Nat} {ρ : Rs} {b : AS} {p : Bool}
theorem law_n0 {i : Nat} (hA : ∀ k, 16 ≤ k → gF g k) (hL : gN g ≤ 3072) (hi : i + 5 < gN g) (hW : WF b) (hN : NR ρ) (ho : gX g i &&& 63 = 0) : LWs g d i b p ρ := by
  refine ⟨fdA b (wd5 (gX g (nI i + 1).toNatClampNeg) (gX g (nI i + 2).toNatClampNeg) (gX g (nI i + 3).toNatClampNeg) (gX g (nI i + 4).toNatClampNeg) (gX g (nI i + 5).toNatClampNeg)), p, fdQ b ρ, nr_f hN, bud_f hN, fun ρ' Q c1 u1 c2 u2 S hs hn => ?_⟩
  have v1 : vp_in (nI i + 1) (gN g) := by rw [show nI i + 1 = nI (i + 1) from nI_add i 1]; exact vp_in_nI (by omega) (by omega)
  have v2 : vp_in (nI i + 2) (gN g) := by rw [show nI i + 2 = nI (i + 2) from nI_add i 2]; exact vp_in_nI (by omega) (by omega)
  have v3 : vp_in (nI i + 3) (gN g) := by rw [show nI i + 3 = nI (i + 3) from nI_add i 3]; exact vp_in_nI (by omega) (by omega)
  have v4 : vp_in (nI i + 4) (gN g) := by rw [show nI i + 4 = nI (i + 4) from nI_add i 4]; exact vp_in_nI (by omega) (by omega)
  have v5 : vp_in (nI i + 5) (gN g) := by rw [show nI i + 5 = nI (i + 5) from nI_add i 5]; exact vp_in_nI (by omega) (by omega)
  refine eL_law_18 hN.1 (ρ2 := fdQ b ρ) (ρ55 := ρ) (ρ57 := ρ) (ρ59 := ρ) (ρ61 := ρ) (ρ63 := ρ) (ρ65 := ρ) (ρ67 := ρ) (ρ69 := ρ) (ρ71 := ρ) (nr_f hN).1 c1 u1 hN.1 c2 u2 hN.1 c2 u2 hN.1 c2 u2 hN.1 c2 u2 hN.1 c2 u2 hN.1 c2 u2 hN.1 c2 u2 hN.1 c2 u2 hN.1 c2 u2 c2 u2 ?_
  rw [if_neg (law_in hi hL), nI_clamp (show i < 2 ^ 31 by omega)]
  refine ⟨vp_in_nI (by omega) (by omega), ?_⟩
  rw [ho, if_pos rfl]
  exact ⟨v1, v2, v3, v4, v5, CALLi.mono (two_feed hA hs) (fun w1 S1 _ q => ⟨v1, v2, v3, v4, v5, CALLi.mono q (fun w2 S2 _ q2 => by rw [if_pos q2.1]; exact hn S2 q2.2)⟩)⟩
theorem law_n1 {i : Nat} (hA : ∀ k, 16 ≤ k → gF g k) (hL : gN g ≤ 3072) (hi : i + 5 < gN g) (hW : WF b) (hN : NR ρ) (ho : gX g i &&& 63 = 1) : LWs g d i b p ρ := by
  obtain ⟨b', two⟩ := two_end (d := d) (b := b) (p := p) (ρ := ρ) (x1 := gX g (nI i + 1).toNatClampNeg) hA
  refine ⟨b', p, ρ, hN, bud_0 ρ, fun ρ' Q c1 u1 c2 u2 S hs hn => ?_⟩
  have v1 : vp_in (nI i + 1) (gN g) := by rw [show nI i + 1 = nI (i + 1) from nI_add i 1]; exact vp_in_nI (by omega) (by omega)
  have v2 : vp_in (nI i + 2) (gN g) := by rw [show nI i + 2 = nI (i + 2) from nI_add i 2]; exact vp_in_nI (by omega) (by omega)
  have v3 : vp_in (nI i + 3) (gN g) := by rw [show nI i + 3 = nI (i + 3) from nI_add i 3]; exact vp_in_nI (by omega) (by omega)
  have v4 : vp_in (nI i + 4) (gN g) := by rw [show nI i + 4 = nI (i + 4) from nI_add i 4]; exact vp_in_nI (by omega) (by omega)
  have v5 : vp_in (nI i + 5) (gN g) := by rw [show nI i + 5 = nI (i + 5) from nI_add i 5]; exact vp_in_nI (by omega) (by omega)
  refine eL_law_18 hN.1 (ρ2 := ρ) (ρ55 := ρ) (ρ57 := ρ) (ρ59 := ρ) (ρ61 := ρ) (ρ63 := ρ) (ρ65 := ρ) (ρ67 := ρ) (ρ69 := ρ) (ρ71 := ρ) hN.1 c2 u2 hN.1 c2 u2 hN.1 c2 u2 hN.1 c2 u2 hN.1 c2 u2 hN.1 c2 u2 hN.1 c2 u2 hN.1 c2 u2 hN.1 c2 u2 hN.1 c2 u2 c2 u2 ?_
  rw [if_neg (law_in hi hL), nI_clamp (show i < 2 ^ 31 by omega)]
  refine ⟨vp_in_nI (by omega) (by omega), ?_⟩
  rw [ho, if_neg (by decide), if_pos rfl]
  exact ⟨v1, CALLi.mono (two S hs) (fun w1 S1 _ q => ⟨v1, CALLi.mono q (fun w2 S2 _ q2 => by rw [if_pos q2.1]; exact hn S2 q2.2)⟩)⟩
theorem law_n2 {i : Nat} (hA : ∀ k, 16 ≤ k → gF g k) (hL : gN g ≤ 3072) (hi : i + 5 < gN g) (hW : WF b) (hN : NR ρ) (ho : gX g i &&& 63 = 2) : LWs g d i b p ρ := by
  obtain ⟨p', two⟩ := two_table (d := d) (b := b) (p := p) (ρ := ρ) hA
  refine ⟨tabA b, p', ρ, hN, bud_0 ρ, fun ρ' Q c1 u1 c2 u2 S hs hn => ?_⟩
  have v1 : vp_in (nI i + 1) (gN g) := by rw [show nI i + 1 = nI (i + 1) from nI_add i 1]; exact vp_in_nI (by omega) (by omega)
  have v2 : vp_in (nI i + 2) (gN g) := by rw [show nI i + 2 = nI (i + 2) from nI_add i 2]; exact vp_in_nI (by omega) (by omega)
  have v3 : vp_in (nI i + 3) (gN g) := by rw [show nI i + 3 = nI (i + 3) from nI_add i 3]; exact vp_in_nI (by omega) (by omega)
  have v4 : vp_in (nI i + 4) (gN g) := by rw [show nI i + 4 = nI (i + 4) from nI_add i 4]; exact vp_in_nI (by omega) (by omega)
  have v5 : vp_in (nI i + 5) (gN g) := by rw [show nI i + 5 = nI (i + 5) from nI_add i 5]; exact vp_in_nI (by omega) (by omega)
  refine eL_law_18 hN.1 (ρ2 := ρ) (ρ55 := ρ) (ρ57 := ρ) (ρ59 := ρ) (ρ61 := ρ) (ρ63 := ρ) (ρ65 := ρ) (ρ67 := ρ) (ρ69 := ρ) (ρ71 := ρ) hN.1 c2 u2 hN.1 c2 u2 hN.1 c2 u2 hN.1 c2 u2 hN.1 c2 u2 hN.1 c2 u2 hN.1 c2 u2 hN.1 c2 u2 hN.1 c2 u2 hN.1 c2 u2 c2 u2 ?_
  rw [if_neg (law_in hi hL), nI_clamp (show i < 2 ^ 31 by omega)]
  refine ⟨vp_in_nI (by omega) (by omega), ?_⟩
  rw [ho, if_neg (by decide), if_neg (by decide), if_pos rfl]
  exact CALLi.mono (two S hs) (fun w1 S1 _ q => CALLi.mono q (fun w2 S2 _ q2 => by rw [if_pos q2.1]; exact hn S2 q2.2))
theorem law_n3 {i : Nat} (hA : ∀ k, 16 ≤ k → gF g k) (hL : gN g ≤ 3072) (hi : i + 5 < gN g) (hW : WF b) (hN : NR ρ) (ho : gX g i &&& 63 = 3) : LWs g d i b p ρ := by
  refine ⟨b, p, ρ, hN, bud_0 ρ, fun ρ' Q c1 u1 c2 u2 S hs hn => ?_⟩
  have v1 : vp_in (nI i + 1) (gN g) := by rw [show nI i + 1 = nI (i + 1) from nI_add i 1]; exact vp_in_nI (by omega) (by omega)
  have v2 : vp_in (nI i + 2) (gN g) := by rw [show nI i + 2 = nI (i + 2) from nI_add i 2]; exact vp_in_nI (by omega) (by omega)
  have v3 : vp_in (nI i + 3) (gN g) := by rw [show nI i + 3 = nI (i + 3) from nI_add i 3]; exact vp_in_nI (by omega) (by omega)
  have v4 : vp_in (nI i + 4) (gN g) := by rw [show nI i + 4 = nI (i + 4) from nI_add i 4]; exact vp_in_nI (by omega) (by omega)
  have v5 : vp_in (nI i + 5) (gN g) := by rw [show nI i + 5 = nI (i + 5) from nI_add i 5]; exact vp_in_nI (by omega) (by omega)
  refine eL_law_18 hN.1 (ρ2 := ρ) (ρ55 := ρ) (ρ57 := ρ) (ρ59 := ρ) (ρ61 := ρ) (ρ63 := ρ) (ρ65 := ρ) (ρ67 := ρ) (ρ69 := ρ) (ρ71 := ρ) hN.1 c2 u2 hN.1 c2 u2 hN.1 c2 u2 hN.1 c2 u2 hN.1 c2 u2 hN.1 c2 u2 hN.1 c2 u2 hN.1 c2 u2 hN.1 c2 u2 hN.1 c2 u2 c2 u2 ?_
  rw [if_neg (law_in hi hL), nI_clamp (show i < 2 ^ 31 by omega)]
  refine ⟨vp_in_nI (by omega) (by omega), ?_⟩
  rw [ho, if_neg (by decide), if_neg (by decide), if_neg (by decide), if_pos rfl]
  exact ⟨v1, CALLi.mono (two_fault hA hs) (fun w1 S1 _ q => ⟨v1, CALLi.mono q (fun w2 S2 _ q2 => by rw [if_pos q2.1]; exact hn S2 q2.2)⟩)⟩
theorem law_n4 {i : Nat} (hA : ∀ k, 16 ≤ k → gF g k) (hL : gN g ≤ 3072) (hi : i + 5 < gN g) (hW : WF b) (hN : NR ρ) (ho : gX g i &&& 63 = 4) : LWs g d i b p ρ := by
  refine ⟨b, p, ρ, hN, bud_0 ρ, fun ρ' Q c1 u1 c2 u2 S hs hn => ?_⟩
  have v1 : vp_in (nI i + 1) (gN g) := by rw [show nI i + 1 = nI (i + 1) from nI_add i 1]; exact vp_in_nI (by omega) (by omega)
  have v2 : vp_in (nI i + 2) (gN g) := by rw [show nI i + 2 = nI (i + 2) from nI_add i 2]; exact vp_in_nI (by omega) (by omega)
  have v3 : vp_in (nI i + 3) (gN g) := by rw [show nI i + 3 = nI (i + 3) from nI_add i 3]; exact vp_in_nI (by omega) (by omega)
  have v4 : vp_in (nI i + 4) (gN g) := by rw [show nI i + 4 = nI (i + 4) from nI_add i 4]; exact vp_in_nI (by omega) (by omega)
  have v5 : vp_in (nI i + 5) (gN g) := by rw [show nI i + 5 = nI (i + 5) from nI_add i 5]; exact vp_in_nI (by omega) (by omega)
  refine eL_law_18 hN.1 (ρ2 := ρ) (ρ55 := ρ) (ρ57 := ρ) (ρ59 := ρ) (ρ61 := ρ) (ρ63 := ρ) (ρ65 := ρ) (ρ67 := ρ) (ρ69 := ρ) (ρ71 := ρ) hN.1 c2 u2 hN.1 c2 u2 hN.1 c2 u2 hN.1 c2 u2 hN.1 c2 u2 hN.1 c2 u2 hN.1 c2 u2 hN.1 c2 u2 hN.1 c2 u2 hN.1 c2 u2 c2 u2 ?_
  rw [if_neg (law_in hi hL), nI_clamp (show i < 2 ^ 31 by omega)]
  refine ⟨vp_in_nI (by omega) (by omega), ?_⟩
  rw [ho, if_neg (by decide), if_neg (by decide), if_neg (by decide), if_neg (by decide), if_pos rfl]
  exact ⟨v1, CALLi.mono (two_count hA hs) (fun w1 S1 _ q => ⟨v1, CALLi.mono q (fun w2 S2 _ q2 => by rw [if_pos q2.1]; exact hn S2 q2.2)⟩)⟩
theorem law_n5 {i : Nat} (hA : ∀ k, 16 ≤ k → gF g k) (hL : gN g ≤ 3072) (hi : i + 5 < gN g) (hW : WF b) (hN : NR ρ) (ho : gX g i &&& 63 = 5) : LWs g d i b p ρ := by
  refine ⟨b, p, ρ, hN, bud_0 ρ, fun ρ' Q c1 u1 c2 u2 S hs hn => ?_⟩
  have v1 : vp_in (nI i + 1) (gN g) := by rw [show nI i + 1 = nI (i + 1) from nI_add i 1]; exact vp_in_nI (by omega) (by omega)
  have v2 : vp_in (nI i + 2) (gN g) := by rw [show nI i + 2 = nI (i + 2) from nI_add i 2]; exact vp_in_nI (by omega) (by omega)
  have v3 : vp_in (nI i + 3) (gN g) := by rw [show nI i + 3 = nI (i + 3) from nI_add i 3]; exact vp_in_nI (by omega) (by omega)
  have v4 : vp_in (nI i + 4) (gN g) := by rw [show nI i + 4 = nI (i + 4) from nI_add i 4]; exact vp_in_nI (by omega) (by omega)
  have v5 : vp_in (nI i + 5) (gN g) := by rw [show nI i + 5 = nI (i + 5) from nI_add i 5]; exact vp_in_nI (by omega) (by omega)
  refine eL_law_18 hN.1 (ρ2 := ρ) (ρ55 := ρ) (ρ57 := ρ) (ρ59 := ρ) (ρ61 := ρ) (ρ63 := ρ) (ρ65 := ρ) (ρ67 := ρ) (ρ69 := ρ) (ρ71 := ρ) hN.1 c2 u2 hN.1 c2 u2 hN.1 c2 u2 hN.1 c2 u2 hN.1 c2 u2 hN.1 c2 u2 hN.1 c2 u2 hN.1 c2 u2 hN.1 c2 u2 hN.1 c2 u2 c2 u2 ?_
  rw [if_neg (law_in hi hL), nI_clamp (show i < 2 ^ 31 by omega)]
  refine ⟨vp_in_nI (by omega) (by omega), ?_⟩
  rw [ho, if_neg (by decide), if_neg (by decide), if_neg (by decide), if_neg (by decide), if_neg (by decide), if_pos rfl]
  exact ⟨v1, v2, CALLi.mono (two_cell hA hs) (fun w1 S1 _ q => ⟨v1, v2, CALLi.mono q (fun w2 S2 _ q2 => by rw [if_pos q2.1]; exact hn S2 q2.2)⟩)⟩
theorem law_n6 {i : Nat} (hA : ∀ k, 16 ≤ k → gF g k) (hL : gN g ≤ 3072) (hi : i + 5 < gN g) (hW : WF b) (hN : NR ρ) (ho : gX g i &&& 63 = 6) : LWs g d i b p ρ := by
  refine ⟨b, p, ρ, hN, bud_0 ρ, fun ρ' Q c1 u1 c2 u2 S hs hn => ?_⟩
  have v1 : vp_in (nI i + 1) (gN g) := by rw [show nI i + 1 = nI (i + 1) from nI_add i 1]; exact vp_in_nI (by omega) (by omega)
  have v2 : vp_in (nI i + 2) (gN g) := by rw [show nI i + 2 = nI (i + 2) from nI_add i 2]; exact vp_in_nI (by omega) (by omega)
  have v3 : vp_in (nI i + 3) (gN g) := by rw [show nI i + 3 = nI (i + 3) from nI_add i 3]; exact vp_in_nI (by omega) (by omega)
  have v4 : vp_in (nI i + 4) (gN g) := by rw [show nI i + 4 = nI (i + 4) from nI_add i 4]; exact vp_in_nI (by omega) (by omega)
  have v5 : vp_in (nI i + 5) (gN g) := by rw [show nI i + 5 = nI (i + 5) from nI_add i 5]; exact vp_in_nI (by omega) (by omega)
  refine eL_law_18 hN.1 (ρ2 := ρ) (ρ55 := ρ) (ρ57 := ρ) (ρ59 := ρ) (ρ61 := ρ) (ρ63 := ρ) (ρ65 := ρ) (ρ67 := ρ) (ρ69 := ρ) (ρ71 := ρ) hN.1 c2 u2 hN.1 c2 u2 hN.1 c2 u2 hN.1 c2 u2 hN.1 c2 u2 hN.1 c2 u2 hN.1 c2 u2 hN.1 c2 u2 hN.1 c2 u2 hN.1 c2 u2 c2 u2 ?_
  rw [if_neg (law_in hi hL), nI_clamp (show i < 2 ^ 31 by omega)]
  refine ⟨vp_in_nI (by omega) (by omega), ?_⟩
  rw [ho, if_neg (by decide), if_neg (by decide), if_neg (by decide), if_neg (by decide), if_neg (by decide), if_neg (by decide), if_pos rfl]
  exact ⟨v1, v2, CALLi.mono (two_hole hA hs) (fun w1 S1 _ q => ⟨v1, v2, CALLi.mono q (fun w2 S2 _ q2 => by rw [if_pos q2.1]; exact hn S2 q2.2)⟩)⟩
theorem law_n7 {i : Nat} (hA : ∀ k, 16 ≤ k → gF g k) (hL : gN g ≤ 3072) (hi : i + 5 < gN g) (hW : WF b) (hN : NR ρ) (ho : gX g i &&& 63 = 7) : LWs g d i b p ρ := by
  refine ⟨b, p, ρ, hN, bud_0 ρ, fun ρ' Q c1 u1 c2 u2 S hs hn => ?_⟩
  have v1 : vp_in (nI i + 1) (gN g) := by rw [show nI i + 1 = nI (i + 1) from nI_add i 1]; exact vp_in_nI (by omega) (by omega)
  have v2 : vp_in (nI i + 2) (gN g) := by rw [show nI i + 2 = nI (i + 2) from nI_add i 2]; exact vp_in_nI (by omega) (by omega)
  have v3 : vp_in (nI i + 3) (gN g) := by rw [show nI i + 3 = nI (i + 3) from nI_add i 3]; exact vp_in_nI (by omega) (by omega)
  have v4 : vp_in (nI i + 4) (gN g) := by rw [show nI i + 4 = nI (i + 4) from nI_add i 4]; exact vp_in_nI (by omega) (by omega)
  have v5 : vp_in (nI i + 5) (gN g) := by rw [show nI i + 5 = nI (i + 5) from nI_add i 5]; exact vp_in_nI (by omega) (by omega)
  refine eL_law_18 hN.1 (ρ2 := ρ) (ρ55 := ρ) (ρ57 := ρ) (ρ59 := ρ) (ρ61 := ρ) (ρ63 := ρ) (ρ65 := ρ) (ρ67 := ρ) (ρ69 := ρ) (ρ71 := ρ) hN.1 c2 u2 hN.1 c2 u2 hN.1 c2 u2 hN.1 c2 u2 hN.1 c2 u2 hN.1 c2 u2 hN.1 c2 u2 hN.1 c2 u2 hN.1 c2 u2 hN.1 c2 u2 c2 u2 ?_
  rw [if_neg (law_in hi hL), nI_clamp (show i < 2 ^ 31 by omega)]
  refine ⟨vp_in_nI (by omega) (by omega), ?_⟩
  rw [ho, if_neg (by decide), if_neg (by decide), if_neg (by decide), if_neg (by decide), if_neg (by decide), if_neg (by decide), if_neg (by decide), if_pos rfl]
  exact ⟨v1, CALLi.mono (two_row hA hs) (fun w1 S1 _ q => ⟨v1, CALLi.mono q (fun w2 S2 _ q2 => by rw [if_pos q2.1]; exact hn S2 q2.2)⟩)⟩
theorem law_n8 {i : Nat} (hA : ∀ k, 16 ≤ k → gF g k) (hL : gN g ≤ 3072) (hi : i + 5 < gN g) (hW : WF b) (hN : NR ρ) (ho : gX g i &&& 63 = 8) : LWs g d i b p ρ := by
  refine ⟨b, p, ρ, hN, bud_0 ρ, fun ρ' Q c1 u1 c2 u2 S hs hn => ?_⟩
  have v1 : vp_in (nI i + 1) (gN g) := by rw [show nI i + 1 = nI (i + 1) from nI_add i 1]; exact vp_in_nI (by omega) (by omega)
  have v2 : vp_in (nI i + 2) (gN g) := by rw [show nI i + 2 = nI (i + 2) from nI_add i 2]; exact vp_in_nI (by omega) (by omega)
  have v3 : vp_in (nI i + 3) (gN g) := by rw [show nI i + 3 = nI (i + 3) from nI_add i 3]; exact vp_in_nI (by omega) (by omega)
  have v4 : vp_in (nI i + 4) (gN g) := by rw [show nI i + 4 = nI (i + 4) from nI_add i 4]; exact vp_in_nI (by omega) (by omega)
  have v5 : vp_in (nI i + 5) (gN g) := by rw [show nI i + 5 = nI (i + 5) from nI_add i 5]; exact vp_in_nI (by omega) (by omega)
  refine eL_law_18 hN.1 (ρ2 := ρ) (ρ55 := ρ) (ρ57 := ρ) (ρ59 := ρ) (ρ61 := ρ) (ρ63 := ρ) (ρ65 := ρ) (ρ67 := ρ) (ρ69 := ρ) (ρ71 := ρ) hN.1 c2 u2 hN.1 c2 u2 hN.1 c2 u2 hN.1 c2 u2 hN.1 c2 u2 hN.1 c2 u2 hN.1 c2 u2 hN.1 c2 u2 hN.1 c2 u2 hN.1 c2 u2 c2 u2 ?_
  rw [if_neg (law_in hi hL), nI_clamp (show i < 2 ^ 31 by omega)]
  refine ⟨vp_in_nI (by omega) (by omega), ?_⟩
  rw [ho, if_neg (by decide), if_neg (by decide), if_neg (by decide), if_neg (by decide), if_neg (by decide), if_neg (by decide), if_neg (by decide), if_neg (by decide), if_pos rfl]
  exact ⟨v1, CALLi.mono (two_column hA hs) (fun w1 S1 _ q => ⟨v1, CALLi.mono q (fun w2 S2 _ q2 => by rw [if_pos q2.1]; exact hn S2 q2.2)⟩)⟩
theorem law_n9 {i : Nat} (hA : ∀ k, 16 ≤ k → gF g k) (hL : gN g ≤ 3072) (hi : i + 5 < gN g) (hW : WF b) (hN : NR ρ) (ho : gX g i &&& 63 = 9) : LWs g d i b p ρ := by
  refine ⟨b, p, ρ, hN, bud_0 ρ, fun ρ' Q c1 u1 c2 u2 S hs hn => ?_⟩
  have v1 : vp_in (nI i + 1) (gN g) := by rw [show nI i + 1 = nI (i + 1) from nI_add i 1]; exact vp_in_nI (by omega) (by omega)
  have v2 : vp_in (nI i + 2) (gN g) := by rw [show nI i + 2 = nI (i + 2) from nI_add i 2]; exact vp_in_nI (by omega) (by omega)
  have v3 : vp_in (nI i + 3) (gN g) := by rw [show nI i + 3 = nI (i + 3) from nI_add i 3]; exact vp_in_nI (by omega) (by omega)
  have v4 : vp_in (nI i + 4) (gN g) := by rw [show nI i + 4 = nI (i + 4) from nI_add i 4]; exact vp_in_nI (by omega) (by omega)
  have v5 : vp_in (nI i + 5) (gN g) := by rw [show nI i + 5 = nI (i + 5) from nI_add i 5]; exact vp_in_nI (by omega) (by omega)
  refine eL_law_18 hN.1 (ρ2 := ρ) (ρ55 := ρ) (ρ57 := ρ) (ρ59 := ρ) (ρ61 := ρ) (ρ63 := ρ) (ρ65 := ρ) (ρ67 := ρ) (ρ69 := ρ) (ρ71 := ρ) hN.1 c2 u2 hN.1 c2 u2 hN.1 c2 u2 hN.1 c2 u2 hN.1 c2 u2 hN.1 c2 u2 hN.1 c2 u2 hN.1 c2 u2 hN.1 c2 u2 hN.1 c2 u2 c2 u2 ?_
  rw [if_neg (law_in hi hL), nI_clamp (show i < 2 ^ 31 by omega)]
  refine ⟨vp_in_nI (by omega) (by omega), ?_⟩
  rw [ho, if_neg (by decide), if_neg (by decide), if_neg (by decide), if_neg (by decide), if_neg (by decide), if_neg (by decide), if_neg (by decide), if_neg (by decide), if_neg (by decide), if_pos rfl]
  exact CALLl.mono (two_tables hA hs) (fun w1 S1 _ q => CALLl.mono q (fun w2 S2 _ q2 => by rw [if_pos q2.1]; exact hn S2 q2.2))
theorem law_n10 {i : Nat} (hA : ∀ k, 16 ≤ k → gF g k) (hL : gN g ≤ 3072) (hi : i + 5 < gN g) (hW : WF b) (hN : NR ρ) (ho : gX g i &&& 63 = 10) : LWs g d i b p ρ := by
  refine ⟨b, p, ρ, hN, bud_0 ρ, fun ρ' Q c1 u1 c2 u2 S hs hn => ?_⟩
  have v1 : vp_in (nI i + 1) (gN g) := by rw [show nI i + 1 = nI (i + 1) from nI_add i 1]; exact vp_in_nI (by omega) (by omega)
  have v2 : vp_in (nI i + 2) (gN g) := by rw [show nI i + 2 = nI (i + 2) from nI_add i 2]; exact vp_in_nI (by omega) (by omega)
  have v3 : vp_in (nI i + 3) (gN g) := by rw [show nI i + 3 = nI (i + 3) from nI_add i 3]; exact vp_in_nI (by omega) (by omega)
  have v4 : vp_in (nI i + 4) (gN g) := by rw [show nI i + 4 = nI (i + 4) from nI_add i 4]; exact vp_in_nI (by omega) (by omega)
  have v5 : vp_in (nI i + 5) (gN g) := by rw [show nI i + 5 = nI (i + 5) from nI_add i 5]; exact vp_in_nI (by omega) (by omega)
  refine eL_law_18 hN.1 (ρ2 := ρ) (ρ55 := ρ) (ρ57 := ρ) (ρ59 := ρ) (ρ61 := ρ) (ρ63 := ρ) (ρ65 := ρ) (ρ67 := ρ) (ρ69 := ρ) (ρ71 := ρ) hN.1 c2 u2 hN.1 c2 u2 hN.1 c2 u2 hN.1 c2 u2 hN.1 c2 u2 hN.1 c2 u2 hN.1 c2 u2 hN.1 c2 u2 hN.1 c2 u2 hN.1 c2 u2 c2 u2 ?_
  rw [if_neg (law_in hi hL), nI_clamp (show i < 2 ^ 31 by omega)]
  refine ⟨vp_in_nI (by omega) (by omega), ?_⟩
  rw [ho, if_neg (by decide), if_neg (by decide), if_neg (by decide), if_neg (by decide), if_neg (by decide), if_neg (by decide), if_neg (by decide), if_neg (by decide), if_neg (by decide), if_neg (by decide), if_pos rfl]
  exact CALLl.mono (two_rank hA hs) (fun w1 S1 _ q => CALLl.mono q (fun w2 S2 _ q2 => by rw [if_pos q2.1]; exact hn S2 q2.2))
theorem law_n11 {i : Nat} (hA : ∀ k, 16 ≤ k → gF g k) (hL : gN g ≤ 3072) (hi : i + 5 < gN g) (hW : WF b) (hN : NR ρ) (ho : gX g i &&& 63 = 11) : LWs g d i b p ρ := by
  refine ⟨b, p, ρ, hN, bud_0 ρ, fun ρ' Q c1 u1 c2 u2 S hs hn => ?_⟩
  have v1 : vp_in (nI i + 1) (gN g) := by rw [show nI i + 1 = nI (i + 1) from nI_add i 1]; exact vp_in_nI (by omega) (by omega)
  have v2 : vp_in (nI i + 2) (gN g) := by rw [show nI i + 2 = nI (i + 2) from nI_add i 2]; exact vp_in_nI (by omega) (by omega)
  have v3 : vp_in (nI i + 3) (gN g) := by rw [show nI i + 3 = nI (i + 3) from nI_add i 3]; exact vp_in_nI (by omega) (by omega)
  have v4 : vp_in (nI i + 4) (gN g) := by rw [show nI i + 4 = nI (i + 4) from nI_add i 4]; exact vp_in_nI (by omega) (by omega)
  have v5 : vp_in (nI i + 5) (gN g) := by rw [show nI i + 5 = nI (i + 5) from nI_add i 5]; exact vp_in_nI (by omega) (by omega)
  refine eL_law_18 hN.1 (ρ2 := ρ) (ρ55 := ρ) (ρ57 := ρ) (ρ59 := ρ) (ρ61 := ρ) (ρ63 := ρ) (ρ65 := ρ) (ρ67 := ρ) (ρ69 := ρ) (ρ71 := ρ) hN.1 c2 u2 hN.1 c2 u2 hN.1 c2 u2 hN.1 c2 u2 hN.1 c2 u2 hN.1 c2 u2 hN.1 c2 u2 hN.1 c2 u2 hN.1 c2 u2 hN.1 c2 u2 c2 u2 ?_
  rw [if_neg (law_in hi hL), nI_clamp (show i < 2 ^ 31 by omega)]
  refine ⟨vp_in_nI (by omega) (by omega), ?_⟩
  rw [ho, if_neg (by decide), if_neg (by decide), if_neg (by decide), if_neg (by decide), if_neg (by decide), if_neg (by decide), if_neg (by decide), if_neg (by decide), if_neg (by decide), if_neg (by decide), if_neg (by decide), if_pos rfl]
  exact ⟨v1, v2, v3, v4, CALLi.mono (two_of hA hs) (fun w1 S1 _ q => ⟨v1, v2, v3, v4, CALLi.mono q (fun w2 S2 _ q2 => by rw [if_pos q2.1]; exact hn S2 q2.2)⟩)⟩
theorem law_n12 {i : Nat} (hA : ∀ k, 16 ≤ k → gF g k) (hL : gN g ≤ 3072) (hi : i + 5 < gN g) (hW : WF b) (hN : NR ρ) (ho : gX g i &&& 63 = 12) : LWs g d i b p ρ := by
  refine ⟨b, p, ρ, hN, bud_0 ρ, fun ρ' Q c1 u1 c2 u2 S hs hn => ?_⟩
  have v1 : vp_in (nI i + 1) (gN g) := by rw [show nI i + 1 = nI (i + 1) from nI_add i 1]; exact vp_in_nI (by omega) (by omega)
  have v2 : vp_in (nI i + 2) (gN g) := by rw [show nI i + 2 = nI (i + 2) from nI_add i 2]; exact vp_in_nI (by omega) (by omega)
  have v3 : vp_in (nI i + 3) (gN g) := by rw [show nI i + 3 = nI (i + 3) from nI_add i 3]; exact vp_in_nI (by omega) (by omega)
  have v4 : vp_in (nI i + 4) (gN g) := by rw [show nI i + 4 = nI (i + 4) from nI_add i 4]; exact vp_in_nI (by omega) (by omega)
  have v5 : vp_in (nI i + 5) (gN g) := by rw [show nI i + 5 = nI (i + 5) from nI_add i 5]; exact vp_in_nI (by omega) (by omega)
  refine eL_law_18 hN.1 (ρ2 := ρ) (ρ55 := ρ) (ρ57 := ρ) (ρ59 := ρ) (ρ61 := ρ) (ρ63 := ρ) (ρ65 := ρ) (ρ67 := ρ) (ρ69 := ρ) (ρ71 := ρ) hN.1 c2 u2 hN.1 c2 u2 hN.1 c2 u2 hN.1 c2 u2 hN.1 c2 u2 hN.1 c2 u2 hN.1 c2 u2 hN.1 c2 u2 hN.1 c2 u2 hN.1 c2 u2 c2 u2 ?_
  rw [if_neg (law_in hi hL), nI_clamp (show i < 2 ^ 31 by omega)]
  refine ⟨vp_in_nI (by omega) (by omega), ?_⟩
  rw [ho, if_neg (by decide), if_neg (by decide), if_neg (by decide), if_neg (by decide), if_neg (by decide), if_neg (by decide), if_neg (by decide), if_neg (by decide), if_neg (by decide), if_neg (by decide), if_neg (by decide), if_neg (by decide), if_pos rfl]
  exact ⟨v1, v2, CALLi.mono (two_least hA hs) (fun w1 S1 _ q => ⟨v1, v2, CALLi.mono q (fun w2 S2 _ q2 => by rw [if_pos q2.1]; exact hn S2 q2.2)⟩)⟩
theorem law_n13 {i : Nat} (hA : ∀ k, 16 ≤ k → gF g k) (hL : gN g ≤ 3072) (hi : i + 5 < gN g) (hW : WF b) (hN : NR ρ) (ho : gX g i &&& 63 = 13) : LWs g d i b p ρ := by
  refine ⟨b, p, ρ, hN, bud_0 ρ, fun ρ' Q c1 u1 c2 u2 S hs hn => ?_⟩
  have v1 : vp_in (nI i + 1) (gN g) := by rw [show nI i + 1 = nI (i + 1) from nI_add i 1]; exact vp_in_nI (by omega) (by omega)
  have v2 : vp_in (nI i + 2) (gN g) := by rw [show nI i + 2 = nI (i + 2) from nI_add i 2]; exact vp_in_nI (by omega) (by omega)
  have v3 : vp_in (nI i + 3) (gN g) := by rw [show nI i + 3 = nI (i + 3) from nI_add i 3]; exact vp_in_nI (by omega) (by omega)
  have v4 : vp_in (nI i + 4) (gN g) := by rw [show nI i + 4 = nI (i + 4) from nI_add i 4]; exact vp_in_nI (by omega) (by omega)
  have v5 : vp_in (nI i + 5) (gN g) := by rw [show nI i + 5 = nI (i + 5) from nI_add i 5]; exact vp_in_nI (by omega) (by omega)
  refine eL_law_18 hN.1 (ρ2 := ρ) (ρ55 := ρ) (ρ57 := ρ) (ρ59 := ρ) (ρ61 := ρ) (ρ63 := ρ) (ρ65 := ρ) (ρ67 := ρ) (ρ69 := ρ) (ρ71 := ρ) hN.1 c2 u2 hN.1 c2 u2 hN.1 c2 u2 hN.1 c2 u2 hN.1 c2 u2 hN.1 c2 u2 hN.1 c2 u2 hN.1 c2 u2 hN.1 c2 u2 hN.1 c2 u2 c2 u2 ?_
  rw [if_neg (law_in hi hL), nI_clamp (show i < 2 ^ 31 by omega)]
  refine ⟨vp_in_nI (by omega) (by omega), ?_⟩
  rw [ho, if_neg (by decide), if_neg (by decide), if_neg (by decide), if_neg (by decide), if_neg (by decide), if_neg (by decide), if_neg (by decide), if_neg (by decide), if_neg (by decide), if_neg (by decide), if_neg (by decide), if_neg (by decide), if_neg (by decide), if_pos rfl]
  exact ⟨v1, v2, CALLi.mono (two_most hA hs) (fun w1 S1 _ q => ⟨v1, v2, CALLi.mono q (fun w2 S2 _ q2 => by rw [if_pos q2.1]; exact hn S2 q2.2)⟩)⟩
end LW
