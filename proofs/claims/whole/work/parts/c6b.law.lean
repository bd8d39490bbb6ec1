section LW
variable {g : GX} {d : Nat} {ρ : Rs} {b : AS} {p : Bool}
theorem law_n14 {i : Nat} (hA : ∀ k, 16 ≤ k → gF g k) (hL : gN g ≤ 3072) (hi : i + 5 < gN g) (hW : WF b) (hN : NR ρ) (ho : gX g i &&& 63 = 14) : LWs g d i b p ρ := by
  refine ⟨b, p, ρ, hN, bud_0 ρ, fun ρ' Q c1 u1 c2 u2 S hs hn => ?_⟩
  have v1 : vp_in (nI i + 1) (gN g) := by rw [show nI i + 1 = nI (i + 1) from nI_add i 1]; exact vp_in_nI (by omega) (by omega)
  have v2 : vp_in (nI i + 2) (gN g) := by rw [show nI i + 2 = nI (i + 2) from nI_add i 2]; exact vp_in_nI (by omega) (by omega)
  have v3 : vp_in (nI i + 3) (gN g) := by rw [show nI i + 3 = nI (i + 3) from nI_add i 3]; exact vp_in_nI (by omega) (by omega)
  have v4 : vp_in (nI i + 4) (gN g) := by rw [show nI i + 4 = nI (i + 4) from nI_add i 4]; exact vp_in_nI (by omega) (by omega)
  have v5 : vp_in (nI i + 5) (gN g) := by rw [show nI i + 5 = nI (i + 5) from nI_add i 5]; exact vp_in_nI (by omega) (by omega)
  refine eL_law_18 hN.1 (ρ2 := ρ) (ρ55 := ρ) (ρ57 := ρ) (ρ59 := ρ) (ρ61 := ρ) (ρ63 := ρ) (ρ65 := ρ) (ρ67 := ρ) (ρ69 := ρ) (ρ71 := ρ) hN.1 c2 u2 hN.1 c2 u2 hN.1 c2 u2 hN.1 c2 u2 hN.1 c2 u2 hN.1 c2 u2 hN.1 c2 u2 hN.1 c2 u2 hN.1 c2 u2 hN.1 c2 u2 c2 u2 ?_
  rw [if_neg (law_in hi hL), nI_clamp (show i < 2 ^ 31 by omega)]
  refine ⟨vp_in_nI (by omega) (by omega), ?_⟩
  rw [ho, if_neg (by decide), if_neg (by decide), if_neg (by decide), if_neg (by decide), if_neg (by decide), if_neg (by decide), if_neg (by decide), if_neg (by decide), if_neg (by decide), if_neg (by decide), if_neg (by decide), if_neg (by decide), if_neg (by decide), if_neg (by decide), if_pos rfl]
  exact CALLi.mono (two_fixed hA hs) (fun w1 S1 _ q => CALLi.mono q (fun w2 S2 _ q2 => by rw [if_pos q2.1]; exact hn S2 q2.2))
theorem law_n15 {i : Nat} (hA : ∀ k, 16 ≤ k → gF g k) (hL : gN g ≤ 3072) (hi : i + 5 < gN g) (hW : WF b) (hN : NR ρ) (ho : gX g i &&& 63 = 15) : LWs g d i b p ρ := by
  refine ⟨b, p, ρ, hN, bud_0 ρ, fun ρ' Q c1 u1 c2 u2 S hs hn => ?_⟩
  have v1 : vp_in (nI i + 1) (gN g) := by rw [show nI i + 1 = nI (i + 1) from nI_add i 1]; exact vp_in_nI (by omega) (by omega)
  have v2 : vp_in (nI i + 2) (gN g) := by rw [show nI i + 2 = nI (i + 2) from nI_add i 2]; exact vp_in_nI (by omega) (by omega)
  have v3 : vp_in (nI i + 3) (gN g) := by rw [show nI i + 3 = nI (i + 3) from nI_add i 3]; exact vp_in_nI (by omega) (by omega)
  have v4 : vp_in (nI i + 4) (gN g) := by rw [show nI i + 4 = nI (i + 4) from nI_add i 4]; exact vp_in_nI (by omega) (by omega)
  have v5 : vp_in (nI i + 5) (gN g) := by rw [show nI i + 5 = nI (i + 5) from nI_add i 5]; exact vp_in_nI (by omega) (by omega)
  refine eL_law_18 hN.1 (ρ2 := ρ) (ρ55 := ρ) (ρ57 := ρ) (ρ59 := ρ) (ρ61 := ρ) (ρ63 := ρ) (ρ65 := ρ) (ρ67 := ρ) (ρ69 := ρ) (ρ71 := ρ) hN.1 c2 u2 hN.1 c2 u2 hN.1 c2 u2 hN.1 c2 u2 hN.1 c2 u2 hN.1 c2 u2 hN.1 c2 u2 hN.1 c2 u2 hN.1 c2 u2 hN.1 c2 u2 c2 u2 ?_
  rw [if_neg (law_in hi hL), nI_clamp (show i < 2 ^ 31 by omega)]
  refine ⟨vp_in_nI (by omega) (by omega), ?_⟩
  rw [ho, if_neg (by decide), if_neg (by decide), if_neg (by decide), if_neg (by decide), if_neg (by decide), if_neg (by decide), if_neg (by decide), if_neg (by decide), if_neg (by decide), if_neg (by decide), if_neg (by decide), if_neg (by decide), if_neg (by decide), if_neg (by decide), if_neg (by decide), if_pos rfl]
  exact ⟨v1, v2, v3, CALLl.mono (two_having hA hs) (fun w1 S1 _ q => ⟨v1, v2, v3, CALLl.mono q (fun w2 S2 _ q2 => by rw [if_pos q2.1]; exact hn S2 q2.2)⟩)⟩
theorem law_n16 {i : Nat} (hA : ∀ k, 16 ≤ k → gF g k) (hL : gN g ≤ 3072) (hi : i + 5 < gN g) (hW : WF b) (hN : NR ρ) (ho : gX g i &&& 63 = 16) : LWs g d i b p ρ := by
  refine ⟨b, p, ρ, hN, bud_0 ρ, fun ρ' Q c1 u1 c2 u2 S hs hn => ?_⟩
  have v1 : vp_in (nI i + 1) (gN g) := by rw [show nI i + 1 = nI (i + 1) from nI_add i 1]; exact vp_in_nI (by omega) (by omega)
  have v2 : vp_in (nI i + 2) (gN g) := by rw [show nI i + 2 = nI (i + 2) from nI_add i 2]; exact vp_in_nI (by omega) (by omega)
  have v3 : vp_in (nI i + 3) (gN g) := by rw [show nI i + 3 = nI (i + 3) from nI_add i 3]; exact vp_in_nI (by omega) (by omega)
  have v4 : vp_in (nI i + 4) (gN g) := by rw [show nI i + 4 = nI (i + 4) from nI_add i 4]; exact vp_in_nI (by omega) (by omega)
  have v5 : vp_in (nI i + 5) (gN g) := by rw [show nI i + 5 = nI (i + 5) from nI_add i 5]; exact vp_in_nI (by omega) (by omega)
  refine eL_law_18 hN.1 (ρ2 := ρ) (ρ55 := ρ) (ρ57 := ρ) (ρ59 := ρ) (ρ61 := ρ) (ρ63 := ρ) (ρ65 := ρ) (ρ67 := ρ) (ρ69 := ρ) (ρ71 := ρ) hN.1 c2 u2 hN.1 c2 u2 hN.1 c2 u2 hN.1 c2 u2 hN.1 c2 u2 hN.1 c2 u2 hN.1 c2 u2 hN.1 c2 u2 hN.1 c2 u2 hN.1 c2 u2 c2 u2 ?_
  rw [if_neg (law_in hi hL), nI_clamp (show i < 2 ^ 31 by omega)]
  refine ⟨vp_in_nI (by omega) (by omega), ?_⟩
  rw [ho, if_neg (by decide), if_neg (by decide), if_neg (by decide), if_neg (by decide), if_neg (by decide), if_neg (by decide), if_neg (by decide), if_neg (by decide), if_neg (by decide), if_neg (by decide), if_neg (by decide), if_neg (by decide), if_neg (by decide), if_neg (by decide), if_neg (by decide), if_neg (by decide), if_pos rfl]
  exact ⟨v1, v2, v3, CALLl.mono (two_mean hA hs) (fun w1 S1 _ q => ⟨v1, v2, v3, CALLl.mono q (fun w2 S2 _ q2 => by rw [if_pos q2.1]; exact hn S2 q2.2)⟩)⟩
theorem law_n17 {i : Nat} (hA : ∀ k, 16 ≤ k → gF g k) (hL : gN g ≤ 3072) (hi : i + 5 < gN g) (hW : WF b) (hN : NR ρ) (ho : gX g i &&& 63 = 17) : LWs g d i b p ρ := by
  refine ⟨b, p, ρ, hN, bud_0 ρ, fun ρ' Q c1 u1 c2 u2 S hs hn => ?_⟩
  have v1 : vp_in (nI i + 1) (gN g) := by rw [show nI i + 1 = nI (i + 1) from nI_add i 1]; exact vp_in_nI (by omega) (by omega)
  have v2 : vp_in (nI i + 2) (gN g) := by rw [show nI i + 2 = nI (i + 2) from nI_add i 2]; exact vp_in_nI (by omega) (by omega)
  have v3 : vp_in (nI i + 3) (gN g) := by rw [show nI i + 3 = nI (i + 3) from nI_add i 3]; exact vp_in_nI (by omega) (by omega)
  have v4 : vp_in (nI i + 4) (gN g) := by rw [show nI i + 4 = nI (i + 4) from nI_add i 4]; exact vp_in_nI (by omega) (by omega)
  have v5 : vp_in (nI i + 5) (gN g) := by rw [show nI i + 5 = nI (i + 5) from nI_add i 5]; exact vp_in_nI (by omega) (by omega)
  refine eL_law_18 hN.1 (ρ2 := ρ) (ρ55 := ρ) (ρ57 := ρ) (ρ59 := ρ) (ρ61 := ρ) (ρ63 := ρ) (ρ65 := ρ) (ρ67 := ρ) (ρ69 := ρ) (ρ71 := ρ) hN.1 c2 u2 hN.1 c2 u2 hN.1 c2 u2 hN.1 c2 u2 hN.1 c2 u2 hN.1 c2 u2 hN.1 c2 u2 hN.1 c2 u2 hN.1 c2 u2 hN.1 c2 u2 c2 u2 ?_
  rw [if_neg (law_in hi hL), nI_clamp (show i < 2 ^ 31 by omega)]
  refine ⟨vp_in_nI (by omega) (by omega), ?_⟩
  rw [ho, if_neg (by decide), if_neg (by decide), if_neg (by decide), if_neg (by decide), if_neg (by decide), if_neg (by decide), if_neg (by decide), if_neg (by decide), if_neg (by decide), if_neg (by decide), if_neg (by decide), if_neg (by decide), if_neg (by decide), if_neg (by decide), if_neg (by decide), if_neg (by decide), if_neg (by decide), if_pos rfl]
  exact CALLl.mono (two_weight hA hs) (fun w1 S1 _ q => CALLl.mono q (fun w2 S2 _ q2 => by rw [if_pos q2.1]; exact hn S2 q2.2))
theorem law_n18 {i : Nat} (hA : ∀ k, 16 ≤ k → gF g k) (hL : gN g ≤ 3072) (hi : i + 5 < gN g) (hW : WF b) (hN : NR ρ) (ho : gX g i &&& 63 = 18) : LWs g d i b p ρ := by
  refine ⟨b, p, ρ, hN, bud_0 ρ, fun ρ' Q c1 u1 c2 u2 S hs hn => ?_⟩
  have v1 : vp_in (nI i + 1) (gN g) := by rw [show nI i + 1 = nI (i + 1) from nI_add i 1]; exact vp_in_nI (by omega) (by omega)
  have v2 : vp_in (nI i + 2) (gN g) := by rw [show nI i + 2 = nI (i + 2) from nI_add i 2]; exact vp_in_nI (by omega) (by omega)
  have v3 : vp_in (nI i + 3) (gN g) := by rw [show nI i + 3 = nI (i + 3) from nI_add i 3]; exact vp_in_nI (by omega) (by omega)
  have v4 : vp_in (nI i + 4) (gN g) := by rw [show nI i + 4 = nI (i + 4) from nI_add i 4]; exact vp_in_nI (by omega) (by omega)
  have v5 : vp_in (nI i + 5) (gN g) := by rw [show nI i + 5 = nI (i + 5) from nI_add i 5]; exact vp_in_nI (by omega) (by omega)
  refine eL_law_18 hN.1 (ρ2 := ρ) (ρ55 := ρ) (ρ57 := ρ) (ρ59 := ρ) (ρ61 := ρ) (ρ63 := ρ) (ρ65 := ρ) (ρ67 := ρ) (ρ69 := ρ) (ρ71 := ρ) hN.1 c2 u2 hN.1 c2 u2 hN.1 c2 u2 hN.1 c2 u2 hN.1 c2 u2 hN.1 c2 u2 hN.1 c2 u2 hN.1 c2 u2 hN.1 c2 u2 hN.1 c2 u2 c2 u2 ?_
  rw [if_neg (law_in hi hL), nI_clamp (show i < 2 ^ 31 by omega)]
  refine ⟨vp_in_nI (by omega) (by omega), ?_⟩
  rw [ho, if_neg (by decide), if_neg (by decide), if_neg (by decide), if_neg (by decide), if_neg (by decide), if_neg (by decide), if_neg (by decide), if_neg (by decide), if_neg (by decide), if_neg (by decide), if_neg (by decide), if_neg (by decide), if_neg (by decide), if_neg (by decide), if_neg (by decide), if_neg (by decide), if_neg (by decide), if_neg (by decide), if_pos rfl]
  exact CALLl.mono (two_weights hA hs) (fun w1 S1 _ q => CALLl.mono q (fun w2 S2 _ q2 => by rw [if_pos q2.1]; exact hn S2 q2.2))
theorem law_n19 {i : Nat} (hA : ∀ k, 16 ≤ k → gF g k) (hL : gN g ≤ 3072) (hi : i + 5 < gN g) (hW : WF b) (hN : NR ρ) (ho : gX g i &&& 63 = 19) : LWs g d i b p ρ := by
  refine ⟨b, p, ρ, hN, bud_0 ρ, fun ρ' Q c1 u1 c2 u2 S hs hn => ?_⟩
  have v1 : vp_in (nI i + 1) (gN g) := by rw [show nI i + 1 = nI (i + 1) from nI_add i 1]; exact vp_in_nI (by omega) (by omega)
  have v2 : vp_in (nI i + 2) (gN g) := by rw [show nI i + 2 = nI (i + 2) from nI_add i 2]; exact vp_in_nI (by omega) (by omega)
  have v3 : vp_in (nI i + 3) (gN g) := by rw [show nI i + 3 = nI (i + 3) from nI_add i 3]; exact vp_in_nI (by omega) (by omega)
  have v4 : vp_in (nI i + 4) (gN g) := by rw [show nI i + 4 = nI (i + 4) from nI_add i 4]; exact vp_in_nI (by omega) (by omega)
  have v5 : vp_in (nI i + 5) (gN g) := by rw [show nI i + 5 = nI (i + 5) from nI_add i 5]; exact vp_in_nI (by omega) (by omega)
  refine eL_law_18 hN.1 (ρ2 := ρ) (ρ55 := ρ) (ρ57 := ρ) (ρ59 := ρ) (ρ61 := ρ) (ρ63 := ρ) (ρ65 := ρ) (ρ67 := ρ) (ρ69 := ρ) (ρ71 := ρ) hN.1 c2 u2 hN.1 c2 u2 hN.1 c2 u2 hN.1 c2 u2 hN.1 c2 u2 hN.1 c2 u2 hN.1 c2 u2 hN.1 c2 u2 hN.1 c2 u2 hN.1 c2 u2 c2 u2 ?_
  rw [if_neg (law_in hi hL), nI_clamp (show i < 2 ^ 31 by omega)]
  refine ⟨vp_in_nI (by omega) (by omega), ?_⟩
  rw [ho, if_neg (by decide), if_neg (by decide), if_neg (by decide), if_neg (by decide), if_neg (by decide), if_neg (by decide), if_neg (by decide), if_neg (by decide), if_neg (by decide), if_neg (by decide), if_neg (by decide), if_neg (by decide), if_neg (by decide), if_neg (by decide), if_neg (by decide), if_neg (by decide), if_neg (by decide), if_neg (by decide), if_neg (by decide), if_pos rfl]
  exact CALLl.mono (two_heaviest hA hs) (fun w1 S1 _ q => CALLl.mono q (fun w2 S2 _ q2 => by rw [if_pos q2.1]; exact hn S2 q2.2))
theorem law_n20 {i : Nat} (hA : ∀ k, 16 ≤ k → gF g k) (hL : gN g ≤ 3072) (hi : i + 5 < gN g) (hW : WF b) (hN : NR ρ) (ho : gX g i &&& 63 = 20) : LWs g d i b p ρ := by
  refine ⟨b, p, ρ, hN, bud_0 ρ, fun ρ' Q c1 u1 c2 u2 S hs hn => ?_⟩
  have v1 : vp_in (nI i + 1) (gN g) := by rw [show nI i + 1 = nI (i + 1) from nI_add i 1]; exact vp_in_nI (by omega) (by omega)
  have v2 : vp_in (nI i + 2) (gN g) := by rw [show nI i + 2 = nI (i + 2) from nI_add i 2]; exact vp_in_nI (by omega) (by omega)
  have v3 : vp_in (nI i + 3) (gN g) := by rw [show nI i + 3 = nI (i + 3) from nI_add i 3]; exact vp_in_nI (by omega) (by omega)
  have v4 : vp_in (nI i + 4) (gN g) := by rw [show nI i + 4 = nI (i + 4) from nI_add i 4]; exact vp_in_nI (by omega) (by omega)
  have v5 : vp_in (nI i + 5) (gN g) := by rw [show nI i + 5 = nI (i + 5) from nI_add i 5]; exact vp_in_nI (by omega) (by omega)
  refine eL_law_18 hN.1 (ρ2 := ρ) (ρ55 := ρ) (ρ57 := ρ) (ρ59 := ρ) (ρ61 := ρ) (ρ63 := ρ) (ρ65 := ρ) (ρ67 := ρ) (ρ69 := ρ) (ρ71 := ρ) hN.1 c2 u2 hN.1 c2 u2 hN.1 c2 u2 hN.1 c2 u2 hN.1 c2 u2 hN.1 c2 u2 hN.1 c2 u2 hN.1 c2 u2 hN.1 c2 u2 hN.1 c2 u2 c2 u2 ?_
  rw [if_neg (law_in hi hL), nI_clamp (show i < 2 ^ 31 by omega)]
  refine ⟨vp_in_nI (by omega) (by omega), ?_⟩
  rw [ho, if_neg (by decide), if_neg (by decide), if_neg (by decide), if_neg (by decide), if_neg (by decide), if_neg (by decide), if_neg (by decide), if_neg (by decide), if_neg (by decide), if_neg (by decide), if_neg (by decide), if_neg (by decide), if_neg (by decide), if_neg (by decide), if_neg (by decide), if_neg (by decide), if_neg (by decide), if_neg (by decide), if_neg (by decide), if_neg (by decide), if_pos rfl]
  exact CALLl.mono (two_lightest hA hs) (fun w1 S1 _ q => CALLl.mono q (fun w2 S2 _ q2 => by rw [if_pos q2.1]; exact hn S2 q2.2))
theorem law_n21 {i : Nat} (hA : ∀ k, 16 ≤ k → gF g k) (hL : gN g ≤ 3072) (hi : i + 5 < gN g) (hW : WF b) (hN : NR ρ) (ho : gX g i &&& 63 = 21) : LWs g d i b p ρ := by
  refine ⟨b, p, ρ, hN, bud_0 ρ, fun ρ' Q c1 u1 c2 u2 S hs hn => ?_⟩
  have v1 : vp_in (nI i + 1) (gN g) := by rw [show nI i + 1 = nI (i + 1) from nI_add i 1]; exact vp_in_nI (by omega) (by omega)
  have v2 : vp_in (nI i + 2) (gN g) := by rw [show nI i + 2 = nI (i + 2) from nI_add i 2]; exact vp_in_nI (by omega) (by omega)
  have v3 : vp_in (nI i + 3) (gN g) := by rw [show nI i + 3 = nI (i + 3) from nI_add i 3]; exact vp_in_nI (by omega) (by omega)
  have v4 : vp_in (nI i + 4) (gN g) := by rw [show nI i + 4 = nI (i + 4) from nI_add i 4]; exact vp_in_nI (by omega) (by omega)
  have v5 : vp_in (nI i + 5) (gN g) := by rw [show nI i + 5 = nI (i + 5) from nI_add i 5]; exact vp_in_nI (by omega) (by omega)
  refine eL_law_18 hN.1 (ρ2 := ρ) (ρ55 := ρ) (ρ57 := ρ) (ρ59 := ρ) (ρ61 := ρ) (ρ63 := ρ) (ρ65 := ρ) (ρ67 := ρ) (ρ69 := ρ) (ρ71 := ρ) hN.1 c2 u2 hN.1 c2 u2 hN.1 c2 u2 hN.1 c2 u2 hN.1 c2 u2 hN.1 c2 u2 hN.1 c2 u2 hN.1 c2 u2 hN.1 c2 u2 hN.1 c2 u2 c2 u2 ?_
  rw [if_neg (law_in hi hL), nI_clamp (show i < 2 ^ 31 by omega)]
  refine ⟨vp_in_nI (by omega) (by omega), ?_⟩
  rw [ho, if_neg (by decide), if_neg (by decide), if_neg (by decide), if_neg (by decide), if_neg (by decide), if_neg (by decide), if_neg (by decide), if_neg (by decide), if_neg (by decide), if_neg (by decide), if_neg (by decide), if_neg (by decide), if_neg (by decide), if_neg (by decide), if_neg (by decide), if_neg (by decide), if_neg (by decide), if_neg (by decide), if_neg (by decide), if_neg (by decide), if_neg (by decide), if_pos rfl]
  exact ⟨v1, CALLl.mono (two_statistic hA hs) (fun w1 S1 _ q => ⟨v1, CALLl.mono q (fun w2 S2 _ q2 => by rw [if_pos q2.1]; exact hn S2 q2.2)⟩)⟩
theorem law_n22 {i : Nat} (hA : ∀ k, 16 ≤ k → gF g k) (hL : gN g ≤ 3072) (hi : i + 5 < gN g) (hW : WF b) (hN : NR ρ) (ho : gX g i &&& 63 = 22) : LWs g d i b p ρ := by
  refine ⟨b, p, ρ, hN, bud_0 ρ, fun ρ' Q c1 u1 c2 u2 S hs hn => ?_⟩
  have v1 : vp_in (nI i + 1) (gN g) := by rw [show nI i + 1 = nI (i + 1) from nI_add i 1]; exact vp_in_nI (by omega) (by omega)
  have v2 : vp_in (nI i + 2) (gN g) := by rw [show nI i + 2 = nI (i + 2) from nI_add i 2]; exact vp_in_nI (by omega) (by omega)
  have v3 : vp_in (nI i + 3) (gN g) := by rw [show nI i + 3 = nI (i + 3) from nI_add i 3]; exact vp_in_nI (by omega) (by omega)
  have v4 : vp_in (nI i + 4) (gN g) := by rw [show nI i + 4 = nI (i + 4) from nI_add i 4]; exact vp_in_nI (by omega) (by omega)
  have v5 : vp_in (nI i + 5) (gN g) := by rw [show nI i + 5 = nI (i + 5) from nI_add i 5]; exact vp_in_nI (by omega) (by omega)
  refine eL_law_18 hN.1 (ρ2 := ρ) (ρ55 := ρ) (ρ57 := ρ) (ρ59 := ρ) (ρ61 := ρ) (ρ63 := ρ) (ρ65 := ρ) (ρ67 := ρ) (ρ69 := ρ) (ρ71 := ρ) hN.1 c2 u2 hN.1 c2 u2 hN.1 c2 u2 hN.1 c2 u2 hN.1 c2 u2 hN.1 c2 u2 hN.1 c2 u2 hN.1 c2 u2 hN.1 c2 u2 hN.1 c2 u2 c2 u2 ?_
  rw [if_neg (law_in hi hL), nI_clamp (show i < 2 ^ 31 by omega)]
  refine ⟨vp_in_nI (by omega) (by omega), ?_⟩
  rw [ho, if_neg (by decide), if_neg (by decide), if_neg (by decide), if_neg (by decide), if_neg (by decide), if_neg (by decide), if_neg (by decide), if_neg (by decide), if_neg (by decide), if_neg (by decide), if_neg (by decide), if_neg (by decide), if_neg (by decide), if_neg (by decide), if_neg (by decide), if_neg (by decide), if_neg (by decide), if_neg (by decide), if_neg (by decide), if_neg (by decide), if_neg (by decide), if_neg (by decide), if_pos rfl]
  exact ⟨v1, CALLl.mono (two_extreme hA hs) (fun w1 S1 _ q => ⟨v1, CALLl.mono q (fun w2 S2 _ q2 => by rw [if_pos q2.1]; exact hn S2 q2.2)⟩)⟩
theorem law_n23 {i : Nat} (hA : ∀ k, 16 ≤ k → gF g k) (hL : gN g ≤ 3072) (hi : i + 5 < gN g) (hW : WF b) (hN : NR ρ) (ho : gX g i &&& 63 = 23) : LWs g d i b p ρ := by
  refine ⟨b, p, ρ, hN, bud_0 ρ, fun ρ' Q c1 u1 c2 u2 S hs hn => ?_⟩
  have v1 : vp_in (nI i + 1) (gN g) := by rw [show nI i + 1 = nI (i + 1) from nI_add i 1]; exact vp_in_nI (by omega) (by omega)
  have v2 : vp_in (nI i + 2) (gN g) := by rw [show nI i + 2 = nI (i + 2) from nI_add i 2]; exact vp_in_nI (by omega) (by omega)
  have v3 : vp_in (nI i + 3) (gN g) := by rw [show nI i + 3 = nI (i + 3) from nI_add i 3]; exact vp_in_nI (by omega) (by omega)
  have v4 : vp_in (nI i + 4) (gN g) := by rw [show nI i + 4 = nI (i + 4) from nI_add i 4]; exact vp_in_nI (by omega) (by omega)
  have v5 : vp_in (nI i + 5) (gN g) := by rw [show nI i + 5 = nI (i + 5) from nI_add i 5]; exact vp_in_nI (by omega) (by omega)
  refine eL_law_18 hN.1 (ρ2 := ρ) (ρ55 := ρ) (ρ57 := ρ) (ρ59 := ρ) (ρ61 := ρ) (ρ63 := ρ) (ρ65 := ρ) (ρ67 := ρ) (ρ69 := ρ) (ρ71 := ρ) hN.1 c2 u2 hN.1 c2 u2 hN.1 c2 u2 hN.1 c2 u2 hN.1 c2 u2 hN.1 c2 u2 hN.1 c2 u2 hN.1 c2 u2 hN.1 c2 u2 hN.1 c2 u2 c2 u2 ?_
  rw [if_neg (law_in hi hL), nI_clamp (show i < 2 ^ 31 by omega)]
  refine ⟨vp_in_nI (by omega) (by omega), ?_⟩
  rw [ho, if_neg (by decide), if_neg (by decide), if_neg (by decide), if_neg (by decide), if_neg (by decide), if_neg (by decide), if_neg (by decide), if_neg (by decide), if_neg (by decide), if_neg (by decide), if_neg (by decide), if_neg (by decide), if_neg (by decide), if_neg (by decide), if_neg (by decide), if_neg (by decide), if_neg (by decide), if_neg (by decide), if_neg (by decide), if_neg (by decide), if_neg (by decide), if_neg (by decide), if_neg (by decide), if_pos rfl]
  exact ⟨v1, v2, CALLl.mono (two_share hA hs) (fun w1 S1 _ q => ⟨v1, v2, CALLl.mono q (fun w2 S2 _ q2 => by rw [if_pos q2.1]; exact hn S2 q2.2)⟩)⟩
theorem law_n24 {i : Nat} (hA : ∀ k, 16 ≤ k → gF g k) (hL : gN g ≤ 3072) (hi : i + 5 < gN g) (hW : WF b) (hN : NR ρ) (ho : gX g i &&& 63 = 24) : LWs g d i b p ρ := by
  refine ⟨b, p, ρ, hN, bud_0 ρ, fun ρ' Q c1 u1 c2 u2 S hs hn => ?_⟩
  have v1 : vp_in (nI i + 1) (gN g) := by rw [show nI i + 1 = nI (i + 1) from nI_add i 1]; exact vp_in_nI (by omega) (by omega)
  have v2 : vp_in (nI i + 2) (gN g) := by rw [show nI i + 2 = nI (i + 2) from nI_add i 2]; exact vp_in_nI (by omega) (by omega)
  have v3 : vp_in (nI i + 3) (gN g) := by rw [show nI i + 3 = nI (i + 3) from nI_add i 3]; exact vp_in_nI (by omega) (by omega)
  have v4 : vp_in (nI i + 4) (gN g) := by rw [show nI i + 4 = nI (i + 4) from nI_add i 4]; exact vp_in_nI (by omega) (by omega)
  have v5 : vp_in (nI i + 5) (gN g) := by rw [show nI i + 5 = nI (i + 5) from nI_add i 5]; exact vp_in_nI (by omega) (by omega)
  refine eL_law_18 hN.1 (ρ2 := ρ) (ρ55 := ρ) (ρ57 := ρ) (ρ59 := ρ) (ρ61 := ρ) (ρ63 := ρ) (ρ65 := ρ) (ρ67 := ρ) (ρ69 := ρ) (ρ71 := ρ) hN.1 c2 u2 hN.1 c2 u2 hN.1 c2 u2 hN.1 c2 u2 hN.1 c2 u2 hN.1 c2 u2 hN.1 c2 u2 hN.1 c2 u2 hN.1 c2 u2 hN.1 c2 u2 c2 u2 ?_
  rw [if_neg (law_in hi hL), nI_clamp (show i < 2 ^ 31 by omega)]
  refine ⟨vp_in_nI (by omega) (by omega), ?_⟩
  rw [ho, if_neg (by decide), if_neg (by decide), if_neg (by decide), if_neg (by decide), if_neg (by decide), if_neg (by decide), if_neg (by decide), if_neg (by decide), if_neg (by decide), if_neg (by decide), if_neg (by decide), if_neg (by decide), if_neg (by decide), if_neg (by decide), if_neg (by decide), if_neg (by decide), if_neg (by decide), if_neg (by decide), if_neg (by decide), if_neg (by decide), if_neg (by decide), if_neg (by decide), if_neg (by decide), if_neg (by decide), if_pos rfl]
  exact CALLl.mono (two_chi hA hs) (fun w1 S1 _ q => CALLl.mono q (fun w2 S2 _ q2 => by rw [if_pos q2.1]; exact hn S2 q2.2))
theorem law_n25 {i : Nat} (hA : ∀ k, 16 ≤ k → gF g k) (hL : gN g ≤ 3072) (hi : i + 5 < gN g) (hW : WF b) (hN : NR ρ) (ho : gX g i &&& 63 = 25) : LWs g d i b p ρ := by
  refine ⟨b, p, ρ, hN, bud_0 ρ, fun ρ' Q c1 u1 c2 u2 S hs hn => ?_⟩
  have v1 : vp_in (nI i + 1) (gN g) := by rw [show nI i + 1 = nI (i + 1) from nI_add i 1]; exact vp_in_nI (by omega) (by omega)
  have v2 : vp_in (nI i + 2) (gN g) := by rw [show nI i + 2 = nI (i + 2) from nI_add i 2]; exact vp_in_nI (by omega) (by omega)
  have v3 : vp_in (nI i + 3) (gN g) := by rw [show nI i + 3 = nI (i + 3) from nI_add i 3]; exact vp_in_nI (by omega) (by omega)
  have v4 : vp_in (nI i + 4) (gN g) := by rw [show nI i + 4 = nI (i + 4) from nI_add i 4]; exact vp_in_nI (by omega) (by omega)
  have v5 : vp_in (nI i + 5) (gN g) := by rw [show nI i + 5 = nI (i + 5) from nI_add i 5]; exact vp_in_nI (by omega) (by omega)
  refine eL_law_18 hN.1 (ρ2 := ρ) (ρ55 := ρ) (ρ57 := ρ) (ρ59 := ρ) (ρ61 := ρ) (ρ63 := ρ) (ρ65 := ρ) (ρ67 := ρ) (ρ69 := ρ) (ρ71 := ρ) hN.1 c2 u2 hN.1 c2 u2 hN.1 c2 u2 hN.1 c2 u2 hN.1 c2 u2 hN.1 c2 u2 hN.1 c2 u2 hN.1 c2 u2 hN.1 c2 u2 hN.1 c2 u2 c2 u2 ?_
  rw [if_neg (law_in hi hL), nI_clamp (show i < 2 ^ 31 by omega)]
  refine ⟨vp_in_nI (by omega) (by omega), ?_⟩
  rw [ho, if_neg (by decide), if_neg (by decide), if_neg (by decide), if_neg (by decide), if_neg (by decide), if_neg (by decide), if_neg (by decide), if_neg (by decide), if_neg (by decide), if_neg (by decide), if_neg (by decide), if_neg (by decide), if_neg (by decide), if_neg (by decide), if_neg (by decide), if_neg (by decide), if_neg (by decide), if_neg (by decide), if_neg (by decide), if_neg (by decide), if_neg (by decide), if_neg (by decide), if_neg (by decide), if_neg (by decide), if_neg (by decide), if_pos rfl]
  exact ⟨v1, v2, CALLi.mono (two_excess hA hs) (fun w1 S1 _ q => ⟨v1, v2, CALLi.mono q (fun w2 S2 _ q2 => by rw [if_pos q2.1]; exact hn S2 q2.2)⟩)⟩
theorem law_n26 {i : Nat} (hA : ∀ k, 16 ≤ k → gF g k) (hL : gN g ≤ 3072) (hi : i + 5 < gN g) (hW : WF b) (hN : NR ρ) (ho : gX g i &&& 63 = 26) : LWs g d i b p ρ := by
  refine ⟨b, p, ρ, hN, bud_0 ρ, fun ρ' Q c1 u1 c2 u2 S hs hn => ?_⟩
  have v1 : vp_in (nI i + 1) (gN g) := by rw [show nI i + 1 = nI (i + 1) from nI_add i 1]; exact vp_in_nI (by omega) (by omega)
  have v2 : vp_in (nI i + 2) (gN g) := by rw [show nI i + 2 = nI (i + 2) from nI_add i 2]; exact vp_in_nI (by omega) (by omega)
  have v3 : vp_in (nI i + 3) (gN g) := by rw [show nI i + 3 = nI (i + 3) from nI_add i 3]; exact vp_in_nI (by omega) (by omega)
  have v4 : vp_in (nI i + 4) (gN g) := by rw [show nI i + 4 = nI (i + 4) from nI_add i 4]; exact vp_in_nI (by omega) (by omega)
  have v5 : vp_in (nI i + 5) (gN g) := by rw [show nI i + 5 = nI (i + 5) from nI_add i 5]; exact vp_in_nI (by omega) (by omega)
  refine eL_law_18 hN.1 (ρ2 := ρ) (ρ55 := ρ) (ρ57 := ρ) (ρ59 := ρ) (ρ61 := ρ) (ρ63 := ρ) (ρ65 := ρ) (ρ67 := ρ) (ρ69 := ρ) (ρ71 := ρ) hN.1 c2 u2 hN.1 c2 u2 hN.1 c2 u2 hN.1 c2 u2 hN.1 c2 u2 hN.1 c2 u2 hN.1 c2 u2 hN.1 c2 u2 hN.1 c2 u2 hN.1 c2 u2 c2 u2 ?_
  rw [if_neg (law_in hi hL), nI_clamp (show i < 2 ^ 31 by omega)]
  refine ⟨vp_in_nI (by omega) (by omega), ?_⟩
  rw [ho, if_neg (by decide), if_neg (by decide), if_neg (by decide), if_neg (by decide), if_neg (by decide), if_neg (by decide), if_neg (by decide), if_neg (by decide), if_neg (by decide), if_neg (by decide), if_neg (by decide), if_neg (by decide), if_neg (by decide), if_neg (by decide), if_neg (by decide), if_neg (by decide), if_neg (by decide), if_neg (by decide), if_neg (by decide), if_neg (by decide), if_neg (by decide), if_neg (by decide), if_neg (by decide), if_neg (by decide), if_neg (by decide), if_neg (by decide), if_pos rfl]
  exact CALLi.mono (two_swaps hA hs) (fun w1 S1 _ q => CALLi.mono q (fun w2 S2 _ q2 => by rw [if_pos q2.1]; exact hn S2 q2.2))
theorem law_n27 {i : Nat} (hA : ∀ k, 16 ≤ k → gF g k) (hL : gN g ≤ 3072) (hi : i + 5 < gN g) (hW : WF b) (hN : NR ρ) (ho : gX g i &&& 63 = 27) : LWs g d i b p ρ := by
  refine ⟨b, prP b p, prQ b p ρ, hN.pr, bud_p hW hN, fun ρ' Q c1 u1 c2 u2 S hs hn => ?_⟩
  have v1 : vp_in (nI i + 1) (gN g) := by rw [show nI i + 1 = nI (i + 1) from nI_add i 1]; exact vp_in_nI (by omega) (by omega)
  have v2 : vp_in (nI i + 2) (gN g) := by rw [show nI i + 2 = nI (i + 2) from nI_add i 2]; exact vp_in_nI (by omega) (by omega)
  have v3 : vp_in (nI i + 3) (gN g) := by rw [show nI i + 3 = nI (i + 3) from nI_add i 3]; exact vp_in_nI (by omega) (by omega)
  have v4 : vp_in (nI i + 4) (gN g) := by rw [show nI i + 4 = nI (i + 4) from nI_add i 4]; exact vp_in_nI (by omega) (by omega)
  have v5 : vp_in (nI i + 5) (gN g) := by rw [show nI i + 5 = nI (i + 5) from nI_add i 5]; exact vp_in_nI (by omega) (by omega)
  refine eL_law_18 hN.1 (ρ2 := ρ) (ρ55 := prQ b p ρ) (ρ57 := ρ) (ρ59 := ρ) (ρ61 := ρ) (ρ63 := ρ) (ρ65 := ρ) (ρ67 := ρ) (ρ69 := ρ) (ρ71 := ρ) hN.1 c2 u2 (hN.pr).1 c1 u1 hN.1 c2 u2 hN.1 c2 u2 hN.1 c2 u2 hN.1 c2 u2 hN.1 c2 u2 hN.1 c2 u2 hN.1 c2 u2 hN.1 c2 u2 c2 u2 ?_
  rw [if_neg (law_in hi hL), nI_clamp (show i < 2 ^ 31 by omega)]
  refine ⟨vp_in_nI (by omega) (by omega), ?_⟩
  rw [ho, if_neg (by decide), if_neg (by decide), if_neg (by decide), if_neg (by decide), if_neg (by decide), if_neg (by decide), if_neg (by decide), if_neg (by decide), if_neg (by decide), if_neg (by decide), if_neg (by decide), if_neg (by decide), if_neg (by decide), if_neg (by decide), if_neg (by decide), if_neg (by decide), if_neg (by decide), if_neg (by decide), if_neg (by decide), if_neg (by decide), if_neg (by decide), if_neg (by decide), if_neg (by decide), if_neg (by decide), if_neg (by decide), if_neg (by decide), if_neg (by decide), if_pos rfl]
  exact CALLi.mono (two_classes hA hs) (fun w1 S1 _ q => CALLi.mono q (fun w2 S2 _ q2 => by rw [if_pos q2.1]; exact hn S2 q2.2))
end LW
