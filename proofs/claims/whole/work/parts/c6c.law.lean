section LW
variable {g : GX} {d : Nat} {ρ : Rs} {b : AS} {p : Bool}
theorem law_n28 {i : Nat} (hA : ∀ k, 16 ≤ k → gF g k) (hL : gN g ≤ 3072) (hi : i + 5 < gN g) (hW : WF b) (hN : NR ρ) (ho : gX g i &&& 63 = 28) : LWs g d i b p ρ := by
  refine ⟨b, prP b p, prQ b p ρ, hN.pr, bud_p hW hN, fun ρ' Q c1 u1 c2 u2 S hs hn => ?_⟩
  have v1 : vp_in (nI i + 1) (gN g) := by rw [show nI i + 1 = nI (i + 1) from nI_add i 1]; exact vp_in_nI (by omega) (by omega)
  have v2 : vp_in (nI i + 2) (gN g) := by rw [show nI i + 2 = nI (i + 2) from nI_add i 2]; exact vp_in_nI (by omega) (by omega)
  have v3 : vp_in (nI i + 3) (gN g) := by rw [show nI i + 3 = nI (i + 3) from nI_add i 3]; exact vp_in_nI (by omega) (by omega)
  have v4 : vp_in (nI i + 4) (gN g) := by rw [show nI i + 4 = nI (i + 4) from nI_add i 4]; exact vp_in_nI (by omega) (by omega)
  have v5 : vp_in (nI i + 5) (gN g) := by rw [show nI i + 5 = nI (i + 5) from nI_add i 5]; exact vp_in_nI (by omega) (by omega)
  refine eL_law_18 hN.1 (ρ2 := ρ) (ρ55 := ρ) (ρ57 := prQ b p ρ) (ρ59 := ρ) (ρ61 := ρ) (ρ63 := ρ) (ρ65 := ρ) (ρ67 := ρ) (ρ69 := ρ) (ρ71 := ρ) hN.1 c2 u2 hN.1 c2 u2 (hN.pr).1 c1 u1 hN.1 c2 u2 hN.1 c2 u2 hN.1 c2 u2 hN.1 c2 u2 hN.1 c2 u2 hN.1 c2 u2 hN.1 c2 u2 c2 u2 ?_
  rw [if_neg (law_in hi hL), nI_clamp (show i < 2 ^ 31 by omega)]
  refine ⟨vp_in_nI (by omega) (by omega), ?_⟩
  rw [ho, if_neg (by decide), if_neg (by decide), if_neg (by decide), if_neg (by decide), if_neg (by decide), if_neg (by decide), if_neg (by decide), if_neg (by decide), if_neg (by decide), if_neg (by decide), if_neg (by decide), if_neg (by decide), if_neg (by decide), if_neg (by decide), if_neg (by decide), if_neg (by decide), if_neg (by decide), if_neg (by decide), if_neg (by decide), if_neg (by decide), if_neg (by decide), if_neg (by decide), if_neg (by decide), if_neg (by decide), if_neg (by decide), if_neg (by decide), if_neg (by decide), if_neg (by decide), if_pos rfl]
  exact CALLi.mono (two_joined hA hs) (fun w1 S1 _ q => CALLi.mono q (fun w2 S2 _ q2 => by rw [if_pos q2.1]; exact hn S2 q2.2))
theorem law_n29 {i : Nat} (hA : ∀ k, 16 ≤ k → gF g k) (hL : gN g ≤ 3072) (hi : i + 5 < gN g) (hW : WF b) (hN : NR ρ) (ho : gX g i &&& 63 = 29) : LWs g d i b p ρ := by
  refine ⟨b, prP b p, prQ b p ρ, hN.pr, bud_p hW hN, fun ρ' Q c1 u1 c2 u2 S hs hn => ?_⟩
  have v1 : vp_in (nI i + 1) (gN g) := by rw [show nI i + 1 = nI (i + 1) from nI_add i 1]; exact vp_in_nI (by omega) (by omega)
  have v2 : vp_in (nI i + 2) (gN g) := by rw [show nI i + 2 = nI (i + 2) from nI_add i 2]; exact vp_in_nI (by omega) (by omega)
  have v3 : vp_in (nI i + 3) (gN g) := by rw [show nI i + 3 = nI (i + 3) from nI_add i 3]; exact vp_in_nI (by omega) (by omega)
  have v4 : vp_in (nI i + 4) (gN g) := by rw [show nI i + 4 = nI (i + 4) from nI_add i 4]; exact vp_in_nI (by omega) (by omega)
  have v5 : vp_in (nI i + 5) (gN g) := by rw [show nI i + 5 = nI (i + 5) from nI_add i 5]; exact vp_in_nI (by omega) (by omega)
  refine eL_law_18 hN.1 (ρ2 := ρ) (ρ55 := ρ) (ρ57 := ρ) (ρ59 := prQ b p ρ) (ρ61 := ρ) (ρ63 := ρ) (ρ65 := ρ) (ρ67 := ρ) (ρ69 := ρ) (ρ71 := ρ) hN.1 c2 u2 hN.1 c2 u2 hN.1 c2 u2 (hN.pr).1 c1 u1 hN.1 c2 u2 hN.1 c2 u2 hN.1 c2 u2 hN.1 c2 u2 hN.1 c2 u2 hN.1 c2 u2 c2 u2 ?_
  rw [if_neg (law_in hi hL), nI_clamp (show i < 2 ^ 31 by omega)]
  refine ⟨vp_in_nI (by omega) (by omega), ?_⟩
  rw [ho, if_neg (by decide), if_neg (by decide), if_neg (by decide), if_neg (by decide), if_neg (by decide), if_neg (by decide), if_neg (by decide), if_neg (by decide), if_neg (by decide), if_neg (by decide), if_neg (by decide), if_neg (by decide), if_neg (by decide), if_neg (by decide), if_neg (by decide), if_neg (by decide), if_neg (by decide), if_neg (by decide), if_neg (by decide), if_neg (by decide), if_neg (by decide), if_neg (by decide), if_neg (by decide), if_neg (by decide), if_neg (by decide), if_neg (by decide), if_neg (by decide), if_neg (by decide), if_neg (by decide), if_pos rfl]
  exact ⟨v1, CALLi.mono (two_classOf hA hs) (fun w1 S1 _ q => ⟨v1, CALLi.mono q (fun w2 S2 _ q2 => by rw [if_pos q2.1]; exact hn S2 q2.2)⟩)⟩
theorem law_n30 {i : Nat} (hA : ∀ k, 16 ≤ k → gF g k) (hL : gN g ≤ 3072) (hi : i + 5 < gN g) (hW : WF b) (hN : NR ρ) (ho : gX g i &&& 63 = 30) : LWs g d i b p ρ := by
  refine ⟨b, prP b p, prQ b p ρ, hN.pr, bud_p hW hN, fun ρ' Q c1 u1 c2 u2 S hs hn => ?_⟩
  have v1 : vp_in (nI i + 1) (gN g) := by rw [show nI i + 1 = nI (i + 1) from nI_add i 1]; exact vp_in_nI (by omega) (by omega)
  have v2 : vp_in (nI i + 2) (gN g) := by rw [show nI i + 2 = nI (i + 2) from nI_add i 2]; exact vp_in_nI (by omega) (by omega)
  have v3 : vp_in (nI i + 3) (gN g) := by rw [show nI i + 3 = nI (i + 3) from nI_add i 3]; exact vp_in_nI (by omega) (by omega)
  have v4 : vp_in (nI i + 4) (gN g) := by rw [show nI i + 4 = nI (i + 4) from nI_add i 4]; exact vp_in_nI (by omega) (by omega)
  have v5 : vp_in (nI i + 5) (gN g) := by rw [show nI i + 5 = nI (i + 5) from nI_add i 5]; exact vp_in_nI (by omega) (by omega)
  refine eL_law_18 hN.1 (ρ2 := ρ) (ρ55 := ρ) (ρ57 := ρ) (ρ59 := ρ) (ρ61 := prQ b p ρ) (ρ63 := ρ) (ρ65 := ρ) (ρ67 := ρ) (ρ69 := ρ) (ρ71 := ρ) hN.1 c2 u2 hN.1 c2 u2 hN.1 c2 u2 hN.1 c2 u2 (hN.pr).1 c1 u1 hN.1 c2 u2 hN.1 c2 u2 hN.1 c2 u2 hN.1 c2 u2 hN.1 c2 u2 c2 u2 ?_
  rw [if_neg (law_in hi hL), nI_clamp (show i < 2 ^ 31 by omega)]
  refine ⟨vp_in_nI (by omega) (by omega), ?_⟩
  rw [ho, if_neg (by decide), if_neg (by decide), if_neg (by decide), if_neg (by decide), if_neg (by decide), if_neg (by decide), if_neg (by decide), if_neg (by decide), if_neg (by decide), if_neg (by decide), if_neg (by decide), if_neg (by decide), if_neg (by decide), if_neg (by decide), if_neg (by decide), if_neg (by decide), if_neg (by decide), if_neg (by decide), if_neg (by decide), if_neg (by decide), if_neg (by decide), if_neg (by decide), if_neg (by decide), if_neg (by decide), if_neg (by decide), if_neg (by decide), if_neg (by decide), if_neg (by decide), if_neg (by decide), if_neg (by decide), if_pos rfl]
  exact ⟨v1, CALLi.mono (two_sized hA hs) (fun w1 S1 _ q => ⟨v1, CALLi.mono q (fun w2 S2 _ q2 => by rw [if_pos q2.1]; exact hn S2 q2.2)⟩)⟩
theorem law_n31 {i : Nat} (hA : ∀ k, 16 ≤ k → gF g k) (hL : gN g ≤ 3072) (hi : i + 5 < gN g) (hW : WF b) (hN : NR ρ) (ho : gX g i &&& 63 = 31) : LWs g d i b p ρ := by
  refine ⟨b, prP b p, prQ b p ρ, hN.pr, bud_p hW hN, fun ρ' Q c1 u1 c2 u2 S hs hn => ?_⟩
  have v1 : vp_in (nI i + 1) (gN g) := by rw [show nI i + 1 = nI (i + 1) from nI_add i 1]; exact vp_in_nI (by omega) (by omega)
  have v2 : vp_in (nI i + 2) (gN g) := by rw [show nI i + 2 = nI (i + 2) from nI_add i 2]; exact vp_in_nI (by omega) (by omega)
  have v3 : vp_in (nI i + 3) (gN g) := by rw [show nI i + 3 = nI (i + 3) from nI_add i 3]; exact vp_in_nI (by omega) (by omega)
  have v4 : vp_in (nI i + 4) (gN g) := by rw [show nI i + 4 = nI (i + 4) from nI_add i 4]; exact vp_in_nI (by omega) (by omega)
  have v5 : vp_in (nI i + 5) (gN g) := by rw [show nI i + 5 = nI (i + 5) from nI_add i 5]; exact vp_in_nI (by omega) (by omega)
  refine eL_law_18 hN.1 (ρ2 := ρ) (ρ55 := ρ) (ρ57 := ρ) (ρ59 := ρ) (ρ61 := ρ) (ρ63 := prQ b p ρ) (ρ65 := ρ) (ρ67 := ρ) (ρ69 := ρ) (ρ71 := ρ) hN.1 c2 u2 hN.1 c2 u2 hN.1 c2 u2 hN.1 c2 u2 hN.1 c2 u2 (hN.pr).1 c1 u1 hN.1 c2 u2 hN.1 c2 u2 hN.1 c2 u2 hN.1 c2 u2 c2 u2 ?_
  rw [if_neg (law_in hi hL), nI_clamp (show i < 2 ^ 31 by omega)]
  refine ⟨vp_in_nI (by omega) (by omega), ?_⟩
  rw [ho, if_neg (by decide), if_neg (by decide), if_neg (by decide), if_neg (by decide), if_neg (by decide), if_neg (by decide), if_neg (by decide), if_neg (by decide), if_neg (by decide), if_neg (by decide), if_neg (by decide), if_neg (by decide), if_neg (by decide), if_neg (by decide), if_neg (by decide), if_neg (by decide), if_neg (by decide), if_neg (by decide), if_neg (by decide), if_neg (by decide), if_neg (by decide), if_neg (by decide), if_neg (by decide), if_neg (by decide), if_neg (by decide), if_neg (by decide), if_neg (by decide), if_neg (by decide), if_neg (by decide), if_neg (by decide), if_neg (by decide), if_pos rfl]
  exact ⟨v1, v2, CALLi.mono (two_apart hA hs) (fun w1 S1 _ q => ⟨v1, v2, CALLi.mono q (fun w2 S2 _ q2 => by rw [if_pos q2.1]; exact hn S2 q2.2)⟩)⟩
theorem law_n32 {i : Nat} (hA : ∀ k, 16 ≤ k → gF g k) (hL : gN g ≤ 3072) (hi : i + 5 < gN g) (hW : WF b) (hN : NR ρ) (ho : gX g i &&& 63 = 32) : LWs g d i b p ρ := by
  refine ⟨b, prP b p, prQ b p ρ, hN.pr, bud_p hW hN, fun ρ' Q c1 u1 c2 u2 S hs hn => ?_⟩
  have v1 : vp_in (nI i + 1) (gN g) := by rw [show nI i + 1 = nI (i + 1) from nI_add i 1]; exact vp_in_nI (by omega) (by omega)
  have v2 : vp_in (nI i + 2) (gN g) := by rw [show nI i + 2 = nI (i + 2) from nI_add i 2]; exact vp_in_nI (by omega) (by omega)
  have v3 : vp_in (nI i + 3) (gN g) := by rw [show nI i + 3 = nI (i + 3) from nI_add i 3]; exact vp_in_nI (by omega) (by omega)
  have v4 : vp_in (nI i + 4) (gN g) := by rw [show nI i + 4 = nI (i + 4) from nI_add i 4]; exact vp_in_nI (by omega) (by omega)
  have v5 : vp_in (nI i + 5) (gN g) := by rw [show nI i + 5 = nI (i + 5) from nI_add i 5]; exact vp_in_nI (by omega) (by omega)
  refine eL_law_18 hN.1 (ρ2 := ρ) (ρ55 := ρ) (ρ57 := ρ) (ρ59 := ρ) (ρ61 := ρ) (ρ63 := ρ) (ρ65 := prQ b p ρ) (ρ67 := ρ) (ρ69 := ρ) (ρ71 := ρ) hN.1 c2 u2 hN.1 c2 u2 hN.1 c2 u2 hN.1 c2 u2 hN.1 c2 u2 hN.1 c2 u2 (hN.pr).1 c1 u1 hN.1 c2 u2 hN.1 c2 u2 hN.1 c2 u2 c2 u2 ?_
  rw [if_neg (law_in hi hL), nI_clamp (show i < 2 ^ 31 by omega)]
  refine ⟨vp_in_nI (by omega) (by omega), ?_⟩
  rw [ho, if_neg (by decide), if_neg (by decide), if_neg (by decide), if_neg (by decide), if_neg (by decide), if_neg (by decide), if_neg (by decide), if_neg (by decide), if_neg (by decide), if_neg (by decide), if_neg (by decide), if_neg (by decide), if_neg (by decide), if_neg (by decide), if_neg (by decide), if_neg (by decide), if_neg (by decide), if_neg (by decide), if_neg (by decide), if_neg (by decide), if_neg (by decide), if_neg (by decide), if_neg (by decide), if_neg (by decide), if_neg (by decide), if_neg (by decide), if_neg (by decide), if_neg (by decide), if_neg (by decide), if_neg (by decide), if_neg (by decide), if_neg (by decide), if_pos rfl]
  exact CALLi.mono (two_far hA hs) (fun w1 S1 _ q => CALLi.mono q (fun w2 S2 _ q2 => by rw [if_pos q2.1]; exact hn S2 q2.2))
theorem law_n33 {i : Nat} (hA : ∀ k, 16 ≤ k → gF g k) (hL : gN g ≤ 3072) (hi : i + 5 < gN g) (hW : WF b) (hN : NR ρ) (ho : gX g i &&& 63 = 33) : LWs g d i b p ρ := by
  refine ⟨b, prP b p, prQ b p ρ, hN.pr, bud_p hW hN, fun ρ' Q c1 u1 c2 u2 S hs hn => ?_⟩
  have v1 : vp_in (nI i + 1) (gN g) := by rw [show nI i + 1 = nI (i + 1) from nI_add i 1]; exact vp_in_nI (by omega) (by omega)
  have v2 : vp_in (nI i + 2) (gN g) := by rw [show nI i + 2 = nI (i + 2) from nI_add i 2]; exact vp_in_nI (by omega) (by omega)
  have v3 : vp_in (nI i + 3) (gN g) := by rw [show nI i + 3 = nI (i + 3) from nI_add i 3]; exact vp_in_nI (by omega) (by omega)
  have v4 : vp_in (nI i + 4) (gN g) := by rw [show nI i + 4 = nI (i + 4) from nI_add i 4]; exact vp_in_nI (by omega) (by omega)
  have v5 : vp_in (nI i + 5) (gN g) := by rw [show nI i + 5 = nI (i + 5) from nI_add i 5]; exact vp_in_nI (by omega) (by omega)
  refine eL_law_18 hN.1 (ρ2 := ρ) (ρ55 := ρ) (ρ57 := ρ) (ρ59 := ρ) (ρ61 := ρ) (ρ63 := ρ) (ρ65 := ρ) (ρ67 := prQ b p ρ) (ρ69 := ρ) (ρ71 := ρ) hN.1 c2 u2 hN.1 c2 u2 hN.1 c2 u2 hN.1 c2 u2 hN.1 c2 u2 hN.1 c2 u2 hN.1 c2 u2 (hN.pr).1 c1 u1 hN.1 c2 u2 hN.1 c2 u2 c2 u2 ?_
  rw [if_neg (law_in hi hL), nI_clamp (show i < 2 ^ 31 by omega)]
  refine ⟨vp_in_nI (by omega) (by omega), ?_⟩
  rw [ho, if_neg (by decide), if_neg (by decide), if_neg (by decide), if_neg (by decide), if_neg (by decide), if_neg (by decide), if_neg (by decide), if_neg (by decide), if_neg (by decide), if_neg (by decide), if_neg (by decide), if_neg (by decide), if_neg (by decide), if_neg (by decide), if_neg (by decide), if_neg (by decide), if_neg (by decide), if_neg (by decide), if_neg (by decide), if_neg (by decide), if_neg (by decide), if_neg (by decide), if_neg (by decide), if_neg (by decide), if_neg (by decide), if_neg (by decide), if_neg (by decide), if_neg (by decide), if_neg (by decide), if_neg (by decide), if_neg (by decide), if_neg (by decide), if_neg (by decide), if_pos rfl]
  exact CALLi.mono (two_farthest hA hs) (fun w1 S1 _ q => CALLi.mono q (fun w2 S2 _ q2 => by rw [if_pos q2.1]; exact hn S2 q2.2))
theorem law_n34 {i : Nat} (hA : ∀ k, 16 ≤ k → gF g k) (hL : gN g ≤ 3072) (hi : i + 5 < gN g) (hW : WF b) (hN : NR ρ) (ho : gX g i &&& 63 = 34) : LWs g d i b p ρ := by
  refine ⟨b, witP b p (gX g (nI i + 1).toNatClampNeg), witQ b p (gX g (nI i + 1).toNatClampNeg) ρ, hN.wit, bud_w hW hN, fun ρ' Q c1 u1 c2 u2 S hs hn => ?_⟩
  have v1 : vp_in (nI i + 1) (gN g) := by rw [show nI i + 1 = nI (i + 1) from nI_add i 1]; exact vp_in_nI (by omega) (by omega)
  have v2 : vp_in (nI i + 2) (gN g) := by rw [show nI i + 2 = nI (i + 2) from nI_add i 2]; exact vp_in_nI (by omega) (by omega)
  have v3 : vp_in (nI i + 3) (gN g) := by rw [show nI i + 3 = nI (i + 3) from nI_add i 3]; exact vp_in_nI (by omega) (by omega)
  have v4 : vp_in (nI i + 4) (gN g) := by rw [show nI i + 4 = nI (i + 4) from nI_add i 4]; exact vp_in_nI (by omega) (by omega)
  have v5 : vp_in (nI i + 5) (gN g) := by rw [show nI i + 5 = nI (i + 5) from nI_add i 5]; exact vp_in_nI (by omega) (by omega)
  refine eL_law_18 hN.1 (ρ2 := ρ) (ρ55 := ρ) (ρ57 := ρ) (ρ59 := ρ) (ρ61 := ρ) (ρ63 := ρ) (ρ65 := ρ) (ρ67 := ρ) (ρ69 := witQ b p (gX g (nI i + 1).toNatClampNeg) ρ) (ρ71 := ρ) hN.1 c2 u2 hN.1 c2 u2 hN.1 c2 u2 hN.1 c2 u2 hN.1 c2 u2 hN.1 c2 u2 hN.1 c2 u2 hN.1 c2 u2 (hN.wit).1 c1 u1 hN.1 c2 u2 c2 u2 ?_
  rw [if_neg (law_in hi hL), nI_clamp (show i < 2 ^ 31 by omega)]
  refine ⟨vp_in_nI (by omega) (by omega), ?_⟩
  rw [ho, if_neg (by decide), if_neg (by decide), if_neg (by decide), if_neg (by decide), if_neg (by decide), if_neg (by decide), if_neg (by decide), if_neg (by decide), if_neg (by decide), if_neg (by decide), if_neg (by decide), if_neg (by decide), if_neg (by decide), if_neg (by decide), if_neg (by decide), if_neg (by decide), if_neg (by decide), if_neg (by decide), if_neg (by decide), if_neg (by decide), if_neg (by decide), if_neg (by decide), if_neg (by decide), if_neg (by decide), if_neg (by decide), if_neg (by decide), if_neg (by decide), if_neg (by decide), if_neg (by decide), if_neg (by decide), if_neg (by decide), if_neg (by decide), if_neg (by decide), if_neg (by decide), if_pos rfl]
  exact ⟨v1, CALLi.mono (two_within hA hs) (fun w1 S1 _ q => ⟨v1, CALLi.mono q (fun w2 S2 _ q2 => by rw [if_pos q2.1]; exact hn S2 q2.2)⟩)⟩
theorem law_n35 {i : Nat} (hA : ∀ k, 16 ≤ k → gF g k) (hL : gN g ≤ 3072) (hi : i + 5 < gN g) (hW : WF b) (hN : NR ρ) (ho : gX g i &&& 63 = 35) : LWs g d i b p ρ := by
  refine ⟨b, wayP b p (gX g (nI i + 1).toNatClampNeg), wayQ b p (gX g (nI i + 1).toNatClampNeg) (gX g (nI i + 2).toNatClampNeg) ρ, hN.way, bud_y hW hN, fun ρ' Q c1 u1 c2 u2 S hs hn => ?_⟩
  have v1 : vp_in (nI i + 1) (gN g) := by rw [show nI i + 1 = nI (i + 1) from nI_add i 1]; exact vp_in_nI (by omega) (by omega)
  have v2 : vp_in (nI i + 2) (gN g) := by rw [show nI i + 2 = nI (i + 2) from nI_add i 2]; exact vp_in_nI (by omega) (by omega)
  have v3 : vp_in (nI i + 3) (gN g) := by rw [show nI i + 3 = nI (i + 3) from nI_add i 3]; exact vp_in_nI (by omega) (by omega)
  have v4 : vp_in (nI i + 4) (gN g) := by rw [show nI i + 4 = nI (i + 4) from nI_add i 4]; exact vp_in_nI (by omega) (by omega)
  have v5 : vp_in (nI i + 5) (gN g) := by rw [show nI i + 5 = nI (i + 5) from nI_add i 5]; exact vp_in_nI (by omega) (by omega)
  refine eL_law_18 hN.1 (ρ2 := ρ) (ρ55 := ρ) (ρ57 := ρ) (ρ59 := ρ) (ρ61 := ρ) (ρ63 := ρ) (ρ65 := ρ) (ρ67 := ρ) (ρ69 := ρ) (ρ71 := wayQ b p (gX g (nI i + 1).toNatClampNeg) (gX g (nI i + 2).toNatClampNeg) ρ) hN.1 c2 u2 hN.1 c2 u2 hN.1 c2 u2 hN.1 c2 u2 hN.1 c2 u2 hN.1 c2 u2 hN.1 c2 u2 hN.1 c2 u2 hN.1 c2 u2 (hN.way).1 c1 u1 c2 u2 ?_
  rw [if_neg (law_in hi hL), nI_clamp (show i < 2 ^ 31 by omega)]
  refine ⟨vp_in_nI (by omega) (by omega), ?_⟩
  rw [ho, if_neg (by decide), if_neg (by decide), if_neg (by decide), if_neg (by decide), if_neg (by decide), if_neg (by decide), if_neg (by decide), if_neg (by decide), if_neg (by decide), if_neg (by decide), if_neg (by decide), if_neg (by decide), if_neg (by decide), if_neg (by decide), if_neg (by decide), if_neg (by decide), if_neg (by decide), if_neg (by decide), if_neg (by decide), if_neg (by decide), if_neg (by decide), if_neg (by decide), if_neg (by decide), if_neg (by decide), if_neg (by decide), if_neg (by decide), if_neg (by decide), if_neg (by decide), if_neg (by decide), if_neg (by decide), if_neg (by decide), if_neg (by decide), if_neg (by decide), if_neg (by decide), if_neg (by decide), if_pos rfl]
  exact ⟨v1, v2, CALLl.mono (two_ways hA hs) (fun w1 S1 _ q => ⟨v1, v2, CALLl.mono q (fun w2 S2 _ q2 => by rw [if_pos q2.1]; exact hn S2 q2.2)⟩)⟩
theorem law_n36 {i : Nat} (hA : ∀ k, 16 ≤ k → gF g k) (hL : gN g ≤ 3072) (hi : i + 5 < gN g) (hW : WF b) (hN : NR ρ) (ho : gX g i &&& 63 = 36) : LWs g d i b p ρ := by
  refine ⟨b, p, ρ, hN, bud_0 ρ, fun ρ' Q c1 u1 c2 u2 S hs hn => ?_⟩
  have v1 : vp_in (nI i + 1) (gN g) := by rw [show nI i + 1 = nI (i + 1) from nI_add i 1]; exact vp_in_nI (by omega) (by omega)
  have v2 : vp_in (nI i + 2) (gN g) := by rw [show nI i + 2 = nI (i + 2) from nI_add i 2]; exact vp_in_nI (by omega) (by omega)
  have v3 : vp_in (nI i + 3) (gN g) := by rw [show nI i + 3 = nI (i + 3) from nI_add i 3]; exact vp_in_nI (by omega) (by omega)
  have v4 : vp_in (nI i + 4) (gN g) := by rw [show nI i + 4 = nI (i + 4) from nI_add i 4]; exact vp_in_nI (by omega) (by omega)
  have v5 : vp_in (nI i + 5) (gN g) := by rw [show nI i + 5 = nI (i + 5) from nI_add i 5]; exact vp_in_nI (by omega) (by omega)
  refine eL_law_18 hN.1 (ρ2 := ρ) (ρ55 := ρ) (ρ57 := ρ) (ρ59 := ρ) (ρ61 := ρ) (ρ63 := ρ) (ρ65 := ρ) (ρ67 := ρ) (ρ69 := ρ) (ρ71 := ρ) hN.1 c2 u2 hN.1 c2 u2 hN.1 c2 u2 hN.1 c2 u2 hN.1 c2 u2 hN.1 c2 u2 hN.1 c2 u2 hN.1 c2 u2 hN.1 c2 u2 hN.1 c2 u2 c2 u2 ?_
  rw [if_neg (law_in hi hL), nI_clamp (show i < 2 ^ 31 by omega)]
  refine ⟨vp_in_nI (by omega) (by omega), ?_⟩
  rw [ho, if_neg (by decide), if_neg (by decide), if_neg (by decide), if_neg (by decide), if_neg (by decide), if_neg (by decide), if_neg (by decide), if_neg (by decide), if_neg (by decide), if_neg (by decide), if_neg (by decide), if_neg (by decide), if_neg (by decide), if_neg (by decide), if_neg (by decide), if_neg (by decide), if_neg (by decide), if_neg (by decide), if_neg (by decide), if_neg (by decide), if_neg (by decide), if_neg (by decide), if_neg (by decide), if_neg (by decide), if_neg (by decide), if_neg (by decide), if_neg (by decide), if_neg (by decide), if_neg (by decide), if_neg (by decide), if_neg (by decide), if_neg (by decide), if_neg (by decide), if_neg (by decide), if_neg (by decide), if_neg (by decide), if_pos rfl]
  exact ⟨v1, CALLl.mono (two_drawn hA hs) (fun w1 S1 _ q => ⟨v1, CALLl.mono q (fun w2 S2 _ q2 => by rw [if_pos q2.1]; exact hn S2 q2.2)⟩)⟩
theorem law_n37 {i : Nat} (hA : ∀ k, 16 ≤ k → gF g k) (hL : gN g ≤ 3072) (hi : i + 5 < gN g) (hW : WF b) (hN : NR ρ) (ho : gX g i &&& 63 = 37) : LWs g d i b p ρ := by
  refine ⟨b, p, ρ, hN, bud_0 ρ, fun ρ' Q c1 u1 c2 u2 S hs hn => ?_⟩
  have v1 : vp_in (nI i + 1) (gN g) := by rw [show nI i + 1 = nI (i + 1) from nI_add i 1]; exact vp_in_nI (by omega) (by omega)
  have v2 : vp_in (nI i + 2) (gN g) := by rw [show nI i + 2 = nI (i + 2) from nI_add i 2]; exact vp_in_nI (by omega) (by omega)
  have v3 : vp_in (nI i + 3) (gN g) := by rw [show nI i + 3 = nI (i + 3) from nI_add i 3]; exact vp_in_nI (by omega) (by omega)
  have v4 : vp_in (nI i + 4) (gN g) := by rw [show nI i + 4 = nI (i + 4) from nI_add i 4]; exact vp_in_nI (by omega) (by omega)
  have v5 : vp_in (nI i + 5) (gN g) := by rw [show nI i + 5 = nI (i + 5) from nI_add i 5]; exact vp_in_nI (by omega) (by omega)
  refine eL_law_18 hN.1 (ρ2 := ρ) (ρ55 := ρ) (ρ57 := ρ) (ρ59 := ρ) (ρ61 := ρ) (ρ63 := ρ) (ρ65 := ρ) (ρ67 := ρ) (ρ69 := ρ) (ρ71 := ρ) hN.1 c2 u2 hN.1 c2 u2 hN.1 c2 u2 hN.1 c2 u2 hN.1 c2 u2 hN.1 c2 u2 hN.1 c2 u2 hN.1 c2 u2 hN.1 c2 u2 hN.1 c2 u2 c2 u2 ?_
  rw [if_neg (law_in hi hL), nI_clamp (show i < 2 ^ 31 by omega)]
  refine ⟨vp_in_nI (by omega) (by omega), ?_⟩
  rw [ho, if_neg (by decide), if_neg (by decide), if_neg (by decide), if_neg (by decide), if_neg (by decide), if_neg (by decide), if_neg (by decide), if_neg (by decide), if_neg (by decide), if_neg (by decide), if_neg (by decide), if_neg (by decide), if_neg (by decide), if_neg (by decide), if_neg (by decide), if_neg (by decide), if_neg (by decide), if_neg (by decide), if_neg (by decide), if_neg (by decide), if_neg (by decide), if_neg (by decide), if_neg (by decide), if_neg (by decide), if_neg (by decide), if_neg (by decide), if_neg (by decide), if_neg (by decide), if_neg (by decide), if_neg (by decide), if_neg (by decide), if_neg (by decide), if_neg (by decide), if_neg (by decide), if_neg (by decide), if_neg (by decide), if_neg (by decide), if_pos rfl]
  exact CALLi.mono (two_evenly hA hs) (fun w1 S1 _ q => CALLi.mono q (fun w2 S2 _ q2 => by rw [if_pos q2.1]; exact hn S2 q2.2))
theorem law_n38 {i : Nat} (hA : ∀ k, 16 ≤ k → gF g k) (hL : gN g ≤ 3072) (hi : i + 5 < gN g) (hW : WF b) (hN : NR ρ) (ho : gX g i &&& 63 = 38) : LWs g d i b p ρ := by
  obtain ⟨b', two⟩ := two_swap (d := d) (b := b) (p := p) (ρ := ρ) (x1 := gX g (nI i + 1).toNatClampNeg) (x2 := gX g (nI i + 2).toNatClampNeg) (x3 := gX g (nI i + 3).toNatClampNeg) (x4 := gX g (nI i + 4).toNatClampNeg) hA
  refine ⟨b', p, ρ, hN, bud_0 ρ, fun ρ' Q c1 u1 c2 u2 S hs hn => ?_⟩
  have v1 : vp_in (nI i + 1) (gN g) := by rw [show nI i + 1 = nI (i + 1) from nI_add i 1]; exact vp_in_nI (by omega) (by omega)
  have v2 : vp_in (nI i + 2) (gN g) := by rw [show nI i + 2 = nI (i + 2) from nI_add i 2]; exact vp_in_nI (by omega) (by omega)
  have v3 : vp_in (nI i + 3) (gN g) := by rw [show nI i + 3 = nI (i + 3) from nI_add i 3]; exact vp_in_nI (by omega) (by omega)
  have v4 : vp_in (nI i + 4) (gN g) := by rw [show nI i + 4 = nI (i + 4) from nI_add i 4]; exact vp_in_nI (by omega) (by omega)
  have v5 : vp_in (nI i + 5) (gN g) := by rw [show nI i + 5 = nI (i + 5) from nI_add i 5]; exact vp_in_nI (by omega) (by omega)
  refine eL_law_18 hN.1 (ρ2 := ρ) (ρ55 := ρ) (ρ57 := ρ) (ρ59 := ρ) (ρ61 := ρ) (ρ63 := ρ) (ρ65 := ρ) (ρ67 := ρ) (ρ69 := ρ) (ρ71 := ρ) hN.1 c2 u2 hN.1 c2 u2 hN.1 c2 u2 hN.1 c2 u2 hN.1 c2 u2 hN.1 c2 u2 hN.1 c2 u2 hN.1 c2 u2 hN.1 c2 u2 hN.1 c2 u2 c2 u2 ?_
  rw [if_neg (law_in hi hL), nI_clamp (show i < 2 ^ 31 by omega)]
  refine ⟨vp_in_nI (by omega) (by omega), ?_⟩
  rw [ho, if_neg (by decide), if_neg (by decide), if_neg (by decide), if_neg (by decide), if_neg (by decide), if_neg (by decide), if_neg (by decide), if_neg (by decide), if_neg (by decide), if_neg (by decide), if_neg (by decide), if_neg (by decide), if_neg (by decide), if_neg (by decide), if_neg (by decide), if_neg (by decide), if_neg (by decide), if_neg (by decide), if_neg (by decide), if_neg (by decide), if_neg (by decide), if_neg (by decide), if_neg (by decide), if_neg (by decide), if_neg (by decide), if_neg (by decide), if_neg (by decide), if_neg (by decide), if_neg (by decide), if_neg (by decide), if_neg (by decide), if_neg (by decide), if_neg (by decide), if_neg (by decide), if_neg (by decide), if_neg (by decide), if_neg (by decide), if_neg (by decide), if_pos rfl]
  exact ⟨v1, v2, v3, v4, CALLi.mono (two S hs) (fun w1 S1 _ q => ⟨v1, v2, v3, v4, CALLi.mono q (fun w2 S2 _ q2 => by rw [if_pos q2.1]; exact hn S2 q2.2)⟩)⟩
theorem law_n39 {i : Nat} (hA : ∀ k, 16 ≤ k → gF g k) (hL : gN g ≤ 3072) (hi : i + 5 < gN g) (hW : WF b) (hN : NR ρ) (ho : gX g i &&& 63 = 39) : LWs g d i b p ρ := by
  obtain ⟨b', two⟩ := two_walk (d := d) (b := b) (p := p) (ρ := ρ) (x1 := gX g (nI i + 1).toNatClampNeg) (x2 := gX g (nI i + 2).toNatClampNeg) hA
  refine ⟨b', p, ρ, hN, bud_0 ρ, fun ρ' Q c1 u1 c2 u2 S hs hn => ?_⟩
  have v1 : vp_in (nI i + 1) (gN g) := by rw [show nI i + 1 = nI (i + 1) from nI_add i 1]; exact vp_in_nI (by omega) (by omega)
  have v2 : vp_in (nI i + 2) (gN g) := by rw [show nI i + 2 = nI (i + 2) from nI_add i 2]; exact vp_in_nI (by omega) (by omega)
  have v3 : vp_in (nI i + 3) (gN g) := by rw [show nI i + 3 = nI (i + 3) from nI_add i 3]; exact vp_in_nI (by omega) (by omega)
  have v4 : vp_in (nI i + 4) (gN g) := by rw [show nI i + 4 = nI (i + 4) from nI_add i 4]; exact vp_in_nI (by omega) (by omega)
  have v5 : vp_in (nI i + 5) (gN g) := by rw [show nI i + 5 = nI (i + 5) from nI_add i 5]; exact vp_in_nI (by omega) (by omega)
  refine eL_law_18 hN.1 (ρ2 := ρ) (ρ55 := ρ) (ρ57 := ρ) (ρ59 := ρ) (ρ61 := ρ) (ρ63 := ρ) (ρ65 := ρ) (ρ67 := ρ) (ρ69 := ρ) (ρ71 := ρ) hN.1 c2 u2 hN.1 c2 u2 hN.1 c2 u2 hN.1 c2 u2 hN.1 c2 u2 hN.1 c2 u2 hN.1 c2 u2 hN.1 c2 u2 hN.1 c2 u2 hN.1 c2 u2 c2 u2 ?_
  rw [if_neg (law_in hi hL), nI_clamp (show i < 2 ^ 31 by omega)]
  refine ⟨vp_in_nI (by omega) (by omega), ?_⟩
  rw [ho, if_neg (by decide), if_neg (by decide), if_neg (by decide), if_neg (by decide), if_neg (by decide), if_neg (by decide), if_neg (by decide), if_neg (by decide), if_neg (by decide), if_neg (by decide), if_neg (by decide), if_neg (by decide), if_neg (by decide), if_neg (by decide), if_neg (by decide), if_neg (by decide), if_neg (by decide), if_neg (by decide), if_neg (by decide), if_neg (by decide), if_neg (by decide), if_neg (by decide), if_neg (by decide), if_neg (by decide), if_neg (by decide), if_neg (by decide), if_neg (by decide), if_neg (by decide), if_neg (by decide), if_neg (by decide), if_neg (by decide), if_neg (by decide), if_neg (by decide), if_neg (by decide), if_neg (by decide), if_neg (by decide), if_neg (by decide), if_neg (by decide), if_neg (by decide), if_pos rfl]
  exact ⟨v1, v2, CALLi.mono (two S hs) (fun w1 S1 _ q => ⟨v1, v2, CALLi.mono q (fun w2 S2 _ q2 => by rw [if_pos q2.1]; exact hn S2 q2.2)⟩)⟩
theorem law_n40 {i : Nat} (hA : ∀ k, 16 ≤ k → gF g k) (hL : gN g ≤ 3072) (hi : i + 5 < gN g) (hW : WF b) (hN : NR ρ) (ho : gX g i &&& 63 = 40) : LWs g d i b p ρ := by
  obtain ⟨b', two⟩ := two_undo (d := d) (b := b) (p := p) (ρ := ρ) hA
  refine ⟨b', p, ρ, hN, bud_0 ρ, fun ρ' Q c1 u1 c2 u2 S hs hn => ?_⟩
  have v1 : vp_in (nI i + 1) (gN g) := by rw [show nI i + 1 = nI (i + 1) from nI_add i 1]; exact vp_in_nI (by omega) (by omega)
  have v2 : vp_in (nI i + 2) (gN g) := by rw [show nI i + 2 = nI (i + 2) from nI_add i 2]; exact vp_in_nI (by omega) (by omega)
  have v3 : vp_in (nI i + 3) (gN g) := by rw [show nI i + 3 = nI (i + 3) from nI_add i 3]; exact vp_in_nI (by omega) (by omega)
  have v4 : vp_in (nI i + 4) (gN g) := by rw [show nI i + 4 = nI (i + 4) from nI_add i 4]; exact vp_in_nI (by omega) (by omega)
  have v5 : vp_in (nI i + 5) (gN g) := by rw [show nI i + 5 = nI (i + 5) from nI_add i 5]; exact vp_in_nI (by omega) (by omega)
  refine eL_law_18 hN.1 (ρ2 := ρ) (ρ55 := ρ) (ρ57 := ρ) (ρ59 := ρ) (ρ61 := ρ) (ρ63 := ρ) (ρ65 := ρ) (ρ67 := ρ) (ρ69 := ρ) (ρ71 := ρ) hN.1 c2 u2 hN.1 c2 u2 hN.1 c2 u2 hN.1 c2 u2 hN.1 c2 u2 hN.1 c2 u2 hN.1 c2 u2 hN.1 c2 u2 hN.1 c2 u2 hN.1 c2 u2 c2 u2 ?_
  rw [if_neg (law_in hi hL), nI_clamp (show i < 2 ^ 31 by omega)]
  refine ⟨vp_in_nI (by omega) (by omega), ?_⟩
  rw [ho, if_neg (by decide), if_neg (by decide), if_neg (by decide), if_neg (by decide), if_neg (by decide), if_neg (by decide), if_neg (by decide), if_neg (by decide), if_neg (by decide), if_neg (by decide), if_neg (by decide), if_neg (by decide), if_neg (by decide), if_neg (by decide), if_neg (by decide), if_neg (by decide), if_neg (by decide), if_neg (by decide), if_neg (by decide), if_neg (by decide), if_neg (by decide), if_neg (by decide), if_neg (by decide), if_neg (by decide), if_neg (by decide), if_neg (by decide), if_neg (by decide), if_neg (by decide), if_neg (by decide), if_neg (by decide), if_neg (by decide), if_neg (by decide), if_neg (by decide), if_neg (by decide), if_neg (by decide), if_neg (by decide), if_neg (by decide), if_neg (by decide), if_neg (by decide), if_neg (by decide), if_pos rfl]
  exact CALLi.mono (two S hs) (fun w1 S1 _ q => CALLi.mono q (fun w2 S2 _ q2 => by rw [if_pos q2.1]; exact hn S2 q2.2))
theorem law_n41 {i : Nat} (hA : ∀ k, 16 ≤ k → gF g k) (hL : gN g ≤ 3072) (hi : i + 5 < gN g) (hW : WF b) (hN : NR ρ) (ho : gX g i &&& 63 = 41) : LWs g d i b p ρ := by
  obtain ⟨b', two⟩ := two_anew (d := d) (b := b) (p := p) (ρ := ρ) hA
  refine ⟨b', p, ρ, hN, bud_0 ρ, fun ρ' Q c1 u1 c2 u2 S hs hn => ?_⟩
  have v1 : vp_in (nI i + 1) (gN g) := by rw [show nI i + 1 = nI (i + 1) from nI_add i 1]; exact vp_in_nI (by omega) (by omega)
  have v2 : vp_in (nI i + 2) (gN g) := by rw [show nI i + 2 = nI (i + 2) from nI_add i 2]; exact vp_in_nI (by omega) (by omega)
  have v3 : vp_in (nI i + 3) (gN g) := by rw [show nI i + 3 = nI (i + 3) from nI_add i 3]; exact vp_in_nI (by omega) (by omega)
  have v4 : vp_in (nI i + 4) (gN g) := by rw [show nI i + 4 = nI (i + 4) from nI_add i 4]; exact vp_in_nI (by omega) (by omega)
  have v5 : vp_in (nI i + 5) (gN g) := by rw [show nI i + 5 = nI (i + 5) from nI_add i 5]; exact vp_in_nI (by omega) (by omega)
  refine eL_law_18 hN.1 (ρ2 := ρ) (ρ55 := ρ) (ρ57 := ρ) (ρ59 := ρ) (ρ61 := ρ) (ρ63 := ρ) (ρ65 := ρ) (ρ67 := ρ) (ρ69 := ρ) (ρ71 := ρ) hN.1 c2 u2 hN.1 c2 u2 hN.1 c2 u2 hN.1 c2 u2 hN.1 c2 u2 hN.1 c2 u2 hN.1 c2 u2 hN.1 c2 u2 hN.1 c2 u2 hN.1 c2 u2 c2 u2 ?_
  rw [if_neg (law_in hi hL), nI_clamp (show i < 2 ^ 31 by omega)]
  refine ⟨vp_in_nI (by omega) (by omega), ?_⟩
  rw [ho, if_neg (by decide), if_neg (by decide), if_neg (by decide), if_neg (by decide), if_neg (by decide), if_neg (by decide), if_neg (by decide), if_neg (by decide), if_neg (by decide), if_neg (by decide), if_neg (by decide), if_neg (by decide), if_neg (by decide), if_neg (by decide), if_neg (by decide), if_neg (by decide), if_neg (by decide), if_neg (by decide), if_neg (by decide), if_neg (by decide), if_neg (by decide), if_neg (by decide), if_neg (by decide), if_neg (by decide), if_neg (by decide), if_neg (by decide), if_neg (by decide), if_neg (by decide), if_neg (by decide), if_neg (by decide), if_neg (by decide), if_neg (by decide), if_neg (by decide), if_neg (by decide), if_neg (by decide), if_neg (by decide), if_neg (by decide), if_neg (by decide), if_neg (by decide), if_neg (by decide), if_neg (by decide), if_pos rfl]
  exact CALLi.mono (two S hs) (fun w1 S1 _ q => CALLi.mono q (fun w2 S2 _ q2 => by rw [if_pos q2.1]; exact hn S2 q2.2))
theorem law_nx {i : Nat} (hA : ∀ k, 16 ≤ k → gF g k) (hL : gN g ≤ 3072) (hi : i + 5 < gN g) (hW : WF b) (hN : NR ρ) (ho : ∀ m, m < 42 → ¬ gX g i &&& 63 = nI m) : LWs g d i b p ρ := by
  refine ⟨b, p, ρ, hN, bud_0 ρ, fun ρ' Q c1 u1 c2 u2 S hs hn => ?_⟩
  have v1 : vp_in (nI i + 1) (gN g) := by rw [show nI i + 1 = nI (i + 1) from nI_add i 1]; exact vp_in_nI (by omega) (by omega)
  have v2 : vp_in (nI i + 2) (gN g) := by rw [show nI i + 2 = nI (i + 2) from nI_add i 2]; exact vp_in_nI (by omega) (by omega)
  have v3 : vp_in (nI i + 3) (gN g) := by rw [show nI i + 3 = nI (i + 3) from nI_add i 3]; exact vp_in_nI (by omega) (by omega)
  have v4 : vp_in (nI i + 4) (gN g) := by rw [show nI i + 4 = nI (i + 4) from nI_add i 4]; exact vp_in_nI (by omega) (by omega)
  have v5 : vp_in (nI i + 5) (gN g) := by rw [show nI i + 5 = nI (i + 5) from nI_add i 5]; exact vp_in_nI (by omega) (by omega)
  refine eL_law_18 hN.1 (ρ2 := ρ) (ρ55 := ρ) (ρ57 := ρ) (ρ59 := ρ) (ρ61 := ρ) (ρ63 := ρ) (ρ65 := ρ) (ρ67 := ρ) (ρ69 := ρ) (ρ71 := ρ) hN.1 c2 u2 hN.1 c2 u2 hN.1 c2 u2 hN.1 c2 u2 hN.1 c2 u2 hN.1 c2 u2 hN.1 c2 u2 hN.1 c2 u2 hN.1 c2 u2 hN.1 c2 u2 c2 u2 ?_
  rw [if_neg (law_in hi hL), nI_clamp (show i < 2 ^ 31 by omega)]
  refine ⟨vp_in_nI (by omega) (by omega), ?_⟩
  rw [if_neg (show ¬ gX g i &&& 63 = 0 from ho 0 (by omega))]
  rw [if_neg (show ¬ gX g i &&& 63 = 1 from ho 1 (by omega))]
  rw [if_neg (show ¬ gX g i &&& 63 = 2 from ho 2 (by omega))]
  rw [if_neg (show ¬ gX g i &&& 63 = 3 from ho 3 (by omega))]
  rw [if_neg (show ¬ gX g i &&& 63 = 4 from ho 4 (by omega))]
  rw [if_neg (show ¬ gX g i &&& 63 = 5 from ho 5 (by omega))]
  rw [if_neg (show ¬ gX g i &&& 63 = 6 from ho 6 (by omega))]
  rw [if_neg (show ¬ gX g i &&& 63 = 7 from ho 7 (by omega))]
  rw [if_neg (show ¬ gX g i &&& 63 = 8 from ho 8 (by omega))]
  rw [if_neg (show ¬ gX g i &&& 63 = 9 from ho 9 (by omega))]
  rw [if_neg (show ¬ gX g i &&& 63 = 10 from ho 10 (by omega))]
  rw [if_neg (show ¬ gX g i &&& 63 = 11 from ho 11 (by omega))]
  rw [if_neg (show ¬ gX g i &&& 63 = 12 from ho 12 (by omega))]
  rw [if_neg (show ¬ gX g i &&& 63 = 13 from ho 13 (by omega))]
  rw [if_neg (show ¬ gX g i &&& 63 = 14 from ho 14 (by omega))]
  rw [if_neg (show ¬ gX g i &&& 63 = 15 from ho 15 (by omega))]
  rw [if_neg (show ¬ gX g i &&& 63 = 16 from ho 16 (by omega))]
  rw [if_neg (show ¬ gX g i &&& 63 = 17 from ho 17 (by omega))]
  rw [if_neg (show ¬ gX g i &&& 63 = 18 from ho 18 (by omega))]
  rw [if_neg (show ¬ gX g i &&& 63 = 19 from ho 19 (by omega))]
  rw [if_neg (show ¬ gX g i &&& 63 = 20 from ho 20 (by omega))]
  rw [if_neg (show ¬ gX g i &&& 63 = 21 from ho 21 (by omega))]
  rw [if_neg (show ¬ gX g i &&& 63 = 22 from ho 22 (by omega))]
  rw [if_neg (show ¬ gX g i &&& 63 = 23 from ho 23 (by omega))]
  rw [if_neg (show ¬ gX g i &&& 63 = 24 from ho 24 (by omega))]
  rw [if_neg (show ¬ gX g i &&& 63 = 25 from ho 25 (by omega))]
  rw [if_neg (show ¬ gX g i &&& 63 = 26 from ho 26 (by omega))]
  rw [if_neg (show ¬ gX g i &&& 63 = 27 from ho 27 (by omega))]
  rw [if_neg (show ¬ gX g i &&& 63 = 28 from ho 28 (by omega))]
  rw [if_neg (show ¬ gX g i &&& 63 = 29 from ho 29 (by omega))]
  rw [if_neg (show ¬ gX g i &&& 63 = 30 from ho 30 (by omega))]
  rw [if_neg (show ¬ gX g i &&& 63 = 31 from ho 31 (by omega))]
  rw [if_neg (show ¬ gX g i &&& 63 = 32 from ho 32 (by omega))]
  rw [if_neg (show ¬ gX g i &&& 63 = 33 from ho 33 (by omega))]
  rw [if_neg (show ¬ gX g i &&& 63 = 34 from ho 34 (by omega))]
  rw [if_neg (show ¬ gX g i &&& 63 = 35 from ho 35 (by omega))]
  rw [if_neg (show ¬ gX g i &&& 63 = 36 from ho 36 (by omega))]
  rw [if_neg (show ¬ gX g i &&& 63 = 37 from ho 37 (by omega))]
  rw [if_neg (show ¬ gX g i &&& 63 = 38 from ho 38 (by omega))]
  rw [if_neg (show ¬ gX g i &&& 63 = 39 from ho 39 (by omega))]
  rw [if_neg (show ¬ gX g i &&& 63 = 40 from ho 40 (by omega))]
  rw [if_neg (show ¬ gX g i &&& 63 = 41 from ho 41 (by omega))]
  exact hn S hs
end LW
