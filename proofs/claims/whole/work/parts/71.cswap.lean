-- A SWAP, by the class
theorem lNadd (a b : Nat) : lN a + lN b = lN (a + b) := (Int64.ofNat_add a b).symm
section CS
variable {g : GX} {d : Nat} {ρ : Rs} {S : St} {a : AS}
theorem sC_one {Q : Int64 → St → Prop} (hρ : Ok ρ) {y x : Nat} (hy : y < 4) (hx : x < 4) (h : Q (lN (2 ^ (4 * (15 - 4 * y - x)))) S) : CALLl g (d + 4) mX3_one [.int (nI y), .int (nI x)] ρ ρ S Q := by
  refine eX3_one hρ (sC_shift hρ hy hx ?_)
  have e : (1 : Int64) <<< ((nI (4 * (15 - 4 * y - x))).toInt64 &&& 63) = lN (1 * 2 ^ (4 * (15 - 4 * y - x))) := wb_shl 1 (by omega)
  rw [e, Nat.one_mul]
  exact h
theorem sC_canSwap {Q : Int32 → St → Prop} (hρ : Ok ρ) (hW : WF a) (hR : nR a ≠ 0) (hI : IB a S) {r s c e : Nat} (hr : r < 4) (hs : s < 4) (hc : c < 4) (he : e < 4) (h1 : canS a r s c e → Q 1 S) (h0 : ¬ canS a r s c e → Q 0 S) : CALLi g (d + 5) mX9_canSwap [.ref 21, .int (nI r), .int (nI s), .int (nI c), .int (nI e)] ρ ρ S Q := by
  have ht := hW.told hR
  have lt : ∀ y x, cel a y x < 16 := fun y x => ht.lt16 ht.2.2.2.2.2.2.2.2.2.1 (Sam.rf _) y x
  have z : ∀ y x, nI (cel a y x) ≤ 0 ↔ cel a y x ≤ 0 := fun y x => nI_leI (b := 0) (by have := lt y x; omega) (by omega)
  refine eX9_canSwap hρ (sC_at hρ hW hI hr he ?_)
  by_cases c1 : cel a r e ≤ 0
  · rw [if_pos ((z r e).mpr c1)]
    exact h0 (fun q => by have := q.1; omega)
  · rw [if_neg (fun q => c1 ((z r e).mp q))]
    refine sC_at hρ hW hI hs hc ?_
    by_cases c2 : cel a s c ≤ 0
    · rw [if_pos ((z s c).mpr c2)]
      exact h0 (fun q => by have := q.2.1; omega)
    · rw [if_neg (fun q => c2 ((z s c).mp q))]
      refine sC_isHole hρ hI hr hc ?_
      cases b1 : hol a r c with
      | true =>
        rw [if_pos rfl, if_neg (by decide)]
        exact h0 (fun q => by have := q.2.2.1; rw [b1] at this; exact absurd this (by decide))
      | false =>
        rw [if_pos (show (if false = true then (1 : Int32) else 0) = 0 from rfl)]
        refine sC_isHole hρ hI hs he ?_
        cases b2 : hol a s e with
        | true =>
          rw [if_pos rfl, if_neg (by decide)]
          exact h0 (fun q => by have := q.2.2.2; rw [b2] at this; exact absurd this (by decide))
        | false =>
          rw [if_pos (show (if false = true then (1 : Int32) else 0) = 0 from rfl)]
          exact h1 ⟨by omega, by omega, b1, b2⟩
theorem sC_doSwap {Q : St → Prop} (hρ : Ok ρ) (hF : ∀ k ∈ ([21] : List Nat), gF g k) (hI : IB a S) {r s c e : Nat} (hr : r < 4) (hs : s < 4) (hc : c < 4) (he : e < 4) (hrs : r ≠ s) (hce : c ≠ e) (hcan : canS a r s c e) (h : ∀ S', IB (swA a r s c e) S' → Fr (fun k => k = 21) S S' → Q S') : CALLv g (d + 6) mX9_doSwap [.ref 21, .int (nI r), .int (nI s), .int (nI c), .int (nI e)] ρ ρ S Q := by
  have hm := swT_sam (t := cel a) hr hs hc he hrs hce hcan.1 hcan.2.1
  obtain ⟨b1, b2, b3, b4, b5, b6, b7, b8, b9, b10, b11, b12, b13, b14⟩ := hI
  refine eX9_doSwap hρ hF (eX3_swapStep hρ (sC_one hρ hr hc (sC_one hρ hs he (sC_one hρ hr he (sC_one hρ hs hc ?_)))))
  have ep : lN (pack (cel a)) + (((lN (2 ^ (4 * (15 - 4 * r - c))) + lN (2 ^ (4 * (15 - 4 * s - e)))) - lN (2 ^ (4 * (15 - 4 * r - e)))) - lN (2 ^ (4 * (15 - 4 * s - c)))) = lN (pack (swT (cel a) r s c e)) := by
    refine i64mv ?_
    rw [lNadd, lNadd, lNadd, lNadd, pack_sw hr hs hc he hrs hce hcan.1 hcan.2.1]
  rw [b12, ep]
  refine h _ ?_ (Fr.setL _ _ _ rfl)
  refine ⟨b1, b2, b3, b4, b5, b6, b7, ?_, b9, fun y hy => ?_, fun x hx => ?_, ?_, b13, fun i hi => ?_⟩
  · show _ = nI (tsum (swT (cel a) r s c e))
    rw [hm.ts]; exact b8
  · show _ = nI (rsum (swT (cel a) r s c e) y)
    rw [hm.1 y]; exact b10 y hy
  · show _ = nI (csum (swT (cel a) r s c e) x)
    rw [hm.2 x]; exact b11 x hx
  · rw [setL_at, if_pos ⟨rfl, rfl⟩]; rfl
  · rw [setL_at, if_neg (fun z => absurd z.1 (by decide))]; exact b14 i hi
/-- the four lines of a swap are sound -/
def swG (a : AS) (x1 x2 x3 x4 : Int32) : Prop := (vp_in x1 (nR a) ∧ vp_in x3 (nC a)) ∧ (vp_in x2 (nR a) ∧ vp_in x4 (nC a)) ∧ x1 ≠ x2 ∧ x3 ≠ x4
theorem sC_isFull {Q : Int32 → St → Prop} (hρ : Ok ρ) (hW : WF a) (hI : IB a S) (h : Q (if nA a = 20 then 1 else 0) S) : CALLi g (d + 3) mX9_isFull [.ref 21] ρ ρ S Q := by
  have hl := hW.le
  refine eX9_isFull hρ ?_
  have e8 : S.1 21 8 = nI (nA a) := hI.2.2.2.2.2.2.2.2.2.2.2.2.1
  have il : nI (nA a) < (20 : Int32) ↔ nA a < 20 := nI_ltI (b := 20) (by omega) (by omega)
  rw [e8]
  by_cases c : nA a = 20
  · rw [if_neg (fun z => by have := il.mp z; omega)]
    rw [if_pos c] at h
    exact h
  · rw [if_pos (il.mpr (by omega))]
    rw [if_neg c] at h
    exact h
theorem sC_swap {Q : Int32 → St → Prop} (hρ : Ok ρ) (hF : ∀ k ∈ ([24, 21] : List Nat), gF g k) (hW : WF a) (hI : IB a S) {x1 x2 x3 x4 : Int32} (h2 : ¬ swG a x1 x2 x3 x4 → Q (-2) S) (h5 : swG a x1 x2 x3 x4 → (nA a = 20 ∨ ¬ canS a x1.toNatClampNeg x2.toNatClampNeg x3.toNatClampNeg x4.toNatClampNeg) → Q (-5) S) (h0 : swG a x1 x2 x3 x4 → nA a ≠ 20 → canS a x1.toNatClampNeg x2.toNatClampNeg x3.toNatClampNeg x4.toNatClampNeg → ∀ S', IB (swA (keepA a) x1.toNatClampNeg x2.toNatClampNeg x3.toNatClampNeg x4.toNatClampNeg) S' → Fr (fun k => k = 21 ∨ k = 24) S S' → Q 0 S') : CALLi g (d + 7) mX11_swap [.ref 16, .int x1, .int x2, .int x3, .int x4] ρ ρ S Q := by
  have hl := hW.le
  have hF21 : ∀ k ∈ ([21] : List Nat), gF g k := fun k hk => hF k (by simp at hk; simp [hk])
  refine eX11_swap hρ ?_
  by_cases g1 : vp_in x1 (nR a) ∧ vp_in x3 (nC a)
  · refine sC_has1 hρ hW hI g1.1 g1.2 ?_
    rw [if_neg (by decide)]
    by_cases g2 : vp_in x2 (nR a) ∧ vp_in x4 (nC a)
    · refine sC_has1 hρ hW hI g2.1 g2.2 ?_
      rw [if_neg (by decide)]
      by_cases g3 : x1 = x2
      · rw [if_pos g3]; exact h2 (fun q => q.2.2.1 g3)
      · rw [if_neg g3]
        by_cases g4 : x3 = x4
        · rw [if_pos g4]; exact h2 (fun q => q.2.2.2 g4)
        · rw [if_neg g4]
          have gd : swG a x1 x2 x3 x4 := ⟨g1, g2, g3, g4⟩
          have v1 := vin_cl g1.1
          have v2 := vin_cl g2.1
          have v3 := vin_cl g1.2
          have v4 := vin_cl g2.2
          have e1 := vin_eq g1.1 (by omega)
          have e2 := vin_eq g2.1 (by omega)
          have e3 := vin_eq g1.2 (by omega)
          have e4 := vin_eq g2.2 (by omega)
          have hR : nR a ≠ 0 := by omega
          have n12 : x1.toNatClampNeg ≠ x2.toNatClampNeg := fun z => g3 (by rw [e1, e2, z])
          have n34 : x3.toNatClampNeg ≠ x4.toNatClampNeg := fun z => g4 (by rw [e3, e4, z])
          refine sC_isFull hρ hW hI ?_
          by_cases cf : nA a = 20
          · rw [if_pos cf, if_neg (by decide)]
            exact h5 gd (Or.inl cf)
          · rw [if_neg cf, if_pos rfl]
            have h5b := h5 gd
            have h0b := h0 gd cf
            generalize x1.toNatClampNeg = r at *
            generalize x2.toNatClampNeg = s at *
            generalize x3.toNatClampNeg = c at *
            generalize x4.toNatClampNeg = e at *
            rw [e1, e2, e3, e4]
            refine sC_canSwap hρ hW hR hI (by omega) (by omega) (by omega) (by omega) (fun q => ?_) (fun q => ?_)
            · rw [if_neg (by decide)]
              refine sC_remember hρ hF (by omega) hI (fun S1 i1 f1 => ?_)
              refine sC_doSwap hρ hF21 i1 (by omega) (by omega) (by omega) (by omega) n12 n34 q (fun S2 i2 f2 => ?_)
              exact h0b q S2 i2 (f1.tr (f2.mono (fun k hk => Or.inl hk)))
            · rw [if_pos rfl]
              exact h5b (Or.inr q)
    · refine sC_has0 hρ hW hI g2 ?_
      rw [if_pos rfl]; exact h2 (fun q => g2 q.2.1)
  · refine sC_has0 hρ hW hI g1 ?_
    rw [if_pos rfl]; exact h2 (fun q => g1 q.1)
end CS
