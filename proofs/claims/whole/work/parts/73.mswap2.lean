-- A SWAP, by the model: what it comes to
theorem chG_sw {t : Nat → Nat → Nat} {r s c e C : Nat} (hc : c < C) (he : e < C) (hrs : r ≠ s) (hce : c ≠ e) (k : Nat) : chG (2 ^ (r * C + c) ||| 2 ^ (s * C + e)) (2 ^ (r * C + e) ||| 2 ^ (s * C + c)) (flt C t) k = flt C (swT t r s c e) k := by
  have i1 := idx_iff (y := r) (k := k) hc
  have i2 := idx_iff (y := s) (k := k) he
  have i3 := idx_iff (y := r) (k := k) he
  have i4 := idx_iff (y := s) (k := k) hc
  have eM : ((decide (r * C + c = k) || decide (s * C + e = k)) = true) ↔ (k / C = r ∧ k % C = c) ∨ (k / C = s ∧ k % C = e) := by
    rw [i1, i2, Bool.or_eq_true, decide_eq_true_eq, decide_eq_true_eq]
    exact ⟨fun z => z.imp Eq.symm Eq.symm, fun z => z.imp Eq.symm Eq.symm⟩
  have eN : ((decide (r * C + e = k) || decide (s * C + c = k)) = true) ↔ (k / C = r ∧ k % C = e) ∨ (k / C = s ∧ k % C = c) := by
    rw [i3, i4, Bool.or_eq_true, decide_eq_true_eq, decide_eq_true_eq]
    exact ⟨fun z => z.imp Eq.symm Eq.symm, fun z => z.imp Eq.symm Eq.symm⟩
  unfold chG
  rw [bit2, bit2]
  show _ = swT t r s c e (k / C) (k % C)
  have ef : flt C t k = t (k / C) (k % C) := rfl
  rw [ef]
  unfold swT
  by_cases m : (k / C = r ∧ k % C = c) ∨ (k / C = s ∧ k % C = e)
  · have nn : ¬ ((k / C = r ∧ k % C = e) ∨ (k / C = s ∧ k % C = c)) := by
      intro z
      rcases m with m | m
      · rcases z with z | z
        · exact hce (m.2.symm.trans z.2)
        · exact hrs (m.1.symm.trans z.1)
      · rcases z with z | z
        · exact hrs (z.1.symm.trans m.1)
        · exact hce (z.2.symm.trans m.2)
    rw [if_pos (eM.mpr m), if_neg (fun z => nn (eN.mp z)), if_pos m]
  · rw [if_neg (fun z => m (eM.mp z)), if_neg m]
    by_cases n : (k / C = r ∧ k % C = e) ∨ (k / C = s ∧ k % C = c)
    · rw [if_pos (eN.mpr n), if_pos n]
    · rw [if_neg (fun z => n (eN.mp z)), if_neg n]
theorem flt_a2 {C y x : Nat} (hx : x < C) (t : Nat → Nat → Nat) : flt C t (y * C + x) = t y x := by
  unfold flt
  rw [((idx_iff hx).mpr rfl).1, ((idx_iff hx).mpr rfl).2]
theorem okG_can {a : AS} {r s c e : Nat} (hW : WF a) (hR : nR a ≠ 0) (hr : r < nR a) (hs : s < nR a) (hc : c < nC a) (he : e < nC a) : (∀ k, k < nR a * nC a → okG (hM a) (2 ^ (r * nC a + c) ||| 2 ^ (s * nC a + e)) (2 ^ (r * nC a + e) ||| 2 ^ (s * nC a + c)) (flt (nC a) (cel a)) k) ↔ canS a r s c e := by
  have hT := (hW.told hR).2.2.2.2.2.2.2.2.2.1
  constructor
  · intro h
    have k1 := h _ (idx_lt hr hc)
    have k2 := h _ (idx_lt hs he)
    have k3 := h _ (idx_lt hr he)
    have k4 := h _ (idx_lt hs hc)
    unfold okG at k1 k2 k3 k4
    rw [bit2, bit2, hM_bit hr hc] at k1
    rw [bit2, bit2, hM_bit hs he] at k2
    rw [bit2, bit2, hM_bit hr he, flt_a2 he] at k3
    rw [bit2, bit2, hM_bit hs hc, flt_a2 hc] at k4
    refine ⟨Nat.pos_of_ne_zero (k3.2 (by simp)), Nat.pos_of_ne_zero (k4.2 (by simp)), k1.1 (by simp), k2.1 (by simp)⟩
  · intro h k hk
    have z1 : hol a r e = false := by
      cases q : hol a r e with
      | false => rfl
      | true => have := hT.2 r e q; have := h.1; omega
    have z2 : hol a s c = false := by
      cases q : hol a s c with
      | false => rfl
      | true => have := hT.2 s c q; have := h.2.1; omega
    have b1 := hM_bit (a := a) hr hc
    have b2 := hM_bit (a := a) hs he
    have b3 := hM_bit (a := a) hr he
    have b4 := hM_bit (a := a) hs hc
    rw [h.2.2.1] at b1
    rw [h.2.2.2] at b2
    rw [z1] at b3
    rw [z2] at b4
    unfold okG
    rw [bit2, bit2]
    refine ⟨fun q => ?_, fun q => ?_⟩
    · simp at q
      rcases q with (q | q) | (q | q)
      · rw [← q]; exact b1
      · rw [← q]; exact b2
      · rw [← q]; exact b3
      · rw [← q]; exact b4
    · simp at q
      rcases q with q | q
      · rw [← q, flt_a2 he]; have := h.1; omega
      · rw [← q, flt_a2 hc]; have := h.2.1; omega
theorem sh81 {ρ : Rs} : shp ρ 81 = .inr (0, 21) := by
  unfold shp
  rw [if_pos (by decide)]
  rfl
section MT
variable {g : GX} {d : Nat} {ρ : Rs} {S : St} {a : AS}
theorem sM_canSwap {Q : Int32 → St → Prop} (hρ : Ok ρ) (hW : WF a) (hR : nR a ≠ 0) (hI : IM a S) {r s c e : Nat} (hr : r < nR a) (hs : s < nR a) (hc : c < nC a) (he : e < nC a) (h1 : canS a r s c e → Q 1 S) (h0 : ¬ canS a r s c e → Q 0 S) : CALLi g (d + 1) mX12_canGo [.ref 80, .ref 81, .int 5, .int (nI (2 ^ (r * nC a + c) ||| 2 ^ (s * nC a + e))), .int (nI (2 ^ (r * nC a + e) ||| 2 ^ (s * nC a + c)))] ρ ρ S Q := by
  have hl := hW.le
  have h44 := mul44 hl.1 hl.2.1
  have ht := hW.told hR
  have lt : ∀ y x, cel a y x < 16 := fun y x => ht.lt16 ht.2.2.2.2.2.2.2.2.2.1 (Sam.rf _) y x
  have j1 := idx_lt hr hc
  have j2 := idx_lt hs he
  have j3 := idx_lt hr he
  have j4 := idx_lt hs hc
  have l1 := or2_lt (i := r * nC a + c) (j := s * nC a + e) (by omega) (by omega)
  have l2 := or2_lt (i := r * nC a + e) (j := s * nC a + c) (by omega) (by omega)
  have l3 := hM_lt a hW
  refine sM_canGo (f := flt (nC a) (cel a)) (b := 5) (m := nR a * nC a) (H := hM a) hρ (by decide) (okn hρ (by decide)) sh81 (by omega) (by decide) h44 (by omega) (by omega) (by omega) (fun k _ => by have := lt (k / nC a) (k % nC a); unfold flt; omega) (fun q => sM_many hρ hI q) hI.2.2.2.2.2.2.1 (fun k hk => hI.2.2.2.2.2.2.2.2.2.1 k (by omega)) (fun q => h1 ((okG_can hW hR hr hs hc he).mp q)) (fun k hk q => h0 (fun z => q ((okG_can hW hR hr hs hc he).mpr z k hk)))
theorem sM_doSwap {Q : St → Prop} (hρ : Ok ρ) (hF : gF g 81) (hW : WF a) (hR : nR a ≠ 0) (hI : IM a S) {r s c e : Nat} (hr : r < nR a) (hs : s < nR a) (hc : c < nC a) (he : e < nC a) (hrs : r ≠ s) (hce : c ≠ e) (hcan : canS a r s c e) (h : ∀ S', IM (swA a r s c e) S' → Fr (fun k => k = 81) S S' → Q S') : CALLv g (d + 1) mX12_changes [.ref 80, .ref 81, .int 5, .int (nI (2 ^ (r * nC a + c) ||| 2 ^ (s * nC a + e))), .int (nI (2 ^ (r * nC a + e) ||| 2 ^ (s * nC a + c)))] ρ ρ S Q := by
  have hl := hW.le
  have h44 := mul44 hl.1 hl.2.1
  have j1 := idx_lt hr hc
  have j2 := idx_lt hs he
  have j3 := idx_lt hr he
  have j4 := idx_lt hs hc
  have l1 := or2_lt (i := r * nC a + c) (j := s * nC a + e) (by omega) (by omega)
  have l2 := or2_lt (i := r * nC a + e) (j := s * nC a + c) (by omega) (by omega)
  have ok := (okG_can hW hR hr hs hc he).mpr hcan
  refine sM_changes (f := flt (nC a) (cel a)) (b := 5) (R := nR a) (C := nC a) hρ (by decide) (okn hρ (by decide)) sh81 hF (by omega) (by decide) h44 (fun _ => by decide) (by omega) (by omega) hI.2.2.2.2.1 hI.2.2.2.2.2.1 (fun k hk q => Nat.pos_of_ne_zero ((ok k hk).2 q)) (fun k hk => hI.2.2.2.2.2.2.2.2.2.1 k (by omega)) (fun S' q f => ?_)
  refine h S' ?_ f
  obtain ⟨i1, i2, i3, i4, i5, i6, i7, i8, i9, i10, i11⟩ := hI
  have q80 := (f 80 (by decide)).1
  have q83 := (f 83 (by decide)).1
  have q84 := (f 84 (by decide)).1
  refine ⟨?_, ?_, ?_, ?_, ?_, ?_, ?_, ?_, ?_, fun k hk => ?_, fun i hi k hk => ?_⟩
  · rw [q80]; exact i1
  · intro i hi; rw [q84]; exact i2 i hi
  · rw [q80]; exact i3
  · rw [q80]; exact i4
  · rw [q 0, if_neg (by omega)]; exact i5
  · rw [q 1, if_neg (by omega)]; exact i6
  · rw [q 2, if_neg (by omega)]; exact i7
  · rw [q 3, if_neg (by omega)]; exact i8
  · rw [q 4, if_neg (by omega)]; exact i9
  · show _ = nI (flt (nC a) (swT (cel a) r s c e) k)
    rw [q (5 + k)]
    by_cases c1 : k < nR a * nC a
    · rw [if_pos (by omega), show 5 + k - 5 = k by omega, chG_sw hc he hrs hce]
    · rw [if_neg (by omega), i10 k hk]
      have hk2 : ¬ k / nC a < nR a := fun z => c1 ((Nat.div_lt_iff_lt_mul (by omega)).mp z)
      congr 1
      unfold flt
      exact (swT_no (by omega)).symm
  · rw [q83]; exact i11 i hi k hk
theorem sM_swap {Q : Int32 → St → Prop} (hρ : Ok ρ) (hF : ∀ k ∈ ([81, 83] : List Nat), gF g k) (hW : WF a) (hI : IM a S) {x1 x2 x3 x4 : Int32} (h2 : ¬ swG a x1 x2 x3 x4 → Q (-2) S) (h5 : swG a x1 x2 x3 x4 → (nA a = 20 ∨ ¬ canS a x1.toNatClampNeg x2.toNatClampNeg x3.toNatClampNeg x4.toNatClampNeg) → Q (-5) S) (h0 : swG a x1 x2 x3 x4 → nA a ≠ 20 → canS a x1.toNatClampNeg x2.toNatClampNeg x3.toNatClampNeg x4.toNatClampNeg → ∀ S', IM (swA (keepA a) x1.toNatClampNeg x2.toNatClampNeg x3.toNatClampNeg x4.toNatClampNeg) S' → Fr (fun k => k = 81 ∨ k = 83) S S' → Q 0 S') : CALLi g (d + 4) mX12_swap [.ref 80, .int x1, .int x2, .int x3, .int x4] ρ ρ S Q := by
  have hl := hW.le
  refine eX12_swap hρ ?_
  by_cases g1 : vp_in x1 (nR a) ∧ vp_in x3 (nC a)
  · refine sM_isCell1 hρ hW hI g1.1 g1.2 ?_
    rw [if_neg (by decide)]
    by_cases g2 : vp_in x2 (nR a) ∧ vp_in x4 (nC a)
    · refine sM_isCell1 hρ hW hI g2.1 g2.2 ?_
      rw [if_neg (by decide)]
      by_cases g3 : x1 = x2
      · rw [if_pos g3]; exact h2 (fun q => q.2.2.1 g3)
      · rw [if_neg g3]
        by_cases g4 : x3 = x4
        · rw [if_pos g4]; exact h2 (fun q => q.2.2.2 g4)
        · rw [if_neg g4]
          have gd : swG a x1 x2 x3 x4 := ⟨g1, g2, g3, g4⟩
          have v1 := vin_cl g1.1
          have v2 := vin_cl g2.1
          have v3 := vin_cl g1.2
          have v4 := vin_cl g2.2
          have e1 := vin_eq g1.1 (by omega)
          have e2 := vin_eq g2.1 (by omega)
          have e3 := vin_eq g1.2 (by omega)
          have e4 := vin_eq g2.2 (by omega)
          have hR : nR a ≠ 0 := by omega
          have n12 : x1.toNatClampNeg ≠ x2.toNatClampNeg := fun z => g3 (by rw [e1, e2, z])
          have n34 : x3.toNatClampNeg ≠ x4.toNatClampNeg := fun z => g4 (by rw [e3, e4, z])
          have h5b := h5 gd
          have h0b := h0 gd
          generalize x1.toNatClampNeg = r at *
          generalize x2.toNatClampNeg = s at *
          generalize x3.toNatClampNeg = c at *
          generalize x4.toNatClampNeg = e at *
          rw [e1, e2, e3, e4]
          refine sM_two hρ hW hI v1 v3 v2 v4 (sM_two hρ hW hI v1 v4 v2 v3 ?_)
          have e8 : S.1 81 4 = nI (nA a) := hI.2.2.2.2.2.2.2.2.1
          have iz : nI (nA a) = 20 ↔ nA a = 20 := nI_eq (b := 20) (by omega) (by omega)
          rw [e8]
          by_cases cf : nA a = 20
          · rw [if_pos (iz.mpr cf)]
            exact h5b (Or.inl cf)
          · rw [if_neg (fun z => cf (iz.mp z))]
            refine sM_canSwap hρ hW hR hI v1 v2 v3 v4 (fun q => ?_) (fun q => ?_)
            · rw [if_neg (by decide)]
              refine sM_keeps hρ hF (by omega) hI (fun S1 i1 f1 => ?_)
              refine sM_doSwap (a := keepA a) hρ (hF 81 (by simp)) (keepA_WF hW hR (by omega)) hR i1 v1 v2 v3 v4 n12 n34 q (fun S2 i2 f2 => ?_)
              exact h0b cf q S2 i2 (f1.tr (f2.mono (fun k hk => Or.inl hk)))
            · rw [if_pos rfl]
              exact h5b (Or.inr q)
    · refine sM_isCell0 hρ hW hI g2 ?_
      rw [if_pos rfl]; exact h2 (fun q => g2 q.2.1)
  · refine sM_isCell0 hρ hW hI g1 ?_
    rw [if_pos rfl]; exact h2 (fun q => g1 q.1)
end MT
