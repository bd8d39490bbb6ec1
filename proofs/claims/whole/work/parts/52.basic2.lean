theorem sm_tail {f : Nat → Nat} {m n : Nat} (h : m ≤ n) (hz : ∀ k, m ≤ k → k < n → f k = 0) : fb_sm f n = fb_sm f m := by
  obtain ⟨j, rfl⟩ : ∃ j, n = m + j := ⟨n - m, by omega⟩
  rw [fb_sm_split]
  have e : fb_sm (fun k => f (m + k)) j = 0 := by
    have : fb_sm (fun k => f (m + k)) j = fb_sm (fun _ => 0) j := fb_sm_cong (fun k hk => hz (m + k) (by omega) (by omega))
    rw [this, fb_sm_const]
    omega
  omega
theorem s4_sm (f : Nat → Nat) : s4 f = fb_sm f 4 := by
  show f 0 + f 1 + f 2 + f 3 = 0 + f 0 + f 1 + f 2 + f 3
  omega
theorem Tab.row_sm {R C : Nat} {h : Nat → Nat → Bool} {t : Nat → Nat → Nat} (hT : Tab R C h t) (hC : C ≤ 4) (y : Nat) : fb_sm (t y) C = rsum t y := by
  unfold rsum
  rw [s4_sm]
  exact (sm_tail hC (fun k h1 _ => hT.1 y k (by omega))).symm
theorem Tab.col_sm {R C : Nat} {h : Nat → Nat → Bool} {t : Nat → Nat → Nat} (hT : Tab R C h t) (hR : R ≤ 4) (x : Nat) : fb_sm (fun y => t y x) R = csum t x := by
  unfold csum
  rw [s4_sm]
  exact (sm_tail hR (fun k h1 _ => hT.1 k x (by omega))).symm
theorem flt_at {C : Nat} (t : Nat → Nat → Nat) {y x : Nat} (hx : x < C) : flt C t (y * C + x) = t y x := by
  unfold flt
  have hC : 0 < C := by omega
  rw [Nat.mul_comm y C, Nat.mul_add_div hC, Nat.div_eq_of_lt hx, Nat.mul_add_mod, Nat.mod_eq_of_lt hx, Nat.add_zero]
theorem idx_lt {R C y x : Nat} (hy : y < R) (hx : x < C) : y * C + x < R * C := by
  have h1 : (y + 1) * C ≤ R * C := Nat.mul_le_mul_right C (by omega)
  rw [Nat.succ_mul] at h1
  omega
theorem mul44 {R C : Nat} (hR : R ≤ 4) (hC : C ≤ 4) : R * C ≤ 16 := Nat.mul_le_mul hR hC
/-- the table at hand is one, told or not -/
theorem WF.tab {a : AS} (h : WF a) : Tab (nR a) (nC a) (hol a) (cel a) := by
  rcases h.2.2.2 with q | q
  · exact ⟨fun y x _ => q.2.2.2.2.2 y x, fun y x _ => q.2.2.2.2.2 y x⟩
  · exact q.2.2.2.2.2.2.2.2.2.1
theorem WF.ts {a : AS} (h : WF a) : tsum (cel a) ≤ 20 := by
  rcases h.2.2.2 with q | q
  · have z : ∀ y x, cel a y x = 0 := q.2.2.2.2.2
    simp only [tsum, rsum, s4, z]
    omega
  · exact q.2.2.2.2.2.2.2.1
theorem rs_le (t : Nat → Nat → Nat) {y : Nat} (hy : y < 4) : rsum t y ≤ tsum t := s4_le (rsum t) hy
theorem cs_ts (t : Nat → Nat → Nat) : s4 (csum t) = tsum t := by
  simp only [tsum, csum, rsum, s4]
  omega
theorem cs_le (t : Nat → Nat → Nat) {x : Nat} (hx : x < 4) : csum t x ≤ tsum t := by
  rw [← cs_ts]
  exact s4_le (csum t) hx
section M2
variable {g : GX} {d : Nat} {ρ : Rs} {S : St} {a : AS}
theorem IM.at {a : AS} {S : St} (hI : IM a S) (hW : WF a) {y x : Nat} (hy : y < nR a) (hx : x < nC a) : S.1 81 (5 + (y * nC a + x)) = nI (cel a y x) := by
  have hl := hW.le
  have h1 := idx_lt hy hx
  have h2 := mul44 hl.1 hl.2.1
  rw [hI.2.2.2.2.2.2.2.2.2.1 _ (by omega), flt_at _ hx]
theorem sM_cell1 {Q : Int32 → St → Prop} (hρ : Ok ρ) (hW : WF a) (hI : IM a S) {x1 x2 : Int32} (h1 : vp_in x1 (nR a)) (h2 : vp_in x2 (nC a)) (h : Q (nI (cel a x1.toNatClampNeg x2.toNatClampNeg)) S) : CALLi g (d + 2) mX12_cell [.ref 80, .int x1, .int x2] ρ ρ S Q := by
  have hl := hW.le
  refine eX12_cell hρ (sM_isCell1 hρ hW hI h1 h2 ?_)
  rw [if_neg (by decide)]
  have c1 := vin_cl h1
  have c2 := vin_cl h2
  have e1 := idx_lt c1 c2
  have e2 := mul44 hl.1 hl.2.1
  rw [vin_eq h1 (by omega), vin_eq h2 (by omega)]
  refine sM_place hρ hI ?_
  have e3 : (5 : Int32) + nI (x1.toNatClampNeg * nC a + x2.toNatClampNeg) = nI (5 + (x1.toNatClampNeg * nC a + x2.toNatClampNeg)) := nI_add 5 _
  rw [e3]
  refine ⟨vp_in_nI (by omega) (by omega), ?_⟩
  rw [nI_clamp (by omega), hI.at hW c1 c2]
  exact h
theorem sM_cell0 {Q : Int32 → St → Prop} (hρ : Ok ρ) (hW : WF a) (hI : IM a S) {x1 x2 : Int32} (h1 : ¬ (vp_in x1 (nR a) ∧ vp_in x2 (nC a))) (h : Q (-2) S) : CALLi g (d + 2) mX12_cell [.ref 80, .int x1, .int x2] ρ ρ S Q := by
  refine eX12_cell hρ (sM_isCell0 hρ hW hI h1 ?_)
  rw [if_pos rfl]
  exact h
theorem hM_lt (a : AS) (h : WF a) : hM a < 65536 := by
  have hl := h.le
  exact Nat.lt_of_lt_of_le (bsum_lt _ _) (Nat.pow_le_pow_right (by decide) (mul44 hl.1 hl.2.1))
theorem hM_bit {a : AS} {y x : Nat} (hy : y < nR a) (hx : x < nC a) : (hM a).testBit (y * nC a + x) = hol a y x := by
  unfold hM
  rw [bsum_bit]
  have hC : 0 < nC a := by omega
  rw [Nat.mul_comm y (nC a), Nat.mul_add_div hC, Nat.div_eq_of_lt hx, Nat.mul_add_mod, Nat.mod_eq_of_lt hx, Nat.add_zero, Nat.mul_comm (nC a) y]
  simp [idx_lt hy hx]
theorem sM_has {Q : Int32 → St → Prop} (hρ : Ok ρ) {m k : Nat} (hm : m < 2 ^ 31) (hk : k < 31) (h : Q (if m.testBit k then 1 else 0) S) : CALLi g d mX12_has [.int (nI m), .int (nI k)] ρ ρ S Q := by
  refine eX12_has hρ ?_
  rw [shr_bit hm hk]
  generalize m.testBit k = b at h
  cases b <;> exact h
theorem sM_hole1 {Q : Int32 → St → Prop} (hρ : Ok ρ) (hW : WF a) (hI : IM a S) {x1 x2 : Int32} (h1 : vp_in x1 (nR a)) (h2 : vp_in x2 (nC a)) (h : Q (if hol a x1.toNatClampNeg x2.toNatClampNeg then 1 else 0) S) : CALLi g (d + 2) mX12_hole [.ref 80, .int x1, .int x2] ρ ρ S Q := by
  have hl := hW.le
  refine eX12_hole hρ (sM_isCell1 hρ hW hI h1 h2 ?_)
  rw [if_neg (by decide)]
  have c1 := vin_cl h1
  have c2 := vin_cl h2
  have e1 := idx_lt c1 c2
  have e2 := mul44 hl.1 hl.2.1
  have e3 := hM_lt a hW
  rw [vin_eq h1 (by omega), vin_eq h2 (by omega)]
  refine sM_place hρ hI ?_
  rw [hI.2.2.2.2.2.2.1]
  refine sM_has hρ (by omega) (by omega) ?_
  rw [hM_bit c1 c2]
  generalize hol a x1.toNatClampNeg x2.toNatClampNeg = b at h
  cases b <;> exact h
theorem sM_hole0 {Q : Int32 → St → Prop} (hρ : Ok ρ) (hW : WF a) (hI : IM a S) {x1 x2 : Int32} (h1 : ¬ (vp_in x1 (nR a) ∧ vp_in x2 (nC a))) (h : Q (-2) S) : CALLi g (d + 2) mX12_hole [.ref 80, .int x1, .int x2] ρ ρ S Q := by
  refine eX12_hole hρ (sM_isCell0 hρ hW hI h1 ?_)
  rw [if_pos rfl]
  exact h
theorem sM_sumOfRow {Q : Int32 → St → Prop} (hρ : Ok ρ) (hW : WF a) (hI : IM a S) {y : Nat} (hy : y < nR a) (h : Q (nI (rsum (cel a) y)) S) : CALLi g (d + 1) mX12_sumOfRow [.ref 80, .int (nI y)] ρ ρ S Q := by
  have hl := hW.le
  have e2 := mul44 hl.1 hl.2.1
  refine eX12_sumOfRow hρ ?_
  have key : ∀ k x, x + k = nC a → AW g ρ (QI Q) (d + 1) mX12_sumOfRow 4 [(0, .ref 80), (1, .int (nI y)), (2, .int (nI (fb_sm (cel a y) x))), (3, .int (nI x))] [] ρ S := by
    intro k
    induction k with
    | zero =>
      intro x hx
      refine eX12_sumOfRow_4 hρ ?_
      rw [hI.2.2.2.2.2.1, if_pos (nI_le (by omega) (by omega)), show x = nC a by omega, hW.tab.row_sm hl.2.1]
      exact h
    | succ k ih =>
      intro x hx
      refine eX12_sumOfRow_4 hρ ?_
      rw [hI.2.2.2.2.2.1, if_neg (nI_ge (by omega) (by omega))]
      refine sM_place hρ hI ?_
      have e1 := idx_lt hy (show x < nC a by omega)
      have e3 : (5 : Int32) + nI (y * nC a + x) = nI (5 + (y * nC a + x)) := nI_add 5 _
      rw [e3]
      refine ⟨vp_in_nI (by omega) (by omega), ?_⟩
      rw [nI_clamp (by omega), hI.at hW hy (show x < nC a by omega), nI_add, nI_1]
      exact ih (x + 1) (by omega)
  exact key (nC a) 0 (by omega)
theorem sM_sumOfColumn {Q : Int32 → St → Prop} (hρ : Ok ρ) (hW : WF a) (hI : IM a S) {x : Nat} (hx : x < nC a) (h : Q (nI (csum (cel a) x)) S) : CALLi g (d + 1) mX12_sumOfColumn [.ref 80, .int (nI x)] ρ ρ S Q := by
  have hl := hW.le
  have e2 := mul44 hl.1 hl.2.1
  refine eX12_sumOfColumn hρ ?_
  have key : ∀ k y, y + k = nR a → AW g ρ (QI Q) (d + 1) mX12_sumOfColumn 4 [(0, .ref 80), (1, .int (nI x)), (2, .int (nI (fb_sm (fun y => cel a y x) y))), (3, .int (nI y))] [] ρ S := by
    intro k
    induction k with
    | zero =>
      intro y hy
      refine eX12_sumOfColumn_4 hρ ?_
      rw [hI.2.2.2.2.1, if_pos (nI_le (by omega) (by omega)), show y = nR a by omega, hW.tab.col_sm hl.1]
      exact h
    | succ k ih =>
      intro y hy
      refine eX12_sumOfColumn_4 hρ ?_
      rw [hI.2.2.2.2.1, if_neg (nI_ge (by omega) (by omega))]
      refine sM_place hρ hI ?_
      have e1 := idx_lt (show y < nR a by omega) hx
      have e3 : (5 : Int32) + nI (y * nC a + x) = nI (5 + (y * nC a + x)) := nI_add 5 _
      rw [e3]
      refine ⟨vp_in_nI (by omega) (by omega), ?_⟩
      rw [nI_clamp (by omega), hI.at hW (show y < nR a by omega) hx, nI_add, nI_1]
      exact ih (y + 1) (by omega)
  exact key (nR a) 0 (by omega)
theorem sM_row1 {Q : Int32 → St → Prop} (hρ : Ok ρ) (hW : WF a) (hI : IM a S) {x1 : Int32} (h1 : vp_in x1 (nR a)) (h : Q (nI (rsum (cel a) x1.toNatClampNeg)) S) : CALLi g (d + 2) mX12_row [.ref 80, .int x1] ρ ρ S Q := by
  have hl := hW.le
  refine eX12_row hρ (sM_in hρ ?_)
  rw [hI.2.2.2.2.1, if_pos ((in64 (by omega)).mpr h1), if_neg (by decide)]
  rw [vin_eq h1 (by omega)]
  exact sM_sumOfRow hρ hW hI (vin_cl h1) h
theorem sM_row0 {Q : Int32 → St → Prop} (hρ : Ok ρ) (hW : WF a) (hI : IM a S) {x1 : Int32} (h1 : ¬ vp_in x1 (nR a)) (h : Q (-2) S) : CALLi g (d + 2) mX12_row [.ref 80, .int x1] ρ ρ S Q := by
  have hl := hW.le
  refine eX12_row hρ (sM_in hρ ?_)
  rw [hI.2.2.2.2.1, if_neg (fun z => h1 ((in64 (by omega)).mp z)), if_pos rfl]
  exact h
theorem sM_column1 {Q : Int32 → St → Prop} (hρ : Ok ρ) (hW : WF a) (hI : IM a S) {x1 : Int32} (h1 : vp_in x1 (nC a)) (h : Q (nI (csum (cel a) x1.toNatClampNeg)) S) : CALLi g (d + 2) mX12_column [.ref 80, .int x1] ρ ρ S Q := by
  have hl := hW.le
  refine eX12_column hρ (sM_in hρ ?_)
  rw [hI.2.2.2.2.2.1, if_pos ((in64 (by omega)).mpr h1), if_neg (by decide)]
  rw [vin_eq h1 (by omega)]
  exact sM_sumOfColumn hρ hW hI (vin_cl h1) h
theorem sM_column0 {Q : Int32 → St → Prop} (hρ : Ok ρ) (hW : WF a) (hI : IM a S) {x1 : Int32} (h1 : ¬ vp_in x1 (nC a)) (h : Q (-2) S) : CALLi g (d + 2) mX12_column [.ref 80, .int x1] ρ ρ S Q := by
  have hl := hW.le
  refine eX12_column hρ (sM_in hρ ?_)
  rw [hI.2.2.2.2.2.1, if_neg (fun z => h1 ((in64 (by omega)).mp z)), if_pos rfl]
  exact h
end M2
section C2
variable {g : GX} {d : Nat} {ρ : Rs} {S : St} {a : AS}
theorem told_cases {a : AS} (h : WF a) : (nR a = 0 ∧ nC a = 0) ∨ (2 ≤ nR a ∧ 2 ≤ nC a) := by
  rcases h.2.2.2 with q | q
  · exact Or.inl ⟨q.1, q.2.1⟩
  · exact Or.inr ⟨q.1, q.2.2.1⟩
theorem vin_pos {x : Int32} {n : Nat} (h : vp_in x n) : 0 < n := by
  have := vin_cl h
  omega
theorem sC_row1 {Q : Int32 → St → Prop} (hρ : Ok ρ) (hW : WF a) (hI : IB a S) {x1 : Int32} (h1 : vp_in x1 (nR a)) (h : Q (nI (rsum (cel a) x1.toNatClampNeg)) S) : CALLi g (d + 5) mX11_row [.ref 16, .int x1] ρ ρ S Q := by
  have hl := hW.le
  have c1 := vin_cl h1
  have hc := told_cases hW
  refine eX11_row hρ (sC_has1 hρ hW hI h1 (vp_in_nI (n := 0) (by omega) (by omega)) ?_)
  rw [if_neg (by decide)]
  refine ⟨by rw [vin_eq h1 (by omega)]; exact vp_in_nI (by omega) (by omega), ?_⟩
  rw [hI.2.2.2.2.2.2.2.2.2.1 _ (by omega)]
  exact h
theorem sC_row0 {Q : Int32 → St → Prop} (hρ : Ok ρ) (hW : WF a) (hI : IB a S) {x1 : Int32} (h1 : ¬ vp_in x1 (nR a)) (h : Q (-2) S) : CALLi g (d + 5) mX11_row [.ref 16, .int x1] ρ ρ S Q := by
  refine eX11_row hρ (sC_has0 hρ hW hI (fun q => h1 q.1) ?_)
  rw [if_pos rfl]
  exact h
theorem sC_column1 {Q : Int32 → St → Prop} (hρ : Ok ρ) (hW : WF a) (hI : IB a S) {x1 : Int32} (h1 : vp_in x1 (nC a)) (h : Q (nI (csum (cel a) x1.toNatClampNeg)) S) : CALLi g (d + 5) mX11_column [.ref 16, .int x1] ρ ρ S Q := by
  have hl := hW.le
  have c1 := vin_cl h1
  have hc := told_cases hW
  refine eX11_column hρ (sC_has1 hρ hW hI (vp_in_nI (n := 0) (by omega) (by omega)) h1 ?_)
  rw [if_neg (by decide)]
  refine ⟨by rw [vin_eq h1 (by omega)]; exact vp_in_nI (by omega) (by omega), ?_⟩
  rw [hI.2.2.2.2.2.2.2.2.2.2.1 _ (by omega)]
  exact h
theorem sC_column0 {Q : Int32 → St → Prop} (hρ : Ok ρ) (hW : WF a) (hI : IB a S) {x1 : Int32} (h1 : ¬ vp_in x1 (nC a)) (h : Q (-2) S) : CALLi g (d + 5) mX11_column [.ref 16, .int x1] ρ ρ S Q := by
  refine eX11_column hρ (sC_has0 hρ hW hI (fun q => h1 q.2) ?_)
  rw [if_pos rfl]
  exact h
end C2
