section XD
variable {g : GX} {d : Nat} {ρ : Rs} {S : St} {a : AS}
theorem i32_pos {n : Nat} (h : n < 2 ^ 31) : (0 : Int32) < nI n ↔ n ≠ 0 := by
  have := nI_ltI (a := 0) (b := n) (by omega) h
  rw [show (0 : Int32) = nI 0 from rfl, this]
  omega
theorem i32_zero {n : Nat} (h : n < 2 ^ 31) : nI n = (0 : Int32) ↔ n = 0 := by
  have := nI_eq (a := n) (b := 0) h (by omega)
  rw [show (0 : Int32) = nI 0 from rfl, this]
theorem sC_product {Q : Int32 → St → Prop} (hρ : Ok ρ) (hW : WF a) (hI : IB a S) {y x : Nat} (hy : y < nR a) (hx : x < nC a) (h : Q (nI (rsum (cel a) y * csum (cel a) x)) S) : CALLi g (d + 4) mX9_product [.ref 21, .int (nI y), .int (nI x)] ρ ρ S Q := by
  have hle := hW.le
  refine eX9_product hρ ?_
  rw [nI_clamp (by omega), nI_clamp (by omega), hI.2.2.2.2.2.2.2.2.2.1 y (by omega), hI.2.2.2.2.2.2.2.2.2.2.1 x (by omega), pk_mul]
  exact ⟨vp_in_nI (by omega) (by omega), vp_in_nI (by omega) (by omega), h⟩
theorem sC_chiSum {Q : UInt64 → St → Prop} (hρ : Ok ρ) (hW : WF a) (hR : nR a ≠ 0) (hI : IB a S) (h : Q (chiF a (nR a * nC a)) S) : CALLd g (d + 6) mX9_chiSum [.ref 21] ρ ρ S Q := by
  have hle := hW.le
  have e16 := mul44 hle.1 hle.2.1
  have h20 : tsum (cel a) ≤ 20 := (hW.told hR).2.2.2.2.2.2.2.1
  have hC : 0 < nC a := by have := (hW.told hR).2.2.1; omega
  refine eX9_chiSum hρ ?_
  have rows : ∀ n y, n + y = nR a → AW g ρ (QD Q) (d + 5 + 1) mX9_chiSum 4 [(0, .ref 21), (1, .double (chiF a (y * nC a))), (3, .int (nI y))] [] ρ S := by
    intro n
    induction n with
    | zero =>
      intro y hn
      refine eX9_chiSum_4 hρ ?_
      rw [hI.2.2.2.2.1, if_pos (nI_le (by omega) (by omega)), show y = nR a by omega]
      exact h
    | succ n ih =>
      intro y hn
      refine eX9_chiSum_4 hρ ?_
      rw [hI.2.2.2.2.1, if_neg (nI_ge (by omega) (by omega))]
      have hy : y < nR a := by omega
      have cols : ∀ m x, m + x = nC a → AW g ρ (QD Q) (d + 5 + 1) mX9_chiSum 15 [(0, .ref 21), (1, .double (chiF a (y * nC a + x))), (3, .int (nI y)), (4, .int (nI x))] [] ρ S := by
        intro m
        induction m with
        | zero =>
          intro x hm
          refine eX9_chiSum_15 hρ ?_
          rw [hI.2.2.2.2.2.1, if_pos (nI_le (by omega) (by omega)), nI_1]
          have := ih (y + 1) (by omega)
          rw [Nat.succ_mul, ← show x = nC a by omega] at this
          rw [show x = nC a by omega] at this ⊢
          exact this
        | succ m ihm =>
          intro x hm
          have hx : x < nC a := by omega
          have hk := idx_lt hy hx
          obtain ⟨d1, d2⟩ := due_ok hW hR (show y < 4 by omega) (show x < 4 by omega)
          have ei := (idx_iff (y := y) (k := y * nC a + x) hx).mpr rfl
          have es : chiF a (y * nC a + (x + 1)) = addD a (chiF a (y * nC a + x)) y x := by
            show addD a (chiF a (y * nC a + x)) ((y * nC a + x) / nC a) ((y * nC a + x) % nC a) = _
            rw [ei.1, ei.2]
          have nx := ihm (x + 1) (by omega)
          rw [es] at nx
          have go : AW g ρ (QD Q) (d + 5 + 1) mX9_chiSum 49 [(0, .ref 21), (1, .double (chiF a (y * nC a + x))), (3, .int (nI y)), (4, .int (nI x))] [.double (dueD a y x)] ρ S := by
            refine eX9_chiSum_49 hρ ?_
            rw [nI_1]
            unfold addD at nx
            by_cases c : Op.cmpValue (FP.dcmp (dueD a y x) FP.dconst0) .l ≤ 0
            · rw [if_pos c] at nx ⊢
              exact nx
            · obtain ⟨q0, q1, q2, q3, q4⟩ := d2 c
              rw [if_neg c] at nx ⊢
              refine sC_at hρ hW hI (by omega) (by omega) ?_
              have ed : dueD a y x = dvD (rsum (cel a) y * csum (cel a) x) (tsum (cel a)) := by unfold dueD; rw [if_neg q0]
              rw [ed]
              have hrg := chiF_rg hW hR (y * nC a + x) (by omega)
              have hrt : rgD (1040 + 2 * (y * nC a + x)) (tmD (rsum (cel a) y * csum (cel a) x) (tsum (cel a)) (cel a y x)) := by
                rcases q4 with z | z
                · exact Or.inl z
                · exact Or.inr ⟨z.1, by omega⟩
              exact ⟨q1, q2, q3, vf_iff.mpr (rgD_nn (dadd_rg (K := 1040 + 2 * (y * nC a + x)) hrg hrt (by omega)) (by omega)).1, nx⟩
          refine eX9_chiSum_15 hρ ?_
          rw [hI.2.2.2.2.2.1, if_neg (nI_ge (by omega) (by omega))]
          have e3 : S.1 21 3 = nI (tsum (cel a)) := hI.2.2.2.2.2.2.2.1
          by_cases c : tsum (cel a) = 0
          · rw [if_neg (fun z => by rw [e3] at z; exact (i32_pos (by omega)).mp z c)]
            have : dueD a y x = FP.dconst0 := by unfold dueD; rw [if_pos c]
            rw [this] at go
            exact go
          · rw [if_pos (by rw [e3]; exact (i32_pos (by omega)).mpr c)]
            refine sC_product hρ hW hI hy hx ?_
            rw [e3]
            have : dueD a y x = dvD (rsum (cel a) y * csum (cel a) x) (tsum (cel a)) := by unfold dueD; rw [if_neg c]
            rw [this] at go
            exact ⟨d1 c, go⟩
      exact cols (nC a) 0 (by omega)
  have := rows (nR a) 0 (by omega)
  rw [Nat.zero_mul] at this
  exact this
def chiV (a : AS) : Int64 := (chiF a (nR a * nC a)).toInt64
theorem sC_chi {Q : Int64 → St → Prop} (hρ : Ok ρ) (hW : WF a) (hI : IB a S) (h0 : nR a = 0 → Q (-2) S) (h1 : nR a ≠ 0 → Q (chiV a) S) : CALLl g (d + 7) mX11_chi [.ref 16] ρ ρ S Q := by
  refine eX11_chi hρ (sC_isTold hρ hW hI ?_)
  by_cases c : nR a = 0
  · rw [if_pos c, if_pos rfl]; exact h0 c
  rw [if_neg c, if_neg (by decide)]
  have hle := hW.le
  have e16 := mul44 hle.1 hle.2.1
  refine sC_chiSum hρ hW c hI (sC_bitsX hρ ?_ (h1 c))
  rcases chiF_rg hW c (nR a * nC a) (Nat.le_refl _) with z | z
  · exact Or.inl z
  · exact Or.inr ⟨by omega, by omega⟩
theorem sM_chi {Q : Int64 → St → Prop} (hρ : Ok ρ) (hW : WF a) (hI : IM a S) (h0 : nR a = 0 → Q (-2) S) (h1 : nR a ≠ 0 → Q (chiV a) S) : CALLl g (d + 4) mX12_chi [.ref 80] ρ ρ S Q := by
  refine eX12_chi hρ (sM_is hρ hW hI ?_)
  by_cases c : nR a = 0
  · rw [if_pos c, if_pos rfl]; exact h0 c
  rw [if_neg c, if_neg (by decide)]
  have hle := hW.le
  have e16 := mul44 hle.1 hle.2.1
  have h20 : tsum (cel a) ≤ 20 := (hW.told c).2.2.2.2.2.2.2.1
  have hC : 0 < nC a := by have := (hW.told c).2.2.1; omega
  have key : ∀ n k, n + k = nR a * nC a → AW g ρ (QJ Q) (d + 3 + 1) mX12_chi 15 [(0, .ref 80), (1, .double (chiF a k)), (3, .int (nI k))] [] ρ S := by
    intro n
    induction n with
    | zero =>
      intro k hk
      have ek : k = nR a * nC a := by omega
      have hrg := chiF_rg hW c k (by omega)
      refine eX12_chi_15 hρ (sM_many hρ hI ?_)
      rw [if_pos (nI_le (by omega) (by omega)), show d + 3 = d + 2 + 1 by omega]
      refine eJxe99ae_doubleToLongBits_ccdee hρ (eJxe99ae_isNaN_b9ae7 hρ ?_)
      rw [if_pos (show Op.cmpValue (FP.dcmp (chiF a k) (chiF a k)) .l = 0 by
        rw [show FP.dcmp (chiF a k) (chiF a k) = some .eq from FP.Core.dcmp_self (rgD_nn hrg (by omega)).1]; rfl), if_pos rfl, ek]
      exact h1 c
    | succ n ih =>
      intro k hk
      have hy : k / nC a < nR a := Nat.div_lt_of_lt_mul (by rw [Nat.mul_comm]; omega)
      have hx := Nat.mod_lt k hC
      obtain ⟨d1, d2⟩ := due_ok hW c (show k / nC a < 4 by omega) (show k % nC a < 4 by omega)
      have nx := ih (k + 1) (by omega)
      have es : chiF a (k + 1) = addD a (chiF a k) (k / nC a) (k % nC a) := rfl
      rw [es] at nx
      have go : AW g ρ (QJ Q) (d + 3 + 1) mX12_chi 74 [(0, .ref 80), (1, .double (chiF a k)), (3, .int (nI k))] [.double (dueD a (k / nC a) (k % nC a))] ρ S := by
        refine eX12_chi_74 hρ ?_
        rw [nI_1]
        unfold addD at nx
        by_cases cc : Op.cmpValue (FP.dcmp (dueD a (k / nC a) (k % nC a)) FP.dconst0) .l ≤ 0
        · rw [if_pos cc] at nx ⊢
          exact nx
        · obtain ⟨q0, q1, q2, q3, q4⟩ := d2 cc
          rw [if_neg cc] at nx ⊢
          have ed : dueD a (k / nC a) (k % nC a) = dvD (rsum (cel a) (k / nC a) * csum (cel a) (k % nC a)) (tsum (cel a)) := by unfold dueD; rw [if_neg q0]
          rw [ed, show (5 : Int32) + nI k = nI (5 + k) from nI_add 5 k, nI_clamp (by omega), show S.1 81 (5 + k) = nI (cel a (k / nC a) (k % nC a)) from hI.2.2.2.2.2.2.2.2.2.1 k (by omega)]
          have hrg := chiF_rg hW c k (by omega)
          have hrt : rgD (1040 + 2 * k) (tmD (rsum (cel a) (k / nC a) * csum (cel a) (k % nC a)) (tsum (cel a)) (cel a (k / nC a) (k % nC a))) := by
            rcases q4 with z | z
            · exact Or.inl z
            · exact Or.inr ⟨z.1, by omega⟩
          exact ⟨vp_in_nI (by omega) (by omega), q1, q2, q3, vf_iff.mpr (rgD_nn (dadd_rg (K := 1040 + 2 * k) hrg hrt (by omega)) (by omega)).1, nx⟩
      refine eX12_chi_15 hρ (sM_many hρ hI ?_)
      rw [if_neg (nI_ge (by omega) (by omega)), hI.2.2.2.2.2.1]
      have nz : ¬ nI (nC a) = (0 : Int32) := fun z => by have := (i32_zero (by omega)).mp z; omega
      refine ⟨nz, nz, ?_⟩
      rw [show d + 3 = d + 2 + 1 by omega]
      refine sM_totalNow hρ hW hI ?_
      by_cases ct : tsum (cel a) = 0
      · rw [if_pos ((i32_zero (by omega)).mpr ct)]
        have : dueD a (k / nC a) (k % nC a) = FP.dconst0 := by unfold dueD; rw [if_pos ct]
        rw [this] at go
        exact go
      · rw [if_neg (fun z => ct ((i32_zero (by omega)).mp z)), pk_rem (by omega) (by omega) (by omega), pk_div (by omega) (by omega) (by omega)]
        refine sM_sumOfRow hρ hW hI hy (sM_sumOfColumn hρ hW hI hx (sM_totalNow hρ hW hI ?_))
        rw [pk_mul]
        have : dueD a (k / nC a) (k % nC a) = dvD (rsum (cel a) (k / nC a) * csum (cel a) (k % nC a)) (tsum (cel a)) := by unfold dueD; rw [if_neg ct]
        rw [this] at go
        exact ⟨d1 ct, go⟩
  exact key (nR a * nC a) 0 (by omega)
/-- a float that was checked: its bits as the class makes them -/
theorem sC_bitsF {Q : Int32 → St → Prop} (hρ : Ok ρ) {x : UInt32} (hx : chkX x = true) (h : Q x.toInt32 S) : CALLi g (d + 4) mX7_bitsOfFloat [.float x] ρ ρ S Q := by
  unfold chkX at hx
  rw [Bool.and_eq_true, Bool.and_eq_true, frD_eq] at hx
  have hb := hx.2.2
  unfold chkB at hb
  rw [Bool.and_eq_true] at hb
  have key : AW g ρ (QI Q) (d + 4) mX7_bitsOfFloat 12 [(0, .float x)] [.float (if 0 ≤ Op.cmpValue (FP.fcmp x FP.fconst0) .g then x else FP.fneg x)] ρ S := by
    generalize ew : FP.f2d (if 0 ≤ Op.cmpValue (FP.fcmp x FP.fconst0) .g then x else FP.fneg x) = w at hb
    refine eX7_bitsOfFloat_12 hρ ?_
    rw [ew]
    refine ⟨okd_iff hb.1, ?_⟩
    rcases Bool.or_eq_true_iff.mp hb.2 with z | z
    · rw [Bool.and_eq_true, decide_eq_true_eq, decide_eq_true_eq] at z
      refine sC_bits0 hρ z.1 ?_
      rw [if_pos rfl]
      rw [z.2] at h
      exact h
    · rw [Bool.and_eq_true, Bool.and_eq_true, decide_eq_true_eq, decide_eq_true_eq] at z
      refine sC_bitsX hρ (Or.inr ⟨by omega, by omega⟩) ?_
      have nz : ¬ w.toInt64 = 0 := fun q => by
        have e : w = 0 := by
          have := congrArg Int64.toUInt64 q
          exact this
        rw [e] at z
        exact absurd z.1 (by decide)
      rw [if_neg nz]
      have z3 := z.2.2
      by_cases c : 0 ≤ Op.cmpValue (FP.fcmp x FP.fconst0) .g
      · rw [if_pos c, decide_eq_true_eq] at z3
        rw [if_pos c, z3]
        exact h
      · rw [if_neg c, decide_eq_true_eq] at z3
        rw [if_neg c, z3]
        exact h
  refine eX7_bitsOfFloat hρ ?_
  by_cases c : 0 ≤ Op.cmpValue (FP.fcmp x FP.fconst0) .g
  · rw [if_pos c] at key ⊢
    exact key
  · rw [if_neg c] at key ⊢
    exact key
/-- how far a cell is over what the sums make it -/
def excF (a : AS) (y x : Nat) : UInt32 := FP.fsub (FP.i2f (nI (cel a y x))) (if tsum (cel a) = 0 then FP.fconst0 else FP.fdiv (FP.i2f (nI (rsum (cel a) y * csum (cel a) x))) (FP.i2f (nI (tsum (cel a)))))
theorem exc_ok (hW : WF a) (hR : nR a ≠ 0) {y x : Nat} (hy : y < 4) (hx : x < 4) : chkX (excF a y x) = true ∧ (tsum (cel a) ≠ 0 → vf_n32 (FP.fdiv (FP.i2f (nI (rsum (cel a) y * csum (cel a) x))) (FP.i2f (nI (tsum (cel a)))))) := by
  obtain ⟨g1, g2, g3, g4, g5⟩ := sum_geo (cel a) hy hx
  have h20 : tsum (cel a) ≤ 20 := (hW.told hR).2.2.2.2.2.2.2.1
  unfold excF
  by_cases c : tsum (cel a) = 0
  · rw [if_pos c, show cel a y x = 0 by omega]
    exact ⟨chkX_0, fun z => absurd c z⟩
  · rw [if_neg c]
    have := chkF_at (Nat.pos_of_ne_zero c) h20 g3 g4 g1 g2 g5
    exact ⟨this.2, fun _ => this.1⟩
theorem exc_vf (hW : WF a) (hR : nR a ≠ 0) {y x : Nat} (hy : y < 4) (hx : x < 4) : vf_n32 (excF a y x) ∧ Op.cmpValue (FP.fcmp (excF a y x) (excF a y x)) .l = 0 := by
  have h := (exc_ok hW hR hy hx).1
  unfold chkX at h
  rw [Bool.and_eq_true, Bool.and_eq_true, decide_eq_true_eq] at h
  exact ⟨okf_iff h.1, h.2.1⟩
def excV (a : AS) (x1 x2 : Int32) : Int32 := (excF a x1.toNatClampNeg x2.toNatClampNeg).toInt32
theorem sC_excess {Q : Int32 → St → Prop} (hρ : Ok ρ) (hW : WF a) (hI : IB a S) {x1 x2 : Int32} (h0 : ¬ (vp_in x1 (nR a) ∧ vp_in x2 (nC a)) → Q (-2) S) (h1 : vp_in x1 (nR a) → vp_in x2 (nC a) → Q (excV a x1 x2) S) : CALLi g (d + 7) mX11_excess [.ref 16, .int x1, .int x2] ρ ρ S Q := by
  have hle := hW.le
  refine eX11_excess hρ ?_
  by_cases c : vp_in x1 (nR a) ∧ vp_in x2 (nC a)
  rotate_left
  · refine sC_has0 hρ hW hI c ?_
    rw [if_pos rfl]; exact h0 c
  refine sC_has1 hρ hW hI c.1 c.2 ?_
  rw [if_neg (by decide)]
  have hR := vin_R c.1
  have h20 : tsum (cel a) ≤ 20 := (hW.told hR).2.2.2.2.2.2.2.1
  have c1 := vin_cl c.1
  have c2 := vin_cl c.2
  have hh := h1 c.1 c.2
  unfold excV at hh
  rw [vin_eq c.1 (by omega), vin_eq c.2 (by omega)]
  generalize x1.toNatClampNeg = y at c1 hh ⊢
  generalize x2.toNatClampNeg = x at c2 hh ⊢
  obtain ⟨k1, k2⟩ := exc_ok hW hR (show y < 4 by omega) (show x < 4 by omega)
  obtain ⟨k3, k4⟩ := exc_vf hW hR (show y < 4 by omega) (show x < 4 by omega)
  have e3 : S.1 21 3 = nI (tsum (cel a)) := hI.2.2.2.2.2.2.2.1
  have fin : ∀ {v : UInt32}, v = excF a y x → CALLi g (d + 6) mX7_bitsOfFloat [.float v] ρ ρ S Q := fun e => by
    rw [e]
    exact sC_bitsF hρ k1 hh
  refine eX9_over hρ ?_
  by_cases ct : tsum (cel a) = 0
  · rw [if_neg (fun z => by rw [e3] at z; exact (i32_pos (by omega)).mp z ct)]
    refine sC_at hρ hW hI (by omega) (by omega) ?_
    have ee : FP.fsub (FP.i2f (nI (cel a y x))) FP.fconst0 = excF a y x := by unfold excF; rw [if_pos ct]
    rw [ee]
    exact ⟨k3, fin rfl⟩
  · rw [if_pos (by rw [e3]; exact (i32_pos (by omega)).mpr ct)]
    refine sC_product hρ hW hI c1 c2 ?_
    rw [e3]
    refine ⟨k2 ct, sC_at hρ hW hI (by omega) (by omega) ?_⟩
    have ee : FP.fsub (FP.i2f (nI (cel a y x))) (FP.fdiv (FP.i2f (nI (rsum (cel a) y * csum (cel a) x))) (FP.i2f (nI (tsum (cel a))))) = excF a y x := by unfold excF; rw [if_neg ct]
    rw [ee]
    exact ⟨k3, fin rfl⟩
theorem sM_excess {Q : Int32 → St → Prop} (hρ : Ok ρ) (hW : WF a) (hI : IM a S) {x1 x2 : Int32} (h0 : ¬ (vp_in x1 (nR a) ∧ vp_in x2 (nC a)) → Q (-2) S) (h1 : vp_in x1 (nR a) → vp_in x2 (nC a) → Q (excV a x1 x2) S) : CALLi g (d + 4) mX12_excess [.ref 80, .int x1, .int x2] ρ ρ S Q := by
  have hle := hW.le
  refine eX12_excess hρ ?_
  by_cases c : vp_in x1 (nR a) ∧ vp_in x2 (nC a)
  rotate_left
  · refine sM_isCell0 hρ hW hI c ?_
    rw [if_pos rfl]; exact h0 c
  refine sM_isCell1 hρ hW hI c.1 c.2 ?_
  rw [if_neg (by decide)]
  have hR := vin_R c.1
  have h20 : tsum (cel a) ≤ 20 := (hW.told hR).2.2.2.2.2.2.2.1
  have c1 := vin_cl c.1
  have c2 := vin_cl c.2
  have hh := h1 c.1 c.2
  unfold excV at hh
  rw [vin_eq c.1 (by omega), vin_eq c.2 (by omega)]
  generalize x1.toNatClampNeg = y at c1 hh ⊢
  generalize x2.toNatClampNeg = x at c2 hh ⊢
  have e16 := mul44 hle.1 hle.2.1
  have hk := idx_lt c1 c2
  obtain ⟨k1, k2⟩ := exc_ok hW hR (show y < 4 by omega) (show x < 4 by omega)
  obtain ⟨k3, k4⟩ := exc_vf hW hR (show y < 4 by omega) (show x < 4 by omega)
  have ei := (idx_iff (y := y) (k := y * nC a + x) c2).mpr rfl
  have fin : ∀ {s0 : UInt32}, FP.fsub (FP.i2f (nI (cel a y x))) s0 = excF a y x → AW g ρ (QI Q) (d + 3 + 1) mX12_excess 41 [(0, .ref 80), (1, .int (nI y)), (2, .int (nI x))] [.float s0] ρ S := fun e => by
    refine eX12_excess_41 hρ (sM_place hρ hI ?_)
    have ec : S.1 81 (5 + (y * nC a + x)) = nI (cel a y x) := by
      have := hI.2.2.2.2.2.2.2.2.2.1 (y * nC a + x) (by omega)
      rw [this]
      show nI (cel a ((y * nC a + x) / nC a) ((y * nC a + x) % nC a)) = _
      rw [ei.1, ei.2]
    rw [show (5 : Int32) + nI (y * nC a + x) = nI (5 + (y * nC a + x)) from nI_add 5 _, nI_clamp (by omega), ec, e, show d + 3 = d + 2 + 1 by omega]
    refine ⟨vp_in_nI (by omega) (by omega), k3, eJxf58ca_floatToIntBits_5c35a hρ (eJxf58ca_isNaN_12338 hρ ?_)⟩
    rw [if_pos k4, if_pos rfl]
    exact hh
  rw [show d + 3 = d + 2 + 1 by omega]
  refine sM_totalNow hρ hW hI ?_
  by_cases ct : tsum (cel a) = 0
  · rw [if_pos ((i32_zero (by omega)).mpr ct)]
    exact fin (by unfold excF; rw [if_pos ct])
  · rw [if_neg (fun z => ct ((i32_zero (by omega)).mp z))]
    refine sM_sumOfRow hρ hW hI c1 (sM_sumOfColumn hρ hW hI c2 (sM_totalNow hρ hW hI ?_))
    rw [pk_mul]
    exact ⟨k2 ct, fin (by unfold excF; rw [if_neg ct])⟩
end XD
