-- CHI AND EXCESS
/-- nought, or from 2^-23 on and below a bound -/
def rgD (K : Nat) (x : UInt64) : Prop := x.toNat = 0 ∨ (1000 * 2 ^ 52 ≤ x.toNat ∧ x.toNat < K * 2 ^ 52)
theorem rgD_nn {K : Nat} {x : UInt64} (h : rgD K x) (hK : K ≤ 2047) : FP.Core.val64 x ≠ .nan ∧ x.toNat < 2 ^ 63 := by
  rw [FP.Core.ne_nan]
  have : x.toNat < 2 ^ 63 ∧ x.toNat ≤ 9218868437227405312 := by
    rcases h with z | z <;> omega
  exact ⟨by rw [Nat.mod_eq_of_lt this.1]; exact this.2, this.1⟩
theorem dadd_rg {K : Nat} {x t : UInt64} (hx : rgD K x) (ht : rgD K t) (hK : K + 2 ≤ 2047) : rgD (K + 2) (FP.dadd x t) := by
  obtain ⟨nx, sx⟩ := rgD_nn hx (by omega)
  obtain ⟨nt, st⟩ := rgD_nn ht (by omega)
  have nz : ∀ {y : UInt64}, y.toNat < 2 ^ 63 → y ≠ FP.Core.dzeroNeg := fun hy z => by
    rw [z] at hy
    exact absurd hy (by decide)
  have up : ∀ {y : UInt64}, rgD K y → rgD (K + 2) y := fun hy => by
    rcases hy with z | z
    · exact Or.inl z
    · exact Or.inr ⟨z.1, by omega⟩
  have e0 : ∀ {y : UInt64}, y.toNat = 0 → y = FP.Core.dconst0 := fun hy => UInt64.toNat_inj.mp (by rw [hy]; rfl)
  by_cases c1 : x.toNat = 0
  · have e : FP.dadd x t = t := by
      rw [e0 c1]
      show FP.Core.dadd FP.Core.dconst0 t = t
      rw [FP.Core.dadd_comm]
      exact FP.Core.dadd_zero nt (nz st)
    rw [e]; exact up ht
  by_cases c2 : t.toNat = 0
  · have e : FP.dadd x t = x := by
      rw [e0 c2]
      exact FP.Core.dadd_zero nx (nz sx)
    rw [e]; exact up hx
  have hx2 : 1000 * 2 ^ 52 ≤ x.toNat ∧ x.toNat < K * 2 ^ 52 := by
    rcases hx with z | z
    · exact absurd z c1
    · exact z
  have ht2 : 1000 * 2 ^ 52 ≤ t.toNat ∧ t.toNat < K * 2 ^ 52 := by
    rcases ht with z | z
    · exact absurd z c2
    · exact z
  have hmag := FP.Core.dadd_mag (a := x) (b := t) (K := K) (by rw [Nat.mod_eq_of_lt sx]; exact hx2.2) (by rw [Nat.mod_eq_of_lt st]; exact ht2.2) (by omega)
  have nr : FP.Core.val64 (FP.dadd x t) ≠ .nan := by
    rw [FP.Core.ne_nan]
    have : (FP.Core.dadd x t).toNat % 2 ^ 63 < (K + 2) * 2 ^ 52 := hmag
    show (FP.Core.dadd x t).toNat % 2 ^ 63 ≤ _
    omega
  have fx : FP.Core.DFin x := FP.Core.fin_of_lt (K := K) (by rw [Nat.mod_eq_of_lt sx]; exact hx2.2) (by omega)
  have ft : FP.Core.DFin t := FP.Core.fin_of_lt (K := K) (by rw [Nat.mod_eq_of_lt st]; exact ht2.2) (by omega)
  have zv : ∀ {y : UInt64}, FP.Core.val64 y ≠ .nan → y.toNat < 2 ^ 63 → FP.Core.zval FP.Core.b64 (FP.Core.val64 y) = ((FP.Core.unitsOf FP.Core.b64 y.toNat : Nat) : Int) := fun {y} hy sy => by
    unfold FP.Core.zval
    rw [FP.Core.sgn_bits hy, FP.Core.zmag_bits hy, Nat.mod_eq_of_lt sy, decide_eq_false (by omega)]
    rfl
  have zx := zv nx sx
  have zt := zv nt st
  have hge := FP.Core.sum_ge FP.Core.good_b64 fx ft (FP.Core.val64_fits x) (FP.Core.val64_fits t) (FP.Core.val64_fits x) nx (by rw [zx, zt]; omega)
  rw [← FP.Core.val64_dadd, zx] at hge
  have hux : 0 < FP.Core.unitsOf FP.Core.b64 x.toNat := Nat.pos_of_ne_zero (fun z => c1 (FP.Core.unitsOf_eq_zero.mp z))
  have sr : (FP.dadd x t).toNat < 2 ^ 63 := by
    refine Nat.not_le.mp (fun z => ?_)
    have e : FP.Core.zval FP.Core.b64 (FP.Core.val64 (FP.Core.dadd x t)) = -((FP.Core.zmag FP.Core.b64 (FP.Core.val64 (FP.Core.dadd x t)) : Nat) : Int) := by
      unfold FP.Core.zval
      rw [FP.Core.sgn_bits nr, decide_eq_true z]
      rfl
    rw [e] at hge
    omega
  have zr := zv nr sr
  have zr' : FP.Core.zval FP.Core.b64 (FP.Core.val64 (FP.Core.dadd x t)) = ((FP.Core.unitsOf FP.Core.b64 (FP.dadd x t).toNat : Nat) : Int) := zr
  rw [zr'] at hge
  have hle := FP.Core.unitsOf_le_iff.mp (Int.ofNat_le.mp hge)
  have hm2 : (FP.dadd x t).toNat < (K + 2) * 2 ^ 52 := by
    have : (FP.Core.dadd x t).toNat % 2 ^ 63 < (K + 2) * 2 ^ 52 := hmag
    rw [Nat.mod_eq_of_lt sr] at this
    exact this
  exact Or.inr ⟨by omega, hm2⟩
-- what was checked, taken out
theorem rngD_iff {x : UInt64} (h : rngD x = true) : rgD 1040 x := by
  unfold rngD at h
  rw [Bool.or_eq_true, Bool.and_eq_true, decide_eq_true_eq, decide_eq_true_eq, decide_eq_true_eq] at h
  exact h
theorem okd_iff {x : UInt64} (h : okd x = true) : vf_n64 x := by
  unfold okd at h
  have h2 := of_decide_eq_true h
  exact h2
theorem okf_iff {x : UInt32} (h : okf x = true) : vf_n32 x := by
  unfold okf at h
  have h2 := of_decide_eq_true h
  exact h2
/-- a cell's double: sums r, c, total n -/
def dvD (p n : Nat) : UInt64 := FP.ddiv (FP.i2d (nI p)) (FP.i2d (nI n))
theorem chkD_at {n r c v : Nat} (h1 : 1 ≤ n) (h2 : n ≤ 20) (hr : r ≤ n) (hc : c ≤ n) (hv1 : v ≤ r) (hv2 : v ≤ c) (hv3 : r + c ≤ n + v) : chkD (dvD (r * c) n) (r * c) v = true := by
  have key : ∀ {r c : Nat}, r ≤ c → c ≤ n → v ≤ r → r + c ≤ n + v → chkD (dvD (r * c) n) (r * c) v = true := by
    intro r c hrc hc hv hv3
    have := chkA_all h1 h2
    unfold chkA at this
    have := allB_get (n := n + 1) (i := c) this (by omega)
    have := allB_get (n := c + 1) (i := r) this (by omega)
    rw [frD_eq] at this
    have := allB_get (n := r + 1 - (r + c - n)) this (show v - (r + c - n) < r + 1 - (r + c - n) by omega)
    rw [show r + c - n + (v - (r + c - n)) = v by omega] at this
    exact this
  rcases Nat.le_total r c with z | z
  · exact key z hc hv1 hv3
  · rw [Nat.mul_comm]
    exact key z hr hv2 (by omega)
def ofD (p n v : Nat) : UInt64 := FP.dsub (FP.i2d (nI v)) (dvD p n)
def tmD (p n v : Nat) : UInt64 := FP.ddiv (FP.dmul (ofD p n v) (ofD p n v)) (dvD p n)
theorem chkD_use {p n v : Nat} (h : chkD (dvD p n) p v = true) : vf_n64 (dvD p n) ∧ (¬ Op.cmpValue (FP.dcmp (dvD p n) FP.dconst0) .l ≤ 0 → vf_n64 (ofD p n v) ∧ vf_n64 (FP.dmul (ofD p n v) (ofD p n v)) ∧ vf_n64 (tmD p n v) ∧ rgD 1040 (tmD p n v)) := by
  unfold chkD at h
  rw [Bool.and_eq_true] at h
  refine ⟨okd_iff h.1, fun hc => ?_⟩
  by_cases c : p = 0
  · rw [if_pos c] at h
    exact absurd (of_decide_eq_true h.2) hc
  · rw [if_neg c, Bool.and_eq_true, frD_eq] at h
    have h3 := h.2.2
    unfold chkO at h3
    rw [Bool.and_eq_true, frD_eq, Bool.and_eq_true, frD_eq, Bool.and_eq_true] at h3
    exact ⟨okd_iff h3.1, okd_iff h3.2.1, okd_iff h3.2.2.1, rngD_iff h3.2.2.2⟩
theorem chkF_at {n r c v : Nat} (h1 : 1 ≤ n) (h2 : n ≤ 20) (hr : r ≤ n) (hc : c ≤ n) (hv1 : v ≤ r) (hv2 : v ≤ c) (hv3 : r + c ≤ n + v) : vf_n32 (FP.fdiv (FP.i2f (nI (r * c))) (FP.i2f (nI n))) ∧ chkX (FP.fsub (FP.i2f (nI v)) (FP.fdiv (FP.i2f (nI (r * c))) (FP.i2f (nI n)))) = true := by
  have key : ∀ {r c : Nat}, r ≤ c → c ≤ n → v ≤ r → r + c ≤ n + v → vf_n32 (FP.fdiv (FP.i2f (nI (r * c))) (FP.i2f (nI n))) ∧ chkX (FP.fsub (FP.i2f (nI v)) (FP.fdiv (FP.i2f (nI (r * c))) (FP.i2f (nI n)))) = true := by
    intro r c hrc hc hv hv3
    have := chkF_all h1 h2
    unfold chkF at this
    have := allB_get (n := n + 1) (i := c) this (by omega)
    have := allB_get (n := c + 1) (i := r) this (by omega)
    rw [frF_eq, Bool.and_eq_true] at this
    have h3 := allB_get (n := r + 1 - (r + c - n)) this.2 (show v - (r + c - n) < r + 1 - (r + c - n) by omega)
    rw [show r + c - n + (v - (r + c - n)) = v by omega, frF_eq] at h3
    exact ⟨okf_iff this.1, h3⟩
  rcases Nat.le_total r c with z | z
  · exact key z hc hv1 hv3
  · rw [Nat.mul_comm]
    exact key z hr hv2 (by omega)
/-- how sums and a cell lie -/
theorem sum_geo (t : Nat → Nat → Nat) {y x : Nat} (hy : y < 4) (hx : x < 4) : t y x ≤ rsum t y ∧ t y x ≤ csum t x ∧ rsum t y ≤ tsum t ∧ csum t x ≤ tsum t ∧ rsum t y + csum t x ≤ tsum t + t y x := by
  unfold tsum csum rsum s4
  rcases (show y = 0 ∨ y = 1 ∨ y = 2 ∨ y = 3 by omega) with rfl | rfl | rfl | rfl <;> rcases (show x = 0 ∨ x = 1 ∨ x = 2 ∨ x = 3 by omega) with rfl | rfl | rfl | rfl <;> dsimp only <;> omega
-- the sum
def dueD (a : AS) (y x : Nat) : UInt64 := if tsum (cel a) = 0 then FP.dconst0 else dvD (rsum (cel a) y * csum (cel a) x) (tsum (cel a))
def addD (a : AS) (s : UInt64) (y x : Nat) : UInt64 := if Op.cmpValue (FP.dcmp (dueD a y x) FP.dconst0) .l ≤ 0 then s else FP.dadd s (tmD (rsum (cel a) y * csum (cel a) x) (tsum (cel a)) (cel a y x))
def chiF (a : AS) : Nat → UInt64
  | 0 => FP.dconst0
  | k + 1 => addD a (chiF a k) (k / nC a) (k % nC a)
theorem cmp00 : Op.cmpValue (FP.dcmp FP.dconst0 FP.dconst0) .l ≤ 0 := by decide +kernel
section XC
variable {a : AS}
/-- all that is asked of a cell that counts -/
theorem due_ok (hW : WF a) (hR : nR a ≠ 0) {y x : Nat} (hy : y < 4) (hx : x < 4) : (tsum (cel a) ≠ 0 → vf_n64 (dvD (rsum (cel a) y * csum (cel a) x) (tsum (cel a)))) ∧ (¬ Op.cmpValue (FP.dcmp (dueD a y x) FP.dconst0) .l ≤ 0 → tsum (cel a) ≠ 0 ∧ vf_n64 (ofD (rsum (cel a) y * csum (cel a) x) (tsum (cel a)) (cel a y x)) ∧ vf_n64 (FP.dmul (ofD (rsum (cel a) y * csum (cel a) x) (tsum (cel a)) (cel a y x)) (ofD (rsum (cel a) y * csum (cel a) x) (tsum (cel a)) (cel a y x))) ∧ vf_n64 (tmD (rsum (cel a) y * csum (cel a) x) (tsum (cel a)) (cel a y x)) ∧ rgD 1040 (tmD (rsum (cel a) y * csum (cel a) x) (tsum (cel a)) (cel a y x))) := by
  obtain ⟨g1, g2, g3, g4, g5⟩ := sum_geo (cel a) hy hx
  have h20 : tsum (cel a) ≤ 20 := (hW.told hR).2.2.2.2.2.2.2.1
  have hu := fun h : tsum (cel a) ≠ 0 => chkD_use (chkD_at (Nat.pos_of_ne_zero h) h20 g3 g4 g1 g2 g5)
  refine ⟨fun h => (hu h).1, fun h => ?_⟩
  have hne : tsum (cel a) ≠ 0 := fun z => h (by unfold dueD; rw [if_pos z]; exact cmp00)
  refine ⟨hne, (hu hne).2 ?_⟩
  unfold dueD at h
  rw [if_neg hne] at h
  exact h
theorem chiF_rg (hW : WF a) (hR : nR a ≠ 0) : ∀ k, k ≤ nR a * nC a → rgD (1040 + 2 * k) (chiF a k)
  | 0, _ => Or.inl rfl
  | k + 1, hk => by
    have hle := hW.le
    have e16 := mul44 hle.1 hle.2.1
    have ih := chiF_rg hW hR k (by omega)
    have hC : 0 < nC a := Nat.pos_of_ne_zero (fun z => by rw [z, Nat.mul_zero] at hk; omega)
    have hy : k / nC a < nR a := Nat.div_lt_of_lt_mul (by rw [Nat.mul_comm]; omega)
    have hx := Nat.mod_lt k hC
    have hd := (due_ok hW hR (show k / nC a < 4 by omega) (show k % nC a < 4 by omega)).2
    show rgD (1040 + 2 * (k + 1)) (addD a (chiF a k) (k / nC a) (k % nC a))
    unfold addD
    by_cases c : Op.cmpValue (FP.dcmp (dueD a (k / nC a) (k % nC a)) FP.dconst0) .l ≤ 0
    · rw [if_pos c]
      rcases ih with z | z
      · exact Or.inl z
      · exact Or.inr ⟨z.1, by omega⟩
    · rw [if_neg c]
      have ht := (hd c).2.2.2.2
      have ht2 : rgD (1040 + 2 * k) (tmD (rsum (cel a) (k / nC a) * csum (cel a) (k % nC a)) (tsum (cel a)) (cel a (k / nC a) (k % nC a))) := by
        rcases ht with z | z
        · exact Or.inl z
        · exact Or.inr ⟨z.1, by omega⟩
      rw [show 1040 + 2 * (k + 1) = 1040 + 2 * k + 2 by omega]
      exact dadd_rg (K := 1040 + 2 * k) ih ht2 (by omega)
end XC
