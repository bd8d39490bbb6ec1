def pdS (f : Nat → Nat) : Nat → Nat
  | 0 => 1
  | n + 1 => pdS f n * max 1 (f n)
theorem pdS_pos (f : Nat → Nat) : ∀ n, 0 < pdS f n
  | 0 => Nat.one_pos
  | n + 1 => Nat.mul_pos (pdS_pos f n) (by omega)
theorem pdS_le {f : Nat → Nat} (h : ∀ j, f j ≤ 20) : ∀ n, pdS f n ≤ 20 ^ n
  | 0 => Nat.le_refl _
  | n + 1 => by
    rw [Nat.pow_succ]
    have := h n
    exact Nat.mul_le_mul (pdS_le h n) (by omega)
theorem pdS_zero {f : Nat → Nat} {C : Nat} (h : ∀ x, C ≤ x → f x = 0) : ∀ n, C ≤ n → pdS f n = pdS f C
  | 0, hn => by rw [show C = 0 by omega]
  | n + 1, hn => by
    by_cases c : C = n + 1
    · rw [c]
    · show pdS f n * max 1 (f n) = _
      rw [h n (by omega), pdS_zero h n (by omega)]
      exact Nat.mul_one _
theorem pdS_dvd {f : Nat → Nat} {j : Nat} : ∀ n, j < n → max 1 (f j) ∣ pdS f n
  | 0, h => absurd h (by omega)
  | n + 1, h => by
    show _ ∣ pdS f n * max 1 (f n)
    by_cases c : j = n
    · rw [c]; exact Nat.dvd_mul_left _ _
    · exact Nat.dvd_trans (pdS_dvd n (by omega)) (Nat.dvd_mul_right _ _)
def scl (a : AS) : Nat := pdS (rsum (cel a)) 4 * pdS (csum (cel a)) 4
theorem scl_le {a : AS} (h : Told a) : scl a ≤ 25600000000 := by
  have hs := h.sums
  exact Nat.mul_le_mul (pdS_le hs.1 4) (pdS_le hs.2 4)
/-- what a cell brings -/
def mtm (a : AS) (w y x v : Nat) : Nat := if w = 1 then v * v * (scl a / (rsum (cel a) y * csum (cel a) x)) else if w = 2 then v * (y + 1) * (x + 1) else v
def jn (w p q : Nat) : Nat := if w = 0 then p * q else if w = 3 then max p q else p + q
def mrS (a : AS) (w y : Nat) (f : Nat → Nat) : Nat → Nat
  | 0 => 0
  | n + 1 => jn w (mrS a w y f n) (mtm a w y n (f n))
/-- what a row brings -/
def mrow (a : AS) (w y : Nat) (f : Nat → Nat) : Nat := if w = 0 then rowW f else mrS a w y f 4
def meaN (a : AS) (w : Nat) (t : Nat → Nat → Nat) : Nat → Nat
  | 0 => if w = 0 then 1 else 0
  | n + 1 => jn w (meaN a w t n) (mrow a w n (t n))
/-- the measure of a table -/
def mea (a : AS) (w : Nat) (t : Nat → Nat → Nat) : Nat := meaN a w t (nR a)
/-- as the model goes -/
def acN (a : AS) (w : Nat) (t : Nat → Nat → Nat) : Nat → Nat
  | 0 => 0
  | k + 1 => jn w (acN a w t k) (mtm a w (k / nC a) (k % nC a) (flt (nC a) t k))
theorem mea_0 (a : AS) (t : Nat → Nat → Nat) : ∀ n, meaN a 0 t n = wgN t n
  | 0 => rfl
  | n + 1 => by
    show jn 0 (meaN a 0 t n) (mrow a 0 n (t n)) = wgN t n * rowW (t n)
    rw [mea_0 a t n]
    rfl
theorem jn_0 {w : Nat} (hw : w ≠ 0) (p : Nat) : jn w p 0 = p := by
  unfold jn
  rw [if_neg hw]
  split <;> omega
theorem jn_as (w p q r : Nat) : jn w (jn w p q) r = jn w p (jn w q r) := by
  unfold jn
  split
  · exact Nat.mul_assoc _ _ _
  · split <;> omega
theorem mtm_0 {a : AS} {w y x : Nat} : mtm a w y x 0 = 0 := by
  unfold mtm
  split
  · simp
  · split
    · simp
    · rfl
theorem mrS_zero {a : AS} {w y : Nat} (hw : w ≠ 0) {f : Nat → Nat} {C : Nat} (h : ∀ x, C ≤ x → f x = 0) : ∀ n, C ≤ n → mrS a w y f n = mrS a w y f C
  | 0, hn => by rw [show C = 0 by omega]
  | n + 1, hn => by
    by_cases c : C = n + 1
    · rw [c]
    · show jn w (mrS a w y f n) (mtm a w y n (f n)) = _
      rw [h n (by omega), mtm_0, jn_0 hw, mrS_zero hw h n (by omega)]
theorem ac_row {a : AS} {w : Nat} (hw : w ≠ 0) (t : Nat → Nat → Nat) (y : Nat) (h : acN a w t (y * nC a) = meaN a w t y) : ∀ x, x ≤ nC a → acN a w t (y * nC a + x) = jn w (meaN a w t y) (mrS a w y (t y) x)
  | 0, _ => by
    rw [Nat.add_zero, h]
    exact (jn_0 hw _).symm
  | x + 1, hx => by
    have ih := ac_row hw t y h x (by omega)
    show jn w (acN a w t (y * nC a + x)) (mtm a w ((y * nC a + x) / nC a) ((y * nC a + x) % nC a) (flt (nC a) t (y * nC a + x))) = jn w _ (jn w _ _)
    have hC : 0 < nC a := by omega
    rw [ih, flt_at _ (show x < nC a by omega), Nat.mul_comm y (nC a), Nat.mul_add_div hC, Nat.div_eq_of_lt (show x < nC a by omega), Nat.mul_add_mod, Nat.mod_eq_of_lt (show x < nC a by omega), Nat.add_zero, jn_as]
theorem ac_mea {a : AS} (hl : nC a ≤ 4) {w : Nat} (hw : w ≠ 0) {t : Nat → Nat → Nat} (ht : ∀ y x, nC a ≤ x → t y x = 0) : ∀ y, acN a w t (y * nC a) = meaN a w t y
  | 0 => by
    rw [Nat.zero_mul]
    show 0 = if w = 0 then 1 else 0
    rw [if_neg hw]
  | y + 1 => by
    have ih := ac_mea hl hw ht y
    have := ac_row hw t y ih (nC a) (Nat.le_refl _)
    rw [Nat.succ_mul, this]
    show _ = jn w _ (mrow a w y (t y))
    unfold mrow
    rw [if_neg hw, mrS_zero hw (ht y) 4 hl]
theorem mtm_le {a : AS} (h : Told a) {w y x v : Nat} (hv : v < 16) (hy : y < 4) (hx : x < 4) : mtm a w y x v ≤ 5760000000000 := by
  unfold mtm
  have h1 := scl_le h
  split
  · have h2 : v * v ≤ 15 * 15 := Nat.mul_le_mul (by omega) (by omega)
    have h3 := Nat.div_le_self (scl a) (rsum (cel a) y * csum (cel a) x)
    exact Nat.le_trans (Nat.mul_le_mul h2 (Nat.le_trans h3 h1)) (by decide)
  · split
    · exact Nat.le_trans (Nat.mul_le_mul (Nat.mul_le_mul (show v ≤ 15 by omega) (show y + 1 ≤ 4 by omega)) (show x + 1 ≤ 4 by omega)) (by decide)
    · omega
theorem acN_le {a : AS} (hW : WF a) (h : Told a) {w : Nat} (hw : w ≠ 0) {t : Nat → Nat → Nat} (ht : ∀ y x, t y x < 16) : ∀ k, k ≤ nR a * nC a → acN a w t k ≤ k * 5760000000000
  | 0, _ => by rw [Nat.zero_mul]; exact Nat.le_refl _
  | k + 1, hk => by
    have ih := acN_le hW h hw ht k (by omega)
    have hl := hW.le
    have hC : 0 < nC a := by have := h.2.2.1; omega
    have h1 : k / nC a < nR a := Nat.div_lt_of_lt_mul (by rw [Nat.mul_comm]; omega)
    have h2 := Nat.mod_lt k hC
    have h3 := mtm_le h (w := w) (y := k / nC a) (x := k % nC a) (v := flt (nC a) t k) (ht _ _) (by omega) (by omega)
    show jn w _ _ ≤ _
    unfold jn
    rw [if_neg hw]
    split <;> omega
theorem acN3_le {a : AS} {t : Nat → Nat → Nat} (ht : ∀ y x, t y x < 16) : ∀ k, acN a 3 t k < 16
  | 0 => by show 0 < 16; omega
  | k + 1 => by
    have ih := acN3_le (a := a) ht k
    have h2 : flt (nC a) t k < 16 := ht _ _
    show max (acN a 3 t k) (flt (nC a) t k) < 16
    omega
theorem lNlt {m n : Nat} (hm : m < 2 ^ 63) (hn : n < 2 ^ 63) : lN m < lN n ↔ m < n := by
  rw [fa_lt64, pf_lI hm, pf_lI hn]
  omega
theorem lNle {m n : Nat} (hm : m < 2 ^ 63) (hn : n < 2 ^ 63) : lN m ≤ lN n ↔ m ≤ n := by
  rw [fa_le64, pf_lI hm, pf_lI hn]
  omega
section WM
variable {g : GX} {d : Nat} {ρ : Rs} {S : St} {a : AS}
theorem sM_waysOf {Q : Int64 → St → Prop} (hρ : Ok ρ) {n k : Nat} (hn : n ≤ 20) (hk : k ≤ n) (h : Q (lN (bin n k)) S) : CALLl g d mX12_waysOf [.int (nI n), .int (nI k)] ρ ρ S Q := by
  refine eX12_waysOf hρ ?_
  have hb := (bin_ok hn hk).2
  have key : ∀ m i, i + m = k → AW g ρ (QJ Q) d mX12_waysOf 5 [(0, .int (nI n)), (1, .int (nI k)), (2, .long (lN (wyS n k i))), (4, .int (nI (i + 1)))] [] ρ S := by
    intro m
    induction m with
    | zero =>
      intro i hi
      refine eX12_waysOf_5 hρ ?_
      rw [if_pos (nI_lt (by omega) (by omega)), show i = k by omega]
      exact h
    | succ m ih =>
      intro i hi
      refine eX12_waysOf_5 hρ ?_
      rw [if_neg (by rw [nI_ltI (by omega) (by omega)]; omega), pk_sub hk, nI_add, nI_l (by omega), nI_l (by omega), lN_mul]
      have b1 := hb i (by omega)
      have b2 : wyS n k i * (n - k + (i + 1)) ≤ 1000000 * 41 := Nat.mul_le_mul (by omega) (by omega)
      refine ⟨?_, ?_⟩
      · intro z
        have := (lNeq (m := i + 1) (n := 0) (by omega) (by omega)).mp z
        omega
      · rw [lNdiv (by omega) (by omega), nI_1]
        exact ih (i + 1) (by omega)
  exact key k 0 (by omega)
theorem sM_weightOf {Q : Int64 → St → Prop} (hρ : Ok ρ) (hW : WF a) (hR : nR a ≠ 0) (hI : IM a S) {t : Nat → Nat → Nat} (hT : Tab (nR a) (nC a) (hol a) t) (hS : Sam (cel a) t) (hi : ∀ y x, y < nR a → x < nC a → S.1 85 (y * nC a + x) = nI (t y x)) (h : Q (lN (wgN t (nR a))) S) : CALLl g (d + 1) mX12_weightOf [.ref 80] ρ ρ S Q := by
  have hl := hW.le
  have e2 := mul44 hl.1 hl.2.1
  have ht := hW.told hR
  have h16 := ht.lt16 hT hS
  have hsum := ht.sums
  refine eX12_weightOf hρ ?_
  have rows : ∀ n y, y + n = nR a → AW g ρ (QJ Q) (d + 1) mX12_weightOf 4 [(0, .ref 80), (1, .long (lN (wgN t y))), (3, .int (nI y))] [] ρ S := by
    intro n
    induction n with
    | zero =>
      intro y hy
      refine eX12_weightOf_4 hρ ?_
      rw [hI.2.2.2.2.1, if_pos (nI_le (by omega) (by omega)), show y = nR a by omega]
      exact h
    | succ n ih =>
      intro y hy
      refine eX12_weightOf_4 hρ ?_
      rw [hI.2.2.2.2.1, if_neg (nI_ge (by omega) (by omega))]
      have hr : fb_sm (t y) (nC a) ≤ 20 := by
        rw [hT.row_sm hl.2.1, hS.1]
        exact hsum.1 y
      have cols : ∀ m x, x + m = nC a → AW g ρ (QJ Q) (d + 1) mX12_weightOf 20 [(0, .ref 80), (1, .long (lN (wgN t y * prS (t y) x))), (3, .int (nI y)), (4, .int (nI (fb_sm (t y) x))), (5, .int (nI x))] [] ρ S := by
        intro m
        induction m with
        | zero =>
          intro x hx
          refine eX12_weightOf_20 hρ ?_
          rw [hI.2.2.2.2.2.1, if_pos (nI_le (by omega) (by omega)), nI_1, show x = nC a by omega, ← prS_zero (fun x hx => hT.1 y x (by omega)) 4 hl.2.1]
          exact ih (y + 1) (by omega)
        | succ m ihm =>
          intro x hx
          have e1 := idx_lt (show y < nR a by omega) (show x < nC a by omega)
          have hs := sm_mono (t y) (m := x + 1) (nC a) (by omega)
          rw [sm_s] at hs
          refine eX12_weightOf_20 hρ ?_
          rw [hI.2.2.2.2.2.1, if_neg (nI_ge (by omega) (by omega))]
          refine sM_place hρ hI ⟨vp_in_nI (by omega) (by omega), sM_place hρ hI ⟨vp_in_nI (by omega) (by omega), ?_⟩⟩
          rw [nI_clamp (by omega), hi y x (by omega) (by omega), nI_add]
          refine sM_waysOf hρ (by omega) (by omega) ?_
          rw [lN_mul, nI_1, Nat.mul_assoc]
          exact ihm (x + 1) (by omega)
      have z := cols (nC a) 0 (by omega)
      rw [show prS (t y) 0 = 1 from rfl, Nat.mul_one] at z
      exact z
  exact rows (nR a) 0 (by omega)
theorem mx1 {n : Nat} (h : n < 2 ^ 31) : (if (1 : Int32) < nI n then nI n else 1).toInt64 = lN (max 1 n) := by
  have e : ((1 : Int32) < nI n) ↔ 1 < n := nI_ltI (a := 1) (by omega) h
  by_cases c : 1 < n
  · rw [if_pos (e.mpr c), nI_l h, Nat.max_eq_right (by omega)]
  · rw [if_neg (fun z => c (e.mp z)), Nat.max_eq_left (by omega)]
    rfl
theorem sM_product {Q : Int64 → St → Prop} (hρ : Ok ρ) (hW : WF a) (hR : nR a ≠ 0) (hI : IM a S) (h : Q (lN (scl a)) S) : CALLl g (d + 2) mX12_product [.ref 80] ρ ρ S Q := by
  have hl := hW.le
  have ht := hW.told hR
  have hsum := ht.sums
  have hcT := ht.2.2.2.2.2.2.2.2.2.1
  refine eX12_product hρ ?_
  have cols : ∀ m x, x + m = nC a → AW g ρ (QJ Q) (d + 1 + 1) mX12_product 35 [(0, .ref 80), (1, .long (lN (pdS (rsum (cel a)) (nR a) * pdS (csum (cel a)) x))), (3, .int (nI x))] [] ρ S := by
    intro m
    induction m with
    | zero =>
      intro x hx
      refine eX12_product_35 hρ ?_
      rw [hI.2.2.2.2.2.1, if_pos (nI_le (by omega) (by omega)), show x = nC a by omega, ← pdS_zero (fun y hy => hcT.rs0 hy) 4 hl.1, ← pdS_zero (fun x hx => hcT.cs0 hx) 4 hl.2.1]
      exact h
    | succ m ih =>
      intro x hx
      refine eX12_product_35 hρ ?_
      rw [hI.2.2.2.2.2.1, if_neg (nI_ge (by omega) (by omega))]
      refine sM_sumOfColumn hρ hW hI (show x < nC a by omega) ?_
      have := hsum.2 x
      rw [mx1 (by omega), lN_mul, nI_1, Nat.mul_assoc]
      exact ih (x + 1) (by omega)
  have rows : ∀ n y, y + n = nR a → AW g ρ (QJ Q) (d + 1 + 1) mX12_product 4 [(0, .ref 80), (1, .long (lN (pdS (rsum (cel a)) y))), (3, .int (nI y))] [] ρ S := by
    intro n
    induction n with
    | zero =>
      intro y hy
      refine eX12_product_4 hρ ?_
      rw [hI.2.2.2.2.1, if_pos (nI_le (by omega) (by omega)), show y = nR a by omega]
      have z := cols (nC a) 0 (by omega)
      rw [show pdS (csum (cel a)) 0 = 1 from rfl, Nat.mul_one] at z
      exact z
    | succ n ih =>
      intro y hy
      refine eX12_product_4 hρ ?_
      rw [hI.2.2.2.2.1, if_neg (nI_ge (by omega) (by omega))]
      refine sM_sumOfRow hρ hW hI (show y < nR a by omega) ?_
      have := hsum.1 y
      rw [mx1 (by omega), lN_mul, nI_1]
      exact ih (y + 1) (by omega)
  exact rows (nR a) 0 (by omega)
theorem sM_measureOf {Q : Int64 → St → Prop} (hρ : Ok ρ) (hW : WF a) (hR : nR a ≠ 0) (hI : IM a S) {w : Nat} (hw : w < 4) {t : Nat → Nat → Nat} (hT : Tab (nR a) (nC a) (hol a) t) (hS : Sam (cel a) t) (hi : ∀ y x, y < nR a → x < nC a → S.1 85 (y * nC a + x) = nI (t y x)) (h : Q (lN (mea a w t)) S) : CALLl g (d + 3) mX12_measureOf [.ref 80, .int (nI w)] ρ ρ S Q := by
  have hl := hW.le
  have e2 := mul44 hl.1 hl.2.1
  have ht := hW.told hR
  have h16 := ht.lt16 hT hS
  have hsum := ht.sums
  have hC : 2 ≤ nC a := ht.2.2.1
  have hsc := scl_le ht
  refine eX12_measureOf hρ ?_
  by_cases cw : w = 0
  · subst cw
    rw [if_pos (show nI 0 = (0 : Int32) from rfl)]
    refine sM_weightOf hρ hW hR hI hT hS hi ?_
    rw [← mea_0 a t (nR a)]
    exact h
  · rw [if_neg (show ¬ nI w = (0 : Int32) from fun z => cw ((nI_eq (b := 0) (by omega) (by omega)).mp z))]
    have hfl : ∀ k, k < nR a * nC a → S.1 85 k = nI (flt (nC a) t k) := by
      intro k hk
      have h1 : k / nC a < nR a := Nat.div_lt_of_lt_mul (by rw [Nat.mul_comm]; exact hk)
      have h2 := Nat.mod_lt k (show 0 < nC a by omega)
      have h3 := Nat.div_add_mod k (nC a)
      have h4 := hi (k / nC a) (k % nC a) h1 h2
      rw [Nat.mul_comm, h3] at h4
      exact h4
    have hC0 : ¬ nI (nC a) = (0 : Int32) := by
      intro z
      have := (nI_eq (b := 0) (show nC a < 2 ^ 31 by omega) (by omega)).mp z
      omega
    have key : ∀ n k, k + n = nR a * nC a → AW g ρ (QJ Q) (d + 2 + 1) mX12_measureOf 14 [(0, .ref 80), (1, .int (nI w)), (2, .long (lN (acN a w t k))), (4, .int (nI k))] [] ρ S := by
      intro n
      induction n with
      | zero =>
        intro k hk
        refine eX12_measureOf_14 hρ (sM_many hρ hI ?_)
        rw [if_pos (nI_le (by omega) (by omega)), show k = nR a * nC a by omega, ac_mea hl.2.1 cw (fun y x hx => hT.1 y x (by omega))]
        exact h
      | succ n ih =>
        intro k hk
        have ihk := ih (k + 1) (by omega)
        have h1 : k / nC a < nR a := Nat.div_lt_of_lt_mul (by rw [Nat.mul_comm]; omega)
        have h2 := Nat.mod_lt k (show 0 < nC a by omega)
        have hv := h16 (k / nC a) (k % nC a)
        have hv2 : flt (nC a) t k < 16 := hv
        refine eX12_measureOf_14 hρ (sM_many hρ hI ?_)
        rw [if_neg (nI_ge (by omega) (by omega)), hI.2.2.2.2.2.1, pk_rem (by omega) (by omega) (by omega), pk_div (by omega) (by omega) (by omega), nI_clamp (show k < 2 ^ 31 by omega), hfl k (by omega), nI_1, nI_1, nI_1, nI_l (show flt (nC a) t k < 2 ^ 31 by omega), nI_l (show k / nC a + 1 < 2 ^ 31 by omega), nI_l (show k % nC a + 1 < 2 ^ 31 by omega)]
        refine ⟨hC0, hC0, vp_in_nI (by omega) (by omega), ?_⟩
        rcases (show w = 1 ∨ w = 2 ∨ w = 3 by omega) with rfl | rfl | rfl
        · rw [if_pos (show nI 1 = (1 : Int32) from rfl)]
          refine sM_sumOfRow hρ hW hI h1 ?_
          have sr := hsum.1 (k / nC a)
          have sc := hsum.2 (k % nC a)
          have zl : ∀ m, m ≤ 20 → (nI m ≤ 0 ↔ m = 0) := by
            intro m hm
            have e : (nI m ≤ (0 : Int32)) ↔ m ≤ 0 := nI_leI (b := 0) (by omega) (by omega)
            rw [e]; omega
          have skip : rsum (cel a) (k / nC a) * csum (cel a) (k % nC a) = 0 → AW g ρ (QJ Q) (d + 2 + 1) mX12_measureOf 14 [(0, .ref 80), (1, .int (nI 1)), (2, .long (lN (acN a 1 t k) + 0)), (4, .int (nI (k + 1)))] [] ρ S := by
            intro hz
            have e : lN (acN a 1 t k) + 0 = lN (acN a 1 t (k + 1)) := by
              show lN (acN a 1 t k) + lN 0 = _
              rw [lN_add]
              congr 1
              show _ = acN a 1 t k + flt (nC a) t k * flt (nC a) t k * (scl a / (rsum (cel a) (k / nC a) * csum (cel a) (k % nC a)))
              rw [hz, Nat.div_zero, Nat.mul_zero]
            rw [e]
            exact ihk
          by_cases cr : rsum (cel a) (k / nC a) = 0
          · rw [if_pos ((zl _ sr).mpr cr)]
            exact skip (by rw [cr, Nat.zero_mul])
          · rw [if_neg (fun z => cr ((zl _ sr).mp z))]
            refine sM_sumOfColumn hρ hW hI h2 ?_
            by_cases cc : csum (cel a) (k % nC a) = 0
            · rw [if_pos ((zl _ sc).mpr cc)]
              exact skip (by rw [cc, Nat.mul_zero])
            · rw [if_neg (fun z => cc ((zl _ sc).mp z))]
              refine sM_product hρ hW hR hI (sM_sumOfRow hρ hW hI h1 (sM_sumOfColumn hρ hW hI h2 ?_))
              have hpr : rsum (cel a) (k / nC a) * csum (cel a) (k % nC a) ≤ 20 * 20 := Nat.mul_le_mul sr sc
              have hpp : 0 < rsum (cel a) (k / nC a) * csum (cel a) (k % nC a) := Nat.mul_pos (by omega) (by omega)
              rw [pk_mul, nI_l (by omega), lN_mul, lN_mul]
              have hvv : flt (nC a) t k * flt (nC a) t k ≤ 15 * 15 := Nat.mul_le_mul (by omega) (by omega)
              have hvp : flt (nC a) t k * flt (nC a) t k * scl a ≤ 15 * 15 * 25600000000 := Nat.mul_le_mul hvv hsc
              refine ⟨fun z => ?_, ?_⟩
              · have := (lNeq (n := 0) (by omega) (by omega)).mp z
                omega
              · have hd : rsum (cel a) (k / nC a) * csum (cel a) (k % nC a) ∣ scl a := by
                  have d1 := pdS_dvd (f := rsum (cel a)) (j := k / nC a) 4 (by omega)
                  have d2 := pdS_dvd (f := csum (cel a)) (j := k % nC a) 4 (by omega)
                  rw [Nat.max_eq_right (by omega)] at d1 d2
                  exact Nat.mul_dvd_mul d1 d2
                rw [lNdiv (by omega) (by omega), lN_add, Nat.mul_div_assoc _ hd]
                exact ihk
        · rw [if_neg (by decide), if_pos (show nI 2 = (2 : Int32) from rfl), lN_mul, lN_mul, lN_add]
          exact ihk
        · rw [if_neg (by decide), if_neg (by decide)]
          have ha3 := acN3_le (a := a) h16 k
          have e : (if lN (flt (nC a) t k) < lN (acN a 3 t k) then lN (acN a 3 t k) else lN (flt (nC a) t k)) = lN (acN a 3 t (k + 1)) := by
            show _ = lN (max (acN a 3 t k) (flt (nC a) t k))
            by_cases c : flt (nC a) t k < acN a 3 t k
            · rw [if_pos ((lNlt (by omega) (by omega)).mpr c), Nat.max_eq_left (by omega)]
            · rw [if_neg (fun z => c ((lNlt (by omega) (by omega)).mp z)), Nat.max_eq_right (by omega)]
          rw [e]
          exact ihk
    exact key (nR a * nC a) 0 (by omega)
theorem mea_lt (hW : WF a) (hR : nR a ≠ 0) {w : Nat} {t : Nat → Nat → Nat} (hT : Tab (nR a) (nC a) (hol a) t) (hS : Sam (cel a) t) : mea a w t < 2 ^ 63 := by
  have hl := hW.le
  have ht := hW.told hR
  have h16 := ht.lt16 hT hS
  unfold mea
  by_cases cw : w = 0
  · rw [cw, mea_0]
    exact wgN_lt (ht.sm hS hl.1)
  · rw [← ac_mea hl.2.1 cw (fun y x hx => hT.1 y x (by omega)) (nR a)]
    have e2 := mul44 hl.1 hl.2.1
    have := acN_le hW ht cw h16 (nR a * nC a) (Nat.le_refl _)
    omega
end WM
