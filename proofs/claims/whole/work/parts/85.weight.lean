-- WEIGHTS AND MEASURES, as numbers
def fac : Nat → Nat
  | 0 => 1
  | n + 1 => (n + 1) * fac n
theorem fac_pos : ∀ n, 0 < fac n
  | 0 => by decide
  | n + 1 => Nat.mul_pos (by omega) (fac_pos n)
/-- ways to choose, as the model finds them -/
def wyS (n k : Nat) : Nat → Nat
  | 0 => 1
  | i + 1 => wyS n k i * (n - k + (i + 1)) / (i + 1)
def bin (n k : Nat) : Nat := wyS n k k
def binOk : Bool := (List.range 21).all fun n => (List.range (n + 1)).all fun k => decide (bin n k * (fac k * fac (n - k)) = fac n) && (List.range (k + 1)).all fun i => decide (wyS n k i < 1000000)
theorem binOk_t : binOk = true := by decide
theorem bin_ok {n k : Nat} (hn : n ≤ 20) (hk : k ≤ n) : bin n k * (fac k * fac (n - k)) = fac n ∧ ∀ i, i ≤ k → wyS n k i < 1000000 := by
  have h := binOk_t
  unfold binOk at h
  rw [List.all_eq_true] at h
  have h1 := h n (List.mem_range.mpr (by omega))
  rw [List.all_eq_true] at h1
  have h2 := h1 k (List.mem_range.mpr (by omega))
  rw [Bool.and_eq_true, List.all_eq_true] at h2
  exact ⟨of_decide_eq_true h2.1, fun i hi => of_decide_eq_true (h2.2 i (List.mem_range.mpr (by omega)))⟩
theorem bin_0 (n : Nat) : bin n 0 = 1 := rfl
/-- the ways to lay the first n cells of a row -/
def prS (f : Nat → Nat) : Nat → Nat
  | 0 => 1
  | n + 1 => prS f n * bin (fb_sm f (n + 1)) (f n)
def rowW (f : Nat → Nat) : Nat := prS f 4
/-- the product of the factorials of the first n -/
def pfc (f : Nat → Nat) : Nat → Nat
  | 0 => 1
  | n + 1 => pfc f n * fac (f n)
theorem pfc_pos (f : Nat → Nat) : ∀ n, 0 < pfc f n
  | 0 => Nat.one_pos
  | n + 1 => Nat.mul_pos (pfc_pos f n) (fac_pos _)
theorem sm_s (f : Nat → Nat) (n : Nat) : fb_sm f (n + 1) = fb_sm f n + f n := rfl
theorem sm_mono (f : Nat → Nat) {m : Nat} : ∀ n, m ≤ n → fb_sm f m ≤ fb_sm f n
  | 0, h => by rw [show m = 0 by omega]; exact Nat.le_refl _
  | n + 1, h => by
    by_cases c : m = n + 1
    · rw [c]; exact Nat.le_refl _
    · have := sm_mono f (m := m) n (by omega)
      rw [sm_s]
      omega
theorem prS_fac (f : Nat → Nat) : ∀ n, fb_sm f n ≤ 20 → prS f n * pfc f n = fac (fb_sm f n)
  | 0, _ => rfl
  | n + 1, h => by
    have h0 := sm_mono f (m := n) (n + 1) (by omega)
    have ih := prS_fac f n (by omega)
    have hb := (bin_ok (n := fb_sm f (n + 1)) (k := f n) h (by rw [sm_s]; omega)).1
    rw [show fb_sm f (n + 1) - f n = fb_sm f n by rw [sm_s]; omega] at hb
    show prS f n * bin (fb_sm f (n + 1)) (f n) * (pfc f n * fac (f n)) = _
    rw [← hb, ← ih]
    simp only [Nat.mul_assoc, Nat.mul_comm, Nat.mul_left_comm]
theorem sm4 (f : Nat → Nat) : fb_sm f 4 = s4 f := by
  show 0 + f 0 + f 1 + f 2 + f 3 = _
  unfold s4
  omega
theorem rowW_fac {f : Nat → Nat} (h : s4 f ≤ 20) : rowW f * pfc f 4 = fac (s4 f) := by
  have := prS_fac f 4 (by rw [sm4]; exact h)
  rw [sm4] at this
  exact this
theorem rowW_pos {f : Nat → Nat} (h : s4 f ≤ 20) : 0 < rowW f := by
  have h1 := rowW_fac h
  have h2 := fac_pos (s4 f)
  refine Nat.pos_of_ne_zero (fun z => ?_)
  rw [z, Nat.zero_mul] at h1
  omega
theorem rowW_le {f : Nat → Nat} (h : s4 f ≤ 20) : rowW f ≤ fac (s4 f) := by
  rw [← rowW_fac h]
  exact Nat.le_mul_of_pos_right _ (pfc_pos f 4)
theorem prS_zero {f : Nat → Nat} {C : Nat} (h : ∀ x, C ≤ x → f x = 0) : ∀ n, C ≤ n → prS f n = prS f C
  | 0, hn => by rw [show C = 0 by omega]
  | n + 1, hn => by
    by_cases c : C = n + 1
    · rw [c]
    · show prS f n * bin _ (f n) = _
      rw [h n (by omega), bin_0, Nat.mul_one, prS_zero h n (by omega)]
theorem fac_mul (m : Nat) : ∀ n, fac m * fac n ≤ fac (m + n)
  | 0 => by
    show fac m * 1 ≤ fac m
    omega
  | n + 1 => by
    have ih := fac_mul m n
    show fac m * ((n + 1) * fac n) ≤ (m + n + 1) * fac (m + n)
    rw [Nat.mul_left_comm]
    exact Nat.mul_le_mul (by omega) ih
theorem fac_mono {m n : Nat} (h : m ≤ n) : fac m ≤ fac n := by
  obtain ⟨k, rfl⟩ := Nat.le.dest h
  have h1 := fac_mul m k
  have h2 := fac_pos k
  exact Nat.le_trans (Nat.le_mul_of_pos_right _ h2) h1
/-- the weight of the first n rows -/
def wgN (t : Nat → Nat → Nat) : Nat → Nat
  | 0 => 1
  | n + 1 => wgN t n * rowW (t n)
theorem wgN_le {t : Nat → Nat → Nat} : ∀ n, fb_sm (rsum t) n ≤ 20 → wgN t n ≤ fac (fb_sm (rsum t) n)
  | 0, _ => Nat.le_refl _
  | n + 1, h => by
    have h0 := sm_mono (rsum t) (m := n) (n + 1) (by omega)
    have ih := wgN_le (t := t) n (by omega)
    have hr : rsum t n ≤ 20 := by rw [sm_s] at h; omega
    show wgN t n * rowW (t n) ≤ _
    rw [sm_s]
    exact Nat.le_trans (Nat.mul_le_mul ih (rowW_le (f := t n) hr)) (fac_mul _ _)
theorem wgN_lt {t : Nat → Nat → Nat} {n : Nat} (h : fb_sm (rsum t) n ≤ 20) : wgN t n < 2 ^ 63 := by
  refine Nat.lt_of_le_of_lt (Nat.le_trans (wgN_le n h) (fac_mono h)) ?_
  decide
theorem wgN_pos {t : Nat → Nat → Nat} : ∀ n, fb_sm (rsum t) n ≤ 20 → 0 < wgN t n
  | 0, _ => Nat.one_pos
  | n + 1, h => by
    have h0 := sm_mono (rsum t) (m := n) (n + 1) (by omega)
    have hr : rsum t n ≤ 20 := by rw [sm_s] at h; omega
    exact Nat.mul_pos (wgN_pos (t := t) n (by omega)) (rowW_pos (f := t n) hr)
theorem Sam.rows {t u : Nat → Nat → Nat} (h : Sam t u) : rsum u = rsum t := funext h.1
theorem Told.sm {a : AS} (h : Told a) {t : Nat → Nat → Nat} (hS : Sam (cel a) t) {n : Nat} (hn : n ≤ 4) : fb_sm (rsum t) n ≤ 20 := by
  rw [hS.rows]
  have h8 := h.2.2.2.2.2.2.2.1
  have := sm_mono (rsum (cel a)) 4 hn
  rw [sm4] at this
  unfold tsum at h8
  omega
