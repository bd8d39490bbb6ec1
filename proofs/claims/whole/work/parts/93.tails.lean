-- WHAT IS LEFT OF THE COLUMNS, six bits each
def lf (u x : Nat) : Nat := if x < 4 then u / 64 ^ x % 64 else 0
theorem lf0 (u : Nat) : lf u 0 = u / 1 % 64 := rfl
theorem lf1 (u : Nat) : lf u 1 = u / 64 % 64 := rfl
theorem lf2 (u : Nat) : lf u 2 = u / 4096 % 64 := rfl
theorem lf3 (u : Nat) : lf u 3 = u / 262144 % 64 := rfl
def topU : Nat := 16777216
theorem tk4 (f : Nat → Nat) : tkS f 4 = f 0 + 64 * f 1 + 4096 * f 2 + 262144 * f 3 := by
  show 0 + 1 * f 0 + 64 * f 1 + 4096 * f 2 + 262144 * f 3 = _
  omega
theorem lf_tk {f : Nat → Nat} (h : ∀ x, f x < 64) {x : Nat} (hx : x < 4) : lf (tkS f 4) x = f x := by
  have := h 0; have := h 1; have := h 2; have := h 3
  rw [tk4]
  rcases (show x = 0 ∨ x = 1 ∨ x = 2 ∨ x = 3 by omega) with rfl | rfl | rfl | rfl
  · rw [lf0]; omega
  · rw [lf1]; omega
  · rw [lf2]; omega
  · rw [lf3]; omega
theorem u_eq {u : Nat} (h : u < topU) : u = lf u 0 + 64 * lf u 1 + 4096 * lf u 2 + 262144 * lf u 3 := by
  have h : u < 16777216 := h
  rw [lf0, lf1, lf2, lf3]
  omega
theorem lf_lt (u x : Nat) : lf u x < 64 := by
  unfold lf
  split
  · exact Nat.mod_lt _ (by decide)
  · omega
theorem u_ext {u v : Nat} (hu : u < topU) (hv : v < topU) (h : ∀ x, x < 4 → lf u x = lf v x) : u = v := by
  rw [u_eq hu, u_eq hv, h 0 (by omega), h 1 (by omega), h 2 (by omega), h 3 (by omega)]
def fts (u l : Nat) : Bool := (List.range 4).all (fun x => decide (dg l x ≤ lf u x))
theorem fts_iff {u l : Nat} : fts u l = true ↔ ∀ x, x < 4 → dg l x ≤ lf u x := by
  unfold fts
  rw [List.all_eq_true]
  constructor
  · intro h x hx
    exact of_decide_eq_true (h x (List.mem_range.mpr hx))
  · intro h x hx
    exact decide_eq_true (h x (List.mem_range.mp hx))
theorem tk_dg (l : Nat) : tk l = dg l 0 + 64 * dg l 1 + 4096 * dg l 2 + 262144 * dg l 3 := tk4 _
theorem fts_sub {u l : Nat} (hu : u < topU) (h : fts u l = true) : tk l ≤ u ∧ u - tk l < topU ∧ ∀ x, x < 4 → lf (u - tk l) x = lf u x - dg l x := by
  rw [fts_iff] at h
  have h0 := h 0 (by omega); have h1 := h 1 (by omega); have h2 := h 2 (by omega); have h3 := h 3 (by omega)
  have e := u_eq hu
  have a0 := lf_lt u 0; have a1 := lf_lt u 1; have a2 := lf_lt u 2; have a3 := lf_lt u 3
  have hu : u < 16777216 := hu
  have et := tk_dg l
  have hl : u - tk l < topU := Nat.lt_of_le_of_lt (Nat.sub_le _ _) hu
  refine ⟨by omega, hl, fun x hx => ?_⟩
  have e2 : u - tk l = (lf u 0 - dg l 0) + 64 * (lf u 1 - dg l 1) + 4096 * (lf u 2 - dg l 2) + 262144 * (lf u 3 - dg l 3) := by omega
  rw [e2]
  generalize lf u 0 - dg l 0 = b0 at *
  have q : ∀ j, lf u j - dg l j < 64 := fun j => by have := lf_lt u j; omega
  rcases (show x = 0 ∨ x = 1 ∨ x = 2 ∨ x = 3 by omega) with rfl | rfl | rfl | rfl
  · rw [lf0]; have := q 0; omega
  · rw [lf1]; have := q 1; omega
  · rw [lf2]; have := q 2; omega
  · rw [lf3]; have := q 3; omega
theorem and6 {a b c d : Nat} (ha : a < 64) (hc : c < 64) : (a + 64 * b) &&& (c + 64 * d) = (a &&& c) + 64 * (b &&& d) := by
  have h1 := Nat.and_div_two_pow (a := a + 64 * b) (b := c + 64 * d) (n := 6)
  have h2 := Nat.and_mod_two_pow (a := a + 64 * b) (b := c + 64 * d) (n := 6)
  rw [show (2 : Nat) ^ 6 = 64 from rfl] at h1 h2
  rw [show (a + 64 * b) / 64 = b by omega, show (c + 64 * d) / 64 = d by omega] at h1
  rw [show (a + 64 * b) % 64 = a by omega, show (c + 64 * d) % 64 = c by omega] at h2
  have h3 := Nat.div_add_mod ((a + 64 * b) &&& (c + 64 * d)) 64
  omega
theorem or6 {a b c d : Nat} (ha : a < 64) (hc : c < 64) : (a + 64 * b) ||| (c + 64 * d) = (a ||| c) + 64 * (b ||| d) := by
  have h1 := Nat.or_div_two_pow (a := a + 64 * b) (b := c + 64 * d) (n := 6)
  have h2 := Nat.or_mod_two_pow (a := a + 64 * b) (b := c + 64 * d) (n := 6)
  rw [show (2 : Nat) ^ 6 = 64 from rfl] at h1 h2
  rw [show (a + 64 * b) / 64 = b by omega, show (c + 64 * d) / 64 = d by omega] at h1
  rw [show (a + 64 * b) % 64 = a by omega, show (c + 64 * d) % 64 = c by omega] at h2
  have h3 := Nat.div_add_mod ((a + 64 * b) ||| (c + 64 * d)) 64
  omega
def p4 (a b c d : Nat) : Nat := a + 64 * (b + 64 * (c + 64 * d))
theorem and4 {a b c d a' b' c' d' : Nat} (ha : a < 64) (hb : b < 64) (hc : c < 64) (ha' : a' < 64) (hb' : b' < 64) (hc' : c' < 64) : p4 a b c d &&& p4 a' b' c' d' = p4 (a &&& a') (b &&& b') (c &&& c') (d &&& d') := by
  unfold p4
  rw [and6 ha ha', and6 hb hb', and6 hc hc']
theorem or4 {a b c d a' b' c' d' : Nat} (ha : a < 64) (hb : b < 64) (hc : c < 64) (ha' : a' < 64) (hb' : b' < 64) (hc' : c' < 64) : p4 a b c d ||| p4 a' b' c' d' = p4 (a ||| a') (b ||| b') (c ||| c') (d ||| d') := by
  unfold p4
  rw [or6 ha ha', or6 hb hb', or6 hc hc']
theorem or32 : ∀ n, n < 32 → n ||| 32 = n + 32 := by decide
theorem and32 : ∀ n, n < 64 → n &&& 32 = if 32 ≤ n then 32 else 0 := by decide
theorem and31 : ∀ n, n < 64 → n &&& 31 = if 32 ≤ n then n - 32 else n := by decide
/-- the class's test of a fit -/
theorem guard_eq {u l : Nat} (hu : u < topU) (hf : ∀ x, lf u x < 32) : (nI u ||| 8521760) - nI (tk l) = nI (p4 (lf u 0 + 32 - dg l 0) (lf u 1 + 32 - dg l 1) (lf u 2 + 32 - dg l 2) (lf u 3 + 32 - dg l 3)) := by
  have f0 := hf 0; have f1 := hf 1; have f2 := hf 2; have f3 := hf 3
  have d0 := dg_lt l 0; have d1 := dg_lt l 1; have d2 := dg_lt l 2; have d3 := dg_lt l 3
  have e := u_eq hu
  have e1 : u = p4 (lf u 0) (lf u 1) (lf u 2) (lf u 3) := by unfold p4; omega
  show (nI u ||| nI (p4 32 32 32 32)) - nI (tk l) = _
  rw [fa_or]
  rw [show u ||| p4 32 32 32 32 = p4 (lf u 0 + 32) (lf u 1 + 32) (lf u 2 + 32) (lf u 3 + 32) by
    rw [← or32 _ f0, ← or32 _ f1, ← or32 _ f2, ← or32 _ f3, ← or4 (by omega) (by omega) (by omega) (by omega) (by omega) (by omega), ← e1]]
  have et := tk_dg l
  rw [pk_sub (by unfold p4; omega)]
  congr 1
  unfold p4
  omega
theorem guard_fit {u l : Nat} (hu : u < topU) (hf : ∀ x, lf u x < 32) : (((nI u ||| 8521760) - nI (tk l)) &&& 8521760) = (8521760 : Int32) ↔ fts u l = true := by
  have f0 := hf 0; have f1 := hf 1; have f2 := hf 2; have f3 := hf 3
  have d0 := dg_lt l 0; have d1 := dg_lt l 1; have d2 := dg_lt l 2; have d3 := dg_lt l 3
  rw [guard_eq hu hf]
  show nI (p4 _ _ _ _) &&& nI (p4 32 32 32 32) = nI (p4 32 32 32 32) ↔ _
  rw [fa_and, and4 (by omega) (by omega) (by omega) (by omega) (by omega) (by omega), and32 _ (by omega), and32 _ (by omega), and32 _ (by omega), and32 _ (by omega), fts_iff]
  have b : ∀ n : Nat, (if 32 ≤ n then 32 else 0) ≤ 32 := fun n => by split <;> omega
  have b0 := b (lf u 0 + 32 - dg l 0); have b1 := b (lf u 1 + 32 - dg l 1); have b2 := b (lf u 2 + 32 - dg l 2); have b3 := b (lf u 3 + 32 - dg l 3)
  rw [nI_eq (by unfold p4; omega) (by decide)]
  have hp : p4 32 32 32 32 = 8521760 := rfl
  rw [hp]
  constructor
  · intro h x hx
    unfold p4 at h
    have k : ∀ n : Nat, (if 32 ≤ n then 32 else 0) = 32 → 32 ≤ n := fun n hn => by split at hn <;> omega
    rcases (show x = 0 ∨ x = 1 ∨ x = 2 ∨ x = 3 by omega) with rfl | rfl | rfl | rfl
    · have := k (lf u 0 + 32 - dg l 0) (by omega); omega
    · have := k (lf u 1 + 32 - dg l 1) (by omega); omega
    · have := k (lf u 2 + 32 - dg l 2) (by omega); omega
    · have := k (lf u 3 + 32 - dg l 3) (by omega); omega
  · intro h
    have h0 := h 0 (by omega); have h1 := h 1 (by omega); have h2 := h 2 (by omega); have h3 := h 3 (by omega)
    rw [if_pos (by omega), if_pos (by omega), if_pos (by omega), if_pos (by omega)]
    rfl
theorem guard_sub {u l : Nat} (hu : u < topU) (hf : ∀ x, lf u x < 32) (h : fts u l = true) : (((nI u ||| 8521760) - nI (tk l)) &&& (-8521761 : Int32)) = nI (u - tk l) := by
  have f0 := hf 0; have f1 := hf 1; have f2 := hf 2; have f3 := hf 3
  have d0 := dg_lt l 0; have d1 := dg_lt l 1; have d2 := dg_lt l 2; have d3 := dg_lt l 3
  rw [guard_eq hu hf, show (-8521761 : Int32) = nI (p4 31 31 31 16351) by decide, fa_and, and4 (by omega) (by omega) (by omega) (by omega) (by omega) (by omega)]
  rw [fts_iff] at h
  have h0 := h 0 (by omega); have h1 := h 1 (by omega); have h2 := h 2 (by omega); have h3 := h 3 (by omega)
  rw [and31 _ (by omega), and31 _ (by omega), and31 _ (by omega), if_pos (by omega), if_pos (by omega), if_pos (by omega)]
  rw [show (16351 : Nat) = 31 + 64 * 255 from rfl, show lf u 3 + 32 - dg l 3 = (lf u 3 + 32 - dg l 3) + 64 * 0 by omega, and6 (by omega) (by omega), and31 _ (by omega), if_pos (by omega), Nat.zero_and]
  have e := u_eq hu
  have et := tk_dg l
  congr 1
  unfold p4
  omega
