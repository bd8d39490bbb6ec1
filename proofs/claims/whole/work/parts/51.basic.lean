-- the class's store, as far as the document's state goes
/-- the first n cells, four bits each, the first cell highest -/
def pkN (t : Nat → Nat → Nat) : Nat → Nat
  | 0 => 0
  | n + 1 => 16 * pkN t n + t (n / 4) (n % 4)
def pack (t : Nat → Nat → Nat) : Nat := pkN t 16
theorem pkN_lt {t : Nat → Nat → Nat} (h : ∀ y x, t y x < 16) : ∀ n, pkN t n < 16 ^ n
  | 0 => by show 0 < 1; omega
  | n + 1 => by
    have h1 := pkN_lt h n
    have h2 := h (n / 4) (n % 4)
    show 16 * pkN t n + t (n / 4) (n % 4) < 16 ^ (n + 1)
    rw [Nat.pow_succ]
    omega
theorem pkN_div {t : Nat → Nat → Nat} (h : ∀ y x, t y x < 16) (m : Nat) : ∀ j, pkN t (m + j) / 16 ^ j = pkN t m
  | 0 => by rw [Nat.pow_zero, Nat.div_one]; rfl
  | j + 1 => by
    have h2 := h ((m + j) / 4) ((m + j) % 4)
    show (16 * pkN t (m + j) + t ((m + j) / 4) ((m + j) % 4)) / 16 ^ (j + 1) = _
    rw [Nat.pow_succ, Nat.mul_comm (16 ^ j) 16, ← Nat.div_div_eq_div_mul, show (16 * pkN t (m + j) + t ((m + j) / 4) ((m + j) % 4)) / 16 = pkN t (m + j) by omega]
    exact pkN_div h m j
theorem pack_lt {t : Nat → Nat → Nat} (h : ∀ y x, t y x < 16) : pack t < 2 ^ 64 := pkN_lt h 16
theorem pack_get {t : Nat → Nat → Nat} (h : ∀ y x, t y x < 16) {y x : Nat} (hy : y < 4) (hx : x < 4) : pack t / 2 ^ (4 * (15 - 4 * y - x)) % 16 = t y x := by
  have e : 4 * y + x + 1 + (15 - 4 * y - x) = 16 := by omega
  have h1 := pkN_div h (4 * y + x + 1) (15 - 4 * y - x)
  rw [e] at h1
  rw [Nat.pow_mul, show (2 : Nat) ^ 4 = 16 from rfl]
  show pkN t 16 / _ % 16 = _
  rw [h1]
  show (16 * pkN t (4 * y + x) + t ((4 * y + x) / 4) ((4 * y + x) % 4)) % 16 = _
  have h2 := h ((4 * y + x) / 4) ((4 * y + x) % 4)
  rw [show (4 * y + x) / 4 = y by omega, show (4 * y + x) % 4 = x by omega] at *
  omega
/-- the class's store holds a (the tape, the latest fault, the sheet) -/
def IB (a : AS) (S : St) : Prop :=
  S.1 17 1 = nI (tL a) ∧ (∀ i, i < tL a → S.1 18 i = nI (tB a i)) ∧ S.1 19 0 = fK a ∧ S.1 19 1 = fP a ∧
  S.1 21 0 = nI (nR a) ∧ S.1 21 1 = nI (nC a) ∧ S.1 21 2 = nI (nLn a) ∧ S.1 21 3 = nI (tsum (cel a)) ∧ S.1 21 4 = nI (hC a) ∧
  (∀ y, y < 4 → S.1 22 y = nI (rsum (cel a) y)) ∧ (∀ x, x < 4 → S.1 23 x = nI (csum (cel a) x)) ∧ S.2 21 7 = lN (pack (cel a)) ∧ S.1 21 8 = nI (nA a) ∧ ∀ i, i < nA a → S.2 24 i = lN (pack (pst a i))
theorem s4_le (f : Nat → Nat) {i : Nat} (h : i < 4) : f i ≤ s4 f := by
  unfold s4
  rcases (show i = 0 ∨ i = 1 ∨ i = 2 ∨ i = 3 by omega) with rfl | rfl | rfl | rfl <;> omega
theorem Tab.cell_le {R C : Nat} {h : Nat → Nat → Bool} {t : Nat → Nat → Nat} (hT : Tab R C h t) (hR : R ≤ 4) (hC : C ≤ 4) (y x : Nat) : t y x ≤ rsum t y ∧ t y x ≤ csum t x := by
  by_cases q : y < R ∧ x < C
  · exact ⟨s4_le (t y) (by omega), s4_le (fun y => t y x) (by omega)⟩
  · rw [hT.1 y x q]; omega
/-- four bits do -/
theorem Told.lt16 {a : AS} (h : Told a) {t : Nat → Nat → Nat} (hT : Tab (nR a) (nC a) (hol a) t) (hs : Sam (cel a) t) (y x : Nat) : t y x < 16 := by
  obtain ⟨h1, h2, h3, h4, -, -, -, -, h9, -, -⟩ := h
  have q := hT.cell_le h2 h4 y x
  rw [hs.1, hs.2] at q
  rcases h9 y x with z | z <;> omega
theorem Sam.rf (t : Nat → Nat → Nat) : Sam t t := ⟨fun _ => rfl, fun _ => rfl⟩
theorem WF.lt16 {a : AS} (h : WF a) (y x : Nat) : cel a y x < 16 := by
  rcases h.2.2.2 with q | q
  · rw [q.2.2.2.2.2 y x]; omega
  · exact q.lt16 q.2.2.2.2.2.2.2.2.2.1 (Sam.rf _) y x
theorem WF.lt16p {a : AS} (h : WF a) {i : Nat} (hi : i < nA a) (y x : Nat) : pst a i y x < 16 := by
  rcases h.2.2.2 with q | q
  · have := q.2.2.2.1; omega
  · have z := q.2.2.2.2.2.2.2.2.2.2 i hi
    exact q.lt16 z.1 z.2 y x
section C1
variable {g : GX} {d : Nat} {ρ : Rs} {S : St} {a : AS}
theorem sh_val {y x : Nat} (hy : y < 4) (hx : x < 4) : (4 : Int32) * ((15 - (4 * nI y)) - nI x) = nI (4 * (15 - 4 * y - x)) := by
  show nI 4 * ((nI 15 - (nI 4 * nI y)) - nI x) = _
  rw [pk_mul, pk_sub (by omega), pk_sub (by omega), pk_mul]
theorem sC_shift {Q : Int32 → St → Prop} (hρ : Ok ρ) {y x : Nat} (hy : y < 4) (hx : x < 4) (h : Q (nI (4 * (15 - 4 * y - x))) S) : CALLi g (d + 3) mX3_shift [.int (nI y), .int (nI x)] ρ ρ S Q := by
  refine eX3_shift hρ ?_
  rw [sh_val hy hx]
  exact h
theorem sC_get {Q : Int32 → St → Prop} (hρ : Ok ρ) {t : Nat → Nat → Nat} (ht : ∀ y x, t y x < 16) {y x : Nat} (hy : y < 4) (hx : x < 4) (h : Q (nI (t y x)) S) : CALLi g (d + 3) mX3_get [.long (lN (pack t)), .int (nI (4 * (15 - 4 * y - x)))] ρ ρ S Q := by
  refine eX3_get hρ ?_
  rw [wb_shr (pack_lt ht) (by omega), lN_i]
  show Q (nI (pack t / 2 ^ (4 * (15 - 4 * y - x))) &&& nI (2 ^ 4 - 1)) S
  rw [fa_mask, show (2 : Nat) ^ 4 = 16 from rfl, pack_get ht hy hx]
  exact h
theorem sC_at {Q : Int32 → St → Prop} (hρ : Ok ρ) (hW : WF a) (hI : IB a S) {y x : Nat} (hy : y < 4) (hx : x < 4) (h : Q (nI (cel a y x)) S) : CALLi g (d + 4) mX9_at [.ref 21, .int (nI y), .int (nI x)] ρ ρ S Q := by
  refine eX9_at hρ (sC_shift hρ hy hx ?_)
  rw [hI.2.2.2.2.2.2.2.2.2.2.2.1]
  exact sC_get hρ hW.lt16 hy hx h
theorem sC_has1 {Q : Int32 → St → Prop} (hρ : Ok ρ) (hW : WF a) (hI : IB a S) {x1 x2 : Int32} (h1 : vp_in x1 (nR a)) (h2 : vp_in x2 (nC a)) (h : Q 1 S) : CALLi g (d + 3) mX9_has [.ref 21, .int x1, .int x2] ρ ρ S Q := by
  have hl := hW.le
  rw [vp_in_iff] at h1 h2
  have e1 : S.1 21 0 = nI (nR a) := hI.2.2.2.2.1
  have e2 : S.1 21 1 = nI (nC a) := hI.2.2.2.2.2.1
  refine eX9_has hρ ?_
  rw [e1, e2]
  rw [if_neg (by rw [fa_lt]; show ¬ x1.toInt < 0; omega), if_neg (by rw [fa_le, nI_toInt (by omega)]; omega), if_neg (by rw [fa_lt]; show ¬ x2.toInt < 0; omega), if_neg (by rw [fa_le, nI_toInt (by omega)]; omega)]
  exact h
theorem sC_has0 {Q : Int32 → St → Prop} (hρ : Ok ρ) (hW : WF a) (hI : IB a S) {x1 x2 : Int32} (h1 : ¬ (vp_in x1 (nR a) ∧ vp_in x2 (nC a))) (h : Q 0 S) : CALLi g (d + 3) mX9_has [.ref 21, .int x1, .int x2] ρ ρ S Q := by
  have hl := hW.le
  rw [vp_in_iff, vp_in_iff] at h1
  have e1 : S.1 21 0 = nI (nR a) := hI.2.2.2.2.1
  have e2 : S.1 21 1 = nI (nC a) := hI.2.2.2.2.2.1
  refine eX9_has hρ ?_
  rw [e1, e2]
  split
  · exact h
  · split
    · exact h
    · split
      · exact h
      · split
        · exact h
        · rename_i q1 q2 q3 q4
          rw [fa_lt] at q1 q3
          rw [fa_le, nI_toInt (by omega)] at q2 q4
          have z : (0 : Int32).toInt = 0 := rfl
          exact absurd (by omega) h1
theorem hC_bit {a : AS} {y x : Nat} (hy : y < 4) (hx : x < 4) : (hC a).testBit (4 * y + x) = hol a y x := by
  unfold hC
  rw [bsum_bit, show (4 * y + x) / 4 = y by omega, show (4 * y + x) % 4 = x by omega]
  simp [show 4 * y + x < 16 by omega]
theorem hC_lt (a : AS) : hC a < 65536 := bsum_lt _ 16
theorem shr_bit {m k : Nat} (hm : m < 2 ^ 31) (hk : k < 31) : (nI m >>> (nI k &&& 31)) &&& 1 = nI (if m.testBit k then 1 else 0) := by
  rw [pk_shrN hm _ k (s_l k (by omega))]
  show nI (m / 2 ^ k) &&& nI (2 ^ 1 - 1) = _
  rw [fa_mask]
  congr 1
  rw [Nat.testBit_eq_decide_div_mod_eq]
  have : m / 2 ^ k % 2 = 0 ∨ m / 2 ^ k % 2 = 1 := by omega
  rcases this with h | h <;> simp [h]
theorem sC_isHole {Q : Int32 → St → Prop} (hρ : Ok ρ) (hI : IB a S) {y x : Nat} (hy : y < 4) (hx : x < 4) (h : Q (if hol a y x then 1 else 0) S) : CALLi g (d + 3) mX9_isHole [.ref 21, .int (nI y), .int (nI x)] ρ ρ S Q := by
  refine eX9_isHole hρ ?_
  have e : S.1 21 4 = nI (hC a) := hI.2.2.2.2.2.2.2.2.1
  have e2 : (4 : Int32) * nI y + nI x = nI (4 * y + x) := by
    show nI 4 * nI y + nI x = _
    rw [pk_mul, nI_add]
  have hl := hC_lt a
  rw [e, e2, shr_bit (by omega) (by omega), hC_bit hy hx]
  generalize hol a y x = b at h
  cases b <;> exact h
theorem sC_cell1 {Q : Int32 → St → Prop} (hρ : Ok ρ) (hW : WF a) (hI : IB a S) {x1 x2 : Int32} (h1 : vp_in x1 (nR a)) (h2 : vp_in x2 (nC a)) (h : Q (nI (cel a x1.toNatClampNeg x2.toNatClampNeg)) S) : CALLi g (d + 5) mX11_cell [.ref 16, .int x1, .int x2] ρ ρ S Q := by
  have hl := hW.le
  refine eX11_cell hρ (sC_has1 hρ hW hI h1 h2 ?_)
  rw [if_neg (by decide)]
  have c1 := vin_cl h1
  have c2 := vin_cl h2
  rw [vin_eq h1 (by omega), vin_eq h2 (by omega)]
  exact sC_at hρ hW hI (by omega) (by omega) h
theorem sC_cell0 {Q : Int32 → St → Prop} (hρ : Ok ρ) (hW : WF a) (hI : IB a S) {x1 x2 : Int32} (h1 : ¬ (vp_in x1 (nR a) ∧ vp_in x2 (nC a))) (h : Q (-2) S) : CALLi g (d + 5) mX11_cell [.ref 16, .int x1, .int x2] ρ ρ S Q := by
  refine eX11_cell hρ (sC_has0 hρ hW hI h1 ?_)
  rw [if_pos rfl]
  exact h
theorem sC_hole1 {Q : Int32 → St → Prop} (hρ : Ok ρ) (hW : WF a) (hI : IB a S) {x1 x2 : Int32} (h1 : vp_in x1 (nR a)) (h2 : vp_in x2 (nC a)) (h : Q (if hol a x1.toNatClampNeg x2.toNatClampNeg then 1 else 0) S) : CALLi g (d + 5) mX11_hole [.ref 16, .int x1, .int x2] ρ ρ S Q := by
  have hl := hW.le
  refine eX11_hole hρ (sC_has1 hρ hW hI h1 h2 ?_)
  rw [if_neg (by decide)]
  have c1 := vin_cl h1
  have c2 := vin_cl h2
  rw [vin_eq h1 (by omega), vin_eq h2 (by omega)]
  refine sC_isHole hρ hI (by omega) (by omega) ?_
  cases q : hol a x1.toNatClampNeg x2.toNatClampNeg with
  | false => rw [q] at h; exact h
  | true => rw [q] at h; exact h
theorem sC_hole0 {Q : Int32 → St → Prop} (hρ : Ok ρ) (hW : WF a) (hI : IB a S) {x1 x2 : Int32} (h1 : ¬ (vp_in x1 (nR a) ∧ vp_in x2 (nC a))) (h : Q (-2) S) : CALLi g (d + 5) mX11_hole [.ref 16, .int x1, .int x2] ρ ρ S Q := by
  refine eX11_hole hρ (sC_has0 hρ hW hI h1 ?_)
  rw [if_pos rfl]
  exact h
end C1
