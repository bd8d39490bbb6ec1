-- THE LIST OF TABLES, as packed numbers in their order
def unp (p : Nat) : Nat → Nat → Nat := fun y x => if y < 4 ∧ x < 4 then p / 2 ^ (4 * (15 - 4 * y - x)) % 16 else 0
theorem unp_lt (p y x : Nat) : unp p y x < 16 := by
  unfold unp
  split
  · exact Nat.mod_lt _ (by decide)
  · omega
theorem unp_out (p : Nat) {y x : Nat} (h : ¬ (y < 4 ∧ x < 4)) : unp p y x = 0 := if_neg h
theorem pkN_unp {p : Nat} (hp : p < 2 ^ 64) : ∀ n, n ≤ 16 → pkN (unp p) n = p / 2 ^ (4 * (16 - n))
  | 0, _ => by
    show 0 = p / 2 ^ 64
    exact (Nat.div_eq_of_lt hp).symm
  | n + 1, h => by
    have ih := pkN_unp hp n (by omega)
    show 16 * pkN (unp p) n + unp p (n / 4) (n % 4) = _
    rw [ih]
    unfold unp
    rw [if_pos (by omega), show 15 - 4 * (n / 4) - n % 4 = 15 - n by omega, show 16 - (n + 1) = 15 - n by omega, show 4 * (16 - n) = 4 * (15 - n) + 4 by omega, Nat.pow_add, ← Nat.div_div_eq_div_mul]
    generalize p / 2 ^ (4 * (15 - n)) = q
    show 16 * (q / 16) + q % 16 = q
    omega
theorem pack_unp {p : Nat} (hp : p < 2 ^ 64) : pack (unp p) = p := by
  have h := pkN_unp hp 16 (by omega)
  rw [Nat.sub_self, Nat.mul_zero, Nat.pow_zero, Nat.div_one] at h
  exact h
theorem unp_pack {t : Nat → Nat → Nat} (h : ∀ y x, t y x < 16) (h2 : ∀ y x, ¬ (y < 4 ∧ x < 4) → t y x = 0) : unp (pack t) = t := by
  funext y x
  by_cases c : y < 4 ∧ x < 4
  · unfold unp
    rw [if_pos c, pack_get h c.1 c.2]
  · rw [unp_out _ c, h2 y x c]
def inK (a : AS) (p : Nat) : Bool := ((List.range 4).all (fun y => rsum (unp p) y == rsum (cel a) y) && (List.range 4).all (fun x => csum (unp p) x == csum (cel a) x)) && (List.range 16).all (fun k => (decide (k / 4 < nR a) && decide (k % 4 < nC a) && !hol a (k / 4) (k % 4)) || decide (unp p (k / 4) (k % 4) = 0))
theorem inK_iff {a : AS} {p : Nat} : inK a p = true ↔ (∀ y, y < 4 → rsum (unp p) y = rsum (cel a) y) ∧ (∀ x, x < 4 → csum (unp p) x = csum (cel a) x) ∧ ∀ k, k < 16 → (k / 4 < nR a ∧ k % 4 < nC a ∧ hol a (k / 4) (k % 4) = false) ∨ unp p (k / 4) (k % 4) = 0 := by
  unfold inK
  rw [Bool.and_eq_true, Bool.and_eq_true, List.all_eq_true, List.all_eq_true, List.all_eq_true, and_assoc]
  constructor
  · rintro ⟨h1, h2, h3⟩
    refine ⟨fun y hy => beq_iff_eq.mp (h1 y (List.mem_range.mpr hy)), fun x hx => beq_iff_eq.mp (h2 x (List.mem_range.mpr hx)), fun k hk => ?_⟩
    have z := h3 k (List.mem_range.mpr hk)
    simp at z
    rcases z with z | z
    · exact Or.inl ⟨z.1.1, z.1.2, z.2⟩
    · exact Or.inr z
  · rintro ⟨h1, h2, h3⟩
    refine ⟨fun y hy => beq_iff_eq.mpr (h1 y (List.mem_range.mp hy)), fun x hx => beq_iff_eq.mpr (h2 x (List.mem_range.mp hx)), fun k hk => ?_⟩
    have z := h3 k (List.mem_range.mp hk)
    simp
    rcases z with z | z
    · exact Or.inl ⟨⟨z.1, z.2.1⟩, z.2.2⟩
    · exact Or.inr z
def top64 : Nat := 2 ^ 64
/-- the tables, packed, in their order -/
def KK (a : AS) : List Nat := (List.range top64).filter (inK a)
theorem KK_sorted (a : AS) : (KK a).Pairwise (fun p q => p < q) := List.Pairwise.filter (inK a) List.pairwise_lt_range
theorem KK_mem {a : AS} {p : Nat} : p ∈ KK a ↔ p < top64 ∧ inK a p = true := by
  unfold KK
  rw [List.mem_filter, List.mem_range]
theorem Tab.out4 {R C : Nat} {h : Nat → Nat → Bool} {t : Nat → Nat → Nat} (hT : Tab R C h t) (hR : R ≤ 4) (hC : C ≤ 4) {y x : Nat} (q : ¬ (y < 4 ∧ x < 4)) : t y x = 0 := hT.1 y x (by omega)
theorem rsum0 {t : Nat → Nat → Nat} {y : Nat} (h : ∀ x, t y x = 0) : rsum t y = 0 := by
  unfold rsum s4
  rw [h 0, h 1, h 2, h 3]
theorem csum0 {t : Nat → Nat → Nat} {x : Nat} (h : ∀ y, t y x = 0) : csum t x = 0 := by
  unfold csum s4
  dsimp only
  rw [h 0, h 1, h 2, h 3]
/-- who is in the list -/
theorem KK_tab {a : AS} (hW : WF a) (hR : nR a ≠ 0) {p : Nat} (h : p ∈ KK a) : Tab (nR a) (nC a) (hol a) (unp p) ∧ Sam (cel a) (unp p) ∧ pack (unp p) = p := by
  have hl := hW.le
  obtain ⟨t1, t2, t3, t4, t5, t6, t7, t8, t9, t10, t11⟩ := hW.told hR
  obtain ⟨hp, hk⟩ := KK_mem.mp h
  obtain ⟨k1, k2, k4⟩ := inK_iff.mp hk
  have k3 : ∀ y, y < 4 → ∀ x, x < 4 → (¬ (y < nR a ∧ x < nC a) ∨ hol a y x = true) → unp p y x = 0 := by
    intro y hy x hx q
    have z := k4 (4 * y + x) (by omega)
    rw [show (4 * y + x) / 4 = y by omega, show (4 * y + x) % 4 = x by omega] at z
    rcases z with z | z
    · rcases q with q | q
      · exact absurd ⟨z.1, z.2.1⟩ q
      · rw [z.2.2] at q; exact absurd q (by decide)
    · exact z
  refine ⟨⟨fun y x q => ?_, fun y x q => ?_⟩, ⟨fun y => ?_, fun x => ?_⟩, pack_unp hp⟩
  · by_cases c : y < 4 ∧ x < 4
    · exact k3 y c.1 x c.2 (Or.inl q)
    · exact unp_out p c
  · by_cases c : y < 4 ∧ x < 4
    · exact k3 y c.1 x c.2 (Or.inr q)
    · exact unp_out p c
  · by_cases c : y < 4
    · exact k1 y c
    · rw [rsum0 (fun x => unp_out p (by omega)), rsum0 (fun x => t10.out4 t2 t4 (by omega))]
  · by_cases c : x < 4
    · exact k2 x c
    · rw [csum0 (fun y => unp_out p (by omega)), csum0 (fun y => t10.out4 t2 t4 (by omega))]
theorem KK_of {a : AS} (hW : WF a) (hR : nR a ≠ 0) {t : Nat → Nat → Nat} (hT : Tab (nR a) (nC a) (hol a) t) (hS : Sam (cel a) t) : pack t ∈ KK a ∧ unp (pack t) = t := by
  have ht := hW.told hR
  have lt := ht.lt16 hT hS
  have e : unp (pack t) = t := unp_pack lt (fun y x q => hT.out4 ht.2.1 ht.2.2.2.1 q)
  refine ⟨KK_mem.mpr ⟨pack_lt lt, ?_⟩, e⟩
  rw [inK_iff, e]
  refine ⟨fun y _ => hS.1 y, fun x _ => hS.2 x, fun k _ => ?_⟩
  by_cases q : k / 4 < nR a ∧ k % 4 < nC a
  · cases c : hol a (k / 4) (k % 4) with
    | true => exact Or.inr (hT.2 _ _ c)
    | false => exact Or.inl ⟨q.1, q.2, rfl⟩
  · exact Or.inr (hT.1 _ _ q)
