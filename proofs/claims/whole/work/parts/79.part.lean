-- THE MODEL'S WAY THROUGH THE TABLES: what of the list goes on from some laid cells
def upF {α : Type} (f : Nat → List α) : Nat → Nat → List α
  | 0, _ => []
  | n + 1, v => f v ++ upF f n (v + 1)
theorem upF_mem {α : Type} {f : Nat → List α} {p : α} : ∀ n v, p ∈ upF f n v ↔ ∃ w, v ≤ w ∧ w < v + n ∧ p ∈ f w
  | 0, v => by
    constructor
    · intro h; exact absurd h (by show ¬ p ∈ ([] : List α); simp)
    · rintro ⟨w, h1, h2, -⟩; omega
  | n + 1, v => by
    have ih := upF_mem (f := f) (p := p) n (v + 1)
    show p ∈ f v ++ upF f n (v + 1) ↔ _
    rw [List.mem_append, ih]
    constructor
    · rintro (h | ⟨w, h1, h2, h3⟩)
      · exact ⟨v, by omega, by omega, h⟩
      · exact ⟨w, by omega, by omega, h3⟩
    · rintro ⟨w, h1, h2, h3⟩
      by_cases e : w = v
      · subst e; exact Or.inl h3
      · exact Or.inr ⟨w, by omega, by omega, h3⟩
theorem upF_nil {α : Type} {f : Nat → List α} : ∀ n v, (∀ w, v ≤ w → f w = []) → upF f n v = []
  | 0, _, _ => rfl
  | n + 1, v, h => by
    show f v ++ upF f n (v + 1) = []
    rw [h v (by omega), upF_nil n (v + 1) (fun w q => h w (by omega))]
    rfl
theorem upF_sorted {f : Nat → List Nat} (h1 : ∀ w, (f w).Pairwise (fun p q => p < q)) (h2 : ∀ v w, v < w → ∀ p, p ∈ f v → ∀ q, q ∈ f w → p < q) : ∀ n v, (upF f n v).Pairwise (fun p q => p < q)
  | 0, _ => List.Pairwise.nil
  | n + 1, v => by
    show (f v ++ upF f n (v + 1)).Pairwise _
    rw [List.pairwise_append]
    refine ⟨h1 v, upF_sorted h1 h2 n (v + 1), fun p hp q hq => ?_⟩
    obtain ⟨w, w1, w2, w3⟩ := (upF_mem n (v + 1)).mp hq
    exact h2 v w (by omega) p hp q w3
/-- which cells are laid, where the next is X of Y -/
def lai (C Y X : Nat) (y x : Nat) : Bool := decide (x < C ∧ (y < Y ∨ y = Y ∧ x < X))
theorem lai_iff {C Y X y x : Nat} : lai C Y X y x = true ↔ x < C ∧ (y < Y ∨ y = Y ∧ x < X) := by
  unfold lai
  exact decide_eq_true_iff
def agr (D : Nat → Nat → Bool) (t : Nat → Nat → Nat) (p : Nat) : Bool := (List.range 16).all (fun i => !D (i / 4) (i % 4) || decide (unp p (i / 4) (i % 4) = t (i / 4) (i % 4)))
theorem agr_iff {D : Nat → Nat → Bool} {t : Nat → Nat → Nat} {p : Nat} : agr D t p = true ↔ ∀ y x, y < 4 → x < 4 → D y x = true → unp p y x = t y x := by
  unfold agr
  rw [List.all_eq_true]
  constructor
  · intro h y x hy hx hD
    have z := h (4 * y + x) (List.mem_range.mpr (by omega))
    rw [show (4 * y + x) / 4 = y by omega, show (4 * y + x) % 4 = x by omega, hD] at z
    simpa using z
  · intro h i hi
    have hi := List.mem_range.mp hi
    have z := h (i / 4) (i % 4) (by omega) (by omega)
    cases e : D (i / 4) (i % 4) with
    | false => rfl
    | true => rw [z e]; simp
/-- those of the list that have the laid cells -/
def sub (a : AS) (D : Nat → Nat → Bool) (t : Nat → Nat → Nat) : List Nat := (KK a).filter (agr D t)
theorem sub_mem {a : AS} {D : Nat → Nat → Bool} {t : Nat → Nat → Nat} {p : Nat} : p ∈ sub a D t ↔ p ∈ KK a ∧ agr D t p = true := by
  unfold sub
  rw [List.mem_filter]
theorem sub_sorted (a : AS) (D : Nat → Nat → Bool) (t : Nat → Nat → Nat) : (sub a D t).Pairwise (fun p q => p < q) := List.Pairwise.filter _ (KK_sorted a)
theorem pkN_congr {t u : Nat → Nat → Nat} : ∀ n, (∀ i, i < n → t (i / 4) (i % 4) = u (i / 4) (i % 4)) → pkN t n = pkN u n
  | 0, _ => rfl
  | n + 1, h => by
    show 16 * pkN t n + _ = 16 * pkN u n + _
    rw [pkN_congr n (fun i hi => h i (by omega)), h n (by omega)]
theorem pack_lex {t u : Nat → Nat → Nat} (ht : ∀ y x, t y x < 16) (hu : ∀ y x, u y x < 16) {y x : Nat} (hy : y < 4) (hx : x < 4) (h : ∀ i, i < 4 * y + x → t (i / 4) (i % 4) = u (i / 4) (i % 4)) (hl : t y x < u y x) : pack t < pack u := by
  have e : 4 * y + x + 1 + (15 - 4 * y - x) = 16 := by omega
  have h1 := pkN_div ht (4 * y + x + 1) (15 - 4 * y - x)
  have h2 := pkN_div hu (4 * y + x + 1) (15 - 4 * y - x)
  rw [e] at h1 h2
  have h3 : pkN t (4 * y + x + 1) < pkN u (4 * y + x + 1) := by
    show 16 * pkN t (4 * y + x) + t ((4 * y + x) / 4) ((4 * y + x) % 4) < 16 * pkN u (4 * y + x) + u ((4 * y + x) / 4) ((4 * y + x) % 4)
    rw [pkN_congr _ h, show (4 * y + x) / 4 = y by omega, show (4 * y + x) % 4 = x by omega]
    omega
  refine Nat.not_le.mp fun q => ?_
  have z := Nat.div_le_div_right (c := 16 ^ (15 - 4 * y - x)) q
  show False
  have z2 : pkN u 16 / 16 ^ (15 - 4 * y - x) ≤ pkN t 16 / 16 ^ (15 - 4 * y - x) := z
  rw [h1, h2] at z2
  omega
/-- the next cell -/
def nxY (C Y X : Nat) : Nat := if X + 1 = C then Y + 1 else Y
def nxX (C X : Nat) : Nat := if X + 1 = C then 0 else X + 1
theorem lai_next {C Y X y x : Nat} (hX : X < C) : lai C (nxY C Y X) (nxX C X) y x = true ↔ lai C Y X y x = true ∨ y = Y ∧ x = X := by
  rw [lai_iff, lai_iff]
  unfold nxY nxX
  by_cases c : X + 1 = C
  · rw [if_pos c, if_pos c]; omega
  · rw [if_neg c, if_neg c]; omega
/-- the list parts by the next cell -/
theorem sub_split {a : AS} (hW : WF a) (hR : nR a ≠ 0) {Y X : Nat} (hY : Y < nR a) (hX : X < nC a) (t : Nat → Nat → Nat) : sub a (lai (nC a) Y X) t = upF (fun v => sub a (lai (nC a) (nxY (nC a) Y X) (nxX (nC a) X)) (udt t Y X v)) 16 0 := by
  have hl := hW.le
  refine su id _ _ (sub_sorted a _ t) (upF_sorted (fun w => sub_sorted a _ _) (fun v w hvw p hp q hq => ?_) 16 0) (fun p => ?_)
  · obtain ⟨p1, p2⟩ := sub_mem.mp hp
    obtain ⟨q1, q2⟩ := sub_mem.mp hq
    rw [agr_iff] at p2 q2
    obtain ⟨pa, -, pc⟩ := KK_tab hW hR p1
    obtain ⟨qa, -, qc⟩ := KK_tab hW hR q1
    rw [← pc, ← qc]
    have ep := p2 Y X (by omega) (by omega) ((lai_next hX).mpr (Or.inr ⟨rfl, rfl⟩))
    have eq := q2 Y X (by omega) (by omega) ((lai_next hX).mpr (Or.inr ⟨rfl, rfl⟩))
    rw [udt_s] at ep eq
    refine pack_lex (unp_lt p) (unp_lt q) (y := Y) (x := X) (by omega) (by omega) (fun i hi => ?_) (by omega)
    by_cases c : i % 4 < nC a
    · have hla : lai (nC a) Y X (i / 4) (i % 4) = true := lai_iff.mpr ⟨c, by omega⟩
      have z1 := p2 (i / 4) (i % 4) (by omega) (by omega) ((lai_next hX).mpr (Or.inl hla))
      have z2 := q2 (i / 4) (i % 4) (by omega) (by omega) ((lai_next hX).mpr (Or.inl hla))
      rw [udt_n _ _ (by omega)] at z1 z2
      rw [z1, z2]
    · rw [pa.1 _ _ (by omega), qa.1 _ _ (by omega)]
  · rw [sub_mem, agr_iff, upF_mem]
    constructor
    · rintro ⟨h1, h2⟩
      refine ⟨unp p Y X, by omega, by have := unp_lt p Y X; omega, sub_mem.mpr ⟨h1, agr_iff.mpr fun y x hy hx hD => ?_⟩⟩
      by_cases c : y = Y ∧ x = X
      · rw [c.1, c.2, udt_s]
      · rw [udt_n _ _ c]
        rcases (lai_next hX).mp hD with z | z
        · exact h2 y x hy hx z
        · exact absurd z c
    · rintro ⟨w, -, -, hw⟩
      obtain ⟨h1, h2⟩ := sub_mem.mp hw
      rw [agr_iff] at h2
      refine ⟨h1, fun y x hy hx hD => ?_⟩
      have z := h2 y x hy hx ((lai_next hX).mpr (Or.inl hD))
      rw [lai_iff] at hD
      rw [udt_n _ _ (by omega)] at z
      exact z
/-- some cells are laid, as the sums and holes let them -/
def Par (a : AS) (Y X : Nat) (t : Nat → Nat → Nat) : Prop :=
  (∀ y x, ¬ lai (nC a) Y X y x = true → t y x = 0) ∧ (∀ y x, hol a y x = true → t y x = 0) ∧ (∀ y, rsum t y ≤ rsum (cel a) y) ∧ (∀ x, csum t x ≤ csum (cel a) x) ∧ (∀ y, y < Y → rsum t y = rsum (cel a) y) ∧ ∀ x, x < nC a → (Y = nR a ∨ Y + 1 = nR a ∧ x < X) → csum t x = csum (cel a) x
theorem Tab.rs0 {R C : Nat} {h : Nat → Nat → Bool} {t : Nat → Nat → Nat} (hT : Tab R C h t) {y : Nat} (q : R ≤ y) : rsum t y = 0 := rsum0 (fun x => hT.1 y x (by omega))
theorem Tab.cs0 {R C : Nat} {h : Nat → Nat → Bool} {t : Nat → Nat → Nat} (hT : Tab R C h t) {x : Nat} (q : C ≤ x) : csum t x = 0 := csum0 (fun y => hT.1 y x (by omega))
theorem Par.end {a : AS} (hW : WF a) (hR : nR a ≠ 0) {t : Nat → Nat → Nat} (h : Par a (nR a) 0 t) : sub a (lai (nC a) (nR a) 0) t = [pack t] ∧ unp (pack t) = t := by
  have hl := hW.le
  obtain ⟨h1, h2, h3, h4, h5, h6⟩ := h
  have hcT := (hW.told hR).2.2.2.2.2.2.2.2.2.1
  have hT : Tab (nR a) (nC a) (hol a) t := ⟨fun y x q => h1 y x (fun z => by rw [lai_iff] at z; omega), h2⟩
  have hS : Sam (cel a) t := by
    refine ⟨fun y => ?_, fun x => ?_⟩
    · by_cases c : y < nR a
      · exact h5 y c
      · rw [hT.rs0 (by omega), hcT.rs0 (by omega)]
    · by_cases c : x < nC a
      · exact h6 x c (Or.inl rfl)
      · rw [hT.cs0 (by omega), hcT.cs0 (by omega)]
  obtain ⟨k1, k2⟩ := KK_of hW hR hT hS
  refine ⟨?_, k2⟩
  refine su id _ _ (sub_sorted a _ t) (List.pairwise_singleton _ _) (fun p => ?_)
  rw [sub_mem, agr_iff, List.mem_singleton]
  constructor
  · rintro ⟨p1, p2⟩
    obtain ⟨pa, -, pc⟩ := KK_tab hW hR p1
    rw [← pc]
    congr 1
    funext y x
    by_cases c : y < nR a ∧ x < nC a
    · exact p2 y x (by omega) (by omega) (lai_iff.mpr ⟨c.2, Or.inl c.1⟩)
    · rw [pa.1 y x c, hT.1 y x c]
  · rintro rfl
    exact ⟨k1, fun y x _ _ _ => by rw [k2]⟩
