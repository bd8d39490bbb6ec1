-- THE TEXT, read: a fault (its kind and place) or what it tells
abbrev PF : Type := Nat × Nat
def bd {α β : Type} (x : PF ⊕ α) (f : α → PF ⊕ β) : PF ⊕ β := match x with | .inl e => .inl e | .inr a => f a
theorem bd_l {α β : Type} {x : PF ⊕ α} {f : α → PF ⊕ β} {e : PF} (h : x = .inl e) : bd x f = .inl e := by rw [h]; rfl
theorem bd_r {α β : Type} {x : PF ⊕ α} {f : α → PF ⊕ β} {a : α} (h : x = .inr a) : bd x f = f a := by rw [h]; rfl
theorem bd_ok {α β : Type} {x : PF ⊕ α} {f : α → PF ⊕ β} {b : β} (h : bd x f = .inr b) : ∃ a, x = .inr a ∧ f a = .inr b := by
  cases x with
  | inl e => exact absurd h (by intro z; cases z)
  | inr a => exact ⟨a, rfl, h⟩
def udt {α : Type} (t : Nat → Nat → α) (y x : Nat) (v : α) : Nat → Nat → α := fun a b => if a = y ∧ b = x then v else t a b
def pW (B : Nat → Nat) (L w p : Nat) : PF ⊕ Nat := if tK B L p = 1 ∧ isW B (tF B L p) (tT B L p) w then .inr (tT B L p) else .inl (1, tF B L p)
def pN (B : Nat → Nat) (L lo hi p : Nat) : PF ⊕ (Nat × Nat) := if tK B L p = 2 then if lo ≤ tV B L p ∧ tV B L p ≤ hi then .inr (tV B L p, tT B L p) else .inl (2, tF B L p) else .inl (1, tF B L p)
def pS (B : Nat → Nat) (L p : Nat) : PF ⊕ Nat := if tK B L p = 3 then .inr (tT B L p) else .inl (1, tF B L p)
def pSizes (B : Nat → Nat) (L p : Nat) : PF ⊕ (Nat × Nat × Nat) :=
  bd (pW B L 0 p) fun p1 => bd (pW B L 1 p1) fun p2 => bd (pN B L 2 4 p2) fun r => bd (pW B L 2 r.2) fun p4 => bd (pN B L 2 4 p4) fun c => bd (pS B L c.2) fun p6 => .inr (r.1, c.1, p6)
def pCells (B : Nat → Nat) (L y : Nat) : Nat → Nat → (Nat → Nat → Nat) → Nat → Nat → PF ⊕ ((Nat → Nat → Nat) × Nat × Nat)
  | 0, _, t, T, p => .inr (t, T, p)
  | n + 1, x, t, T, p => bd (pN B L 0 (min (20 - T) 9) p) fun v => pCells B L y n (x + 1) (udt t y x v.1) (T + v.1) v.2
def pRow (B : Nat → Nat) (L C y : Nat) (t : Nat → Nat → Nat) (T p : Nat) : PF ⊕ ((Nat → Nat → Nat) × Nat × Nat) :=
  bd (pW B L 3 p) fun p1 => bd (pCells B L y C 0 t T p1) fun r => bd (pS B L r.2.2) fun p3 => .inr (r.1, r.2.1, p3)
def pRows (B : Nat → Nat) (L C : Nat) : Nat → Nat → (Nat → Nat → Nat) → Nat → Nat → PF ⊕ ((Nat → Nat → Nat) × Nat × Nat)
  | 0, _, t, T, p => .inr (t, T, p)
  | n + 1, y, t, T, p => bd (pRow B L C y t T p) fun r => pRows B L C n (y + 1) r.1 r.2.1 r.2.2
def pX (B : Nat → Nat) (L C : Nat) (t : Nat → Nat → Nat) (h : Nat → Nat → Bool) (y p : Nat) : PF ⊕ (Nat × Nat) :=
  bd (pN B L 0 (C - 1) p) fun x => if h y x.1 = true ∨ t y x.1 ≠ 0 then .inl (2, tF B L p) else .inr x
def pHole (B : Nat → Nat) (L R C : Nat) (t : Nat → Nat → Nat) (h : Nat → Nat → Bool) (p : Nat) : PF ⊕ ((Nat → Nat → Bool) × Nat) :=
  bd (pW B L 4 p) fun p1 => bd (pN B L 0 (R - 1) p1) fun y => bd (pX B L C t h y.1 y.2) fun x => bd (pS B L x.2) fun p4 => .inr (udt h y.1 x.1 true, p4)
def pHoles (B : Nat → Nat) (L R C : Nat) (t : Nat → Nat → Nat) : Nat → (Nat → Nat → Bool) → Nat → Nat → PF ⊕ ((Nat → Nat → Bool) × Nat)
  | 0, h, ln, _ => .inr (h, ln)
  | n + 1, h, ln, p => if tK B L p = 0 then .inr (h, ln) else bd (pHole B L R C t h p) fun r => pHoles B L R C t n r.1 (ln + 1) r.2
abbrev t0 : Nat → Nat → Nat := fun _ _ => 0
abbrev h0 : Nat → Nat → Bool := fun _ _ => false
def parse (B : Nat → Nat) (L : Nat) : PF ⊕ ((Nat × Nat × Nat) × (Nat → Nat → Bool) × (Nat → Nat → Nat)) :=
  if tK B L 0 = 0 then .inr ((0, 0, 0), h0, t0) else
  bd (pSizes B L 0) fun s => bd (pRows B L s.2.1 s.1 0 t0 0 s.2.2) fun r => bd (pHoles B L s.1 s.2.1 r.1 17 h0 (1 + s.1) r.2.2) fun q => .inr ((s.1, s.2.1, q.2), q.1, r.1)
theorem pW_le {B : Nat → Nat} {L w p q : Nat} (hp : p ≤ L) (h : pW B L w p = .inr q) : q ≤ L := by
  unfold pW at h
  split at h
  · injection h with h; have := tT_le B hp; omega
  · exact absurd h (by intro z; cases z)
theorem pS_le {B : Nat → Nat} {L p q : Nat} (hp : p ≤ L) (h : pS B L p = .inr q) : q ≤ L := by
  unfold pS at h
  split at h
  · injection h with h; have := tT_le B hp; omega
  · exact absurd h (by intro z; cases z)
theorem pN_le {B : Nat → Nat} {L lo hi p : Nat} {q : Nat × Nat} (hp : p ≤ L) (h : pN B L lo hi p = .inr q) : q.2 ≤ L ∧ lo ≤ q.1 ∧ q.1 ≤ hi ∧ q = (tV B L p, tT B L p) ∧ tK B L p = 2 := by
  unfold pN at h
  split at h
  · rename_i k2
    split at h
    · injection h with h
      have := tT_le B hp
      subst h
      exact ⟨this.2, by show lo ≤ tV B L p; omega, by show tV B L p ≤ hi; omega, rfl, k2⟩
    · exact absurd h (by intro z; cases z)
  · exact absurd h (by intro z; cases z)
theorem udt_s {α : Type} (t : Nat → Nat → α) (y x : Nat) (v : α) : udt t y x v y x = v := if_pos ⟨rfl, rfl⟩
theorem udt_n {α : Type} (t : Nat → Nat → α) {y x a b : Nat} (v : α) (h : ¬ (a = y ∧ b = x)) : udt t y x v a b = t a b := if_neg h
theorem tsum_upd {t : Nat → Nat → Nat} {y x v : Nat} (hy : y < 4) (hx : x < 4) (h : t y x = 0) : tsum (udt t y x v) = tsum t + v := by
  unfold tsum rsum s4 udt
  rcases (show y = 0 ∨ y = 1 ∨ y = 2 ∨ y = 3 by omega) with rfl | rfl | rfl | rfl <;> rcases (show x = 0 ∨ x = 1 ∨ x = 2 ∨ x = 3 by omega) with rfl | rfl | rfl | rfl <;> simp <;> omega
/-- holes, counted -/
def hN (h : Nat → Nat → Bool) : Nat := tsum (fun y x => if h y x then 1 else 0)
theorem hN_le (h : Nat → Nat → Bool) : hN h ≤ 16 := by
  have b : ∀ y x, (if h y x = true then 1 else 0) ≤ 1 := fun y x => by split <;> omega
  unfold hN tsum rsum s4
  dsimp only
  have := b 0 0; have := b 0 1; have := b 0 2; have := b 0 3
  have := b 1 0; have := b 1 1; have := b 1 2; have := b 1 3
  have := b 2 0; have := b 2 1; have := b 2 2; have := b 2 3
  have := b 3 0; have := b 3 1; have := b 3 2; have := b 3 3
  omega
theorem hN_upd {h : Nat → Nat → Bool} {y x : Nat} (hy : y < 4) (hx : x < 4) (e : h y x = false) : hN (udt h y x true) = hN h + 1 := by
  have q : (fun a b => if udt h y x true a b = true then 1 else 0) = udt (fun a b => if h a b = true then 1 else 0) y x 1 := by
    funext a b
    unfold udt
    by_cases c : a = y ∧ b = x
    · rw [if_pos c, if_pos c]; rfl
    · rw [if_neg c, if_neg c]
  unfold hN
  rw [q, tsum_upd hy hx (by simp [e])]
theorem hN_0 : hN h0 = 0 := by decide
/-- what the cells of a row leave -/
def CellsI (y n x : Nat) (t : Nat → Nat → Nat) (T : Nat) : Prop := T = tsum t ∧ T ≤ 20 ∧ (∀ a b, t a b ≤ 9) ∧ x + n ≤ 4 ∧ y < 4 ∧ (∀ a b, ¬ (a < y ∧ b < x + n ∨ a = y ∧ b < x) → t a b = 0)
theorem pCells_ok {B : Nat → Nat} {L y : Nat} : ∀ n x t T p r, CellsI y n x t T → p ≤ L → pCells B L y n x t T p = .inr r → r.2.2 ≤ L ∧ CellsI y 0 (x + n) r.1 r.2.1
  | 0, x, t, T, p, r, hI, hp, h => by
    have h : Sum.inr (t, T, p) = Sum.inr r := h
    injection h with h
    subst h
    exact ⟨hp, hI⟩
  | n + 1, x, t, T, p, r, hI, hp, h => by
    obtain ⟨v, h1, h2⟩ := bd_ok h
    have hv := pN_le hp h1
    obtain ⟨i1, i2, i3, i4, i5, i6⟩ := hI
    have hz : t y x = 0 := i6 y x (by omega)
    have ih := pCells_ok n (x + 1) (udt t y x v.1) (T + v.1) v.2 r ⟨?_, ?_, ?_, by omega, i5, ?_⟩ hv.1 h2
    · rw [show x + (n + 1) = x + 1 + n by omega]
      exact ih
    · rw [tsum_upd i5 (by omega) hz, i1]
    · omega
    · intro a b
      by_cases c : a = y ∧ b = x
      · rw [c.1, c.2, udt_s]; omega
      · rw [udt_n t _ c]; exact i3 a b
    · intro a b hab
      rw [udt_n t _ (by omega)]
      exact i6 a b (by omega)
theorem pRow_ok {B : Nat → Nat} {L C y : Nat} {t : Nat → Nat → Nat} {T p : Nat} {r : (Nat → Nat → Nat) × Nat × Nat} (hI : CellsI y C 0 t T) (hp : p ≤ L) (h : pRow B L C y t T p = .inr r) : r.2.2 ≤ L ∧ CellsI y 0 C r.1 r.2.1 := by
  obtain ⟨p1, h1, h⟩ := bd_ok h
  obtain ⟨r2, h2, h⟩ := bd_ok h
  obtain ⟨p3, h3, h⟩ := bd_ok h
  have h : Sum.inr (r2.1, r2.2.1, p3) = Sum.inr r := h
  injection h with h
  subst h
  have hq := pCells_ok C 0 t T p1 r2 hI (pW_le hp h1) h2
  rw [Nat.zero_add] at hq
  exact ⟨pS_le hq.1 h3, hq.2⟩
/-- what the rows leave: the first n rows of C cells -/
def RowsI (C n : Nat) (t : Nat → Nat → Nat) (T : Nat) : Prop := T = tsum t ∧ T ≤ 20 ∧ (∀ a b, t a b ≤ 9) ∧ ∀ a b, ¬ (a < n ∧ b < C) → t a b = 0
theorem RowsI.cells {C n : Nat} {t : Nat → Nat → Nat} {T : Nat} (h : RowsI C n t T) (hC : C ≤ 4) (hn : n < 4) : CellsI n C 0 t T := ⟨h.1, h.2.1, h.2.2.1, by omega, hn, fun a b q => h.2.2.2 a b (by omega)⟩
theorem CellsI.rows {C n : Nat} {t : Nat → Nat → Nat} {T : Nat} (h : CellsI n 0 C t T) : RowsI C (n + 1) t T := ⟨h.1, h.2.1, h.2.2.1, fun a b q => h.2.2.2.2.2 a b (by omega)⟩
theorem pRows_ok {B : Nat → Nat} {L C : Nat} (hC : C ≤ 4) : ∀ n y t T p r, RowsI C y t T → y + n ≤ 4 → p ≤ L → pRows B L C n y t T p = .inr r → r.2.2 ≤ L ∧ RowsI C (y + n) r.1 r.2.1
  | 0, y, t, T, p, r, hI, hn, hp, h => by
    have h : Sum.inr (t, T, p) = Sum.inr r := h
    injection h with h
    subst h
    exact ⟨hp, hI⟩
  | n + 1, y, t, T, p, r, hI, hn, hp, h => by
    obtain ⟨q, h1, h2⟩ := bd_ok h
    have hq := pRow_ok (hI.cells hC (by omega)) hp h1
    have ih := pRows_ok hC n (y + 1) q.1 q.2.1 q.2.2 r hq.2.rows (by omega) hq.1 h2
    rw [show y + (n + 1) = y + 1 + n by omega]
    exact ih
def HolI (R C : Nat) (t : Nat → Nat → Nat) (h : Nat → Nat → Bool) : Prop := ∀ a b, h a b = true → a < R ∧ b < C ∧ t a b = 0
theorem pX_ok {B : Nat → Nat} {L C : Nat} {t : Nat → Nat → Nat} {h : Nat → Nat → Bool} {y p : Nat} {x : Nat × Nat} (hp : p ≤ L) (hC : 2 ≤ C) (e : pX B L C t h y p = .inr x) : x.2 ≤ L ∧ x.1 < C ∧ h y x.1 = false ∧ t y x.1 = 0 := by
  obtain ⟨q, h1, h2⟩ := bd_ok e
  have hq := pN_le hp h1
  split at h2
  · exact absurd h2 (by intro z; cases z)
  · rename_i c
    injection h2 with h2
    subst h2
    refine ⟨hq.1, by omega, ?_, ?_⟩
    · cases z : h y q.1 with
      | true => exact absurd (Or.inl z) c
      | false => rfl
    · exact Nat.eq_zero_of_not_pos (fun z => c (Or.inr (by omega)))
theorem pHole_ok {B : Nat → Nat} {L R C : Nat} {t : Nat → Nat → Nat} {h : Nat → Nat → Bool} {p : Nat} {r : (Nat → Nat → Bool) × Nat} (hR : 2 ≤ R ∧ R ≤ 4) (hC : 2 ≤ C ∧ C ≤ 4) (hp : p ≤ L) (hI : HolI R C t h) (e : pHole B L R C t h p = .inr r) : r.2 ≤ L ∧ HolI R C t r.1 ∧ hN r.1 = hN h + 1 := by
  obtain ⟨p1, h1, e⟩ := bd_ok e
  obtain ⟨y, h2, e⟩ := bd_ok e
  obtain ⟨x, h3, e⟩ := bd_ok e
  obtain ⟨p4, h4, e⟩ := bd_ok e
  have e : Sum.inr (udt h y.1 x.1 true, p4) = Sum.inr r := e
  injection e with e
  subst e
  have q1 := pW_le hp h1
  have q2 := pN_le q1 h2
  have q3 := pX_ok q2.1 hC.1 h3
  refine ⟨pS_le q3.1 h4, fun a b hab => ?_, hN_upd (by omega) (by omega) q3.2.2.1⟩
  by_cases c : a = y.1 ∧ b = x.1
  · rw [c.1, c.2]; exact ⟨by omega, q3.2.1, q3.2.2.2⟩
  · have hab : udt h y.1 x.1 true a b = true := hab
    rw [udt_n h _ c] at hab
    exact hI a b hab
theorem pHoles_ok {B : Nat → Nat} {L R C : Nat} {t : Nat → Nat → Nat} (hR : 2 ≤ R ∧ R ≤ 4) (hC : 2 ≤ C ∧ C ≤ 4) : ∀ n h ln p r, p ≤ L → HolI R C t h → pHoles B L R C t n h ln p = .inr r → HolI R C t r.1 ∧ r.2 + hN h = ln + hN r.1
  | 0, h, ln, p, r, hp, hI, e => by
    have e : Sum.inr (h, ln) = Sum.inr r := e
    injection e with e
    subst e
    exact ⟨hI, rfl⟩
  | n + 1, h, ln, p, r, hp, hI, e => by
    have e : (if tK B L p = 0 then .inr (h, ln) else bd (pHole B L R C t h p) fun r => pHoles B L R C t n r.1 (ln + 1) r.2) = Sum.inr r := e
    split at e
    · injection e with e
      subst e
      exact ⟨hI, rfl⟩
    · obtain ⟨q, h1, h2⟩ := bd_ok e
      have hq := pHole_ok hR hC hp hI h1
      have ih := pHoles_ok hR hC n q.1 (ln + 1) q.2 r hq.1 hq.2.1 h2
      exact ⟨ih.1, by omega⟩
theorem pSizes_ok {B : Nat → Nat} {L p : Nat} {s : Nat × Nat × Nat} (hp : p ≤ L) (e : pSizes B L p = .inr s) : s.2.2 ≤ L ∧ (2 ≤ s.1 ∧ s.1 ≤ 4) ∧ 2 ≤ s.2.1 ∧ s.2.1 ≤ 4 := by
  obtain ⟨p1, h1, e⟩ := bd_ok e
  obtain ⟨p2, h2, e⟩ := bd_ok e
  obtain ⟨r, h3, e⟩ := bd_ok e
  obtain ⟨p4, h4, e⟩ := bd_ok e
  obtain ⟨c, h5, e⟩ := bd_ok e
  obtain ⟨p6, h6, e⟩ := bd_ok e
  have e : Sum.inr (r.1, c.1, p6) = Sum.inr s := e
  injection e with e
  subst e
  have q3 := pN_le (pW_le (pW_le hp h1) h2) h3
  have q5 := pN_le (pW_le q3.1 h4) h5
  exact ⟨pS_le q5.1 h6, ⟨q3.2.1, q3.2.2.1⟩, q5.2.1, q5.2.2.1⟩
