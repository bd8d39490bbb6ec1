-- A MOVE ON A TABLE
def mo1 (y x a b : Nat) : Nat := if a = y ∧ b = x then 1 else 0
def moN (m : MVt) (a b : Nat) : Nat := mo1 m.1 m.2.2.2.1 a b + mo1 m.2.1 m.2.2.2.2.1 a b + mo1 m.2.2.1 m.2.2.2.2.2 a b
def leN (m : MVt) (a b : Nat) : Nat := mo1 m.1 m.2.2.2.2.1 a b + mo1 m.2.1 m.2.2.2.2.2 a b + mo1 m.2.2.1 m.2.2.2.1 a b
def mvT (m : MVt) (u : Nat → Nat → Nat) : Nat → Nat → Nat := fun a b => u a b + moN m a b - leN m a b
/-- a swap or a turn -/
def okM (m : MVt) : Prop := (m.2.2.1 = m.2.1 ∧ m.2.2.2.2.2 = m.2.2.2.1 ∧ m.1 ≠ m.2.1 ∧ m.2.2.2.1 ≠ m.2.2.2.2.1) ∨ (m.1 ≠ m.2.1 ∧ m.1 ≠ m.2.2.1 ∧ m.2.1 ≠ m.2.2.1)
theorem mo1_le (y x a b : Nat) : mo1 y x a b ≤ 1 := by unfold mo1; split <;> omega
theorem mo1_1 {y x a b : Nat} (h : a = y ∧ b = x) : mo1 y x a b = 1 := if_pos h
theorem mo1_0 {y x a b : Nat} (h : ¬ (a = y ∧ b = x)) : mo1 y x a b = 0 := if_neg h
theorem mvC_iff {t : Nat → Nat → Nat} {m : MVt} : mvC t m = true ↔ 0 < t m.1 m.2.2.2.2.1 ∧ 0 < t m.2.1 m.2.2.2.2.2 ∧ 0 < t m.2.2.1 m.2.2.2.1 := by
  unfold mvC
  simp
theorem le_ok {m : MVt} (hm : okM m) {u : Nat → Nat → Nat} (hc : mvC u m = true) (a b : Nat) : leN m a b ≤ u a b + moN m a b := by
  obtain ⟨r, s, t, c, d, e⟩ := m
  obtain ⟨k1, k2, k3⟩ := mvC_iff.mp hc
  have k1 : 0 < u r d := k1
  have k2 : 0 < u s e := k2
  have k3 : 0 < u t c := k3
  show mo1 r d a b + mo1 s e a b + mo1 t c a b ≤ u a b + (mo1 r c a b + mo1 s d a b + mo1 t e a b)
  rcases hm with ⟨h1, h2, h3, h4⟩ | ⟨h1, h2, h3⟩
  · have e1 : t = s := h1
    have e2 : e = c := h2
    have e3 : r ≠ s := h3
    rw [e1, e2]
    rw [e2] at k2
    by_cases q : a = s ∧ b = c
    · rw [mo1_1 q, mo1_0 (y := r) (x := d) (fun z => e3 (z.1.symm.trans q.1)), q.1, q.2]
      omega
    · rw [mo1_0 q]
      by_cases q2 : a = r ∧ b = d
      · rw [mo1_1 q2, q2.1, q2.2]
        omega
      · rw [mo1_0 q2]
        omega
  · have h1 : r ≠ s := h1
    have h2 : r ≠ t := h2
    have h3 : s ≠ t := h3
    by_cases q1 : a = r ∧ b = d
    · rw [mo1_1 q1, mo1_0 (y := s) (x := e) (fun z => h1 (q1.1.symm.trans z.1)), mo1_0 (y := t) (x := c) (fun z => h2 (q1.1.symm.trans z.1)), q1.1, q1.2]
      omega
    · rw [mo1_0 q1]
      by_cases q2 : a = s ∧ b = e
      · rw [mo1_1 q2, mo1_0 (y := t) (x := c) (fun z => h3 (q2.1.symm.trans z.1)), q2.1, q2.2]
        omega
      · rw [mo1_0 q2]
        by_cases q3 : a = t ∧ b = c
        · rw [mo1_1 q3, q3.1, q3.2]
          omega
        · rw [mo1_0 q3]
          omega
theorem s4_mo1 {y x : Nat} (hx : x < 4) (a : Nat) : s4 (fun b => mo1 y x a b) = if a = y then 1 else 0 := by
  unfold s4 mo1
  dsimp only
  by_cases c : a = y
  · rw [if_pos c]
    rcases (show x = 0 ∨ x = 1 ∨ x = 2 ∨ x = 3 by omega) with rfl | rfl | rfl | rfl <;> simp [c]
  · rw [if_neg c]
    simp [c]
theorem s4_mo2 {y x : Nat} (hy : y < 4) (b : Nat) : s4 (fun a => mo1 y x a b) = if b = x then 1 else 0 := by
  unfold s4 mo1
  dsimp only
  by_cases c : b = x
  · rw [if_pos c]
    rcases (show y = 0 ∨ y = 1 ∨ y = 2 ∨ y = 3 by omega) with rfl | rfl | rfl | rfl <;> simp [c]
  · rw [if_neg c]
    simp [c]
theorem s4_mv {f p q f' : Nat → Nat} (h : ∀ i, q i ≤ f i + p i) (he : ∀ i, f' i = f i + p i - q i) (hpq : s4 p = s4 q) : s4 f' = s4 f := by
  have h0 := h 0; have h1 := h 1; have h2 := h 2; have h3 := h 3
  unfold s4 at hpq ⊢
  rw [he 0, he 1, he 2, he 3]
  omega
theorem s4_3 (p q r : Nat → Nat) : s4 (fun i => p i + q i + r i) = s4 p + s4 q + s4 r := by
  unfold s4
  dsimp only
  omega
def m4 (m : MVt) : Prop := m.1 < 4 ∧ m.2.1 < 4 ∧ m.2.2.1 < 4 ∧ m.2.2.2.1 < 4 ∧ m.2.2.2.2.1 < 4 ∧ m.2.2.2.2.2 < 4
theorem mvT_sam {m : MVt} (h4 : m4 m) (hm : okM m) {u : Nat → Nat → Nat} (hc : mvC u m = true) : Sam u (mvT m u) := by
  have lo := le_ok hm hc
  obtain ⟨q1, q2, q3, q4, q5, q6⟩ := h4
  refine ⟨fun y => ?_, fun x => ?_⟩
  · refine s4_mv (p := fun b => moN m y b) (q := fun b => leN m y b) (fun i => lo y i) (fun i => rfl) ?_
    unfold moN leN
    rw [s4_3, s4_3, s4_mo1 q4, s4_mo1 q5, s4_mo1 q6, s4_mo1 q5, s4_mo1 q6, s4_mo1 q4]
  · refine s4_mv (f := fun y => u y x) (p := fun a => moN m a x) (q := fun a => leN m a x) (fun i => lo i x) (fun i => rfl) ?_
    unfold moN leN
    rw [s4_3, s4_3, s4_mo2 q1, s4_mo2 q2, s4_mo2 q3, s4_mo2 q1, s4_mo2 q2, s4_mo2 q3]
    omega
