/-- all cells of a move are there and no holes -/
def frM (a : AS) (m : MVt) : Prop := (m.1 < nR a ∧ m.2.1 < nR a ∧ m.2.2.1 < nR a ∧ m.2.2.2.1 < nC a ∧ m.2.2.2.2.1 < nC a ∧ m.2.2.2.2.2 < nC a) ∧ hol a m.1 m.2.2.2.1 = false ∧ hol a m.2.1 m.2.2.2.2.1 = false ∧ hol a m.2.2.1 m.2.2.2.2.2 = false ∧ hol a m.1 m.2.2.2.2.1 = false ∧ hol a m.2.1 m.2.2.2.2.2 = false ∧ hol a m.2.2.1 m.2.2.2.1 = false
theorem mo1_h {a : AS} {y x p q : Nat} (h : hol a y x = false) (k : hol a p q = true) : mo1 y x p q = 0 := mo1_0 (fun z => by rw [z.1, z.2, h] at k; exact absurd k (by decide))
theorem mo1_o {R C y x p q : Nat} (hy : y < R) (hx : x < C) (k : ¬ (p < R ∧ q < C)) : mo1 y x p q = 0 := mo1_0 (fun z => k ⟨by omega, by omega⟩)
theorem mvT_tab {a : AS} {m : MVt} (h : frM a m) {u : Nat → Nat → Nat} (hT : Tab (nR a) (nC a) (hol a) u) : Tab (nR a) (nC a) (hol a) (mvT m u) := by
  obtain ⟨⟨q1, q2, q3, q4, q5, q6⟩, f1, f2, f3, f4, f5, f6⟩ := h
  refine ⟨fun y x k => ?_, fun y x k => ?_⟩
  · show u y x + moN m y x - leN m y x = 0
    unfold moN leN
    rw [hT.1 y x k, mo1_o q1 q4 k, mo1_o q2 q5 k, mo1_o q3 q6 k]
    omega
  · show u y x + moN m y x - leN m y x = 0
    unfold moN leN
    rw [hT.2 y x k, mo1_h f1 k, mo1_h f2 k, mo1_h f3 k]
    omega
theorem up1_mo (f : Nat → Nat → Nat) (y x a b : Nat) : up1 f y x a b = f a b + mo1 y x a b := by
  unfold up1 udt mo1
  by_cases c : a = y ∧ b = x
  · rw [if_pos c, if_pos c, c.1, c.2]
  · rw [if_neg c, if_neg c, Nat.add_zero]
theorem mvT_up {m : MVt} (hm : okM m) {u : Nat → Nat → Nat} (hc : mvC u m = true) : up1 (up1 (up1 (mvT m u) m.1 m.2.2.2.2.1) m.2.1 m.2.2.2.2.2) m.2.2.1 m.2.2.2.1 = up1 (up1 (up1 u m.1 m.2.2.2.1) m.2.1 m.2.2.2.2.1) m.2.2.1 m.2.2.2.2.2 := by
  funext a b
  have := le_ok hm hc a b
  rw [up1_mo, up1_mo, up1_mo, up1_mo, up1_mo, up1_mo]
  show u a b + moN m a b - leN m a b + _ + _ + _ = _
  unfold moN leN at *
  omega
theorem mvT_pack {m : MVt} (h4 : m4 m) (hm : okM m) {u : Nat → Nat → Nat} (hc : mvC u m = true) : pack u + 2 ^ shN m.1 m.2.2.2.1 + 2 ^ shN m.2.1 m.2.2.2.2.1 + 2 ^ shN m.2.2.1 m.2.2.2.2.2 = pack (mvT m u) + 2 ^ shN m.1 m.2.2.2.2.1 + 2 ^ shN m.2.1 m.2.2.2.2.2 + 2 ^ shN m.2.2.1 m.2.2.2.1 := by
  obtain ⟨q1, q2, q3, q4, q5, q6⟩ := h4
  unfold shN
  rw [← pack_up u q1 q4, ← pack_up _ q2 q5, ← pack_up _ q3 q6, ← pack_up (mvT m u) q1 q5, ← pack_up _ q2 q6, ← pack_up _ q3 q4, mvT_up hm hc]
theorem i64m3 {X Y v1 v2 v3 w1 w2 w3 : Int64} (h : X + v1 + v2 + v3 = Y + w1 + w2 + w3) : X + ((v1 + v2 + v3) - (w1 + w2 + w3)) = Y := by
  have e1 : X + ((v1 + v2 + v3) - (w1 + w2 + w3)) = (X + v1 + v2 + v3) + -(w1 + w2 + w3) := by
    rw [Int64.sub_eq_add_neg, ← Int64.add_assoc X, ← Int64.add_assoc X, ← Int64.add_assoc X]
  have e2 : Y + w1 + w2 + w3 = Y + (w1 + w2 + w3) := by rw [← Int64.add_assoc Y, ← Int64.add_assoc Y]
  rw [e1, h, e2, Int64.add_assoc, Int64.add_right_neg, Int64.add_zero]
/-- what a move adds to a packed table -/
theorem stepV_ok {m : MVt} (h4 : m4 m) (hm : okM m) {u : Nat → Nat → Nat} (hc : mvC u m = true) : lN (pack u) + stepV m = lN (pack (mvT m u)) := by
  have hp := mvT_pack h4 hm hc
  obtain ⟨r, s, t, c, d, e⟩ := m
  have hp : pack u + 2 ^ shN r c + 2 ^ shN s d + 2 ^ shN t e = pack (mvT (r, s, t, c, d, e) u) + 2 ^ shN r d + 2 ^ shN s e + 2 ^ shN t c := hp
  unfold stepV oneV
  dsimp only
  by_cases k : s = t
  · rw [if_pos k]
    have hm2 : e = c := by
      rcases hm with z | z
      · exact z.2.1
      · exact absurd k z.2.2
    rw [hm2, ← k] at hp
    refine i64mv ?_
    rw [lN_add, lN_add, lN_add, lN_add]
    congr 1
    rw [hm2, ← k]
    omega
  · rw [if_neg k]
    refine i64m3 ?_
    rw [lN_add, lN_add, lN_add, lN_add, lN_add, lN_add, hp]
theorem SWs_frM {a : AS} (hW : WF a) {m : MVt} (h : m ∈ SWs a) : frM a m ∧ m4 m ∧ okM m := by
  have hle := hW.le
  obtain ⟨r, s, c, e, em, h1, h2, h3, h4, h5, h6⟩ := SWs_mem h
  unfold freS at h6
  simp at h6
  rw [em]
  refine ⟨⟨⟨by show r < nR a; omega, h2, h2, h3, h4, h3⟩, h6.1, h6.2.2.2, h6.2.2.1, h6.2.1, h6.2.2.1, h6.2.2.1⟩, ⟨by show r < 4; omega, by show s < 4; omega, by show s < 4; omega, by show c < 4; omega, by show e < 4; omega, by show c < 4; omega⟩, Or.inl ⟨rfl, rfl, by show r ≠ s; omega, h5⟩⟩
theorem TNs_frM {a : AS} (hW : WF a) {m : MVt} (h : m ∈ TNs a) : frM a m ∧ m4 m ∧ okM m := by
  have hle := hW.le
  unfold TNs at h
  obtain ⟨r, -, r2, h⟩ := (upF_mem _ _).mp h
  obtain ⟨s, s1, s2, h⟩ := (upF_mem _ _).mp h
  obtain ⟨t, t1, t2, h⟩ := (upF_mem _ _).mp h
  unfold tnL2 at h
  by_cases q : s = t
  · rw [if_pos q] at h; exact absurd h (by simp)
  · rw [if_neg q] at h
    obtain ⟨c, -, c2, h⟩ := (upF_mem _ _).mp h
    obtain ⟨d, -, d2, h⟩ := (upF_mem _ _).mp h
    obtain ⟨e, -, e2, h⟩ := (upF_mem _ _).mp h
    unfold tnL1 at h
    by_cases q2 : c ≠ d ∧ d ≠ e ∧ e ≠ c ∧ freT a r s t c d e = true
    · rw [if_pos q2] at h
      rw [List.mem_singleton.mp h]
      have h6 := q2.2.2.2
      unfold freT at h6
      simp at h6
      refine ⟨⟨⟨by show r < nR a; omega, by show s < nR a; omega, by show t < nR a; omega, by show c < nC a; omega, by show d < nC a; omega, by show e < nC a; omega⟩, h6.1, h6.2.2.1, h6.2.2.2.2.1, h6.2.1, h6.2.2.2.1, h6.2.2.2.2.2⟩, ⟨by show r < 4; omega, by show s < 4; omega, by show t < 4; omega, by show c < 4; omega, by show d < 4; omega, by show e < 4; omega⟩, Or.inr ⟨by show r ≠ s; omega, by show r ≠ t; omega, q⟩⟩
    · rw [if_neg q2] at h; exact absurd h (by simp)
/-- a move leads to a table of the list -/
theorem mvT_KK {a : AS} (hW : WF a) (hR : nR a ≠ 0) {m : MVt} (h : frM a m ∧ m4 m ∧ okM m) {p : Nat} (hp : p ∈ KK a) (hc : mvC (unp p) m = true) : pack (mvT m (unp p)) ∈ KK a ∧ unp (pack (mvT m (unp p))) = mvT m (unp p) ∧ lN p + stepV m = lN (pack (mvT m (unp p))) := by
  obtain ⟨p1, p2, p3⟩ := KK_tab hW hR hp
  have hs := mvT_sam h.2.1 h.2.2 hc
  have hS : Sam (cel a) (mvT m (unp p)) := ⟨fun y => (hs.1 y).trans (p2.1 y), fun x => (hs.2 x).trans (p2.2 x)⟩
  obtain ⟨k1, k2⟩ := KK_of hW hR (mvT_tab h.1 p1) hS
  refine ⟨k1, k2, ?_⟩
  have := stepV_ok h.2.1 h.2.2 hc
  rw [p3] at this
  exact this
/-- one swap apart, by the places in the list -/
def adjS (a : AS) (i j : Nat) : Prop := i < (KK a).length ∧ j < (KK a).length ∧ ∃ m, m ∈ SWs a ∧ mvC (unp ((KK a).getD i 0)) m = true ∧ (KK a).getD j 0 = pack (mvT m (unp ((KK a).getD i 0)))
def adjT (a : AS) (i j : Nat) : Prop := i < (KK a).length ∧ j < (KK a).length ∧ ∃ m, m ∈ SWs a ++ TNs a ∧ mvC (unp ((KK a).getD i 0)) m = true ∧ (KK a).getD j 0 = pack (mvT m (unp ((KK a).getD i 0)))
