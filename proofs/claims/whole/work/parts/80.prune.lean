theorem s4_mono {f f' : Nat → Nat} (h : ∀ i, f i ≤ f' i) : s4 f ≤ s4 f' := by
  unfold s4
  have := h 0; have := h 1; have := h 2; have := h 3
  omega
theorem rsum_upd1 {t : Nat → Nat → Nat} {Y X v : Nat} (hX : X < 4) (h : t Y X = 0) : rsum (udt t Y X v) Y = rsum t Y + v := by
  unfold rsum s4 udt
  rcases (show X = 0 ∨ X = 1 ∨ X = 2 ∨ X = 3 by omega) with rfl | rfl | rfl | rfl <;> simp <;> omega
theorem rsum_updn {t : Nat → Nat → Nat} {Y X v y : Nat} (h : y ≠ Y) : rsum (udt t Y X v) y = rsum t y := by
  unfold rsum s4 udt
  simp [h]
theorem csum_upd1 {t : Nat → Nat → Nat} {Y X v : Nat} (hY : Y < 4) (h : t Y X = 0) : csum (udt t Y X v) X = csum t X + v := by
  unfold csum s4 udt
  rcases (show Y = 0 ∨ Y = 1 ∨ Y = 2 ∨ Y = 3 by omega) with rfl | rfl | rfl | rfl <;> simp <;> omega
theorem csum_updn {t : Nat → Nat → Nat} {Y X v x : Nat} (h : x ≠ X) : csum (udt t Y X v) x = csum t x := by
  unfold csum s4 udt
  simp [h]
theorem rsum_mono {t u : Nat → Nat → Nat} (h : ∀ y x, t y x ≤ u y x) (y : Nat) : rsum t y ≤ rsum u y := s4_mono (h y)
theorem csum_mono {t u : Nat → Nat → Nat} (h : ∀ y x, t y x ≤ u y x) (x : Nat) : csum t x ≤ csum u x := s4_mono (fun y => h y x)
/-- what the columns behind one have room for -/
def rmS (a : AS) (Y : Nat) (t : Nat → Nat → Nat) : Nat → Nat → Nat
  | 0, _ => 0
  | n + 1, x => (if hol a Y x then 0 else csum (cel a) x - csum t x) + rmS a Y t n (x + 1)
def tlS (f : Nat → Nat) : Nat → Nat → Nat
  | 0, _ => 0
  | n + 1, x => f x + tlS f n (x + 1)
theorem tl_rm {a : AS} {Y : Nat} {t : Nat → Nat → Nat} {f : Nat → Nat} : ∀ n x, (∀ w, x ≤ w → w < x + n → f w ≤ if hol a Y w then 0 else csum (cel a) w - csum t w) → tlS f n x ≤ rmS a Y t n x
  | 0, _, _ => Nat.le_refl _
  | n + 1, x, h => Nat.add_le_add (h x (by omega) (by omega)) (tl_rm n (x + 1) (fun w h1 h2 => h w (by omega) (by omega)))
theorem tl_row {t' u : Nat → Nat → Nat} {C Y X : Nat} (hC : C ≤ 4) (hX : X < C) (h1 : ∀ x, x ≤ X → t' Y x = u Y x) (h2 : ∀ x, X < x → t' Y x = 0) (h3 : ∀ x, C ≤ x → u Y x = 0) : rsum u Y = rsum t' Y + tlS (u Y) (C - X - 1) (X + 1) := by
  unfold rsum s4
  rcases (show C = 1 ∨ C = 2 ∨ C = 3 ∨ C = 4 by omega) with rfl | rfl | rfl | rfl
  · obtain rfl : X = 0 := by omega
    have := h1 0 (by omega); have := h2 1 (by omega); have := h2 2 (by omega); have := h2 3 (by omega); have := h3 1 (by omega); have := h3 2 (by omega); have := h3 3 (by omega)
    show _ = _ + 0
    omega
  · rcases (show X = 0 ∨ X = 1 by omega) with rfl | rfl
    · have := h1 0 (by omega); have := h2 1 (by omega); have := h2 2 (by omega); have := h2 3 (by omega); have := h3 2 (by omega); have := h3 3 (by omega)
      show _ = _ + (u Y 1 + 0)
      omega
    · have := h1 0 (by omega); have := h1 1 (by omega); have := h2 2 (by omega); have := h2 3 (by omega); have := h3 2 (by omega); have := h3 3 (by omega)
      show _ = _ + 0
      omega
  · rcases (show X = 0 ∨ X = 1 ∨ X = 2 by omega) with rfl | rfl | rfl
    · have := h1 0 (by omega); have := h2 1 (by omega); have := h2 2 (by omega); have := h2 3 (by omega); have := h3 3 (by omega)
      show _ = _ + (u Y 1 + (u Y 2 + 0))
      omega
    · have := h1 0 (by omega); have := h1 1 (by omega); have := h2 2 (by omega); have := h2 3 (by omega); have := h3 3 (by omega)
      show _ = _ + (u Y 2 + 0)
      omega
    · have := h1 0 (by omega); have := h1 1 (by omega); have := h1 2 (by omega); have := h2 3 (by omega); have := h3 3 (by omega)
      show _ = _ + 0
      omega
  · rcases (show X = 0 ∨ X = 1 ∨ X = 2 ∨ X = 3 by omega) with rfl | rfl | rfl | rfl
    · have := h1 0 (by omega); have := h2 1 (by omega); have := h2 2 (by omega); have := h2 3 (by omega)
      show _ = _ + (u Y 1 + (u Y 2 + (u Y 3 + 0)))
      omega
    · have := h1 0 (by omega); have := h1 1 (by omega); have := h2 2 (by omega); have := h2 3 (by omega)
      show _ = _ + (u Y 2 + (u Y 3 + 0))
      omega
    · have := h1 0 (by omega); have := h1 1 (by omega); have := h1 2 (by omega); have := h2 3 (by omega)
      show _ = _ + (u Y 3 + 0)
      omega
    · have := h1 0 (by omega); have := h1 1 (by omega); have := h1 2 (by omega); have := h1 3 (by omega)
      show _ = _ + 0
      omega
/-- what the next cell may be -/
def okV (a : AS) (Y X : Nat) (t : Nat → Nat → Nat) (v : Nat) : Prop :=
  (hol a Y X = true → v = 0) ∧ rsum t Y + v ≤ rsum (cel a) Y ∧ csum t X + v ≤ csum (cel a) X ∧ (X + 1 = nC a → rsum t Y + v = rsum (cel a) Y) ∧ (Y + 1 = nR a → csum t X + v = csum (cel a) X)
theorem Par.zero {a : AS} {Y X : Nat} {t : Nat → Nat → Nat} (h : Par a Y X t) : t Y X = 0 := h.1 Y X (fun z => by rw [lai_iff] at z; omega)
theorem Par.next {a : AS} (hW : WF a) {Y X : Nat} (hY : Y < nR a) (hX : X < nC a) {t : Nat → Nat → Nat} (h : Par a Y X t) {v : Nat} (hv : okV a Y X t v) : Par a (nxY (nC a) Y X) (nxX (nC a) X) (udt t Y X v) := by
  have hl := hW.le
  have hz := h.zero
  obtain ⟨h1, h2, h3, h4, h5, h6⟩ := h
  obtain ⟨v1, v2, v3, v4, v5⟩ := hv
  refine ⟨fun y x q => ?_, fun y x q => ?_, fun y => ?_, fun x => ?_, fun y q => ?_, fun x hx q => ?_⟩
  · by_cases c : y = Y ∧ x = X
    · exact absurd ((lai_next hX).mpr (Or.inr c)) q
    · rw [udt_n _ _ c]
      exact h1 y x (fun z => q ((lai_next hX).mpr (Or.inl z)))
  · by_cases c : y = Y ∧ x = X
    · rw [c.1, c.2, udt_s]
      exact v1 (by rw [← c.1, ← c.2]; exact q)
    · rw [udt_n _ _ c]
      exact h2 y x q
  · by_cases c : y = Y
    · rw [c, rsum_upd1 (by omega) hz]; exact v2
    · rw [rsum_updn c]; exact h3 y
  · by_cases c : x = X
    · rw [c, csum_upd1 (by omega) hz]; exact v3
    · rw [csum_updn c]; exact h4 x
  · unfold nxY at q
    by_cases c : y = Y
    · by_cases e : X + 1 = nC a
      · rw [c, rsum_upd1 (by omega) hz]; exact v4 e
      · rw [if_neg e] at q; omega
    · rw [rsum_updn c]
      refine h5 y ?_
      split at q <;> omega
  · unfold nxY nxX at q
    by_cases e : X + 1 = nC a
    · rw [if_pos e, if_pos e] at q
      have e2 : Y + 1 = nR a := by omega
      by_cases c : x = X
      · rw [c, csum_upd1 (by omega) hz]; exact v5 e2
      · rw [csum_updn c]; exact h6 x hx (Or.inr ⟨e2, by omega⟩)
    · rw [if_neg e, if_neg e] at q
      have e2 : Y + 1 = nR a := by omega
      by_cases c : x = X
      · rw [c, csum_upd1 (by omega) hz]; exact v5 e2
      · rw [csum_updn c]; exact h6 x hx (Or.inr ⟨e2, by omega⟩)
/-- what no table has is dropped -/
theorem sub_ok {a : AS} (hW : WF a) (hR : nR a ≠ 0) {Y X : Nat} (hY : Y < nR a) (hX : X < nC a) {t : Nat → Nat → Nat} (h : Par a Y X t) {v p : Nat} (hp : p ∈ sub a (lai (nC a) (nxY (nC a) Y X) (nxX (nC a) X)) (udt t Y X v)) : okV a Y X t v ∧ rsum (cel a) Y ≤ rsum t Y + v + rmS a Y t (nC a - X - 1) (X + 1) := by
  have hl := hW.le
  have hz := h.zero
  obtain ⟨h1, h2, h3, h4, h5, h6⟩ := h
  obtain ⟨p1, p2⟩ := sub_mem.mp hp
  rw [agr_iff] at p2
  obtain ⟨pa, pb, -⟩ := KK_tab hW hR p1
  have eq : ∀ y x, lai (nC a) (nxY (nC a) Y X) (nxX (nC a) X) y x = true → unp p y x = udt t Y X v y x := by
    intro y x q
    have q2 := (lai_next hX).mp q
    rw [lai_iff] at q2
    exact p2 y x (by omega) (by omega) q
  have eq0 : ∀ y x, ¬ lai (nC a) (nxY (nC a) Y X) (nxX (nC a) X) y x = true → udt t Y X v y x = 0 := by
    intro y x q
    rw [lai_next hX] at q
    rw [udt_n _ _ (fun z => q (Or.inr z))]
    exact h1 y x (fun z => q (Or.inl z))
  have le : ∀ y x, udt t Y X v y x ≤ unp p y x := by
    intro y x
    by_cases c : lai (nC a) (nxY (nC a) Y X) (nxX (nC a) X) y x = true
    · rw [eq y x c]; exact Nat.le_refl _
    · rw [eq0 y x c]; exact Nat.zero_le _
  have ev : unp p Y X = v := by rw [eq Y X ((lai_next hX).mpr (Or.inr ⟨rfl, rfl⟩)), udt_s]
  have er := rsum_upd1 (v := v) (show X < 4 by omega) hz
  have ec := csum_upd1 (v := v) (show Y < 4 by omega) hz
  have lr := rsum_mono le Y
  have lc := csum_mono le X
  rw [er, pb.1] at lr
  rw [ec, pb.2] at lc
  have row1 : ∀ x, x ≤ X → udt t Y X v Y x = unp p Y x := by
    intro x hx
    refine (eq Y x ((lai_next hX).mpr ?_)).symm
    rw [lai_iff]
    omega
  have row2 : ∀ x, X < x → udt t Y X v Y x = 0 := by
    intro x hx
    refine eq0 Y x (fun z => ?_)
    have z := (lai_next hX).mp z
    rw [lai_iff] at z
    omega
  have tr := tl_row (t' := udt t Y X v) (u := unp p) (Y := Y) hl.2.1 hX row1 row2 (fun x hx => pa.1 Y x (by omega))
  rw [er, pb.1] at tr
  refine ⟨⟨fun q => ?_, lr, lc, fun q => ?_, fun q => ?_⟩, ?_⟩
  · rw [← ev]; exact pa.2 Y X q
  · rw [show nC a - X - 1 = 0 by omega] at tr
    exact tr.symm
  · rw [← ec, ← pb.2]
    unfold csum
    congr 1
    funext y
    by_cases c : y < nR a
    · refine (eq y X ((lai_next hX).mpr ?_)).symm
      rw [lai_iff]
      omega
    · rw [pa.1 y X (by omega)]
      refine eq0 y X (fun z => ?_)
      have z := (lai_next hX).mp z
      rw [lai_iff] at z
      omega
  · rw [tr]
    refine Nat.add_le_add_left (tl_rm _ _ fun w w1 w2 => ?_) _
    cases hh : hol a Y w with
    | true =>
      rw [pa.2 Y w hh]
      exact Nat.zero_le _
    | false =>
      rw [if_neg (by decide)]
      have z0 : udt t Y X v Y w = 0 := row2 w (by omega)
      have z1 : t Y w = 0 := by rw [udt_n _ _ (by omega)] at z0; exact z0
      have lw : ∀ y x, udt t Y w (unp p Y w) y x ≤ unp p y x := by
        intro y x
        by_cases c : y = Y ∧ x = w
        · rw [c.1, c.2, udt_s]; exact Nat.le_refl _
        · rw [udt_n _ _ c]
          by_cases c2 : y = Y ∧ x = X
          · rw [c2.1, c2.2, hz]; exact Nat.zero_le _
          · have := le y x
            rw [udt_n _ _ c2] at this
            exact this
      have lc2 := csum_mono lw w
      rw [csum_upd1 (by omega) z1, pb.2] at lc2
      omega
theorem upF_skip {α : Type} {f : Nat → List α} : ∀ m n v, (∀ w, v ≤ w → w < v + m → f w = []) → upF f (m + n) v = upF f n (v + m)
  | 0, n, v, _ => by rw [Nat.zero_add, Nat.add_zero]
  | m + 1, n, v, h => by
    rw [show m + 1 + n = (m + n) + 1 by omega]
    show f v ++ upF f (m + n) (v + 1) = _
    rw [h v (by omega) (by omega), upF_skip m n (v + 1) (fun w h1 h2 => h w (by omega) (by omega)), show v + 1 + m = v + (m + 1) by omega]
    rfl
