-- A SWAP
def swT (t : Nat → Nat → Nat) (r s c d : Nat) : Nat → Nat → Nat := fun y x => if (y = r ∧ x = c) ∨ (y = s ∧ x = d) then t y x + 1 else if (y = r ∧ x = d) ∨ (y = s ∧ x = c) then t y x - 1 else t y x
def canS (a : AS) (r s c d : Nat) : Prop := 0 < cel a r d ∧ 0 < cel a s c ∧ hol a r c = false ∧ hol a s d = false
def swA (a : AS) (r s c d : Nat) : AS := (a.1, a.2.1, a.2.2.1, swT (cel a) r s c d, nA a, pst a)
theorem s4_move {f f' : Nat → Nat} {i j : Nat} (hi : i < 4) (hj : j < 4) (hij : i ≠ j) (h1 : f' i = f i + 1) (h2 : f' j + 1 = f j) (h3 : ∀ k, k ≠ i → k ≠ j → f' k = f k) : s4 f' = s4 f := by
  unfold s4
  rcases (show i = 0 ∨ i = 1 ∨ i = 2 ∨ i = 3 by omega) with rfl | rfl | rfl | rfl <;> rcases (show j = 0 ∨ j = 1 ∨ j = 2 ∨ j = 3 by omega) with rfl | rfl | rfl | rfl <;> first | exact absurd rfl hij | (have e0 := h3 0; have e1 := h3 1; have e2 := h3 2; have e3 := h3 3; simp at e0 e1 e2 e3; omega)
section SW
variable {t : Nat → Nat → Nat} {r s c d : Nat}
theorem swT_rc : swT t r s c d r c = t r c + 1 := by unfold swT; rw [if_pos (Or.inl ⟨rfl, rfl⟩)]
theorem swT_sd : swT t r s c d s d = t s d + 1 := by unfold swT; rw [if_pos (Or.inr ⟨rfl, rfl⟩)]
theorem swT_rd (hrs : r ≠ s) (hcd : c ≠ d) : swT t r s c d r d = t r d - 1 := by unfold swT; rw [if_neg (by omega), if_pos (Or.inl ⟨rfl, rfl⟩)]
theorem swT_sc (hrs : r ≠ s) (hcd : c ≠ d) : swT t r s c d s c = t s c - 1 := by unfold swT; rw [if_neg (by omega), if_pos (Or.inr ⟨rfl, rfl⟩)]
theorem swT_no {y x : Nat} (h : ¬ ((y = r ∨ y = s) ∧ (x = c ∨ x = d))) : swT t r s c d y x = t y x := by unfold swT; rw [if_neg (by omega), if_neg (by omega)]
theorem swT_sam (hr : r < 4) (hs : s < 4) (hc : c < 4) (hd : d < 4) (hrs : r ≠ s) (hcd : c ≠ d) (h1 : 0 < t r d) (h2 : 0 < t s c) : Sam t (swT t r s c d) := by
  constructor
  · intro y
    by_cases e1 : y = r
    · subst e1
      exact s4_move hc hd hcd swT_rc (by rw [swT_rd hrs hcd]; omega) (fun k q1 q2 => swT_no (by omega))
    · by_cases e2 : y = s
      · subst e2
        exact s4_move hd hc (Ne.symm hcd) swT_sd (by rw [swT_sc hrs hcd]; omega) (fun k q1 q2 => swT_no (by omega))
      · have e : swT t r s c d y = t y := by funext x; exact swT_no (by omega)
        unfold rsum
        rw [e]
  · intro x
    by_cases e1 : x = c
    · subst e1
      exact s4_move hr hs hrs swT_rc (by show swT t r s x d s x + 1 = t s x; rw [swT_sc hrs hcd]; omega) (fun k q1 q2 => swT_no (by omega))
    · by_cases e2 : x = d
      · subst e2
        exact s4_move hs hr (Ne.symm hrs) swT_sd (by show swT t r s c x r x + 1 = t r x; rw [swT_rd hrs hcd]; omega) (fun k q1 q2 => swT_no (by omega))
      · have e : (fun y => swT t r s c d y x) = fun y => t y x := by funext y; exact swT_no (by omega)
        unfold csum
        rw [e]
theorem swT_tab {R C : Nat} {h : Nat → Nat → Bool} (hT : Tab R C h t) (hr : r < R) (hs : s < R) (hc : c < C) (hd : d < C) (h1 : h r c = false) (h2 : h s d = false) : Tab R C h (swT t r s c d) := by
  constructor
  · intro y x q
    unfold swT
    have z := hT.1 y x q
    rw [if_neg (by omega), if_neg (by omega)]
    exact z
  · intro y x q
    have z := hT.2 y x q
    unfold swT
    rw [if_neg]
    · split
      · omega
      · exact z
    · rintro (⟨rfl, rfl⟩ | ⟨rfl, rfl⟩)
      · rw [h1] at q; exact absurd q (by decide)
      · rw [h2] at q; exact absurd q (by decide)
end SW
theorem swA_WF {a : AS} {r s c d : Nat} (hW : WF a) (hR : nR a ≠ 0) (hr : r < nR a) (hs : s < nR a) (hc : c < nC a) (hd : d < nC a) (hrs : r ≠ s) (hcd : c ≠ d) (h : canS a r s c d) : WF (swA a r s c d) := by
  have hl := hW.le
  obtain ⟨t1, t2, t3, t4, t5, t6, t7, t8, t9, t10, t11⟩ := hW.told hR
  have hm := swT_sam (t := cel a) (by omega) (by omega) (by omega) (by omega) hrs hcd h.1 h.2.1
  refine ⟨hW.1, hW.2.1, hW.2.2.1, Or.inr ⟨t1, t2, t3, t4, t5, t6, t7, ?_, fun y x => ?_, swT_tab t10 hr hs hc hd h.2.2.1 h.2.2.2, fun i hi => ⟨(t11 i hi).1, hm.sy.tr (t11 i hi).2⟩⟩⟩
  · show tsum (swT (cel a) r s c d) ≤ 20
    rw [hm.ts]; exact t8
  · show rsum (swT (cel a) r s c d) y ≤ 14 ∨ csum (swT (cel a) r s c d) x ≤ 14
    rw [hm.1 y, hm.2 x]; exact t9 y x
/-- one more in a cell -/
def up1 (t : Nat → Nat → Nat) (y x : Nat) : Nat → Nat → Nat := udt t y x (t y x + 1)
theorem pkN_up (t : Nat → Nat → Nat) {y x : Nat} (hx : x < 4) : ∀ n, pkN (up1 t y x) n = pkN t n + if 4 * y + x < n then 16 ^ (n - 1 - (4 * y + x)) else 0
  | 0 => by rw [if_neg (by omega)]; rfl
  | n + 1 => by
    have ih := pkN_up t (y := y) hx n
    show 16 * pkN (up1 t y x) n + up1 t y x (n / 4) (n % 4) = 16 * pkN t n + t (n / 4) (n % 4) + _
    rw [ih]
    unfold up1
    by_cases c1 : 4 * y + x < n
    · rw [if_pos c1, if_pos (by omega), udt_n t _ (by omega), show n + 1 - 1 - (4 * y + x) = (n - 1 - (4 * y + x)) + 1 by omega, Nat.pow_succ]
      omega
    · rw [if_neg c1]
      by_cases c2 : n = 4 * y + x
      · rw [if_pos (by omega), show n / 4 = y by omega, show n % 4 = x by omega, udt_s, show n + 1 - 1 - (4 * y + x) = 0 by omega]
        omega
      · rw [if_neg (by omega), udt_n t _ (by omega)]
        omega
theorem pack_up (t : Nat → Nat → Nat) {y x : Nat} (hy : y < 4) (hx : x < 4) : pack (up1 t y x) = pack t + 2 ^ (4 * (15 - 4 * y - x)) := by
  have h := pkN_up t (y := y) hx 16
  rw [if_pos (by omega), show 16 - 1 - (4 * y + x) = 15 - 4 * y - x by omega] at h
  rw [Nat.pow_mul]
  exact h
theorem swT_up {t : Nat → Nat → Nat} {r s c d : Nat} (hrs : r ≠ s) (hcd : c ≠ d) (h1 : 0 < t r d) (h2 : 0 < t s c) : up1 (up1 (swT t r s c d) r d) s c = up1 (up1 t r c) s d := by
  funext y x
  unfold up1
  by_cases a1 : y = s ∧ x = c
  · rw [a1.1, a1.2, udt_s, udt_n _ _ (by omega), udt_n _ _ (by omega), udt_n _ _ (by omega), swT_sc hrs hcd]; omega
  · rw [udt_n _ _ a1]
    by_cases a2 : y = r ∧ x = d
    · rw [a2.1, a2.2, udt_s, udt_n _ _ (by omega), udt_n _ _ (by omega), swT_rd hrs hcd]; omega
    · rw [udt_n _ _ a2]
      by_cases a3 : y = s ∧ x = d
      · rw [a3.1, a3.2, udt_s, udt_n _ _ (by omega), swT_sd]
      · rw [udt_n _ _ a3]
        by_cases a4 : y = r ∧ x = c
        · rw [a4.1, a4.2, udt_s, swT_rc]
        · rw [udt_n _ _ a4]
          exact swT_no (by omega)
theorem pack_sw {t : Nat → Nat → Nat} {r s c d : Nat} (hr : r < 4) (hs : s < 4) (hc : c < 4) (hd : d < 4) (hrs : r ≠ s) (hcd : c ≠ d) (h1 : 0 < t r d) (h2 : 0 < t s c) : pack t + 2 ^ (4 * (15 - 4 * r - c)) + 2 ^ (4 * (15 - 4 * s - d)) = pack (swT t r s c d) + 2 ^ (4 * (15 - 4 * r - d)) + 2 ^ (4 * (15 - 4 * s - c)) := by
  rw [← pack_up t hr hc, ← pack_up _ hs hd, ← pack_up _ hr hd, ← pack_up _ hs hc, swT_up hrs hcd h1 h2]
theorem i64mv {X Y v1 v2 v3 v4 : Int64} (h : X + v1 + v2 = Y + v3 + v4) : X + (((v1 + v2) - v3) - v4) = Y := by
  have e1 : X + (((v1 + v2) - v3) - v4) = (X + v1 + v2) + -v3 + -v4 := by
    rw [Int64.sub_eq_add_neg, Int64.sub_eq_add_neg, Int64.add_assoc X, ← Int64.add_assoc X, ← Int64.add_assoc X, ← Int64.add_assoc X]
  have e2 : (Y + v3 + v4) + -v3 + -v4 = Y := by
    rw [Int64.add_assoc Y, Int64.add_comm v3 v4, ← Int64.add_assoc Y, Int64.add_assoc (Y + v4), Int64.add_right_neg, Int64.add_zero, Int64.add_assoc, Int64.add_right_neg, Int64.add_zero]
  rw [e1, h, e2]
