-- THE LINES THAT A ROW CAN BE, as numbers of four digits
def dg (l x : Nat) : Nat := if x < 4 then l / 16 ^ (3 - x) % 16 else 0
theorem dg0 (l : Nat) : dg l 0 = l / 4096 % 16 := rfl
theorem dg1 (l : Nat) : dg l 1 = l / 256 % 16 := rfl
theorem dg2 (l : Nat) : dg l 2 = l / 16 % 16 := rfl
theorem dg3 (l : Nat) : dg l 3 = l / 1 % 16 := rfl
theorem dg_out (l : Nat) {x : Nat} (h : 4 ≤ x) : dg l x = 0 := if_neg (by omega)
theorem dg_lt (l x : Nat) : dg l x < 16 := by
  unfold dg
  split
  · exact Nat.mod_lt _ (by decide)
  · omega
/-- a line of four -/
def lnP (f : Nat → Nat) : Nat := f 0 * 4096 + f 1 * 256 + f 2 * 16 + f 3
theorem lnP_lt {f : Nat → Nat} (h : ∀ x, f x < 16) : lnP f < 65536 := by
  have := h 0; have := h 1; have := h 2; have := h 3
  unfold lnP
  omega
theorem dg_lnP {f : Nat → Nat} (h : ∀ x, f x < 16) {x : Nat} (hx : x < 4) : dg (lnP f) x = f x := by
  have := h 0; have := h 1; have := h 2; have := h 3
  rcases (show x = 0 ∨ x = 1 ∨ x = 2 ∨ x = 3 by omega) with rfl | rfl | rfl | rfl
  · rw [dg0]; unfold lnP; omega
  · rw [dg1]; unfold lnP; omega
  · rw [dg2]; unfold lnP; omega
  · rw [dg3]; unfold lnP; omega
theorem lnP_dg {l : Nat} (h : l < 65536) : lnP (dg l) = l := by
  unfold lnP
  rw [dg0, dg1, dg2, dg3]
  omega
/-- whether a line can be row y -/
def inL (a : AS) (y l : Nat) : Bool := decide (s4 (dg l) = rsum (cel a) y) && (List.range 4).all (fun x => decide (dg l x ≤ csum (cel a) x) && ((decide (x < nC a) && !hol a y x) || decide (dg l x = 0)))
def okD (a : AS) (y x v : Nat) : Prop := v ≤ csum (cel a) x ∧ (v = 0 ∨ x < nC a ∧ hol a y x = false)
theorem inL_iff {a : AS} {y l : Nat} : inL a y l = true ↔ s4 (dg l) = rsum (cel a) y ∧ ∀ x, x < 4 → okD a y x (dg l x) := by
  unfold inL
  rw [Bool.and_eq_true, List.all_eq_true, decide_eq_true_iff]
  constructor
  · rintro ⟨h1, h2⟩
    refine ⟨h1, fun x hx => ?_⟩
    have z := h2 x (List.mem_range.mpr hx)
    rw [Bool.and_eq_true, decide_eq_true_iff] at z
    refine ⟨z.1, ?_⟩
    have z2 := z.2
    simp at z2
    rcases z2 with z3 | z3
    · exact Or.inr z3
    · exact Or.inl z3
  · rintro ⟨h1, h2⟩
    refine ⟨h1, fun x hx => ?_⟩
    obtain ⟨k1, k2⟩ := h2 x (List.mem_range.mp hx)
    rw [Bool.and_eq_true, decide_eq_true_iff]
    refine ⟨k1, ?_⟩
    simp
    rcases k2 with k2 | k2
    · exact Or.inr k2
    · exact Or.inl k2
def topL : Nat := 65536
/-- the lines of row y, in order -/
def LL (a : AS) (y : Nat) : List Nat := (List.range topL).filter (inL a y)
theorem LL_sorted (a : AS) (y : Nat) : (LL a y).Pairwise (fun p q => p < q) := List.Pairwise.filter (inL a y) List.pairwise_lt_range
theorem LL_mem {a : AS} {y l : Nat} : l ∈ LL a y ↔ l < topL ∧ inL a y l = true := by
  unfold LL
  rw [List.mem_filter, List.mem_range]
/-- those that begin as l0 does, x digits -/
def subL (a : AS) (y x l0 : Nat) : List Nat := (LL a y).filter (fun l => decide (l / 16 ^ (4 - x) = l0 / 16 ^ (4 - x)))
theorem subL_mem {a : AS} {y x l0 l : Nat} : l ∈ subL a y x l0 ↔ l ∈ LL a y ∧ l / 16 ^ (4 - x) = l0 / 16 ^ (4 - x) := by
  unfold subL
  rw [List.mem_filter, decide_eq_true_iff]
theorem subL_sorted (a : AS) (y x l0 : Nat) : (subL a y x l0).Pairwise (fun p q => p < q) := List.Pairwise.filter _ (LL_sorted a y)
theorem subL_all (a : AS) (y : Nat) : subL a y 0 0 = LL a y := by
  unfold subL
  rw [List.filter_eq_self]
  intro l hl
  have h1 : l < 65536 := (LL_mem.mp hl).1
  apply decide_eq_true
  show l / 65536 = 0 / 65536
  omega
/-- a line begun -/
def PL (a : AS) (y x l0 : Nat) : Prop := l0 < 65536 ∧ l0 % 16 ^ (4 - x) = 0 ∧ (∀ j, j < 4 → okD a y j (dg l0 j)) ∧ s4 (dg l0) ≤ rsum (cel a) y ∧ (nC a ≤ x → s4 (dg l0) = rsum (cel a) y)
theorem dg_put {x l0 v j : Nat} (hx : x < 4) (hl : l0 < 65536) (hm : l0 % 16 ^ (4 - x) = 0) (hv : v < 16) (hj : j < 4) : dg (l0 + v * 16 ^ (3 - x)) j = if j = x then v else dg l0 j := by
  rcases (show x = 0 ∨ x = 1 ∨ x = 2 ∨ x = 3 by omega) with rfl | rfl | rfl | rfl
  · have hm2 : l0 % 65536 = 0 := hm
    have e : l0 + v * 16 ^ (3 - 0) = l0 + v * 4096 := rfl
    rw [e]
    rcases (show j = 0 ∨ j = 1 ∨ j = 2 ∨ j = 3 by omega) with rfl | rfl | rfl | rfl
    · rw [dg0, if_pos rfl]; omega
    · rw [dg1, dg1, if_neg (by omega)]; omega
    · rw [dg2, dg2, if_neg (by omega)]; omega
    · rw [dg3, dg3, if_neg (by omega)]; omega
  · have hm2 : l0 % 4096 = 0 := hm
    have e : l0 + v * 16 ^ (3 - 1) = l0 + v * 256 := rfl
    rw [e]
    rcases (show j = 0 ∨ j = 1 ∨ j = 2 ∨ j = 3 by omega) with rfl | rfl | rfl | rfl
    · rw [dg0, dg0, if_neg (by omega)]; omega
    · rw [dg1, if_pos rfl]; omega
    · rw [dg2, dg2, if_neg (by omega)]; omega
    · rw [dg3, dg3, if_neg (by omega)]; omega
  · have hm2 : l0 % 256 = 0 := hm
    have e : l0 + v * 16 ^ (3 - 2) = l0 + v * 16 := rfl
    rw [e]
    rcases (show j = 0 ∨ j = 1 ∨ j = 2 ∨ j = 3 by omega) with rfl | rfl | rfl | rfl
    · rw [dg0, dg0, if_neg (by omega)]; omega
    · rw [dg1, dg1, if_neg (by omega)]; omega
    · rw [dg2, if_pos rfl]; omega
    · rw [dg3, dg3, if_neg (by omega)]; omega
  · have hm2 : l0 % 16 = 0 := hm
    have e : l0 + v * 16 ^ (3 - 3) = l0 + v * 1 := rfl
    rw [e]
    rcases (show j = 0 ∨ j = 1 ∨ j = 2 ∨ j = 3 by omega) with rfl | rfl | rfl | rfl
    · rw [dg0, dg0, if_neg (by omega)]; omega
    · rw [dg1, dg1, if_neg (by omega)]; omega
    · rw [dg2, dg2, if_neg (by omega)]; omega
    · rw [dg3, if_pos rfl]; omega
theorem PL.zero {a : AS} {y x l0 : Nat} (h : PL a y x l0) {j : Nat} (hx : x ≤ j) : dg l0 j = 0 := by
  have hm := h.2.1
  by_cases cj : j < 4
  · rcases (show x = 0 ∨ x = 1 ∨ x = 2 ∨ x = 3 by omega) with rfl | rfl | rfl | rfl
    · have hm2 : l0 % 65536 = 0 := hm
      have := h.1
      have e0 : l0 = 0 := by omega
      rw [e0]
      rcases (show j = 0 ∨ j = 1 ∨ j = 2 ∨ j = 3 by omega) with rfl | rfl | rfl | rfl <;> rfl
    · have hm2 : l0 % 4096 = 0 := hm
      rcases (show j = 1 ∨ j = 2 ∨ j = 3 by omega) with rfl | rfl | rfl
      · rw [dg1]; omega
      · rw [dg2]; omega
      · rw [dg3]; omega
    · have hm2 : l0 % 256 = 0 := hm
      rcases (show j = 2 ∨ j = 3 by omega) with rfl | rfl
      · rw [dg2]; omega
      · rw [dg3]; omega
    · have hm2 : l0 % 16 = 0 := hm
      rw [show j = 3 by omega, dg3]; omega
  · exact dg_out _ (by omega)
theorem s4_put {f f' : Nat → Nat} {x v : Nat} (hx : x < 4) (h0 : f x = 0) (h : ∀ j, j < 4 → f' j = if j = x then v else f j) : s4 f' = s4 f + v := by
  unfold s4
  rw [h 0 (by omega), h 1 (by omega), h 2 (by omega), h 3 (by omega)]
  rcases (show x = 0 ∨ x = 1 ∨ x = 2 ∨ x = 3 by omega) with rfl | rfl | rfl | rfl <;> simp <;> omega
theorem subL_end {a : AS} {y x l0 : Nat} (hC : nC a ≤ 4) (hx : x = nC a) (h : PL a y x l0) : subL a y x l0 = [l0] := by
  refine su id _ _ (subL_sorted a y x l0) (List.pairwise_singleton _ _) (fun l => ?_)
  rw [subL_mem, List.mem_singleton]
  constructor
  · rintro ⟨h1, h2⟩
    obtain ⟨l1, l2⟩ := LL_mem.mp h1
    have l1 : l < 65536 := l1
    have l3 := (inL_iff.mp l2).2
    have z : ∀ j, x ≤ j → j < 4 → dg l j = 0 := fun j hj hj2 => by
      rcases (l3 j hj2).2 with q | q
      · exact q
      · omega
    have hm := h.2.1
    have hb := h.1
    rcases (show x = 0 ∨ x = 1 ∨ x = 2 ∨ x = 3 ∨ x = 4 by omega) with rfl | rfl | rfl | rfl | rfl
    · have h2' : l / 65536 = l0 / 65536 := h2
      have hm2 : l0 % 65536 = 0 := hm
      have z0 := z 0 (by omega) (by omega)
      have z1 := z 1 (by omega) (by omega)
      have z2 := z 2 (by omega) (by omega)
      have z3 := z 3 (by omega) (by omega)
      rw [dg0] at z0; rw [dg1] at z1; rw [dg2] at z2; rw [dg3] at z3
      omega
    · have h2' : l / 4096 = l0 / 4096 := h2
      have hm2 : l0 % 4096 = 0 := hm
      have z1 := z 1 (by omega) (by omega)
      have z2 := z 2 (by omega) (by omega)
      have z3 := z 3 (by omega) (by omega)
      rw [dg1] at z1; rw [dg2] at z2; rw [dg3] at z3
      omega
    · have h2' : l / 256 = l0 / 256 := h2
      have hm2 : l0 % 256 = 0 := hm
      have z2 := z 2 (by omega) (by omega)
      have z3 := z 3 (by omega) (by omega)
      rw [dg2] at z2; rw [dg3] at z3
      omega
    · have h2' : l / 16 = l0 / 16 := h2
      have hm2 : l0 % 16 = 0 := hm
      have z3 := z 3 (by omega) (by omega)
      rw [dg3] at z3
      omega
    · have h2' : l / 1 = l0 / 1 := h2
      omega
  · rintro rfl
    refine ⟨LL_mem.mpr ⟨h.1, inL_iff.mpr ⟨h.2.2.2.2 (by omega), h.2.2.1⟩⟩, rfl⟩
theorem div_put {x l0 v l : Nat} (hx : x < 4) (hl : l0 < 65536) (hm : l0 % 16 ^ (4 - x) = 0) (hv : v < 16) : l / 16 ^ (4 - (x + 1)) = (l0 + v * 16 ^ (3 - x)) / 16 ^ (4 - (x + 1)) ↔ l / 16 ^ (4 - x) = l0 / 16 ^ (4 - x) ∧ dg l x = v := by
  rcases (show x = 0 ∨ x = 1 ∨ x = 2 ∨ x = 3 by omega) with rfl | rfl | rfl | rfl
  · have hm2 : l0 % 65536 = 0 := hm
    show l / 4096 = (l0 + v * 4096) / 4096 ↔ l / 65536 = l0 / 65536 ∧ l / 4096 % 16 = v
    omega
  · have hm2 : l0 % 4096 = 0 := hm
    show l / 256 = (l0 + v * 256) / 256 ↔ l / 4096 = l0 / 4096 ∧ l / 256 % 16 = v
    omega
  · have hm2 : l0 % 256 = 0 := hm
    show l / 16 = (l0 + v * 16) / 16 ↔ l / 256 = l0 / 256 ∧ l / 16 % 16 = v
    omega
  · have hm2 : l0 % 16 = 0 := hm
    show l / 1 = (l0 + v * 1) / 1 ↔ l / 16 = l0 / 16 ∧ l / 1 % 16 = v
    omega
theorem div_lt {x l l' b : Nat} (h1 : l / 16 ^ (4 - x) = b / 16 ^ (4 - x)) (h2 : l' / 16 ^ (4 - x) = b / 16 ^ (4 - x)) (hx : x < 4) (h : dg l x < dg l' x) : l < l' := by
  rcases (show x = 0 ∨ x = 1 ∨ x = 2 ∨ x = 3 by omega) with rfl | rfl | rfl | rfl
  · have h1' : l / 65536 = b / 65536 := h1
    have h2' : l' / 65536 = b / 65536 := h2
    rw [dg0, dg0] at h
    omega
  · have h1' : l / 4096 = b / 4096 := h1
    have h2' : l' / 4096 = b / 4096 := h2
    rw [dg1, dg1] at h
    omega
  · have h1' : l / 256 = b / 256 := h1
    have h2' : l' / 256 = b / 256 := h2
    rw [dg2, dg2] at h
    omega
  · have h1' : l / 16 = b / 16 := h1
    have h2' : l' / 16 = b / 16 := h2
    rw [dg3, dg3] at h
    omega
theorem subL_split {a : AS} {y x l0 : Nat} (hx : x < 4) (h : PL a y x l0) : subL a y x l0 = upF (fun v => if v < 16 then subL a y (x + 1) (l0 + v * 16 ^ (3 - x)) else []) 16 0 := by
  have dp := fun {v l : Nat} (hv : v < 16) => div_put (l := l) (v := v) hx h.1 h.2.1 hv
  refine su id _ _ (subL_sorted a y x l0) (upF_sorted (fun w => ?_) (fun v w hvw p hp q hq => ?_) 16 0) (fun l => ?_)
  · split
    · exact subL_sorted a y _ _
    · exact List.Pairwise.nil
  · by_cases c1 : v < 16
    · by_cases c2 : w < 16
      · rw [if_pos c1] at hp
        rw [if_pos c2] at hq
        have p1 := (dp c1).mp (subL_mem.mp hp).2
        have q1 := (dp c2).mp (subL_mem.mp hq).2
        exact div_lt p1.1 q1.1 hx (by omega)
      · rw [if_neg c2] at hq; exact absurd hq (by simp)
    · rw [if_neg c1] at hp; exact absurd hp (by simp)
  · rw [subL_mem, upF_mem]
    constructor
    · rintro ⟨h1, h2⟩
      have hd := dg_lt l x
      exact ⟨dg l x, by omega, by omega, by rw [if_pos hd]; exact subL_mem.mpr ⟨h1, (dp hd).mpr ⟨h2, rfl⟩⟩⟩
    · rintro ⟨w, -, w2, hw⟩
      rw [if_pos (by omega)] at hw
      obtain ⟨h1, h2⟩ := subL_mem.mp hw
      exact ⟨h1, ((dp (by omega)).mp h2).1⟩
/-- what the next digit may be -/
def okW (a : AS) (y x l0 v : Nat) : Prop := okD a y x v ∧ s4 (dg l0) + v ≤ rsum (cel a) y ∧ (x + 1 = nC a → s4 (dg l0) + v = rsum (cel a) y)
theorem PL.next {a : AS} {y x l0 v : Nat} (hC : nC a ≤ 4) (hx : x < nC a) (h : PL a y x l0) (hv : v < 16) (ok : okW a y x l0 v) : PL a y (x + 1) (l0 + v * 16 ^ (3 - x)) := by
  have dp := fun {j : Nat} (hj : j < 4) => dg_put (x := x) (l0 := l0) (v := v) (j := j) (by omega) h.1 h.2.1 hv hj
  have s := s4_put (f := dg l0) (f' := dg (l0 + v * 16 ^ (3 - x))) (x := x) (v := v) (by omega) (h.zero (Nat.le_refl _)) (fun j hj => dp hj)
  have hb := h.1
  have hm := h.2.1
  refine ⟨?_, ?_, fun j hj => ?_, by rw [s]; exact ok.2.1, fun z => by rw [s]; exact ok.2.2 (by omega)⟩
  · rcases (show x = 0 ∨ x = 1 ∨ x = 2 ∨ x = 3 by omega) with rfl | rfl | rfl | rfl
    · have hm2 : l0 % 65536 = 0 := hm
      show l0 + v * 4096 < 65536
      omega
    · have hm2 : l0 % 4096 = 0 := hm
      show l0 + v * 256 < 65536
      omega
    · have hm2 : l0 % 256 = 0 := hm
      show l0 + v * 16 < 65536
      omega
    · have hm2 : l0 % 16 = 0 := hm
      show l0 + v * 1 < 65536
      omega
  · rcases (show x = 0 ∨ x = 1 ∨ x = 2 ∨ x = 3 by omega) with rfl | rfl | rfl | rfl
    · have hm2 : l0 % 65536 = 0 := hm
      show (l0 + v * 4096) % 4096 = 0
      omega
    · have hm2 : l0 % 4096 = 0 := hm
      show (l0 + v * 256) % 256 = 0
      omega
    · have hm2 : l0 % 256 = 0 := hm
      show (l0 + v * 16) % 16 = 0
      omega
    · show (l0 + v * 1) % 1 = 0
      omega
  · rw [dp hj]
    by_cases c : j = x
    · rw [if_pos c, c]; exact ok.1
    · rw [if_neg c]; exact h.2.2.1 j hj
theorem subL_ok {a : AS} {y x l0 v l : Nat} (hC : nC a ≤ 4) (hx : x < nC a) (h : PL a y x l0) (hv : v < 16) (hl : l ∈ subL a y (x + 1) (l0 + v * 16 ^ (3 - x))) : okW a y x l0 v := by
  obtain ⟨h1, h2⟩ := subL_mem.mp hl
  obtain ⟨l1, l2⟩ := LL_mem.mp h1
  have l1 : l < 65536 := l1
  obtain ⟨ls, l3⟩ := inL_iff.mp l2
  have dp := (div_put (l := l) (by omega) h.1 h.2.1 hv).mp h2
  have hm := h.2.1
  have okx := l3 x (by omega)
  rw [dp.2] at okx
  have z : ∀ j, nC a ≤ j → j < 4 → dg l j = 0 := fun j hj hj2 => by
    rcases (l3 j hj2).2 with q | q
    · exact q
    · omega
  have eq : ∀ j, j < x → dg l j = dg l0 j := by
    intro j hj
    have h5 := dp.1
    rcases (show x = 1 ∨ x = 2 ∨ x = 3 by omega) with rfl | rfl | rfl
    · have h5' : l / 4096 = l0 / 4096 := h5
      rw [show j = 0 by omega, dg0, dg0]; omega
    · have h5' : l / 256 = l0 / 256 := h5
      rcases (show j = 0 ∨ j = 1 by omega) with rfl | rfl
      · rw [dg0, dg0]; omega
      · rw [dg1, dg1]; omega
    · have h5' : l / 16 = l0 / 16 := h5
      rcases (show j = 0 ∨ j = 1 ∨ j = 2 by omega) with rfl | rfl | rfl
      · rw [dg0, dg0]; omega
      · rw [dg1, dg1]; omega
      · rw [dg2, dg2]; omega
  have z0 := fun j (hj : x ≤ j) => h.zero hj
  have e1 : s4 (dg l0) + v ≤ s4 (dg l) ∧ (x + 1 = nC a → s4 (dg l0) + v = s4 (dg l)) := by
    have dv := dp.2
    unfold s4
    rcases (show x = 0 ∨ x = 1 ∨ x = 2 ∨ x = 3 by omega) with rfl | rfl | rfl | rfl
    · have a0 := z0 0 (by omega); have a1 := z0 1 (by omega); have a2 := z0 2 (by omega); have a3 := z0 3 (by omega)
      refine ⟨by omega, fun q => ?_⟩
      have b1 := z 1 (by omega) (by omega); have b2 := z 2 (by omega) (by omega); have b3 := z 3 (by omega) (by omega)
      omega
    · have a1 := z0 1 (by omega); have a2 := z0 2 (by omega); have a3 := z0 3 (by omega)
      have c0 := eq 0 (by omega)
      refine ⟨by omega, fun q => ?_⟩
      have b2 := z 2 (by omega) (by omega); have b3 := z 3 (by omega) (by omega)
      omega
    · have a2 := z0 2 (by omega); have a3 := z0 3 (by omega)
      have c0 := eq 0 (by omega); have c1 := eq 1 (by omega)
      refine ⟨by omega, fun q => ?_⟩
      have b3 := z 3 (by omega) (by omega)
      omega
    · have a3 := z0 3 (by omega)
      have c0 := eq 0 (by omega); have c1 := eq 1 (by omega); have c2 := eq 2 (by omega)
      exact ⟨by omega, fun q => by omega⟩
  rw [ls] at e1
  exact ⟨okx, e1.1, e1.2⟩
