-- ALL TABLES, ROW BY ROW
def lnk (a : AS) (y u : Nat) : List Nat := (LL a y).filter (fts u)
theorem lnk_mem {a : AS} {y u l : Nat} : l ∈ lnk a y u ↔ l ∈ LL a y ∧ fts u l = true := by
  unfold lnk
  rw [List.mem_filter]
theorem lnk_sorted (a : AS) (y u : Nat) : (lnk a y u).Pairwise (fun p q => p < q) := List.Pairwise.filter _ (LL_sorted a y)
/-- the rows from y on, in all ways that the columns let -/
def PT (a : AS) : Nat → Nat → Nat → List Nat
  | 0, _, _ => [0]
  | n + 1, y, u => (lnk a y u).flatMap (fun l => (PT a n (y + 1) (u - tk l)).map (fun q => l * 65536 ^ n + q))
def inP (a : AS) : Nat → Nat → Nat → Prop
  | 0, _, p => p = 0
  | n + 1, y, p => p / 65536 ^ n ∈ LL a y ∧ inP a n (y + 1) (p % 65536 ^ n)
def csT : Nat → Nat → Nat → Nat
  | 0, _, _ => 0
  | n + 1, p, x => dg (p / 65536 ^ n) x + csT n (p % 65536 ^ n) x
theorem inP_lt {a : AS} : ∀ n y p, inP a n y p → p < 65536 ^ n
  | 0, _, p, h => by
    have h : p = 0 := h
    rw [h]; decide
  | n + 1, y, p, h => by
    have h1 : p / 65536 ^ n < 65536 := (LL_mem.mp h.1).1
    have hB := Nat.pow_pos (n := n) (show 0 < 65536 by decide)
    rw [Nat.pow_succ]
    exact (Nat.div_lt_iff_lt_mul hB).mp h1 |> fun z => by rw [Nat.mul_comm]; exact z
theorem PT_mem {a : AS} : ∀ n y u p, u < topU → (p ∈ PT a n y u ↔ inP a n y p ∧ ∀ x, x < 4 → csT n p x ≤ lf u x)
  | 0, y, u, p, hu => by
    show p ∈ [0] ↔ p = 0 ∧ _
    rw [List.mem_singleton]
    constructor
    · intro h
      exact ⟨h, fun x _ => Nat.zero_le _⟩
    · intro h; exact h.1
  | n + 1, y, u, p, hu => by
    have hB := Nat.pow_pos (n := n) (show 0 < 65536 by decide)
    show p ∈ (lnk a y u).flatMap _ ↔ (p / 65536 ^ n ∈ LL a y ∧ inP a n (y + 1) (p % 65536 ^ n)) ∧ ∀ x, x < 4 → dg (p / 65536 ^ n) x + csT n (p % 65536 ^ n) x ≤ lf u x
    rw [List.mem_flatMap]
    constructor
    · rintro ⟨l, hl, hq⟩
      obtain ⟨q, hq, e⟩ := List.mem_map.mp hq
      obtain ⟨l1, l2⟩ := lnk_mem.mp hl
      obtain ⟨s1, s2, s3⟩ := fts_sub hu l2
      obtain ⟨i1, i2⟩ := (PT_mem n (y + 1) (u - tk l) q s2).mp hq
      have hql := inP_lt n _ q i1
      have e1 : p / 65536 ^ n = l := by
        rw [← e, Nat.mul_comm, Nat.mul_add_div hB, Nat.div_eq_of_lt hql, Nat.add_zero]
      have e2 : p % 65536 ^ n = q := by
        rw [← e, Nat.mul_comm, Nat.mul_add_mod, Nat.mod_eq_of_lt hql]
      rw [e1, e2]
      refine ⟨⟨l1, i1⟩, fun x hx => ?_⟩
      have h1 := i2 x hx
      rw [s3 x hx] at h1
      have h2 := (fts_iff.mp l2) x hx
      omega
    · rintro ⟨⟨h1, h2⟩, h3⟩
      have hf : fts u (p / 65536 ^ n) = true := fts_iff.mpr fun x hx => by
        have := h3 x hx
        omega
      obtain ⟨s1, s2, s3⟩ := fts_sub hu hf
      refine ⟨p / 65536 ^ n, lnk_mem.mpr ⟨h1, hf⟩, List.mem_map.mpr ⟨p % 65536 ^ n, (PT_mem n (y + 1) _ _ s2).mpr ⟨h2, fun x hx => ?_⟩, ?_⟩⟩
      · rw [s3 x hx]
        have := h3 x hx
        omega
      · rw [Nat.mul_comm]
        exact Nat.div_add_mod p (65536 ^ n)
theorem PT_lt {a : AS} {n y u p : Nat} (hu : u < topU) (h : p ∈ PT a n y u) : p < 65536 ^ n := inP_lt n y p ((PT_mem n y u p hu).mp h).1
theorem PT_sorted (a : AS) : ∀ n y u, u < topU → (PT a n y u).Pairwise (fun p q => p < q)
  | 0, _, _, _ => List.pairwise_singleton _ _
  | n + 1, y, u, hu => by
    show ((lnk a y u).flatMap _).Pairwise _
    rw [List.pairwise_flatMap]
    have hs : ∀ l, l ∈ lnk a y u → u - tk l < topU := fun l hl => (fts_sub hu (lnk_mem.mp hl).2).2.1
    refine ⟨fun l hl => ?_, List.Pairwise.imp_of_mem (fun {l l'} hl hl' hll p hp q hq => ?_) (lnk_sorted a y u)⟩
    · rw [List.pairwise_map]
      exact List.Pairwise.imp (fun {p q} h => by omega) (PT_sorted a n (y + 1) (u - tk l) (hs l hl))
    · obtain ⟨p', hp', rfl⟩ := List.mem_map.mp hp
      obtain ⟨q', hq', rfl⟩ := List.mem_map.mp hq
      have h1 := PT_lt (hs l hl) hp'
      have h2 : (l + 1) * 65536 ^ n ≤ l' * 65536 ^ n := Nat.mul_le_mul_right _ hll
      rw [Nat.succ_mul] at h2
      omega
/-- what the columns have at first -/
def cU (a : AS) : Nat := tkS (csum (cel a)) 4
theorem cU_ok {a : AS} (h : Told a) : cU a < topU ∧ ∀ x, x < 4 → lf (cU a) x = csum (cel a) x := by
  have hs := h.sums.2
  have h64 : ∀ x, csum (cel a) x < 64 := fun x => by have := hs x; omega
  exact ⟨tkS_lt h64 4, fun x hx => lf_tk h64 hx⟩
theorem dg_row {p y x : Nat} (hy : y < 4) (hx : x < 4) : dg (p / 65536 ^ (3 - y) % 65536) x = unp p y x := by
  unfold unp
  rw [if_pos ⟨hy, hx⟩, show 4 * (15 - 4 * y - x) = 16 * (3 - y) + 4 * (3 - x) by omega, Nat.pow_add, ← Nat.div_div_eq_div_mul, Nat.pow_mul 2 16, show (2 : Nat) ^ 16 = 65536 from rfl]
  generalize p / 65536 ^ (3 - y) = m
  rcases (show x = 0 ∨ x = 1 ∨ x = 2 ∨ x = 3 by omega) with rfl | rfl | rfl | rfl
  · show m % 65536 / 4096 % 16 = m / 4096 % 16
    omega
  · show m % 65536 / 256 % 16 = m / 256 % 16
    omega
  · show m % 65536 / 16 % 16 = m / 16 % 16
    omega
  · show m % 65536 / 1 % 16 = m / 1 % 16
    omega
/-- row y of a packed table -/
def ro (p y : Nat) : Nat := p / 65536 ^ (3 - y) % 65536
theorem ro_dg {p y : Nat} (hy : y < 4) : ∀ x, x < 4 → dg (ro p y) x = unp p y x := fun x hx => dg_row hy hx
theorem s4_ro {p y : Nat} (hy : y < 4) : s4 (dg (ro p y)) = rsum (unp p) y := by
  unfold rsum s4
  rw [ro_dg hy 0 (by omega), ro_dg hy 1 (by omega), ro_dg hy 2 (by omega), ro_dg hy 3 (by omega)]
theorem inP4 {a : AS} {p : Nat} : inP a 4 0 p ↔ p < 2 ^ 64 ∧ ∀ y, y < 4 → ro p y ∈ LL a y := by
  have r0 : ro p 0 = p / 281474976710656 % 65536 := rfl
  have r1 : ro p 1 = p / 4294967296 % 65536 := rfl
  have r2 : ro p 2 = p / 65536 % 65536 := rfl
  have r3 : ro p 3 = p / 1 % 65536 := rfl
  show (p / 281474976710656 ∈ LL a 0 ∧ (p % 281474976710656 / 4294967296 ∈ LL a 1 ∧ (p % 281474976710656 % 4294967296 / 65536 ∈ LL a 2 ∧ (p % 281474976710656 % 4294967296 % 65536 / 1 ∈ LL a 3 ∧ p % 281474976710656 % 4294967296 % 65536 % 1 = 0)))) ↔ _
  have e1 : p % 281474976710656 / 4294967296 = ro p 1 := by rw [r1]; omega
  have e2 : p % 281474976710656 % 4294967296 / 65536 = ro p 2 := by rw [r2]; omega
  have e3 : p % 281474976710656 % 4294967296 % 65536 / 1 = ro p 3 := by rw [r3]; omega
  rw [e1, e2, e3]
  constructor
  · rintro ⟨h0, h1, h2, h3, -⟩
    have hl : p / 281474976710656 < 65536 := (LL_mem.mp h0).1
    have e0 : p / 281474976710656 = ro p 0 := by rw [r0]; omega
    rw [e0] at h0
    refine ⟨by omega, fun y hy => ?_⟩
    rcases (show y = 0 ∨ y = 1 ∨ y = 2 ∨ y = 3 by omega) with rfl | rfl | rfl | rfl
    · exact h0
    · exact h1
    · exact h2
    · exact h3
  · rintro ⟨hp, h⟩
    have e0 : p / 281474976710656 = ro p 0 := by rw [r0]; omega
    rw [e0]
    exact ⟨h 0 (by omega), h 1 (by omega), h 2 (by omega), h 3 (by omega), by omega⟩
theorem cs4 {p x : Nat} (hp : p < 2 ^ 64) (hx : x < 4) : csT 4 p x = csum (unp p) x := by
  have r0 : ro p 0 = p / 281474976710656 % 65536 := rfl
  have r1 : ro p 1 = p / 4294967296 % 65536 := rfl
  have r2 : ro p 2 = p / 65536 % 65536 := rfl
  have r3 : ro p 3 = p / 1 % 65536 := rfl
  show dg (p / 281474976710656) x + (dg (p % 281474976710656 / 4294967296) x + (dg (p % 281474976710656 % 4294967296 / 65536) x + (dg (p % 281474976710656 % 4294967296 % 65536 / 1) x + 0))) = _
  have e0 : p / 281474976710656 = ro p 0 := by rw [r0]; omega
  have e1 : p % 281474976710656 / 4294967296 = ro p 1 := by rw [r1]; omega
  have e2 : p % 281474976710656 % 4294967296 / 65536 = ro p 2 := by rw [r2]; omega
  have e3 : p % 281474976710656 % 4294967296 % 65536 / 1 = ro p 3 := by rw [r3]; omega
  rw [e0, e1, e2, e3, ro_dg (by omega) x hx, ro_dg (by omega) x hx, ro_dg (by omega) x hx, ro_dg (by omega) x hx]
  unfold csum s4
  dsimp only
  omega
theorem rc_tot (t : Nat → Nat → Nat) : rsum t 0 + rsum t 1 + rsum t 2 + rsum t 3 = csum t 0 + csum t 1 + csum t 2 + csum t 3 := by
  unfold rsum csum s4
  dsimp only
  omega
/-- the list of tables is the list of ways through the rows -/
theorem KK_PT {a : AS} (hW : WF a) (hR : nR a ≠ 0) : KK a = PT a 4 0 (cU a) := by
  have ht := hW.told hR
  have hcT := ht.2.2.2.2.2.2.2.2.2.1
  obtain ⟨c1, c2⟩ := cU_ok ht
  refine su id _ _ (KK_sorted a) (PT_sorted a 4 0 _ c1) (fun p => ?_)
  rw [PT_mem 4 0 _ p c1, inP4]
  constructor
  · intro hp
    have hp64 : p < 2 ^ 64 := (KK_mem.mp hp).1
    obtain ⟨p1, p2, -⟩ := KK_tab hW hR hp
    refine ⟨⟨hp64, fun y hy => LL_mem.mpr ⟨Nat.mod_lt _ (by decide), inL_iff.mpr ⟨by rw [s4_ro hy]; exact p2.1 y, fun x hx => ?_⟩⟩⟩, fun x hx => ?_⟩
    · rw [ro_dg hy x hx]
      have hle := p1.cell_le ht.2.1 ht.2.2.2.1 y x
      rw [p2.2] at hle
      refine ⟨hle.2, ?_⟩
      by_cases z : unp p y x = 0
      · exact Or.inl z
      · refine Or.inr ⟨?_, ?_⟩
        · refine Nat.not_le.mp fun q => z (p1.1 y x (by omega))
        · cases ch : hol a y x with
          | false => rfl
          | true => exact absurd (p1.2 y x ch) z
    · rw [cs4 hp64 hx, p2.2, c2 x hx]
      exact Nat.le_refl _
  · rintro ⟨⟨hp64, hr⟩, hc⟩
    have hL := fun y (hy : y < 4) => inL_iff.mp (LL_mem.mp (hr y hy)).2
    have rs : ∀ y, y < 4 → rsum (unp p) y = rsum (cel a) y := fun y hy => by rw [← s4_ro hy]; exact (hL y hy).1
    have cs : ∀ x, x < 4 → csum (unp p) x ≤ csum (cel a) x := fun x hx => by
      have := hc x hx
      rw [cs4 hp64 hx, c2 x hx] at this
      exact this
    have t1 := rc_tot (unp p)
    have t2 := rc_tot (cel a)
    rw [rs 0 (by omega), rs 1 (by omega), rs 2 (by omega), rs 3 (by omega), t2] at t1
    have k0 := cs 0 (by omega); have k1 := cs 1 (by omega); have k2 := cs 2 (by omega); have k3 := cs 3 (by omega)
    refine KK_mem.mpr ⟨hp64, inK_iff.mpr ⟨rs, fun x hx => ?_, fun k hk => ?_⟩⟩
    · rcases (show x = 0 ∨ x = 1 ∨ x = 2 ∨ x = 3 by omega) with rfl | rfl | rfl | rfl <;> omega
    · by_cases cy : k / 4 < nR a
      · have := (hL (k / 4) (by omega)).2 (k % 4) (by omega)
        rw [ro_dg (by omega) _ (by omega)] at this
        rcases this.2 with q | q
        · exact Or.inr q
        · exact Or.inl ⟨cy, q.1, q.2⟩
      · right
        have h1 := rs (k / 4) (by omega)
        rw [hcT.rs0 (by omega)] at h1
        have h2 : unp p (k / 4) (k % 4) ≤ rsum (unp p) (k / 4) := s4_le (unp p (k / 4)) (by omega)
        omega
/-- rows behind the last are empty -/
theorem LL_end {a : AS} (hW : WF a) (hR : nR a ≠ 0) {y : Nat} (hy : nR a ≤ y) : LL a y = [0] := by
  have hcT := (hW.told hR).2.2.2.2.2.2.2.2.2.1
  have e : ∀ j, dg 0 j = 0 := by
    intro j
    unfold dg
    split
    · rw [Nat.zero_div]
    · rfl
  refine su id _ _ (LL_sorted a y) (List.pairwise_singleton _ _) (fun l => ?_)
  rw [LL_mem, inL_iff, hcT.rs0 hy, List.mem_singleton]
  constructor
  · rintro ⟨h1, h2, h3⟩
    have h1 : l < 65536 := h1
    rw [← lnP_dg h1]
    unfold s4 at h2
    unfold lnP
    omega
  · rintro rfl
    refine ⟨by decide, by unfold s4; rw [e, e, e, e], fun x _ => ?_⟩
    rw [e]
    exact ⟨Nat.zero_le _, Or.inl rfl⟩
theorem PT_end {a : AS} (hW : WF a) (hR : nR a ≠ 0) : ∀ n y u, nR a ≤ y → PT a n y u = [0]
  | 0, _, _, _ => rfl
  | n + 1, y, u, hy => by
    have hf : fts u 0 = true := fts_iff.mpr fun x hx => by
      unfold dg
      rw [if_pos hx, Nat.zero_div]
      exact Nat.zero_le _
    have hl : lnk a y u = [0] := by
      unfold lnk
      rw [LL_end hW hR hy]
      simp [hf]
    show (lnk a y u).flatMap _ = [0]
    rw [hl]
    simp [PT_end hW hR n (y + 1) _ (show nR a ≤ y + 1 by omega)]
