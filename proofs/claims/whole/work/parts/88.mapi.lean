-- THE MODEL'S ANSWERS ON ALL TABLES
theorem KK_row {a : AS} (hW : WF a) (hR : nR a ≠ 0) {p q : Nat} (hp : p ∈ KK a) (hq : q ∈ KK a) (h : p / 65536 = q / 65536) : p = q := by
  obtain ⟨p1, p2, p3⟩ := KK_tab hW hR hp
  obtain ⟨q1, q2, q3⟩ := KK_tab hW hR hq
  have up : ∀ y x, y < 3 → x < 4 → unp p y x = unp q y x := by
    intro y x hy hx
    unfold unp
    rw [if_pos (by omega), if_pos (by omega), show 4 * (15 - 4 * y - x) = 16 + 4 * (11 - 4 * y - x) by omega, Nat.pow_add, ← Nat.div_div_eq_div_mul, ← Nat.div_div_eq_div_mul, show (2 : Nat) ^ 16 = 65536 from rfl, h]
  rw [← p3, ← q3]
  congr 1
  funext y x
  by_cases c : y < 4 ∧ x < 4
  · by_cases cy : y < 3
    · exact up y x cy c.2
    · have e1 := p2.2 x
      have e2 := q2.2 x
      have u0 := up 0 x (by omega) c.2
      have u1 := up 1 x (by omega) c.2
      have u2 := up 2 x (by omega) c.2
      rw [← e2] at e1
      unfold csum s4 at e1
      dsimp only at e1
      rw [show y = 3 by omega]
      omega
  · rw [unp_out p c, unp_out q c]
theorem sor_len : ∀ (L : List Nat) (b N : Nat), L.Pairwise (fun p q => p < q) → (∀ p, p ∈ L → b ≤ p ∧ p < b + N) → L.length ≤ N
  | [], _, _, _, _ => Nat.zero_le _
  | p :: L, b, N, h, hb => by
    rw [List.pairwise_cons] at h
    have h1 := hb p (by simp)
    have := sor_len L (p + 1) (b + N - (p + 1)) h.2 (fun q hq => ⟨h.1 q hq, by have := (hb q (by simp [hq])).2; omega⟩)
    show L.length + 1 ≤ N
    omega
theorem KK_len2 {a : AS} (hW : WF a) (hR : nR a ≠ 0) : (KK a).length ≤ 2 ^ 48 := by
  have h := sor_len ((KK a).map (fun p => p / 65536)) 0 (2 ^ 48) ?_ ?_
  · rw [List.length_map] at h
    exact h
  · rw [List.pairwise_map]
    refine List.Pairwise.imp_of_mem (fun {p q} hp hq hpq => ?_) (KK_sorted a)
    have h1 : p / 65536 ≤ q / 65536 := Nat.div_le_div_right (by omega)
    have h2 : p / 65536 ≠ q / 65536 := fun z => by
      have := KK_row hW hR hp hq z
      omega
    omega
  · intro x hx
    obtain ⟨p, hp, rfl⟩ := List.mem_map.mp hx
    have h1 : p < 2 ^ 64 := (KK_mem.mp hp).1
    refine ⟨Nat.zero_le _, ?_⟩
    rw [Nat.zero_add]
    exact Nat.div_lt_of_lt_mul h1
theorem KK_nil {a : AS} (hW : WF a) (hR : nR a ≠ 0) : 0 < (KK a).length := by
  have ht := hW.told hR
  have hcT := ht.2.2.2.2.2.2.2.2.2.1
  exact List.length_pos_of_mem (KK_of hW hR hcT (Sam.rf _)).1
theorem cnV_le (C k v : Nat) (L : List Nat) : cnV C k v L ≤ L.length := List.length_filter_le _ _
theorem gcd_st {x y : Nat} : Nat.gcd x y = Nat.gcd y (x % y) := by
  rw [Nat.gcd_comm x y, Nat.gcd_rec y x, Nat.gcd_comm]
section MA
variable {g : GX} {d : Nat} {ρ : Rs} {S : St} {a : AS}
theorem sM_common {Q : Int64 → St → Prop} (hρ : Ok ρ) {m n : Nat} (hm : m < 2 ^ 63) (hn : n < 2 ^ 63) (h : Q (lN (Nat.gcd m n)) S) : CALLl g d mX12_common [.long (lN m), .long (lN n)] ρ ρ S Q := by
  refine eX12_common hρ ?_
  have key : ∀ k x y, y ≤ k → x < 2 ^ 63 → y < 2 ^ 63 → Nat.gcd x y = Nat.gcd m n → AW g ρ (QJ Q) d mX12_common 6 [(4, .long (lN x)), (6, .long (lN y))] [] ρ S := by
    intro k
    induction k with
    | zero =>
      intro x y hy hx hy2 e
      refine eX12_common_6 hρ ?_
      have y0 : y = 0 := Nat.eq_zero_of_le_zero hy
      rw [y0] at e ⊢
      rw [if_pos (show lN 0 ≤ (0 : Int64) by decide)]
      rw [Nat.gcd_zero_right] at e
      rw [e]
      exact h
    | succ k ih =>
      intro x y hy hx hy2 e
      refine eX12_common_6 hρ ?_
      have ez : lN y ≤ (0 : Int64) ↔ y ≤ 0 := lNle (n := 0) hy2 (by omega)
      by_cases c : y = 0
      · rw [if_pos (ez.mpr (by omega))]
        rw [c, Nat.gcd_zero_right] at e
        rw [e]
        exact h
      · rw [if_neg (fun z => c (by have := ez.mp z; omega)), lNrem hx hy2]
        have hr := Nat.mod_lt x (show 0 < y by omega)
        refine ⟨fun z => c ((lNeq (n := 0) (by omega) (by omega)).mp z), ih y (x % y) (by omega) hy2 (by omega) ?_⟩
        rw [← gcd_st]
        exact e
  exact key n m n (Nat.le_refl _) hm hn rfl
/-- a fraction in lowest terms -/
def low (m n w : Nat) : Nat := (if w = 0 then m else n) / Nat.gcd m n
theorem sM_part {Q : Int64 → St → Prop} (hρ : Ok ρ) {m n w : Nat} (hm : m < 2 ^ 63) (hn : n < 2 ^ 63) (h0 : 0 < n) (hw : w < 2 ^ 31) (h : Q (lN (low m n w)) S) : CALLl g (d + 1) mX12_part [.long (lN m), .long (lN n), .int (nI w)] ρ ρ S Q := by
  have hg : 0 < Nat.gcd m n := Nat.gcd_pos_of_pos_right m h0
  have hg2 : Nat.gcd m n ≤ n := Nat.gcd_le_right m h0
  have hgz : ¬ lN (Nat.gcd m n) = (0 : Int64) := fun z => by
    have := (lNeq (n := 0) (by omega) (by omega)).mp z
    omega
  refine eX12_part hρ ?_
  unfold low at h
  by_cases c : w = 0
  · rw [if_pos (show nI w = (0 : Int32) by rw [c]; rfl)]
    refine sM_common hρ hm hn ⟨hgz, ?_⟩
    rw [lNdiv hm (by omega)]
    rw [if_pos c] at h
    exact h
  · rw [if_neg (show ¬ nI w = (0 : Int32) from fun z => c ((nI_eq (b := 0) hw (by omega)).mp z))]
    refine sM_common hρ hm hn ⟨hgz, ?_⟩
    rw [lNdiv hn (by omega)]
    rw [if_neg c] at h
    exact h
/-- the first of some that is not nought; the last -/
def fnd (f : Nat → Nat) : Nat → Nat → Nat
  | 0, v => v
  | n + 1, v => if f v = 0 then fnd f n (v + 1) else v
def hfd (f : Nat → Nat) : Nat → Nat
  | 0 => 0
  | v + 1 => if f (v + 1) = 0 then hfd f v else v + 1
theorem fnd_eq {f : Nat → Nat} {l : Nat} (hl : f l ≠ 0) (h : ∀ u, u < l → f u = 0) : ∀ n v, v ≤ l → l ≤ v + n → fnd f n v = l
  | 0, v, h1, h2 => by show v = l; omega
  | n + 1, v, h1, h2 => by
    show (if f v = 0 then fnd f n (v + 1) else v) = l
    by_cases c : v = l
    · rw [c, if_neg hl]
    · rw [if_pos (h v (by omega)), fnd_eq hl h n (v + 1) (by omega) (by omega)]
theorem hfd_eq {f : Nat → Nat} {l : Nat} (hl : f l ≠ 0) : ∀ v, l ≤ v → (∀ u, l < u → u ≤ v → f u = 0) → hfd f v = l
  | 0, h1, _ => by show 0 = l; omega
  | v + 1, h1, h => by
    show (if f (v + 1) = 0 then hfd f v else v + 1) = l
    by_cases c : l = v + 1
    · rw [← c, if_neg hl]
    · rw [if_pos (h (v + 1) (by omega) (by omega)), hfd_eq hl v (by omega) (fun u h1 h2 => h u h1 (by omega))]
theorem sM_bounds {Q : Int32 → St → Prop} (hρ : Ok ρ) {k : Nat} (hk : k < 16) {f : Nat → Nat} (hf : ∀ v, v ≤ 20 → f v < 2 ^ 63) (hs : ∀ v, v ≤ 20 → S.2 88 (21 * k + v) = lN (f v)) (hx : ∃ v, v ≤ 20 ∧ f v ≠ 0) {b : Bool} (h : Q (nI (if b then hfd f 20 else fnd f 20 0)) S) : CALLi g d mX12_bounds [.ref 80, .int (nI k), .int (if b then 1 else 0)] ρ ρ S Q := by
  refine eX12_bounds hρ ?_
  have key : ∀ n v x3, v + n = 21 → ((∀ u, u < v → f u = 0) ∧ x3 = -1 ∨ ∃ l, x3 = nI l ∧ l < v ∧ f l ≠ 0 ∧ (b = false → ∀ u, u < l → f u = 0) ∧ (b = true → ∀ u, l < u → u < v → f u = 0)) → AW g ρ (QI Q) d mX12_bounds 5 [(0, .ref 80), (1, .int (nI k)), (2, .int (if b then 1 else 0)), (3, .int x3), (4, .int (nI v))] [] ρ S := by
    intro n
    induction n with
    | zero =>
      intro v x3 hv hi
      refine eX12_bounds_5 hρ ?_
      rw [if_pos (show (20 : Int32) < nI v from nI_lt (a := 20) (by omega) (by omega))]
      rcases hi with ⟨i1, -⟩ | ⟨l, rfl, l1, l2, l3, l4⟩
      · obtain ⟨u, u1, u2⟩ := hx
        exact absurd (i1 u (by omega)) u2
      · cases b with
        | false =>
          rw [show (if false = true then hfd f 20 else fnd f 20 0) = l from fnd_eq l2 (l3 rfl) 20 0 (by omega) (by omega)] at h
          exact h
        | true =>
          rw [show (if true = true then hfd f 20 else fnd f 20 0) = l from hfd_eq l2 20 (by omega) (fun u h1 h2 => l4 rfl u h1 (by omega))] at h
          exact h
    | succ n ih =>
      intro v x3 hv hi
      refine eX12_bounds_5 hρ ?_
      have e3 : (21 : Int32) * nI k + nI v = nI (21 * k + v) := by
        show nI 21 * nI k + _ = _
        rw [pk_mul, nI_add]
      have ez : lN (f v) ≤ (0 : Int64) ↔ f v ≤ 0 := lNle (n := 0) (hf v (by omega)) (by omega)
      rw [if_neg (show ¬ (20 : Int32) < nI v from nI_nlt (a := 20) (by omega) (by omega)), e3, nI_clamp (by omega), hs v (by omega), nI_1]
      refine ⟨vp_in_nI (by omega) (by omega), ?_⟩
      by_cases c : f v = 0
      · rw [if_pos (ez.mpr (by omega))]
        refine ih (v + 1) x3 (by omega) ?_
        rcases hi with ⟨i1, i2⟩ | ⟨l, l0, l1, l2, l3, l4⟩
        · refine Or.inl ⟨fun u hu => ?_, i2⟩
          by_cases cu : u = v
          · rw [cu]; exact c
          · exact i1 u (by omega)
        · refine Or.inr ⟨l, l0, by omega, l2, l3, fun hb u h1 h2 => ?_⟩
          by_cases cu : u = v
          · rw [cu]; exact c
          · exact l4 hb u h1 (by omega)
      · rw [if_neg (fun z => c (by have := ez.mp z; omega))]
        rcases hi with ⟨i1, i2⟩ | ⟨l, l0, l1, l2, l3, l4⟩
        · rw [i2, if_pos (by decide)]
          exact ih (v + 1) _ (by omega) (Or.inr ⟨v, rfl, by omega, c, fun _ => i1, fun _ u h1 h2 => absurd h1 (by omega)⟩)
        · rw [l0, if_neg (show ¬ nI l < (0 : Int32) from nI_nlt (b := 0) (by omega) (by omega))]
          cases b with
          | false =>
            rw [if_pos (show (if false = true then (1 : Int32) else 0) = 0 from rfl)]
            exact ih (v + 1) _ (by omega) (Or.inr ⟨l, rfl, by omega, l2, l3, fun z => absurd z (by decide)⟩)
          | true =>
            rw [if_neg (by decide)]
            exact ih (v + 1) _ (by omega) (Or.inr ⟨v, rfl, by omega, c, fun z => absurd z (by decide), fun _ u h1 h2 => absurd h1 (by omega)⟩)
  exact key 21 0 (-1) (by omega) (Or.inl ⟨fun u hu => absurd hu (by omega), rfl⟩)
/-- how often the cell has the value -/
def seeK (a : AS) (k v : Nat) : Nat := cnV (nC a) k v (KK a)
theorem seeK_lt (hW : WF a) (hR : nR a ≠ 0) (k v : Nat) : seeK a k v ≤ 2 ^ 48 := Nat.le_trans (cnV_le _ _ _ _) (KK_len2 hW hR)
theorem seeK_ex (hW : WF a) (hR : nR a ≠ 0) (k : Nat) : ∃ v, v ≤ 20 ∧ seeK a k v ≠ 0 := by
  have ht := hW.told hR
  have hcT := ht.2.2.2.2.2.2.2.2.2.1
  obtain ⟨k1, k2⟩ := KK_of hW hR hcT (Sam.rf _)
  refine ⟨flt (nC a) (unp (pack (cel a))) k, ?_, ?_⟩
  · have : flt (nC a) (unp (pack (cel a))) k < 16 := unp_lt _ _ _
    omega
  · unfold seeK cnV
    exact Nat.pos_iff_ne_zero.mp (List.length_pos_of_mem (List.mem_filter.mpr ⟨k1, decide_eq_true rfl⟩))
def leaV (a : AS) (k : Nat) : Nat := fnd (seeK a k) 20 0
def mosV (a : AS) (k : Nat) : Nat := hfd (seeK a k) 20
/-- the cells that are always the same, as bits -/
def fixV (a : AS) : Nat → Nat
  | 0 => 0
  | k + 1 => fixV a k ||| if hol a (k / nC a) (k % nC a) = false ∧ leaV a k = mosV a k then 2 ^ k else 0
theorem fixV_lt (a : AS) : ∀ k, fixV a k < 2 ^ k
  | 0 => by show 0 < 1; omega
  | k + 1 => by
    have ih := fixV_lt a k
    show fixV a k ||| _ < _
    have h1 : fixV a k < 2 ^ (k + 1) := by rw [Nat.pow_succ]; omega
    refine Nat.or_lt_two_pow h1 ?_
    have := Nat.two_pow_pos k
    rw [Nat.pow_succ]
    split <;> omega
def mnS (f : Nat → Nat) : Nat → Nat
  | 0 => 0
  | v + 1 => mnS f v + v * f v
theorem mnS_le {f : Nat → Nat} {b : Nat} (h : ∀ v, f v ≤ b) : ∀ n, n ≤ 21 → mnS f n ≤ n * (20 * b)
  | 0, _ => by rw [Nat.zero_mul]; exact Nat.le_refl _
  | n + 1, hn => by
    have ih := mnS_le h n (by omega)
    have h1 : n * f n ≤ 20 * b := Nat.mul_le_mul (by omega) (h n)
    show mnS f n + n * f n ≤ _
    rw [Nat.succ_mul]
    omega
theorem sM_tables {Q : Int64 → St → Prop} (hρ : Ok ρ) (hF : ∀ k ∈ ([80, 85, 86, 87] : List Nat), gF g k) (hW : WF a) (hI : IM a S) (h0 : nR a = 0 → Q (-2) S) (h1 : nR a ≠ 0 → ∀ S', IM a S' → Q (lN (KK a).length) S') : CALLl g (d + 21) mX12_tables [.ref 80] ρ ρ S Q := by
  refine eX12_tables hρ (sM_is hρ hW hI ?_)
  by_cases c : nR a = 0
  · rw [if_pos c, if_pos rfl]; exact h0 c
  · rw [if_neg c, if_neg (by decide)]
    exact sM_tablesOf hρ hF hW c hI (h1 c)
theorem sM_rank {Q : Int64 → St → Prop} (hρ : Ok ρ) (hF : ∀ k ∈ ([80, 85, 86, 87] : List Nat), gF g k) (hW : WF a) (hI : IM a S) (h0 : nR a = 0 → Q (-2) S) (h1 : nR a ≠ 0 → ∀ S', IM a S' → Q (lN (rkK a (pack (cel a)))) S') : CALLl g (d + 22) mX12_rank [.ref 80] ρ ρ S Q := by
  refine eX12_rank hρ (sM_is hρ hW hI ?_)
  by_cases c : nR a = 0
  · rw [if_pos c, if_pos rfl]; exact h0 c
  · rw [if_neg c, if_neg (by decide)]
    exact sM_rankOf hρ hF hW c hI (h1 c)
theorem vin_R {x : Int32} (h : vp_in x (nR a)) : nR a ≠ 0 := by
  have := vin_cl h
  omega
theorem lN_of {x : Int64} (h : (0 : Int64) ≤ x) : ∃ m, m < 2 ^ 63 ∧ x = lN m := by
  rw [fa_le64] at h
  have h1 : (0 : Int) ≤ x.toInt := h
  have h2 := x.toInt_lt
  refine ⟨x.toInt.toNat, by omega, ?_⟩
  apply Int64.toInt_inj.mp
  rw [pf_lI (by omega)]
  omega
theorem sM_of {Q : Int32 → St → Prop} (hρ : Ok ρ) (hF : ∀ k ∈ ([80, 85, 86, 87] : List Nat), gF g k) (hW : WF a) (hI : IM a S) {x1 : Int64} {x3 x4 : Int32} (h0 : ¬ (vp_in x3 (nR a) ∧ vp_in x4 (nC a) ∧ (0 : Int64) ≤ x1) → Q (-2) S) (h1 : ∀ m, m < 2 ^ 63 → x1 = lN m → vp_in x3 (nR a) → vp_in x4 (nC a) → ∀ S', IM a S' → Q (match (KK a)[m]? with | none => -2 | some p => nI (unp p x3.toNatClampNeg x4.toNatClampNeg)) S') : CALLi g (d + 20) mX12_of [.ref 80, .long x1, .int x3, .int x4] ρ ρ S Q := by
  have hl := hW.le
  have e2 := mul44 hl.1 hl.2.1
  have hF1 : ∀ k ∈ ([80] : List Nat), gF g k := fun k hk => hF k (by simp at hk; simp [hk])
  refine eX12_of hρ hF1 ?_
  by_cases c : vp_in x3 (nR a) ∧ vp_in x4 (nC a)
  · have hR := vin_R c.1
    refine sM_isCell1 hρ hW hI c.1 c.2 ?_
    rw [if_neg (by decide)]
    by_cases cx : (0 : Int64) ≤ x1
    · rw [if_pos cx]
      obtain ⟨m, hm, em⟩ := lN_of cx
      have c1 := vin_cl c.1
      have c2 := vin_cl c.2
      have hk := h1 m hm em c.1 c.2
      refine sM_pick (m := m) hρ hF hW hR (hI.lng _ _ _) hm (by rw [setL_at, if_pos ⟨rfl, rfl⟩, em]) (fun S' q1 q2 q3 => ?_) (fun S' p q1 q2 q3 q4 => ?_)
      · rw [if_pos q3]
        have z := hk S' q1
        rw [q2] at z
        exact z
      · rw [if_neg (by rw [q3]; decide), vin_eq c.1 (by omega), vin_eq c.2 (by omega)]
        have e1 := idx_lt c1 c2
        refine sM_place hρ q1 ⟨vp_in_nI (by omega) (by omega), ?_⟩
        rw [nI_clamp (by omega), q4 _ _ c1 c2]
        have z := hk S' q1
        rw [q2] at z
        exact z
    · rw [if_neg cx]
      exact h0 (fun z => cx z.2.2)
  · refine sM_isCell0 hρ hW hI c ?_
    rw [if_pos rfl]
    exact h0 (fun z => c ⟨z.1, z.2.1⟩)
/-- which cell -/
def kOf (a : AS) (x1 x2 : Int32) : Nat := x1.toNatClampNeg * nC a + x2.toNatClampNeg
theorem kOf_lt (hW : WF a) {x1 x2 : Int32} (h1 : vp_in x1 (nR a)) (h2 : vp_in x2 (nC a)) : kOf a x1 x2 < nR a * nC a ∧ nR a * nC a ≤ 16 := by
  have hl := hW.le
  exact ⟨idx_lt (vin_cl h1) (vin_cl h2), mul44 hl.1 hl.2.1⟩
theorem sM_placeV {Q : Int32 → St → Prop} (hρ : Ok ρ) (hW : WF a) (hI : IM a S) {x1 x2 : Int32} (h1 : vp_in x1 (nR a)) (h2 : vp_in x2 (nC a)) (h : Q (nI (kOf a x1 x2)) S) : CALLi g d mX12_place [.ref 80, .int x1, .int x2] ρ ρ S Q := by
  have hl := hW.le
  rw [vin_eq h1 (by omega), vin_eq h2 (by omega)]
  exact sM_place hρ hI h
theorem sM_least {Q : Int32 → St → Prop} (hρ : Ok ρ) (hF : ∀ k ∈ ([80, 85, 86, 87, 88] : List Nat), gF g k) (hW : WF a) (hI : IM a S) {x1 x2 : Int32} (h0 : ¬ (vp_in x1 (nR a) ∧ vp_in x2 (nC a)) → Q (-2) S) (h1 : vp_in x1 (nR a) → vp_in x2 (nC a) → ∀ S', IM a S' → Q (nI (leaV a (kOf a x1 x2))) S') : CALLi g (d + 22) mX12_least [.ref 80, .int x1, .int x2] ρ ρ S Q := by
  refine eX12_least hρ ?_
  by_cases c : vp_in x1 (nR a) ∧ vp_in x2 (nC a)
  · have hR := vin_R c.1
    have hk := kOf_lt hW c.1 c.2
    refine sM_isCell1 hρ hW hI c.1 c.2 ?_
    rw [if_neg (by decide)]
    refine sM_talliesAll hρ hF hW hR hI (fun S' q1 q2 q3 => sM_placeV hρ hW q1 c.1 c.2 ?_)
    refine sM_bounds (b := false) hρ (by omega) (f := seeK a (kOf a x1 x2)) (fun v hv => by have := seeK_lt hW hR (kOf a x1 x2) v; omega) (fun v hv => q3 _ v hk.1 hv) (seeK_ex hW hR _) ?_
    rw [if_neg (show ¬ (false = true) by decide)]
    unfold leaV at h1
    exact h1 c.1 c.2 S' q1
  · refine sM_isCell0 hρ hW hI c ?_
    rw [if_pos rfl]
    exact h0 c
theorem sM_most {Q : Int32 → St → Prop} (hρ : Ok ρ) (hF : ∀ k ∈ ([80, 85, 86, 87, 88] : List Nat), gF g k) (hW : WF a) (hI : IM a S) {x1 x2 : Int32} (h0 : ¬ (vp_in x1 (nR a) ∧ vp_in x2 (nC a)) → Q (-2) S) (h1 : vp_in x1 (nR a) → vp_in x2 (nC a) → ∀ S', IM a S' → Q (nI (mosV a (kOf a x1 x2))) S') : CALLi g (d + 22) mX12_most [.ref 80, .int x1, .int x2] ρ ρ S Q := by
  refine eX12_most hρ ?_
  by_cases c : vp_in x1 (nR a) ∧ vp_in x2 (nC a)
  · have hR := vin_R c.1
    have hk := kOf_lt hW c.1 c.2
    refine sM_isCell1 hρ hW hI c.1 c.2 ?_
    rw [if_neg (by decide)]
    refine sM_talliesAll hρ hF hW hR hI (fun S' q1 q2 q3 => sM_placeV hρ hW q1 c.1 c.2 ?_)
    refine sM_bounds (b := true) hρ (by omega) (f := seeK a (kOf a x1 x2)) (fun v hv => by have := seeK_lt hW hR (kOf a x1 x2) v; omega) (fun v hv => q3 _ v hk.1 hv) (seeK_ex hW hR _) ?_
    rw [if_pos rfl]
    unfold mosV at h1
    exact h1 c.1 c.2 S' q1
  · refine sM_isCell0 hρ hW hI c ?_
    rw [if_pos rfl]
    exact h0 c
end MA
