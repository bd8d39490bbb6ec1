-- WHAT THE SUMS OF THE FIBER ARE
theorem KK_len_GT {a : AS} (hW : WF a) (hR : nR a ≠ 0) : (KK a).length = GT a (fun _ _ => 1) 4 0 (cU a) := by
  rw [KK_PT hW hR]
  exact PT_len (cU_ok (hW.told hR)).1
theorem prS_cg {f f' : Nat → Nat} : ∀ n, (∀ x, x < n → f x = f' x) → prS f n = prS f' n ∧ fb_sm f n = fb_sm f' n
  | 0, _ => ⟨rfl, rfl⟩
  | n + 1, h => by
    obtain ⟨h1, h2⟩ := prS_cg n (fun x hx => h x (by omega))
    have h3 : fb_sm f (n + 1) = fb_sm f' (n + 1) := by rw [sm_s, sm_s, h2, h n (by omega)]
    refine ⟨?_, h3⟩
    show prS f n * bin (fb_sm f (n + 1)) (f n) = prS f' n * bin (fb_sm f' (n + 1)) (f' n)
    rw [h1, h3, h n (by omega)]
theorem rowW_cg {f f' : Nat → Nat} (h : ∀ x, x < 4 → f x = f' x) : rowW f = rowW f' := (prS_cg 4 h).1
theorem rowW_0 {f : Nat → Nat} (h : ∀ x, f x = 0) : rowW f = 1 := by
  rw [rowW_cg (f' := fun _ => 0) (fun x _ => h x)]
  decide
theorem wgN_cut {t : Nat → Nat → Nat} {R : Nat} (h : ∀ y x, R ≤ y → t y x = 0) : ∀ n, R ≤ n → wgN t n = wgN t R
  | 0, hn => by rw [show R = 0 by omega]
  | n + 1, hn => by
    by_cases c : R = n + 1
    · rw [c]
    · show wgN t n * rowW (t n) = _
      rw [rowW_0 (fun x => h n x (by omega)), Nat.mul_one, wgN_cut h n (by omega)]
theorem wK_pr {a : AS} (hW : WF a) (hR : nR a ≠ 0) {p : Nat} (hp : p ∈ KK a) : wK a p = prR rwH 4 0 p := by
  have hp64 : p < 2 ^ 64 := (KK_mem.mp hp).1
  obtain ⟨p1, -, -⟩ := KK_tab hW hR hp
  rw [prR4 hp64]
  unfold wK
  rw [← wgN_cut (fun y x hy => p1.1 y x (by omega)) 4 hW.le.1]
  show 1 * rowW (unp p 0) * rowW (unp p 1) * rowW (unp p 2) * rowW (unp p 3) = rowW (dg (ro p 0)) * (rowW (dg (ro p 1)) * (rowW (dg (ro p 2)) * (rowW (dg (ro p 3)) * 1)))
  rw [rowW_cg (ro_dg (p := p) (y := 0) (by omega)), rowW_cg (ro_dg (p := p) (y := 1) (by omega)), rowW_cg (ro_dg (p := p) (y := 2) (by omega)), rowW_cg (ro_dg (p := p) (y := 3) (by omega)), Nat.one_mul, Nat.mul_one]
  simp only [Nat.mul_assoc]
theorem KK_wgt {a : AS} (hW : WF a) (hR : nR a ≠ 0) : sml (wK a) (KK a) = GT a rwH 4 0 (cU a) := by
  rw [← KK_GT hW hR]
  exact sml_congr _ (fun p hp => wK_pr hW hR hp)
theorem GT_cg {a : AS} {h h' : Nat → Nat → Nat} : ∀ n y u, (∀ y' l, y ≤ y' → h y' l = h' y' l) → GT a h n y u = GT a h' n y u
  | 0, _, _, _ => rfl
  | n + 1, y, u, e => by
    rw [GT_s, GT_s]
    refine sml_congr _ (fun l _ => ?_)
    rw [e y l (Nat.le_refl _), GT_cg n (y + 1) (u - tk l) (fun y' l' hy => e y' l' (by omega))]
theorem BK_cg {a : AS} : ∀ y {φ ψ : Nat → Nat}, (∀ u, φ u = ψ u) → BK a y φ = BK a y ψ
  | 0, φ, ψ, h => h _
  | y + 1, φ, ψ, h => BK_cg y (fun u => by
    unfold OPr
    exact sml_congr _ (fun l _ => h _))
theorem BK_GT {a : AS} {h : Nat → Nat → Nat} : ∀ y, y ≤ 4 → (∀ j l, j < y → h j l = 1) → BK a y (fun u => GT a h (4 - y) y u) = GT a h 4 0 (cU a)
  | 0, _, _ => rfl
  | y + 1, hy, h1 => by
    rw [← BK_GT y (by omega) (fun j l hj => h1 j l (by omega))]
    show BK a y (OPr a y _) = _
    refine BK_cg y (fun u => ?_)
    rw [show 4 - y = (4 - (y + 1)) + 1 by omega, GT_s]
    unfold OPr
    refine sml_congr _ (fun l _ => ?_)
    rw [h1 y l (by omega), Nat.one_mul]
/-- the weight that picks a value of one cell -/
def hC1 (y x v y' l : Nat) : Nat := if y' = y then if dg l x = v then 1 else 0 else 1
theorem φS_GT {a : AS} {y x v u : Nat} (hy : y < 4) : φS a y x v u = GT a (hC1 y x v) (4 - y) y u := by
  rw [φS_eq, show 4 - y = (4 - (y + 1)) + 1 by omega, GT_s]
  refine sml_congr _ (fun l _ => ?_)
  have e : GT a (hC1 y x v) (4 - (y + 1)) (y + 1) (u - tk l) = G1 a (y + 1) (u - tk l) := by
    unfold G1
    exact GT_cg _ _ _ (fun y' l' hy' => by unfold hC1; rw [if_neg (by omega)])
  rw [e]
  unfold hC1
  rw [if_pos rfl]
  split
  · rw [Nat.one_mul]
  · rw [Nat.zero_mul]
theorem sml_ind (f : Nat → Nat) (v : Nat) : ∀ L : List Nat, sml (fun p => if f p = v then 1 else 0) L = (L.filter (fun p => decide (f p = v))).length
  | [] => rfl
  | p :: L => by
    show (if f p = v then 1 else 0) + sml _ L = _
    rw [sml_ind f v L, List.filter_cons]
    by_cases c : f p = v
    · rw [if_pos c, if_pos (decide_eq_true c), List.length_cons]; omega
    · rw [if_neg c, if_neg (by simp [c])]; omega
theorem BK_see {a : AS} (hW : WF a) (hR : nR a ≠ 0) {y x v : Nat} (hy : y < nR a) (hx : x < nC a) : BK a y (φS a y x v) = seeK a (y * nC a + x) v := by
  have hl := hW.le
  rw [BK_cg y (fun u => φS_GT (show y < 4 by omega)), BK_GT y (by omega) (fun j l hj => by unfold hC1; rw [if_neg (by omega)]), ← KK_GT hW hR]
  unfold seeK cnV
  rw [← sml_ind]
  refine sml_congr _ (fun p hp => ?_)
  have hp64 : p < 2 ^ 64 := (KK_mem.mp hp).1
  rw [prR4 hp64, flt_at _ hx, ← ro_dg (show y < 4 by omega) x (by omega)]
  unfold hC1
  rcases (show y = 0 ∨ y = 1 ∨ y = 2 ∨ y = 3 by omega) with rfl | rfl | rfl | rfl
  · simp
  · simp
  · simp
  · simp
-- positions
def ltc (p : Nat) (L : List Nat) : Nat := (L.filter (fun q => decide (q < p))).length
theorem ltc_all {p : Nat} : ∀ {L : List Nat}, (∀ q, q ∈ L → q < p) → ltc p L = L.length := by
  intro L h
  unfold ltc
  rw [List.filter_eq_self.mpr (fun q hq => decide_eq_true (h q hq))]
theorem ltc_none {p : Nat} {L : List Nat} (h : ∀ q, q ∈ L → ¬ q < p) : ltc p L = 0 := by
  unfold ltc
  rw [List.filter_eq_nil_iff.mpr (fun q hq => by simp; have := h q hq; omega)]
  rfl
theorem ltc_app (p : Nat) (L M : List Nat) : ltc p (L ++ M) = ltc p L + ltc p M := by
  unfold ltc
  rw [List.filter_append, List.length_append]
theorem ltc_map {b p : Nat} : ∀ L : List Nat, ltc (b + p) (L.map (fun q => b + q)) = ltc p L
  | [] => rfl
  | q :: L => by
    have ih := ltc_map (b := b) (p := p) L
    unfold ltc at ih ⊢
    rw [List.map_cons, List.filter_cons, List.filter_cons]
    by_cases c : q < p
    · rw [if_pos (decide_eq_true (by omega)), if_pos (decide_eq_true c), List.length_cons, List.length_cons, ih]
    · rw [if_neg (by simp; omega), if_neg (by simp; omega), ih]
/-- where a way stands among all, by its first row -/
theorem ltc_PT {a : AS} {n y u l q : Nat} {P R : List Nat} (hu : u < topU) (e : lnk a y u = P ++ l :: R) (hq : q < 65536 ^ n) : ltc (l * 65536 ^ n + q) (PT a (n + 1) y u) = sml (fun l' => GT a (fun _ _ => 1) n (y + 1) (u - tk l')) P + ltc q (PT a n (y + 1) (u - tk l)) := by
  have hs := lnk_sorted a y u
  have hB : ∀ l', l' ∈ lnk a y u → u - tk l' < topU := fun l' hl' => (fts_sub hu (lnk_mem.mp hl').2).2.1
  rw [PT_s, e]
  rw [e, List.pairwise_append, List.pairwise_cons] at hs
  obtain ⟨-, ⟨s2, -⟩, s3⟩ := hs
  rw [List.flatMap_append, List.flatMap_cons, ltc_app, ltc_app, ltc_map]
  have e1 : ltc (l * 65536 ^ n + q) (P.flatMap (fun l => (PT a n (y + 1) (u - tk l)).map (fun q => l * 65536 ^ n + q))) = sml (fun l' => GT a (fun _ _ => 1) n (y + 1) (u - tk l')) P := by
    rw [ltc_all, len_fm]
    · refine sml_congr _ (fun l' hl' => ?_)
      rw [List.length_map, PT_len (hB l' (by rw [e]; simp [hl']))]
    · intro p hp
      obtain ⟨l', hl', hp2⟩ := List.mem_flatMap.mp hp
      obtain ⟨q', hq', rfl⟩ := List.mem_map.mp hp2
      have h1 := PT_lt (hB l' (by rw [e]; simp [hl'])) hq'
      have h2 := s3 l' hl' l (by simp)
      have h3 : (l' + 1) * 65536 ^ n ≤ l * 65536 ^ n := Nat.mul_le_mul_right _ h2
      rw [Nat.succ_mul] at h3
      omega
  have e2 : ltc (l * 65536 ^ n + q) (R.flatMap (fun l => (PT a n (y + 1) (u - tk l)).map (fun q => l * 65536 ^ n + q))) = 0 := by
    refine ltc_none (fun p hp => ?_)
    obtain ⟨l', hl', hp2⟩ := List.mem_flatMap.mp hp
    obtain ⟨q', hq', rfl⟩ := List.mem_map.mp hp2
    have h2 := s2 l' hl'
    have h3 : (l + 1) * 65536 ^ n ≤ l' * 65536 ^ n := Nat.mul_le_mul_right _ h2
    rw [Nat.succ_mul] at h3
    omega
  rw [e1, e2]
  omega
theorem rkK_ltc {a : AS} (hW : WF a) (hR : nR a ≠ 0) (p : Nat) : rkK a p = ltc p (PT a 4 0 (cU a)) := by
  unfold rkK ltc
  rw [KK_PT hW hR]
/-- the element at a place, by its first row -/
theorem PT_at {a : AS} {n y u l r : Nat} {P R : List Nat} (hu : u < topU) (e : lnk a y u = P ++ l :: R) (hr : r < GT a (fun _ _ => 1) n (y + 1) (u - tk l)) : (PT a (n + 1) y u).getD (sml (fun l' => GT a (fun _ _ => 1) n (y + 1) (u - tk l')) P + r) 0 = l * 65536 ^ n + (PT a n (y + 1) (u - tk l)).getD r 0 := by
  have hB : ∀ l', l' ∈ lnk a y u → u - tk l' < topU := fun l' hl' => (fts_sub hu (lnk_mem.mp hl').2).2.1
  have hr2 : r < (PT a n (y + 1) (u - tk l)).length := by rw [PT_len (hB l (by rw [e]; simp))]; exact hr
  rw [PT_s, e, List.flatMap_append, List.flatMap_cons]
  have e1 : (P.flatMap (fun l => (PT a n (y + 1) (u - tk l)).map (fun q => l * 65536 ^ n + q))).length = sml (fun l' => GT a (fun _ _ => 1) n (y + 1) (u - tk l')) P := by
    rw [len_fm]
    refine sml_congr _ (fun l' hl' => ?_)
    rw [List.length_map, PT_len (hB l' (by rw [e]; simp [hl']))]
  rw [List.getD_eq_getElem?_getD, List.getElem?_append_right (by omega), e1, Nat.add_sub_cancel_left, List.getElem?_append_left (by rw [List.length_map]; exact hr2), List.getElem?_map, List.getD_eq_getElem?_getD, List.getElem?_eq_getElem hr2]
  rfl
theorem GT1_lt {a : AS} {n y u : Nat} (hn : n ≤ 3) (hu : u < topU) : GT a (fun _ _ => 1) n y u ≤ 2 ^ 48 := by
  rw [← PT_len hu]
  have := sor_len (PT a n y u) 0 (65536 ^ n) (PT_sorted a n y u hu) (fun p hp => ⟨Nat.zero_le _, by rw [Nat.zero_add]; exact PT_lt hu hp⟩)
  refine Nat.le_trans this ?_
  exact Nat.le_trans (Nat.pow_le_pow_right (by decide) hn) (by decide)
