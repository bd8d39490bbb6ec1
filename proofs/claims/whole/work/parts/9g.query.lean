-- THE CLASS'S ANSWERS OUT OF THE FIBER
/-- the same sums and holes -/
def Smp (a b : AS) : Prop := nR b = nR a ∧ nC b = nC a ∧ hol b = hol a ∧ Sam (cel a) (cel b)
theorem Smp.rs {a b : AS} (h : Smp a b) : rsum (cel b) = rsum (cel a) := funext h.2.2.2.1
theorem Smp.cs {a b : AS} (h : Smp a b) : csum (cel b) = csum (cel a) := funext h.2.2.2.2
theorem Smp.rf (a : AS) : Smp a a := ⟨rfl, rfl, rfl, Sam.rf _⟩
theorem KK_smp {a b : AS} (h : Smp a b) : KK b = KK a := by
  unfold KK inK
  rw [h.rs, h.cs, h.1, h.2.1, h.2.2.1]
theorem seeK_smp {a b : AS} (h : Smp a b) : seeK b = seeK a := by
  funext k v
  unfold seeK
  rw [KK_smp h, h.2.1]
theorem leaV_smp {a b : AS} (h : Smp a b) (k : Nat) : leaV b k = leaV a k := by
  unfold leaV
  rw [seeK_smp h]
theorem mosV_smp {a b : AS} (h : Smp a b) (k : Nat) : mosV b k = mosV a k := by
  unfold mosV
  rw [seeK_smp h]
theorem rkK_smp {a b : AS} (h : Smp a b) (p : Nat) : rkK b p = rkK a p := by
  unfold rkK
  rw [KK_smp h]
theorem wK_smp {a b : AS} (h : Smp a b) (p : Nat) : wK b p = wK a p := by
  unfold wK
  rw [h.1]
section QY
variable {g : GX} {d : Nat} {ρ : Rs} {S : St} {a b : AS} {V : Nat → List Nat}
theorem IFb.root (hF : IFb a V S) : S.2 47 0 = lN (GT a (fun _ _ => 1) 4 0 (cU a)) ∧ S.2 48 0 = lN (GT a rwH 4 0 (cU a)) := by
  have h0 : V 0 = [] ++ cU a :: [] := hF.1.1.2.2.2.1
  exact hF.2.1 0 [] (cU a) [] (Nat.zero_le _) h0 (Nat.zero_le _)
theorem sC_size {Q : Int64 → St → Prop} (hρ : Ok ρ) (hW : WF a) (hR : nR a ≠ 0) (hF : IFb a V S) (h : Q (lN (KK a).length) S) : CALLl g (d + 3) mX1_size [.ref 31] ρ ρ S Q := by
  refine eX1_size hρ ?_
  rw [hF.root.1, ← KK_len_GT hW hR]
  exact h
theorem sC_heft {Q : Int64 → St → Prop} (hρ : Ok ρ) (hW : WF a) (hR : nR a ≠ 0) (hF : IFb a V S) (h : Q (lN (sml (wK a) (KK a))) S) : CALLl g (d + 3) mX1_heft [.ref 31] ρ ρ S Q := by
  refine eX1_heft hρ ?_
  rw [hF.root.2, ← KK_wgt hW hR]
  exact h
theorem sC_timesSeen {Q : Int64 → St → Prop} (hρ : Ok ρ) (hW : WF a) (hR : nR a ≠ 0) (hF : IFb a V S) {y x v : Nat} (hy : y < nR a) (hx : x < nC a) (hv : v ≤ 20) (h : Q (lN (seeK a (y * nC a + x) v)) S) : CALLl g (d + 4) mX1_timesSeen [.ref 31, .int (nI y), .int (nI x), .int (nI v)] ρ ρ S Q := by
  have hl := hW.le
  refine eX1_timesSeen hρ (sC_seenAt hρ ?_)
  have hi : (4 * y + x) * 21 + v < 336 := by omega
  rw [nI_clamp (by omega), hF.2.2 y x v hy (by omega) hv, BK_see hW hR hy hx]
  exact ⟨vp_in_nI hi (by omega), h⟩
theorem sC_lowestOf {Q : Int32 → St → Prop} (hρ : Ok ρ) (hW : WF a) (hR : nR a ≠ 0) (hF : IFb a V S) {y x : Nat} (hy : y < nR a) (hx : x < nC a) (h : Q (nI (leaV a (y * nC a + x))) S) : CALLi g (d + 5) mX1_lowestOf [.ref 31, .int (nI y), .int (nI x)] ρ ρ S Q := by
  refine eX1_lowestOf hρ ?_
  unfold leaV at h
  have hb := fun v => seeK_lt hW hR (y * nC a + x) v
  have ht : ∀ {Q' : Int64 → St → Prop} {d' v}, v ≤ 20 → Q' (lN (seeK a (y * nC a + x) v)) S → CALLl g (d' + 4) mX1_timesSeen [.ref 31, .int (nI y), .int (nI x), .int (nI v)] ρ ρ S Q' := fun hv hq => sC_timesSeen hρ hW hR hF hy hx hv hq
  generalize seeK a (y * nC a + x) = f at h hb ht
  have key : ∀ n v, n + v = 20 → Q (nI (fnd f n v)) S → AW g ρ (QI Q) (d + 4 + 1) mX1_lowestOf 2 [(0, .ref 31), (1, .int (nI y)), (2, .int (nI x)), (3, .int (nI v))] [] ρ S := by
    intro n
    induction n with
    | zero =>
      intro v hv hq
      refine eX1_lowestOf_2 hρ ?_
      rw [if_pos (show (20 : Int32) ≤ nI v from nI_le (a := 20) (by omega) (by omega))]
      exact hq
    | succ n ih =>
      intro v hv hq
      refine eX1_lowestOf_2 hρ ?_
      rw [if_neg (show ¬ (20 : Int32) ≤ nI v from nI_ge (b := 20) (by omega) (by omega))]
      refine ht (by omega) ?_
      have ez : lN (f v) = (0 : Int64) ↔ f v = 0 := lNeq (n := 0) (by have := hb v; omega) (by omega)
      unfold fnd at hq
      by_cases c : f v = 0
      · rw [if_pos c] at hq
        rw [if_pos (ez.mpr c), nI_1]
        exact ih (v + 1) (by omega) hq
      · rw [if_neg c] at hq
        rw [if_neg (fun z => c (ez.mp z))]
        exact hq
  exact key 20 0 (by omega) h
theorem sC_highestOf {Q : Int32 → St → Prop} (hρ : Ok ρ) (hW : WF a) (hR : nR a ≠ 0) (hF : IFb a V S) {y x : Nat} (hy : y < nR a) (hx : x < nC a) (h : Q (nI (mosV a (y * nC a + x))) S) : CALLi g (d + 5) mX1_highestOf [.ref 31, .int (nI y), .int (nI x)] ρ ρ S Q := by
  refine eX1_highestOf hρ ?_
  unfold mosV at h
  have hb := fun v => seeK_lt hW hR (y * nC a + x) v
  have ht : ∀ {Q' : Int64 → St → Prop} {d' v}, v ≤ 20 → Q' (lN (seeK a (y * nC a + x) v)) S → CALLl g (d' + 4) mX1_timesSeen [.ref 31, .int (nI y), .int (nI x), .int (nI v)] ρ ρ S Q' := fun hv hq => sC_timesSeen hρ hW hR hF hy hx hv hq
  generalize seeK a (y * nC a + x) = f at h hb ht
  have key : ∀ v, v ≤ 20 → Q (nI (hfd f v)) S → AW g ρ (QI Q) (d + 4 + 1) mX1_highestOf 3 [(0, .ref 31), (1, .int (nI y)), (2, .int (nI x)), (3, .int (nI v))] [] ρ S := by
    intro v
    induction v with
    | zero =>
      intro hv hq
      refine eX1_highestOf_3 hρ ?_
      rw [if_pos (by decide)]
      exact hq
    | succ v ih =>
      intro hv hq
      refine eX1_highestOf_3 hρ ?_
      have e0 : (nI (v + 1) ≤ (0 : Int32)) ↔ v + 1 ≤ 0 := nI_leI (b := 0) (by omega) (by omega)
      rw [if_neg (fun z => by have := e0.mp z; omega)]
      refine ht (by omega) ?_
      have ez : lN (f (v + 1)) = (0 : Int64) ↔ f (v + 1) = 0 := lNeq (n := 0) (by have := hb (v + 1); omega) (by omega)
      unfold hfd at hq
      by_cases c : f (v + 1) = 0
      · rw [if_pos c] at hq
        rw [if_pos (ez.mpr c), show nI (v + 1) + (-1) = nI v by
          rw [show nI (v + 1) + (-1) = nI (v + 1) - 1 from (Int32.sub_eq_add_neg _ _).symm]
          exact pk_sub (b := 1) (by omega)]
        exact ih (by omega) hq
      · rw [if_neg c] at hq
        rw [if_neg (fun z => c (ez.mp z))]
        exact hq
  exact key 20 (by omega) h
theorem sC_sumSeenQ {Q : Int64 → St → Prop} (hρ : Ok ρ) (hW : WF a) (hR : nR a ≠ 0) (hF : IFb a V S) {y x : Nat} (hy : y < nR a) (hx : x < nC a) (h : Q (lN (mnS (seeK a (y * nC a + x)) 21)) S) : CALLl g (d + 5) mX1_sumSeen [.ref 31, .int (nI y), .int (nI x)] ρ ρ S Q := by
  refine eX1_sumSeen hρ ?_
  have ht : ∀ {Q' : Int64 → St → Prop} {d' v}, v ≤ 20 → Q' (lN (seeK a (y * nC a + x) v)) S → CALLl g (d' + 4) mX1_timesSeen [.ref 31, .int (nI y), .int (nI x), .int (nI v)] ρ ρ S Q' := fun hv hq => sC_timesSeen hρ hW hR hF hy hx hv hq
  generalize seeK a (y * nC a + x) = f at h ht
  have key : ∀ n v, n + v = 21 → AW g ρ (QJ Q) (d + 4 + 1) mX1_sumSeen 5 [(0, .ref 31), (1, .int (nI y)), (2, .int (nI x)), (3, .long (lN (mnS f v))), (5, .int (nI v))] [] ρ S := by
    intro n
    induction n with
    | zero =>
      intro v hv
      refine eX1_sumSeen_5 hρ ?_
      rw [show v = 21 by omega, if_pos (by decide)]
      exact h
    | succ n ih =>
      intro v hv
      refine eX1_sumSeen_5 hρ ?_
      rw [if_neg (show ¬ (21 : Int32) ≤ nI v from nI_ge (b := 21) (by omega) (by omega))]
      refine ht (by omega) ?_
      rw [nI_l (show v < 2 ^ 31 by omega), lN_mul, lN_add, nI_1]
      exact ih (v + 1) (by omega)
  exact key 21 0 (by omega)
theorem sC_divisor {Q : Int64 → St → Prop} (hρ : Ok ρ) {m n : Nat} (hm : m < 2 ^ 63) (hn : n < 2 ^ 63) (h : Q (lN (Nat.gcd m n)) S) : CALLl g (d + 3) mX7_divisor [.long (lN m), .long (lN n)] ρ ρ S Q := by
  refine eX7_divisor hρ ?_
  have z0 : ∀ i x y, y = 0 → Nat.gcd x y = Nat.gcd m n → AW g ρ (QJ Q) (d + 3) mX7_divisor 9 [(4, .long (lN x)), (6, .long (lN y)), (8, .int (nI i))] [] ρ S := by
    intro i x y hy e
    refine eX7_divisor_9 hρ ?_
    rw [hy, Nat.gcd_zero_right] at e
    rw [hy, e]
    by_cases c : (200 : Int32) ≤ nI i
    · rw [if_pos c]; exact h
    · rw [if_neg c, if_pos (show lN 0 = (0 : Int64) from rfl)]; exact h
  have key : ∀ k i x y, y < 2 ^ k → i + 2 * k ≤ 200 → x < 2 ^ 63 → y < 2 ^ 63 → Nat.gcd x y = Nat.gcd m n → AW g ρ (QJ Q) (d + 3) mX7_divisor 9 [(4, .long (lN x)), (6, .long (lN y)), (8, .int (nI i))] [] ρ S := by
    intro k
    induction k with
    | zero =>
      intro i x y hy hi hx hy2 e
      exact z0 i x y (by have : y < 1 := hy; omega) e
    | succ k ih =>
      intro i x y hy hi hx hy2 e
      by_cases c : y = 0
      · exact z0 i x y c e
      · have hr := Nat.mod_lt x (show 0 < y by omega)
        refine eX7_divisor_9 hρ ?_
        have nz : ∀ w, w ≠ 0 → w < 2 ^ 63 → ¬ lN w = (0 : Int64) := fun w hw hw2 z => hw ((lNeq (n := 0) (by omega) (by omega)).mp z)
        rw [if_neg (show ¬ (200 : Int32) ≤ nI i from nI_ge (b := 200) (by omega) (by omega)), if_neg (nz y c hy2), lNrem hx hy2, nI_1]
        refine ⟨nz y c hy2, ?_⟩
        rw [gcd_st] at e
        by_cases c2 : x % y = 0
        · exact z0 (i + 1) y (x % y) c2 e
        · refine eX7_divisor_9 hρ ?_
          rw [if_neg (show ¬ (200 : Int32) ≤ nI (i + 1) from nI_ge (b := 200) (by omega) (by omega)), if_neg (nz _ c2 (by omega)), lNrem hy2 (by omega), nI_1]
          refine ⟨nz _ c2 (by omega), ?_⟩
          rw [gcd_st] at e
          have hr2 := Nat.mod_lt y (show 0 < x % y by omega)
          refine ih (i + 2) (x % y) (y % (x % y)) ?_ (by omega) (by omega) (by omega) e
          rw [Nat.pow_succ] at hy
          have hd := Nat.div_add_mod y (x % y)
          have h1 : 1 ≤ y / (x % y) := (Nat.one_le_div_iff (by omega)).mpr (by omega)
          have h2 : (x % y) * 1 ≤ (x % y) * (y / (x % y)) := Nat.mul_le_mul_left _ h1
          omega
  exact key 63 0 m n hn (by omega) hm hn rfl
theorem sC_lowest {Q : Int64 → St → Prop} (hρ : Ok ρ) {m n : Nat} (hm : m < 2 ^ 63) (hn : n < 2 ^ 63) (h0 : 0 < n) {x : Int32} (h2 : ¬ vp_in x 2 → Q (-2) S) (h1 : vp_in x 2 → Q (lN (low m n x.toNatClampNeg)) S) : CALLl g (d + 4) mX7_lowest [.long (lN m), .long (lN n), .int x] ρ ρ S Q := by
  have hg2 : Nat.gcd m n ≤ n := Nat.gcd_le_right m h0
  refine eX7_lowest hρ ?_
  have go : vp_in x 2 → AW g ρ (QJ Q) (d + 4) mX7_lowest 15 [(0, .long (lN m)), (2, .long (lN n)), (4, .int x)] [] ρ S := by
    intro hx
    have hk := h1 hx
    refine eX7_lowest_15 hρ ?_
    have hc := vin_cl hx
    unfold low at hk
    by_cases c : x.toNatClampNeg = 0
    · rw [if_pos c] at hk
      rw [if_pos (show x = 0 by rw [vin_eq hx (by omega), c]; rfl)]
      exact sC_divisor hρ hm hn (sC_quotient hρ hm (by omega) hk)
    · rw [if_neg c] at hk
      rw [if_neg (fun z => c (by rw [z]; rfl))]
      exact sC_divisor hρ hm hn (sC_quotient hρ hn (by omega) hk)
  by_cases c0 : x = 0
  · rw [if_pos c0]
    exact go (by rw [c0]; exact vp_in_nI (n := 0) (by omega) (by omega))
  · rw [if_neg c0]
    by_cases c1 : x = 1
    · rw [if_pos c1]
      exact go (by rw [c1]; exact vp_in_nI (n := 1) (by omega) (by omega))
    · rw [if_neg c1]
      refine h2 (fun z => ?_)
      have hc := vin_cl z
      have he := vin_eq z (by omega)
      rcases (show x.toNatClampNeg = 0 ∨ x.toNatClampNeg = 1 by omega) with q | q
      · rw [q] at he; exact c0 he
      · rw [q] at he; exact c1 he
theorem vlu {x : Int32} {n : Nat} (hn : n < 2 ^ 31) : vp_in x n ↔ ¬ x < 0 ∧ ¬ nI n ≤ x := by
  rw [vp_in_iff, fa_lt, fa_le, nI_toInt hn]
  show _ ↔ ¬ x.toInt < 0 ∧ _
  omega
-- the class's own
theorem sC_tables {Q : Int64 → St → Prop} (hρ : Ok ρ) (hW : WF b) (hI : IB b S) (hF : nR b ≠ 0 → WF a ∧ Smp a b ∧ IFb a V S) (h0 : nR b = 0 → Q (-2) S) (h1 : nR b ≠ 0 → Q (lN (KK b).length) S) : CALLl g (d + 4) mX11_tables [.ref 16] ρ ρ S Q := by
  refine eX11_tables hρ (sC_isTold hρ hW hI ?_)
  by_cases c : nR b = 0
  · rw [if_pos c, if_pos rfl]; exact h0 c
  · rw [if_neg c, if_neg (by decide)]
    obtain ⟨f1, f2, f3⟩ := hF c
    refine sC_size hρ f1 (by rw [← f2.1]; exact c) f3 ?_
    rw [← KK_smp f2]
    exact h1 c
theorem sC_weights {Q : Int64 → St → Prop} (hρ : Ok ρ) (hW : WF b) (hI : IB b S) (hF : nR b ≠ 0 → WF a ∧ Smp a b ∧ IFb a V S) (h0 : nR b = 0 → Q (-2) S) (h1 : nR b ≠ 0 → Q (lN (sml (wK b) (KK b))) S) : CALLl g (d + 4) mX11_weights [.ref 16] ρ ρ S Q := by
  refine eX11_weights hρ (sC_isTold hρ hW hI ?_)
  by_cases c : nR b = 0
  · rw [if_pos c, if_pos rfl]; exact h0 c
  · rw [if_neg c, if_neg (by decide)]
    obtain ⟨f1, f2, f3⟩ := hF c
    refine sC_heft hρ f1 (by rw [← f2.1]; exact c) f3 ?_
    have := h1 c
    rw [KK_smp f2, sml_congr (g := wK a) _ (fun p _ => wK_smp f2 p)] at this
    exact this
theorem kOf_smp (h : Smp a b) (x1 x2 : Int32) : kOf b x1 x2 = kOf a x1 x2 := by unfold kOf; rw [h.2.1]
theorem sC_least {Q : Int32 → St → Prop} (hρ : Ok ρ) (hW : WF b) (hI : IB b S) (hF : nR b ≠ 0 → WF a ∧ Smp a b ∧ IFb a V S) {x1 x2 : Int32} (h0 : ¬ (vp_in x1 (nR b) ∧ vp_in x2 (nC b)) → Q (-2) S) (h1 : vp_in x1 (nR b) → vp_in x2 (nC b) → Q (nI (leaV b (kOf b x1 x2))) S) : CALLi g (d + 6) mX11_least [.ref 16, .int x1, .int x2] ρ ρ S Q := by
  have hl := hW.le
  refine eX11_least hρ ?_
  by_cases c : vp_in x1 (nR b) ∧ vp_in x2 (nC b)
  · have hR := vin_R c.1
    obtain ⟨f1, f2, f3⟩ := hF hR
    refine sC_has1 hρ hW hI c.1 c.2 ?_
    rw [if_neg (by decide)]
    have h2 := h1 c.1 c.2
    have c1 := vin_cl c.1
    have c2 := vin_cl c.2
    rw [vin_eq c.1 (by omega), vin_eq c.2 (by omega)]
    refine sC_lowestOf hρ f1 (by rw [← f2.1]; exact hR) f3 (by rw [← f2.1]; exact c1) (by rw [← f2.2.1]; exact c2) ?_
    rw [leaV_smp f2, kOf_smp f2] at h2
    exact h2
  · refine sC_has0 hρ hW hI c ?_
    rw [if_pos rfl]
    exact h0 c
theorem sC_most {Q : Int32 → St → Prop} (hρ : Ok ρ) (hW : WF b) (hI : IB b S) (hF : nR b ≠ 0 → WF a ∧ Smp a b ∧ IFb a V S) {x1 x2 : Int32} (h0 : ¬ (vp_in x1 (nR b) ∧ vp_in x2 (nC b)) → Q (-2) S) (h1 : vp_in x1 (nR b) → vp_in x2 (nC b) → Q (nI (mosV b (kOf b x1 x2))) S) : CALLi g (d + 6) mX11_most [.ref 16, .int x1, .int x2] ρ ρ S Q := by
  have hl := hW.le
  refine eX11_most hρ ?_
  by_cases c : vp_in x1 (nR b) ∧ vp_in x2 (nC b)
  · have hR := vin_R c.1
    obtain ⟨f1, f2, f3⟩ := hF hR
    refine sC_has1 hρ hW hI c.1 c.2 ?_
    rw [if_neg (by decide)]
    have h2 := h1 c.1 c.2
    have c1 := vin_cl c.1
    have c2 := vin_cl c.2
    rw [vin_eq c.1 (by omega), vin_eq c.2 (by omega)]
    refine sC_highestOf hρ f1 (by rw [← f2.1]; exact hR) f3 (by rw [← f2.1]; exact c1) (by rw [← f2.2.1]; exact c2) ?_
    rw [mosV_smp f2, kOf_smp f2] at h2
    exact h2
  · refine sC_has0 hρ hW hI c ?_
    rw [if_pos rfl]
    exact h0 c
theorem sC_having {Q : Int64 → St → Prop} (hρ : Ok ρ) (hW : WF b) (hI : IB b S) (hF : nR b ≠ 0 → WF a ∧ Smp a b ∧ IFb a V S) {x1 x2 x3 : Int32} (h0 : ¬ (vp_in x1 (nR b) ∧ vp_in x2 (nC b) ∧ vp_in x3 21) → Q (-2) S) (h1 : vp_in x1 (nR b) → vp_in x2 (nC b) → vp_in x3 21 → Q (lN (seeK b (kOf b x1 x2) x3.toNatClampNeg)) S) : CALLl g (d + 6) mX11_having [.ref 16, .int x1, .int x2, .int x3] ρ ρ S Q := by
  have hl := hW.le
  refine eX11_having hρ ?_
  by_cases c : vp_in x1 (nR b) ∧ vp_in x2 (nC b)
  · have hR := vin_R c.1
    obtain ⟨f1, f2, f3⟩ := hF hR
    refine sC_has1 hρ hW hI c.1 c.2 ?_
    rw [if_neg (by decide)]
    have c1 := vin_cl c.1
    have c2 := vin_cl c.2
    by_cases c3 : vp_in x3 21
    · have h2 := h1 c.1 c.2 c3
      have c4 := vin_cl c3
      obtain ⟨k1, k2⟩ := (vlu (by omega)).mp c3
      have k3 : x3 ≤ 20 := by
        rw [fa_le] at k2 ⊢
        rw [nI_toInt (by omega)] at k2
        show x3.toInt ≤ 20
        omega
      rw [if_neg k1, if_pos k3, vin_eq c.1 (by omega), vin_eq c.2 (by omega), vin_eq c3 (by omega)]
      refine sC_timesSeen hρ f1 (by rw [← f2.1]; exact hR) f3 (by rw [← f2.1]; exact c1) (by rw [← f2.2.1]; exact c2) (by omega) ?_
      rw [seeK_smp f2, kOf_smp f2] at h2
      exact h2
    · have h2 := h0 (fun z => c3 z.2.2)
      by_cases k1 : x3 < 0
      · rw [if_pos k1]; exact h2
      · rw [if_neg k1, if_neg (fun k2 => c3 ((vlu (by omega)).mpr ⟨k1, fun k3 => ?_⟩))]
        · exact h2
        · rw [fa_le] at k2 k3
          rw [nI_toInt (by omega)] at k3
          have k2 : x3.toInt ≤ 20 := k2
          omega
  · refine sC_has0 hρ hW hI c ?_
    rw [if_pos rfl]
    exact h0 (fun z => c ⟨z.1, z.2.1⟩)
theorem sC_mean {Q : Int64 → St → Prop} (hρ : Ok ρ) (hW : WF b) (hI : IB b S) (hF : nR b ≠ 0 → WF a ∧ Smp a b ∧ IFb a V S) {x1 x2 x3 : Int32} (h0 : ¬ (vp_in x1 (nR b) ∧ vp_in x2 (nC b) ∧ vp_in x3 2) → Q (-2) S) (h1 : vp_in x1 (nR b) → vp_in x2 (nC b) → vp_in x3 2 → Q (lN (low (mnS (seeK b (kOf b x1 x2)) 21) (KK b).length x3.toNatClampNeg)) S) : CALLl g (d + 6) mX11_mean [.ref 16, .int x1, .int x2, .int x3] ρ ρ S Q := by
  have hl := hW.le
  refine eX11_mean hρ ?_
  by_cases c : vp_in x1 (nR b) ∧ vp_in x2 (nC b)
  · have hR := vin_R c.1
    obtain ⟨f1, f2, f3⟩ := hF hR
    have hRa : nR a ≠ 0 := by rw [← f2.1]; exact hR
    refine sC_has1 hρ hW hI c.1 c.2 ?_
    rw [if_neg (by decide)]
    have c1 := vin_cl c.1
    have c2 := vin_cl c.2
    have h3 := h1 c.1 c.2
    rw [seeK_smp f2, kOf_smp f2, KK_smp f2] at h3
    have h3' : vp_in x3 2 → Q (lN (low (mnS (seeK a (x1.toNatClampNeg * nC a + x2.toNatClampNeg)) 21) (KK a).length x3.toNatClampNeg)) S := h3
    rw [vin_eq c.1 (by omega), vin_eq c.2 (by omega)]
    refine sC_sumSeenQ hρ f1 hRa f3 (by rw [← f2.1]; exact c1) (by rw [← f2.2.1]; exact c2) (sC_size hρ f1 hRa f3 ?_)
    have b1 := mnS_le (fun v => seeK_lt f1 hRa (x1.toNatClampNeg * nC a + x2.toNatClampNeg) v) 21 (by omega)
    have b2 := KK_len2 f1 hRa
    exact sC_lowest hρ (by omega) (by omega) (KK_nil f1 hRa) (fun z => h0 (fun q => z q.2.2)) h3'
  · refine sC_has0 hρ hW hI c ?_
    rw [if_pos rfl]
    exact h0 (fun z => c ⟨z.1, z.2.1⟩)
theorem sC_evenWords {Q : Int64 → St → Prop} (hρ : Ok ρ) (hW : WF a) (hR : nR a ≠ 0) (hF : IFb a V S) (h : Q (lN (1073741824 / (KK a).length)) S) : CALLl g (d + 4) mX11_evenWords [.ref 16] ρ ρ S Q := by
  refine eX11_evenWords hρ (sC_size hρ hW hR hF ?_)
  have := KK_len2 hW hR
  exact sC_quotient (m := 1073741824) hρ (by omega) (by omega) h
theorem sC_evenly {Q : Int32 → St → Prop} (hρ : Ok ρ) (hW : WF b) (hI : IB b S) (hF : nR b ≠ 0 → WF a ∧ Smp a b ∧ IFb a V S) (h0 : nR b = 0 → Q (-2) S) (h1 : nR b ≠ 0 → Q (nI (1073741824 / (KK b).length)) S) : CALLi g (d + 5) mX11_evenly [.ref 16] ρ ρ S Q := by
  refine eX11_evenly hρ (sC_isTold hρ hW hI ?_)
  by_cases c : nR b = 0
  · rw [if_pos c, if_pos rfl]; exact h0 c
  · rw [if_neg c, if_neg (by decide)]
    obtain ⟨f1, f2, f3⟩ := hF c
    refine sC_evenWords hρ f1 (by rw [← f2.1]; exact c) f3 ?_
    rw [lN_i, ← KK_smp f2]
    exact h1 c
theorem sC_drawn {Q : Int64 → St → Prop} (hρ : Ok ρ) (hW : WF b) (hI : IB b S) (hF : nR b ≠ 0 → WF a ∧ Smp a b ∧ IFb a V S) {x1 : Int32} (h0 : ¬ (nR b ≠ 0 ∧ vp_in x1 1073741824) → Q (-2) S) (h1 : nR b ≠ 0 → vp_in x1 1073741824 → Q (dwV b x1.toNatClampNeg) S) : CALLl g (d + 5) mX11_drawn [.ref 16, .int x1] ρ ρ S Q := by
  refine eX11_drawn hρ (sC_isTold hρ hW hI ?_)
  by_cases c : nR b = 0
  · rw [if_pos c, if_pos rfl]; exact h0 (fun z => z.1 c)
  · rw [if_neg c, if_neg (by decide)]
    obtain ⟨f1, f2, f3⟩ := hF c
    have hRa : nR a ≠ 0 := by rw [← f2.1]; exact c
    by_cases c3 : vp_in x1 1073741824
    · have c4 := vin_cl c3
      have h3 := h1 c c3
      unfold dwV at h3
      rw [KK_smp f2] at h3
      obtain ⟨k1, k2⟩ := (vlu (by omega)).mp c3
      have k3 : x1 < 1073741824 := by
        rw [fa_le, nI_toInt (by omega)] at k2
        rw [fa_lt]
        show x1.toInt < 1073741824
        omega
      rw [if_neg k1, if_pos k3]
      have hl := KK_len2 f1 hRa
      have hp := KK_nil f1 hRa
      refine sC_size hρ f1 hRa f3 ?_
      have ez : lN (KK a).length ≤ (0 : Int64) ↔ (KK a).length ≤ 0 := lNle (n := 0) (by omega) (by omega)
      rw [if_neg (fun z => by have := ez.mp z; omega)]
      refine sC_evenWords hρ f1 hRa f3 ?_
      rw [vin_eq c3 (by omega), nI_l (by omega)]
      generalize (KK a).length = n at hl hp h3
      generalize x1.toNatClampNeg = w at c4 h3
      have e2 : 1073741824 / n * n ≤ 1073741824 := Nat.div_mul_le_self _ _
      rw [lN_mul]
      by_cases cw : w < 1073741824 / n * n
      · rw [if_pos cw] at h3
        rw [if_pos ((lNlt (by omega) (by omega)).mpr cw), lNrem (by omega) (by omega)]
        exact ⟨fun z => by have := (lNeq (n := 0) (by omega) (by omega)).mp z; omega, h3⟩
      · rw [if_neg cw] at h3
        rw [if_neg (fun z => cw ((lNlt (by omega) (by omega)).mp z))]
        exact h3
    · have h2 := h0 (fun z => c3 z.2)
      by_cases k1 : x1 < 0
      · rw [if_pos k1]; exact h2
      · rw [if_neg k1, if_neg (fun k2 => c3 ((vlu (by omega)).mpr ⟨k1, fun k3 => ?_⟩))]
        · exact h2
        · rw [fa_lt] at k2
          rw [fa_le, nI_toInt (by omega)] at k3
          have k2 : x1.toInt < 1073741824 := k2
          omega
end QY
