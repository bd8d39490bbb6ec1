def pr2 (y : Nat) (L : List Nat) : List (Nat × Nat) := L.map (fun l => (y, l))
theorem pr2_app (y : Nat) (L M : List Nat) : pr2 y (L ++ M) = pr2 y L ++ pr2 y M := List.map_append
theorem pr2_len (y : Nat) (L : List Nat) : (pr2 y L).length = L.length := List.length_map _
/-- the lines of the first rows -/
def FA (a : AS) : Nat → List (Nat × Nat)
  | 0 => []
  | n + 1 => FA a n ++ pr2 n (LL a n)
theorem FA_mono (a : AS) {m : Nat} : ∀ n, m ≤ n → (FA a m).length ≤ (FA a n).length
  | 0, h => by rw [show m = 0 by omega]; exact Nat.le_refl _
  | n + 1, h => by
    by_cases c : m = n + 1
    · rw [c]; exact Nat.le_refl _
    · have := FA_mono a (m := m) n (by omega)
      show _ ≤ (FA a n ++ pr2 n (LL a n)).length
      rw [List.length_append]
      omega
section LY
variable {g : GX} {d : Nat} {ρ : Rs} {S : St} {a : AS}
theorem IB.ff {S S' : St} (hI : IB a S) (f : Fr (fun k => k = 32 ∨ FFil k) S S') : IB a S' := hI.fr (fun k hk z => by unfold FFil at z; omega) f
theorem sC_putInLine {Q : Int32 → St → Prop} (hρ : Ok ρ) {l0 x v : Nat} (hl : l0 < 65536) (hm : l0 % 16 ^ (4 - x) = 0) (hx : x < 4) (hv : v < 16) (h : Q (nI (l0 + v * 16 ^ (3 - x))) S) : CALLi g (d + 3) mX3_putInLine [.int (nI l0), .int (nI x), .int (nI v)] ρ ρ S Q := by
  refine eX3_putInLine hρ ?_
  have e : (4 : Int32) * (3 - nI x) = nI (4 * (3 - x)) := by
    show nI 4 * (nI 3 - nI x) = _
    rw [pk_sub (by omega), pk_mul]
  have p1 : (16 : Nat) ^ (3 - x) = 2 ^ (4 * (3 - x)) := by rw [Nat.pow_mul]
  have p2 : (16 : Nat) ^ (4 - x) = 2 ^ (4 * (4 - x)) := by rw [Nat.pow_mul]
  have hp : v * 2 ^ (4 * (3 - x)) < 2 ^ (4 * (4 - x)) := by
    rw [show 4 * (4 - x) = 4 * (3 - x) + 4 by omega, Nat.pow_add, Nat.mul_comm]
    exact Nat.mul_lt_mul_of_pos_left hv (Nat.two_pow_pos _)
  have hp2 : 2 ^ (4 * (4 - x)) ≤ 2 ^ 16 := Nat.pow_le_pow_right (by decide) (by omega)
  have hq : l0 = 2 ^ (4 * (4 - x)) * (l0 / 2 ^ (4 * (4 - x))) := by
    have := Nat.div_add_mod l0 (2 ^ (4 * (4 - x)))
    rw [p2] at hm
    omega
  rw [e, pk_shlN _ _ (s_l (4 * (3 - x)) (by omega)) (by omega)]
  rw [p1] at h
  rw [hq, fa_or_sum _ hp, ← hq]
  exact h
theorem sC_lay (hρ : Ok ρ) (hF : ∀ k ∈ ([32, 34, 35, 36, 38, 39, 40, 41] : List Nat), gF g k) (hW : WF a) (hR : nR a ≠ 0) {y : Nat} (hy : y < nR a) : ∀ n x l0 (L : List (Nat × Nat)) S (Q : St → Prop), n + x = nC a → PL a y x l0 → IB a S → FI a L S → L.length + (subL a y x l0).length ≤ 320 → (∀ S', FI a (L ++ pr2 y (subL a y x l0)) S' → Fr (fun k => k = 32 ∨ FFil k) S S' → Q S') → CALLv g (n + d + 5) mX2_lay [.ref 32, .ref 21, .int (nI y), .int (nI x), .int (nI (rsum (cel a) y - s4 (dg l0))), .int (nI l0)] ρ ρ S Q := by
  have hle := hW.le
  have ht := hW.told hR
  have hs := ht.sums
  have hr := hs.1 y
  obtain ⟨t1, t2, t3, t4, -, -, -, -, t9, -, -⟩ := ht
  intro n
  induction n with
  | zero =>
    intro x l0 L S Q hn hP hI hFI hcap hQ
    have es := subL_end hle.2.1 (show x = nC a by omega) hP
    have hm : l0 ∈ LL a y := by
      have : l0 ∈ subL a y x l0 := by rw [es]; simp
      exact (subL_mem.mp this).1
    rw [es] at hQ hcap
    refine eX2_lay hρ ?_
    rw [if_neg (show ¬ nI x < (0 : Int32) from nI_nlt (b := 0) (by omega) (by omega)), hI.2.2.2.2.2.1, if_pos (nI_le (by omega) (by omega))]
    refine sC_keep hρ hF hW hR hI hy hm (by have : L.length + 1 ≤ 320 := hcap; omega) hFI hQ
  | succ n ih =>
    intro x l0 L S Q hn hP hI hFI hcap hQ
    have hsl := hP.2.2.2.1
    have hsplit := subL_split (show x < 4 by omega) hP
    have t9' := t9 y x
    have loop : ∀ m v M0 S1 top, m + v = 16 → top < 16 → (∀ w, top < w → ¬ okW a y x l0 w) → (∀ w, v ≤ w → w ≤ top → okW a y x l0 w) → FI a (L ++ pr2 y M0) S1 → Fr (fun k => k = 32 ∨ FFil k) S S1 → M0 ++ upF (fun v => if v < 16 then subL a y (x + 1) (l0 + v * 16 ^ (3 - x)) else []) m v = subL a y x l0 → AW g ρ (QV Q) (n + d + 6) mX2_lay 69 [(0, .ref 32), (1, .ref 21), (2, .int (nI y)), (3, .int (nI x)), (4, .int (nI (rsum (cel a) y - s4 (dg l0)))), (5, .int (nI l0)), (6, .int (nI top)), (7, .int (nI v))] [] ρ S1 := by
      intro m
      induction m with
      | zero =>
        intro v M0 S1 top hm htop _ _ h1 h2 h3
        refine eX2_lay_69 hρ ?_
        rw [if_pos (nI_lt (by omega) (by omega))]
        rw [show upF (fun v => if v < 16 then subL a y (x + 1) (l0 + v * 16 ^ (3 - x)) else []) 0 v = [] from rfl, List.append_nil] at h3
        rw [h3] at h1
        exact hQ S1 h1 h2
      | succ m ihm =>
        intro v M0 S1 top hm htop hno hok h1 h2 h3
        refine eX2_lay_69 hρ ?_
        by_cases cv : top < v
        · rw [if_pos (nI_lt (by omega) (by omega))]
          rw [upF_nil (m + 1) v (fun w hw => ?_), List.append_nil] at h3
          · rw [h3] at h1
            exact hQ S1 h1 h2
          · by_cases cw : w < 16
            · rw [if_pos cw]
              exact List.eq_nil_iff_forall_not_mem.mpr fun p hp => hno w (by omega) (subL_ok hle.2.1 (by omega) hP cw hp)
            · rw [if_neg cw]
        · rw [if_neg (by rw [nI_ltI (by omega) (by omega)]; exact cv)]
          have okv := hok v (by omega) (by omega)
          have hn2 := hP.next hle.2.1 (show x < nC a by omega) (show v < 16 by omega) okv
          refine sC_putInLine hρ hP.1 hP.2.1 (by omega) (by omega) ?_
          rw [nI_1, nI_1, pk_sub (by have := okv.2.1; omega)]
          have es : s4 (dg (l0 + v * 16 ^ (3 - x))) = s4 (dg l0) + v := s4_put (f := dg l0) (by omega) (hP.zero (Nat.le_refl _)) (fun j hj => dg_put (by omega) hP.1 hP.2.1 (by omega) hj)
          have h3' : M0 ++ (subL a y (x + 1) (l0 + v * 16 ^ (3 - x)) ++ upF (fun v => if v < 16 then subL a y (x + 1) (l0 + v * 16 ^ (3 - x)) else []) m (v + 1)) = subL a y x l0 := by
            rw [← h3]
            show _ = M0 ++ ((if v < 16 then subL a y (x + 1) (l0 + v * 16 ^ (3 - x)) else []) ++ _)
            rw [if_pos (show v < 16 by omega)]
          have hlen := congrArg List.length h3'
          rw [List.length_append, List.length_append] at hlen
          rw [show rsum (cel a) y - s4 (dg l0) - v = rsum (cel a) y - s4 (dg (l0 + v * 16 ^ (3 - x))) by rw [es]; omega]
          refine ih (x + 1) (l0 + v * 16 ^ (3 - x)) (L ++ pr2 y M0) S1 _ (by omega) hn2 (hI.ff h2) h1 (by rw [List.length_append, pr2_len]; omega) (fun S2 k1 k2 => ?_)
          refine ihm (v + 1) (M0 ++ subL a y (x + 1) (l0 + v * 16 ^ (3 - x))) S2 top (by omega) htop hno (fun w w1 w2 => hok w (by omega) w2) ?_ (Fr.tr h2 k2) ?_
          · rw [pr2_app, ← List.append_assoc]; exact k1
          · rw [List.append_assoc]; exact h3'
    have enter : ∀ lo top, lo ≤ 20 → top < 16 → (∀ w, top < w → ¬ okW a y x l0 w) → (∀ w, w < lo → ¬ okW a y x l0 w) → (∀ w, lo ≤ w → w ≤ top → okW a y x l0 w) → AW g ρ (QV Q) (n + d + 6) mX2_lay 69 [(0, .ref 32), (1, .ref 21), (2, .int (nI y)), (3, .int (nI x)), (4, .int (nI (rsum (cel a) y - s4 (dg l0)))), (5, .int (nI l0)), (6, .int (nI top)), (7, .int (nI lo))] [] ρ S := by
      intro lo top hlo htop hno hb hok
      have emp : ∀ w, (w < lo ∨ top < w) → (fun v => if v < 16 then subL a y (x + 1) (l0 + v * 16 ^ (3 - x)) else []) w = [] := by
        intro w hw
        show (if w < 16 then subL a y (x + 1) (l0 + w * 16 ^ (3 - x)) else []) = []
        by_cases cw : w < 16
        · rw [if_pos cw]
          refine List.eq_nil_iff_forall_not_mem.mpr fun p hp => ?_
          have ok := subL_ok hle.2.1 (by omega) hP cw hp
          rcases hw with hw | hw
          · exact hb w hw ok
          · exact hno w hw ok
        · rw [if_neg cw]
      by_cases cl : lo ≤ 16
      · refine loop (16 - lo) lo [] S top (by omega) htop hno hok ?_ (Fr.rf S) ?_
        · rw [show pr2 y [] = [] from rfl, List.append_nil]; exact hFI
        · rw [List.nil_append, hsplit]
          have z := upF_skip (f := fun v => if v < 16 then subL a y (x + 1) (l0 + v * 16 ^ (3 - x)) else []) lo (16 - lo) 0 (fun w _ h2 => emp w (Or.inl (by omega)))
          rw [show lo + (16 - lo) = 16 by omega, Nat.zero_add] at z
          exact z.symm
      · refine eX2_lay_69 hρ ?_
        rw [if_pos (nI_lt (by omega) (by omega))]
        refine hQ S ?_ (Fr.rf S)
        rw [hsplit, upF_nil 16 0 (fun w _ => emp w (by omega)), show pr2 y [] = [] from rfl, List.append_nil]
        exact hFI
    rw [show n + 1 + d + 5 = n + d + 6 by omega]
    refine eX2_lay hρ ?_
    have hC1 : S.1 21 1 = nI (nC a) := hI.2.2.2.2.2.1
    have eC : nI (nC a) - 1 = nI (nC a - 1) := pk_sub (b := 1) (by omega)
    rw [if_neg (show ¬ nI x < (0 : Int32) from nI_nlt (b := 0) (by omega) (by omega)), hC1, if_neg (nI_ge (by omega) (by omega)), if_pos (show nI x < (4 : Int32) from nI_lt (b := 4) (by omega) (by omega))]
    refine sC_isHole hρ hI (show y < 4 by omega) (show x < 4 by omega) ?_
    rw [hC1, eC, nI_clamp (show x < 2 ^ 31 by omega), hI.2.2.2.2.2.2.2.2.2.2.1 x (by omega)]
    cases ch : hol a y x with
    | true =>
      rw [if_neg (by decide)]
      have no0 : ∀ w, 0 < w → ¬ okW a y x l0 w := by
        intro w hw ok
        rcases ok.1.2 with q | q
        · omega
        · rw [ch] at q; exact absurd q.2 (by decide)
      by_cases cx : x + 1 = nC a
      · rw [if_pos (by rw [show x = nC a - 1 by omega])]
        refine enter _ 0 (by omega) (by omega) no0 (fun w hw ok => ?_) (fun w w1 w2 => ?_)
        · have := ok.2.2 cx; omega
        · rw [show w = 0 by omega]
          exact ⟨⟨Nat.zero_le _, Or.inl rfl⟩, by omega, fun _ => by omega⟩
      · rw [if_neg (by rw [nI_eq (by omega) (by omega)]; omega)]
        refine enter 0 0 (by omega) (by omega) no0 (fun w hw => absurd hw (by omega)) (fun w w1 w2 => ?_)
        rw [show w = 0 by omega]
        exact ⟨⟨Nat.zero_le _, Or.inl rfl⟩, by omega, fun z => absurd z cx⟩
    | false =>
      rw [if_pos (show (if false = true then (1 : Int32) else 0) = 0 from rfl)]
      have hsc := hs.2 x
      have emin : (if nI (csum (cel a) x) < nI (rsum (cel a) y - s4 (dg l0)) then nI (csum (cel a) x) else nI (rsum (cel a) y - s4 (dg l0))) = nI (min (csum (cel a) x) (rsum (cel a) y - s4 (dg l0))) := by
        by_cases c : csum (cel a) x < rsum (cel a) y - s4 (dg l0)
        · rw [if_pos (nI_lt c (by omega)), Nat.min_eq_left (by omega)]
        · rw [if_neg (by rw [nI_ltI (by omega) (by omega)]; exact c), Nat.min_eq_right (by omega)]
      rw [emin]
      refine ⟨vp_in_nI (by omega) (by omega), ?_⟩
      have nomax : ∀ w, min (csum (cel a) x) (rsum (cel a) y - s4 (dg l0)) < w → ¬ okW a y x l0 w := by
        intro w hw ok
        have := ok.1.1
        have := ok.2.1
        omega
      by_cases cx : x + 1 = nC a
      · rw [if_pos (by rw [show x = nC a - 1 by omega])]
        refine enter _ _ (by omega) (by omega) nomax (fun w hw ok => ?_) (fun w w1 w2 => ?_)
        · have := ok.2.2 cx; omega
        · exact ⟨⟨by omega, Or.inr ⟨by omega, ch⟩⟩, by omega, fun _ => by omega⟩
      · rw [if_neg (by rw [nI_eq (by omega) (by omega)]; omega)]
        refine enter 0 _ (by omega) (by omega) nomax (fun w hw => absurd hw (by omega)) (fun w w1 w2 => ?_)
        exact ⟨⟨by omega, Or.inr ⟨by omega, ch⟩⟩, by omega, fun z => absurd z cx⟩
theorem sC_setStrides {Q : St → Prop} (hρ : Ok ρ) (hF : ∀ k ∈ ([42] : List Nat), gF g k) (hW : WF a) (hI : IB a S) (h : ∀ S', (∀ x, x < 4 → S'.1 42 x = nI (strd a x)) → Fr (fun k => k = 42) S S' → Q S') : CALLv g (d + 4) mX2_setStrides [.ref 32, .ref 21] ρ ρ S Q := by
  have hle := hW.le
  refine eX2_setStrides hρ ?_
  refine sJ_fill (n := 4) hρ (by decide) (by decide) rfl (by decide) (hF 42 (by simp)) (fun S0 z1 z2 z3 => ?_)
  have key : ∀ n x S1, n + x = 4 → Fr (fun k => k = 42) S S1 → (∀ j, j < x → S1.1 42 j = nI (strd a j)) → (∀ j, x ≤ j → j < 4 → S1.1 42 j = 0) → (x < nC a ∨ x = 0) → AW g ρ (QV Q) (d + 4) mX2_setStrides 12 [(0, .ref 32), (1, .ref 21), (2, .int (nI (stS a x))), (3, .int (nI x))] [] ρ S1 := by
    intro n
    induction n with
    | zero =>
      intro x S1 hn h1 h2 h3 h4
      omega
    | succ n ih =>
      intro x S1 hn h1 h2 h3 h4
      have hI1 : IB a S1 := hI.fr (fun k hk z => by omega) h1
      refine eX2_setStrides_12 hρ hF ?_
      have hC1 : S1.1 21 1 = nI (nC a) := hI1.2.2.2.2.2.1
      by_cases c0 : nC a = 0
      · have eC : S1.1 21 1 - 1 = -1 := by rw [hC1, c0]; rfl
        rw [eC, show x = 0 by omega, if_pos (by decide)]
        refine h S1 (fun j hj => ?_) h1
        rw [h3 j (by omega) hj]
        unfold strd
        rw [if_neg (by omega)]
        rfl
      · have eC : nI (nC a) - 1 = nI (nC a - 1) := pk_sub (b := 1) (by omega)
        rw [hC1, eC]
        by_cases c : x + 1 < nC a
        · rw [if_neg (nI_ge (by omega) (by omega)), if_neg (show ¬ (4 : Int32) ≤ nI x from nI_ge (b := 4) (by omega) (by omega)), nI_clamp (show x < 2 ^ 31 by omega), hI1.2.2.2.2.2.2.2.2.2.2.1 x (by omega), nI_1, nI_1, pk_mul]
          refine ⟨vp_in_nI (by omega) (by omega), vp_in_nI (by omega) (by omega), ?_⟩
          refine ih (x + 1) _ (by omega) (Fr.tr h1 (Fr.setI (F := fun k => k = 42) _ _ _ rfl)) (fun j hj => ?_) (fun j h5 h6 => ?_) (Or.inl c)
          · rw [setI_at]
            by_cases cj : j = x
            · rw [if_pos ⟨rfl, cj⟩, cj]
              unfold strd
              rw [if_pos c]
            · rw [if_neg (fun z => cj z.2)]; exact h2 j (by omega)
          · rw [setI_at, if_neg (by omega)]; exact h3 j (by omega) h6
        · rw [if_pos (nI_le (by omega) (by omega))]
          refine h S1 (fun j hj => ?_) h1
          by_cases cj : j < x
          · exact h2 j cj
          · rw [h3 j (by omega) hj]
            unfold strd
            rw [if_neg (by omega)]
            rfl
  exact key 4 0 S0 (by omega) z2 (fun j hj => absurd hj (by omega)) (fun j _ hj => z1 j hj) (Or.inr rfl)
theorem sC_setScale {Q : St → Prop} (hρ : Ok ρ) (hF : ∀ k ∈ ([32] : List Nat), gF g k) (hW : WF a) (hR : nR a ≠ 0) (hI : IB a S) (h : ∀ S', S'.2 32 6 = lN (scl a) → Fr (fun k => k = 32) S S' → Q S') : CALLv g (d + 4) mX2_setScale [.ref 32, .ref 21] ρ ρ S Q := by
  have hs := (hW.told hR).sums
  refine eX2_setScale hρ hF ?_
  have key : ∀ n x S1, n + x = 4 → Fr (fun k => k = 32) S S1 → S1.2 32 6 = lN (pdS (rsum (cel a)) x * pdS (csum (cel a)) x) → AW g ρ (QV Q) (d + 4) mX2_setScale 7 [(0, .ref 32), (1, .ref 21), (2, .int (nI x))] [] ρ S1 := by
    intro n
    induction n with
    | zero =>
      intro x S1 hn h1 h2
      refine eX2_setScale_7 hρ hF ?_
      rw [show x = 4 by omega] at *
      rw [if_pos (by decide)]
      exact h S1 h2 h1
    | succ n ih =>
      intro x S1 hn h1 h2
      have hI1 : IB a S1 := hI.fr (fun k hk z => by omega) h1
      have b1 := hs.1 x
      have b2 := hs.2 x
      refine eX2_setScale_7 hρ hF ?_
      rw [if_neg (show ¬ (4 : Int32) ≤ nI x from nI_ge (b := 4) (by omega) (by omega)), nI_clamp (show x < 2 ^ 31 by omega), hI1.2.2.2.2.2.2.2.2.2.1 x (by omega), hI1.2.2.2.2.2.2.2.2.2.2.1 x (by omega), mx1 (by omega), mx1 (by omega), h2, lN_mul, lN_mul, nI_1]
      refine ⟨vp_in_nI (by omega) (by omega), vp_in_nI (by omega) (by omega), ih (x + 1) _ (by omega) (Fr.tr h1 (Fr.tr (Fr.setL (F := fun k => k = 32) _ _ _ rfl) (Fr.setL (F := fun k => k = 32) _ _ _ rfl))) ?_⟩
      rw [setL_at, if_pos ⟨rfl, rfl⟩]
      congr 1
      show _ = pdS (rsum (cel a)) x * max 1 (rsum (cel a) x) * (pdS (csum (cel a)) x * max 1 (csum (cel a) x))
      simp only [Nat.mul_assoc, Nat.mul_comm, Nat.mul_left_comm]
  exact key 4 0 _ (by omega) (Fr.setL (F := fun k => k = 32) _ _ _ rfl) (by rw [setL_at, if_pos ⟨rfl, rfl⟩]; rfl)
def Fmk (k : Nat) : Prop := k = 32 ∨ k = 33 ∨ k = 42 ∨ FFil k
/-- the fills stand in the store -/
def FIs (a : AS) (S : St) : Prop := FI a (FA a (nR a)) S ∧ ∀ y, y ≤ nR a → S.1 33 y = nI (FA a y).length
theorem PL0 (hW : WF a) (hR : nR a ≠ 0) (y : Nat) : PL a y 0 0 := by
  have hC : 2 ≤ nC a := (hW.told hR).2.2.1
  have e : ∀ j, dg 0 j = 0 := by
    intro j
    unfold dg
    split
    · rw [Nat.zero_div]
    · rfl
  have e4 : s4 (dg 0) = 0 := by unfold s4; rw [e, e, e, e]
  refine ⟨by omega, by rw [Nat.zero_mod], fun j hj => ?_, by rw [e4]; exact Nat.zero_le _, fun z => absurd z (by omega)⟩
  rw [e]
  exact ⟨Nat.zero_le _, Or.inl rfl⟩
theorem sC_fills {Q : St → Prop} (hρ : Ok ρ) (hF : ∀ k ∈ ([32, 33, 34, 35, 36, 38, 39, 40, 41, 42] : List Nat), gF g k) (hW : WF a) (hR : nR a ≠ 0) (hI : IB a S) (hcap : (FA a (nR a)).length ≤ 320) (h : ∀ S', FIs a S' → Fr Fmk S S' → Q S') : CALLv g (d + 10) mX2_make [.ref 32, .ref 21] ρ ρ S Q := by
  have hle := hW.le
  have hF1 : ∀ k ∈ ([32] : List Nat), gF g k := fun k hk => hF k (by simp at hk; simp [hk])
  have hF3 : ∀ k ∈ ([33] : List Nat), gF g k := fun k hk => hF k (by simp at hk; simp [hk])
  have hF42 : ∀ k ∈ ([42] : List Nat), gF g k := fun k hk => hF k (by simp at hk; simp [hk])
  have hF8 : ∀ k ∈ ([32, 34, 35, 36, 38, 39, 40, 41] : List Nat), gF g k := fun k hk => hF k (by simp at hk; rcases hk with h | h | h | h | h | h | h | h <;> simp [h])
  have hIm : ∀ {S'}, Fr Fmk S S' → IB a S' := fun f => hI.fr (fun k hk z => by unfold Fmk FFil at z; omega) f
  refine eX2_make hρ hF1 ?_
  refine sC_setStrides hρ hF42 hW hI (fun S1 a1 a2 => ?_)
  have m1 : Fr Fmk S S1 := a2.mono (fun k hk => Or.inr (Or.inr (Or.inl hk)))
  refine sC_setScale hρ hF1 hW hR (hIm m1) (fun S2 b1 b2 => ?_)
  have m2 : Fr Fmk S S2 := m1.tr (b2.mono (fun k hk => Or.inl hk))
  have key : ∀ n y S3, n + y = nR a → Fr Fmk S S3 → FI a (FA a y) S3 → (∀ j, j ≤ y → (y ≠ 0 ∨ j < y) → S3.1 33 j = nI (FA a j).length) → AW g ρ (QV Q) (d + 9 + 1) mX2_make 17 [(0, .ref 32), (1, .ref 21), (2, .int (nI y))] [] ρ S3 := by
    intro n
    induction n with
    | zero =>
      intro y S3 hn f3 h1 h2
      have hI3 := hIm f3
      refine eX2_make_17 hρ hF3 ?_
      rw [hI3.2.2.2.2.1, if_pos (nI_le (by omega) (by omega))]
      rw [show y = nR a by omega] at h1 h2
      exact h S3 ⟨h1, fun j hj => h2 j hj (Or.inl hR)⟩ f3
    | succ n ih =>
      intro y S3 hn f3 h1 h2
      have hI3 := hIm f3
      refine eX2_make_17 hρ hF3 ?_
      rw [hI3.2.2.2.2.1, if_neg (nI_ge (by omega) (by omega)), if_neg (show ¬ (4 : Int32) ≤ nI y from nI_ge (b := 4) (by omega) (by omega)), nI_clamp (show y < 2 ^ 31 by omega), h1.1, hI3.2.2.2.2.2.2.2.2.2.1 y (by omega), nI_1, nI_clamp (show y + 1 < 2 ^ 31 by omega)]
      refine ⟨vp_in_nI (by omega) (by omega), vp_in_nI (by omega) (by omega), ?_⟩
      have f4 : Fr Fmk S (setI S3 33 y (nI (FA a y).length)) := f3.tr (Fr.setI (F := Fmk) _ _ _ (Or.inr (Or.inl rfl)))
      have h1' : FI a (FA a y) (setI S3 33 y (nI (FA a y).length)) := by
        unfold FI fillAt
        rw [setI_ne _ _ _ (by decide), setI_ne _ _ _ (by decide), setI_L, setI_ne _ _ _ (by decide), setI_ne _ _ _ (by decide), setI_ne _ _ _ (by decide)]
        exact h1
      have e4 : s4 (dg 0) = 0 := by decide
      have hlen := FA_mono a (m := y + 1) (nR a) (by omega)
      have hln : (FA a (y + 1)).length = (FA a y).length + (LL a y).length := by
        show (FA a y ++ pr2 y (LL a y)).length = _
        rw [List.length_append, pr2_len]
      have lay := sC_lay (d := d + (4 - nC a)) hρ hF8 hW hR (show y < nR a by omega) (nC a) 0 0 (FA a y) (setI S3 33 y (nI (FA a y).length)) (fun S1 => vp_in (nI (y + 1)) 5 ∧ (AW g ρ (QV Q) (d + 9 + 1) mX2_make 17 [(0, .ref 32), (1, .ref 21), (2, .int (nI (y + 1)))] [] ρ (setI S1 33 (y + 1) (S1.1 32 7)))) (by omega) (PL0 hW hR y) (hIm f4) h1' (by rw [subL_all]; omega) (fun S5 k1 k2 => ?_)
      · rw [e4, Nat.sub_zero, show nC a + (d + (4 - nC a)) + 5 = d + 9 by omega] at lay
        exact lay
      · rw [subL_all] at k1
        have k1 : FI a (FA a (y + 1)) S5 := k1
        have f5 : Fr Fmk S S5 := f4.tr (k2.mono (fun k hk => by unfold Fmk; rcases hk with hk | hk <;> simp [hk]))
        refine ⟨vp_in_nI (by omega) (by omega), ?_⟩
        rw [k1.1]
        refine ih (y + 1) _ (by omega) (f5.tr (Fr.setI (F := Fmk) _ _ _ (Or.inr (Or.inl rfl)))) ?_ (fun j hj _ => ?_)
        · unfold FI fillAt
          rw [setI_ne _ _ _ (by decide), setI_ne _ _ _ (by decide), setI_L, setI_ne _ _ _ (by decide), setI_ne _ _ _ (by decide), setI_ne _ _ _ (by decide)]
          exact k1
        · rw [setI_at]
          by_cases c : j = y + 1
          · rw [if_pos ⟨rfl, c⟩, c]
          · rw [if_neg (fun z => c z.2), (k2 33 (fun z => by unfold FFil at z; omega)).1, setI_at]
            by_cases c2 : j = y
            · rw [if_pos ⟨rfl, c2⟩, c2]
            · rw [if_neg (fun z => c2 z.2)]
              exact h2 j (by omega) (Or.inr (by omega))
  have m3 : Fr Fmk S (setI S2 32 7 0) := m2.tr (Fr.setI (F := Fmk) _ _ _ (Or.inl rfl))
  refine key (nR a) 0 _ (by omega) m3 ⟨?_, ?_, fun x hx => ?_, fun i hi => absurd hi (by simp [FA])⟩ (fun j hj q => ?_)
  · rw [setI_at, if_pos ⟨rfl, rfl⟩]; rfl
  · rw [setI_L]; exact b1
  · rw [setI_ne _ _ _ (by decide), (b2 42 (by omega)).1]; exact a1 x hx
  · omega
end LY
