-- THE CLASS'S FIBER: nodes and links
def off (V : Nat → List Nat) : Nat → Nat
  | 0 => 0
  | y + 1 => off V y + (V y).length
def lof (a : AS) (V : Nat → List Nat) : Nat → Nat
  | 0 => 0
  | y + 1 => lof a V y + LC a y (V y)
theorem off_congr {V V' : Nat → List Nat} : ∀ y, (∀ j, j < y → V' j = V j) → off V' y = off V y
  | 0, _ => rfl
  | y + 1, h => by
    show off V' y + (V' y).length = off V y + (V y).length
    rw [off_congr y (fun j hj => h j (by omega)), h y (by omega)]
theorem lof_congr {a : AS} {V V' : Nat → List Nat} : ∀ y, (∀ j, j < y → V' j = V j) → lof a V' y = lof a V y
  | 0, _ => rfl
  | y + 1, h => by
    show lof a V' y + LC a y (V' y) = lof a V y + LC a y (V y)
    rw [lof_congr y (fun j hj => h j (by omega)), h y (by omega)]
theorem off_mono (V : Nat → List Nat) {i : Nat} : ∀ j, i ≤ j → off V i ≤ off V j
  | 0, h => by rw [show i = 0 by omega]; exact Nat.le_refl _
  | j + 1, h => by
    by_cases c : i = j + 1
    · rw [c]; exact Nat.le_refl _
    · have := off_mono V (i := i) j (by omega)
      show _ ≤ off V j + _
      omega
theorem lof_mono (a : AS) (V : Nat → List Nat) {i : Nat} : ∀ j, i ≤ j → lof a V i ≤ lof a V j
  | 0, h => by rw [show i = 0 by omega]; exact Nat.le_refl _
  | j + 1, h => by
    by_cases c : i = j + 1
    · rw [c]; exact Nat.le_refl _
    · have := lof_mono a V (i := i) j (by omega)
      show _ ≤ lof a V j + _
      omega
/-- levels up to y with their nodes, links of those before -/
def DI (a : AS) (y : Nat) (V : Nat → List Nat) (S : St) : Prop :=
  S.1 31 1 = nI (nR a) ∧ S.1 31 2 = nI (off V (y + 1)) ∧ S.1 31 14 = nI (lof a V y) ∧ V 0 = [cU a] ∧ (∀ j, j ≤ y → (V j).Nodup ∧ (∀ u, u ∈ V j → Vd a (mY a j) u) ∧ NS a (off V j) (V j) S) ∧ (∀ j, j ≤ y → S.1 43 j = nI (off V j)) ∧ (∀ j, j < y → ∀ A u B, V j = A ++ u :: B → NP a j (off V j) (lof a V j) (off V (j + 1)) (V (j + 1)) A u S) ∧ FIs a S
theorem mY_R {a : AS} (hW : WF a) (hR : nR a ≠ 0) : mY a (nR a) = 0 := by
  have ht := hW.told hR
  have hcT := ht.2.2.2.2.2.2.2.2.2.1
  have z := fun y => hcT.rs0 (y := y)
  unfold mY
  have e : fb_sm (rsum (cel a)) (nR a) = tsum (cel a) := by
    have h4 := sm4 (rsum (cel a))
    rcases (show nR a = 2 ∨ nR a = 3 ∨ nR a = 4 by have := ht.1; have := ht.2.1; omega) with q | q | q
    · rw [q] at z ⊢
      rw [sm_s, sm_s, z 2 (by omega), z 3 (by omega)] at h4
      exact h4
    · rw [q] at z ⊢
      rw [sm_s, z 3 (by omega)] at h4
      exact h4
    · rw [q]; exact h4
  omega
theorem Vd0 {a : AS} {u : Nat} (h : Vd a 0 u) : u = 0 := by
  obtain ⟨u1, -, u3⟩ := h
  have e := u_eq u1
  unfold s4 at u3
  omega
theorem nod1 {W : List Nat} (hn : W.Nodup) (h : ∀ w, w ∈ W → w = 0) : W.length ≤ 1 := by
  cases W with
  | nil => exact Nat.zero_le _
  | cons v W =>
    cases W with
    | nil => exact Nat.le_refl _
    | cons w W =>
      rw [List.nodup_cons] at hn
      exact absurd (by rw [h v (by simp), h w (by simp)]; simp) hn.1
theorem off_cap {a : AS} (hW : WF a) (hR : nR a ≠ 0) {V : Nat → List Nat} (h0 : V 0 = [cU a]) : ∀ y, y < nR a → (∀ j, j ≤ y → (V j).Nodup ∧ ∀ u, u ∈ V j → Vd a (mY a j) u) → off V (y + 1) ≤ 1 + 159 * y
  | 0, _, _ => by
    show 0 + (V 0).length ≤ _
    rw [h0]
    exact Nat.le_refl _
  | y + 1, hy, h => by
    have hl := hW.le
    have ht := hW.told hR
    have ih := off_cap hW hR h0 y (by omega) (fun j hj => h j (by omega))
    have hm := mY_s (a := a) (y := y + 1) (by omega)
    have htt := ht.2.2.2.2.2.2.2.1
    have := V_cap ht (show mY a (y + 1) ≤ 20 by omega) (h (y + 1) (Nat.le_refl _)).1 (h (y + 1) (Nat.le_refl _)).2
    show off V (y + 1) + (V (y + 1)).length ≤ _
    omega
theorem lof_cap {a : AS} (hW : WF a) (hR : nR a ≠ 0) {V : Nat → List Nat} {y : Nat} (hy : y < nR a) (h : ∀ j, j ≤ y → (V j).Nodup ∧ ∀ u, u ∈ V j → Vd a (mY a j) u) : lof a V (y + 1) ≤ 4800 := by
  have hl := hW.le
  have ht := hW.told hR
  have k := LK_cap ht (V := fun j => if j ≤ y then V j else []) (fun j hj => by
    by_cases c : j ≤ y
    · rw [if_pos c]; exact (h j c).1
    · rw [if_neg c]; exact List.nodup_nil) (fun j hj u hu => by
    by_cases c : j ≤ y
    · rw [if_pos c] at hu; exact (h j c).2 u hu
    · rw [if_neg c] at hu; exact absurd hu (by simp))
  have e : ∀ j, j ≤ y → LC a j (if j ≤ y then V j else []) = LC a j (V j) := fun j hj => by rw [if_pos hj]
  rcases (show y = 0 ∨ y = 1 ∨ y = 2 ∨ y = 3 by omega) with rfl | rfl | rfl | rfl
  · rw [e 0 (by omega)] at k
    show 0 + LC a 0 (V 0) ≤ 4800
    omega
  · rw [e 0 (by omega), e 1 (by omega)] at k
    show 0 + LC a 0 (V 0) + LC a 1 (V 1) ≤ 4800
    omega
  · rw [e 0 (by omega), e 1 (by omega), e 2 (by omega)] at k
    show 0 + LC a 0 (V 0) + LC a 1 (V 1) + LC a 2 (V 2) ≤ 4800
    omega
  · rw [e 0 (by omega), e 1 (by omega), e 2 (by omega), e 3 (by omega)] at k
    show 0 + LC a 0 (V 0) + LC a 1 (V 1) + LC a 2 (V 2) + LC a 3 (V 3) ≤ 4800
    omega
theorem capNs {a : AS} (hW : WF a) (hR : nR a ≠ 0) {V : Nat → List Nat} (h0 : V 0 = [cU a]) {y : Nat} (hy : y < nR a) (h : ∀ j, j ≤ y → (V j).Nodup ∧ ∀ u, u ∈ V j → Vd a (mY a j) u) (W : List Nat) (hn : W.Nodup) (hV : ∀ w, w ∈ W → Vd a (mY a (y + 1)) w) : off V (y + 1) + W.length ≤ 480 := by
  have hl := hW.le
  have ht := hW.told hR
  have ho := off_cap hW hR h0 y hy h
  by_cases c : y + 1 = nR a
  · rw [c, mY_R hW hR] at hV
    have := nod1 hn (fun w hw => Vd0 (hV w hw))
    omega
  · have hm := mY_s (a := a) (y := y + 1) (by omega)
    have htt := ht.2.2.2.2.2.2.2.1
    have := V_cap ht (show mY a (y + 1) ≤ 20 by omega) hn hV
    omega
theorem cdS_congr {a : AS} {f f' : Nat → Nat} (e : ∀ x, x < 4 → f x = f' x) : ∀ n, n ≤ 4 → cdS a f n = cdS a f' n
  | 0, _ => rfl
  | n + 1, hn => by
    show cdS a f n + f n * strd a n = cdS a f' n + f' n * strd a n
    rw [cdS_congr e n (by omega), e n (by omega)]
/-- the whole net of nodes and links -/
def DG (a : AS) (V : Nat → List Nat) (S : St) : Prop := DI a (nR a) V S ∧ ∀ i, off V (nR a) ≤ i → i ≤ off V (nR a + 1) → S.1 44 i = nI (lof a V (nR a))
theorem Vd_root {a : AS} (h : Told a) : Vd a (mY a 0) (cU a) := by
  obtain ⟨c1, c2⟩ := cU_ok h
  refine ⟨c1, fun x hx => by rw [c2 x hx]; exact Nat.le_refl _, ?_⟩
  have e0 : mY a 0 = tsum (cel a) := by unfold mY; exact Nat.sub_zero _
  rw [e0, ← tot_c]
  unfold s4
  rw [c2 0 (by omega), c2 1 (by omega), c2 2 (by omega), c2 3 (by omega)]
section DGs
variable {g : GX} {d : Nat} {ρ : Rs} {S : St} {a : AS}
theorem sC_takenBy {Q : Int32 → St → Prop} (hρ : Ok ρ) (h : Told a) (hI : IB a S) (hQ : Q (nI (cU a)) S) : CALLi g (d + 3) mX2_takenByAll [.ref 32, .ref 21] ρ ρ S Q := by
  have hs := h.sums.2
  refine eX2_takenByAll hρ ?_
  have key : ∀ n x, n + x = 4 → AW g ρ (QI Q) (d + 3) mX2_takenByAll 4 [(1, .ref 21), (2, .int (nI (tkS (csum (cel a)) x))), (3, .int (nI x))] [] ρ S := by
    intro n
    induction n with
    | zero =>
      intro x hx
      refine eX2_takenByAll_4 hρ ?_
      rw [show x = 4 by omega, if_pos (by decide)]
      exact hQ
    | succ n ih =>
      intro x hx
      refine eX2_takenByAll_4 hρ ?_
      rw [if_neg (show ¬ (4 : Int32) ≤ nI x from nI_ge (b := 4) (by omega) (by omega)), nI_clamp (show x < 2 ^ 31 by omega), hI.2.2.2.2.2.2.2.2.2.2.1 x (by omega), nI_1]
      refine ⟨vp_in_nI (by omega) (by omega), ?_⟩
      have e : (6 : Int32) * nI x = nI (6 * x) := by
        show nI 6 * nI x = _
        rw [pk_mul]
      have hp : csum (cel a) x * 2 ^ (6 * x) < 2 ^ 32 := by
        have h1 := hs x
        have : 2 ^ (6 * x) ≤ 2 ^ 18 := Nat.pow_le_pow_right (by decide) (by omega)
        have h2 : csum (cel a) x * 2 ^ (6 * x) ≤ 20 * 2 ^ 18 := Nat.mul_le_mul (by omega) this
        omega
      have e2 : nI (tkS (csum (cel a)) x) ||| (nI (csum (cel a) x) <<< ((6 * nI x) &&& 31)) = nI (tkS (csum (cel a)) (x + 1)) := by
        rw [e, pk_shlN _ _ (s_l (6 * x) (by omega)) hp, Int32.or_comm, Nat.mul_comm, fa_or_sum _ (tkS_lt (fun z => by have := hs z; omega) x)]
        congr 1
        show _ = tkS (csum (cel a)) x + 2 ^ (6 * x) * csum (cel a) x
        omega
      rw [e2]
      exact ih (x + 1) (by omega)
  exact key 4 0 (by omega)
theorem sC_codeOf {Q : Int32 → St → Prop} (hρ : Ok ρ) (h : Told a) (hI : IB a S) (h42 : ∀ x, x < 4 → S.1 42 x = nI (strd a x)) (hQ : Q (nI (cdu a (cU a))) S) : CALLi g (d + 3) mX2_codeOfAll [.ref 32, .ref 21] ρ ρ S Q := by
  refine eX2_codeOfAll hρ ?_
  have key : ∀ n x, n + x = 4 → AW g ρ (QI Q) (d + 3) mX2_codeOfAll 4 [(0, .ref 32), (1, .ref 21), (2, .int (nI (cdS a (csum (cel a)) x))), (3, .int (nI x))] [] ρ S := by
    intro n
    induction n with
    | zero =>
      intro x hx
      refine eX2_codeOfAll_4 hρ ?_
      rw [show x = 4 by omega, if_pos (by decide)]
      have e : cdu a (cU a) = cdS a (csum (cel a)) 4 := cdS_congr (fun x hx => (cU_ok h).2 x hx) 4 (Nat.le_refl _)
      rw [← e]
      exact hQ
    | succ n ih =>
      intro x hx
      refine eX2_codeOfAll_4 hρ ?_
      rw [if_neg (show ¬ (4 : Int32) ≤ nI x from nI_ge (b := 4) (by omega) (by omega)), nI_clamp (show x < 2 ^ 31 by omega), hI.2.2.2.2.2.2.2.2.2.2.1 x (by omega), h42 x (by omega), pk_mul, nI_add, nI_1]
      exact ⟨vp_in_nI (by omega) (by omega), vp_in_nI (by omega) (by omega), ih (x + 1) (by omega)⟩
  exact key 4 0 (by omega)
/-- the levels, one by one; behind them what follows -/
theorem sC_levels {Q : St → Prop} (hρ : Ok ρ) (hF : ∀ k ∈ ([31, 43, 44, 45, 46, 50, 51, 52] : List Nat), gF g k) (hW : WF a) (hR : nR a ≠ 0)
    (h : ∀ S' V, DG a V S' → (∀ k, ¬ (k = 31 ∨ k = 43 ∨ k = 44 ∨ k = 45 ∨ k = 46 ∨ k = 50 ∨ k = 51 ∨ k = 52) → S'.1 k = S.1 k) → S'.2 = S.2 → CALLv g (d + 7) mX1_sumAhead [.ref 31] ρ ρ S' (fun S1 => CALLv g (d + 7) mX1_sumBehind [.ref 31] ρ ρ S1 (fun S2 => CALLv g (d + 7) mX1_sumSeenCells [.ref 31] ρ ρ S2 (fun S3 => Q S3)))) {V : Nat → List Nat} (hD : DI a 0 V S) : AW g ρ (QV Q) (d + 6 + 2) mX1_make 56 [(0, .ref 31), (2, .int 0)] [] ρ S := by
  have hle := hW.le
  have hF43 : ∀ k ∈ ([43] : List Nat), gF g k := fun k hk => hF k (by simp at hk; simp [hk])
  have hF44 : ∀ k ∈ ([44] : List Nat), gF g k := fun k hk => hF k (by simp at hk; simp [hk])
  have hF7 : ∀ k ∈ ([31, 44, 45, 46, 50, 51, 52] : List Nat), gF g k := fun k hk => hF k (by simp at hk; rcases hk with h | h | h | h | h | h | h <;> simp [h])
  -- the end of the links
  have last : ∀ n i V S1, DI a (nR a) V S1 → (∀ k, ¬ (k = 31 ∨ k = 43 ∨ k = 44 ∨ k = 45 ∨ k = 46 ∨ k = 50 ∨ k = 51 ∨ k = 52) → S1.1 k = S.1 k) → S1.2 = S.2 → n + i = off V (nR a + 1) + 1 → off V (nR a) ≤ i → (∀ j, off V (nR a) ≤ j → j < i → S1.1 44 j = nI (lof a V (nR a))) → off V (nR a + 1) ≤ 480 → AW g ρ (QV Q) (d + 6 + 2) mX1_make 101 [(0, .ref 31), (2, .int (nI i))] [] ρ S1 := by
    intro n
    induction n with
    | zero =>
      intro i V S1 d1 f1 f2 hi ho h4 hc
      refine eX1_make_101 hρ hF44 ?_
      rw [d1.2.1, if_pos (nI_lt (by omega) (by omega))]
      refine eX1_make_134 hρ ?_
      exact h S1 V ⟨d1, fun j h1 h2 => h4 j h1 (by omega)⟩ f1 f2
    | succ n ih =>
      intro i V S1 d1 f1 f2 hi ho h4 hc
      refine eX1_make_101 hρ hF44 ?_
      rw [d1.2.1, if_neg (by rw [nI_ltI (by omega) (by omega)]; omega), if_neg (show ¬ (480 : Int32) < nI i from nI_nlt (a := 480) (by omega) (by omega)), d1.2.2.1, nI_clamp (show i < 2 ^ 31 by omega), nI_1]
      refine ⟨vp_in_nI (by omega) (by omega), ?_⟩
      obtain ⟨a1, a2, a3, a4, a5, a6, a7, a8⟩ := d1
      refine ih (i + 1) V _ ⟨?_, ?_, ?_, a4, fun j hj => ?_, fun j hj => ?_, fun j hj A u B e => ?_, ?_⟩ (fun k hk => ?_) ?_ (by omega) (by omega) (fun j h1 h2 => ?_) hc
      · rw [setI_ne _ _ _ (by decide)]; exact a1
      · rw [setI_ne _ _ _ (by decide)]; exact a2
      · rw [setI_ne _ _ _ (by decide)]; exact a3
      · obtain ⟨b1, b2, b3⟩ := a5 j hj
        refine ⟨b1, b2, fun t ht => ?_⟩
        rw [setI_ne _ _ _ (by decide), setI_ne _ _ _ (by decide)]
        exact b3 t ht
      · rw [setI_ne _ _ _ (by decide)]; exact a6 j hj
      · obtain ⟨n1, n2⟩ := a7 j hj A u B e
        refine ⟨?_, fun q hq => (n2 q hq).mono (List.prefix_refl _) (by rw [setI_ne _ _ _ (by decide)]) (by rw [setI_ne _ _ _ (by decide)])⟩
        have hm := off_mono V (i := j + 1) (nR a) (by omega)
        have hA : A.length < (V j).length := by rw [e, List.length_append, List.length_cons]; omega
        have e1 : off V (j + 1) = off V j + (V j).length := rfl
        rw [setI_at, if_neg (by omega)]
        exact n1
      · unfold FIs FI fillAt
        rw [setI_ne _ _ _ (by decide), setI_ne _ _ _ (by decide), setI_ne _ _ _ (by decide), setI_ne _ _ _ (by decide), setI_ne _ _ _ (by decide), setI_ne _ _ _ (by decide), setI_L]
        exact a8
      · rw [setI_ne _ _ _ (by omega)]; exact f1 k hk
      · rw [setI_L]; exact f2
      · rw [setI_at]
        by_cases c : j = i
        · rw [if_pos ⟨rfl, c⟩]
        · rw [if_neg (fun z => c z.2)]
          exact h4 j h1 (by omega)
  have key : ∀ n y V S1, n + y = nR a → DI a y V S1 → (∀ k, ¬ (k = 31 ∨ k = 43 ∨ k = 44 ∨ k = 45 ∨ k = 46 ∨ k = 50 ∨ k = 51 ∨ k = 52) → S1.1 k = S.1 k) → S1.2 = S.2 → off V (y + 1) ≤ 480 → AW g ρ (QV Q) (d + 6 + 2) mX1_make 56 [(0, .ref 31), (2, .int (nI y))] [] ρ S1 := by
    intro n
    induction n with
    | zero =>
      intro y V S1 hy d1 f1 f2 hc
      rw [show y = nR a by omega] at d1 hc ⊢
      refine eX1_make_56 hρ hF43 ?_
      rw [d1.1, if_pos (nI_le (Nat.le_refl _) (by omega)), nI_clamp (show nR a < 2 ^ 31 by omega), d1.2.2.2.2.2.1 (nR a) (Nat.le_refl _)]
      have hm := off_mono V (i := nR a) (nR a + 1) (by omega)
      refine ⟨vp_in_nI (by omega) (by omega), nI_nlt (b := 0) (by omega) (by omega), nI_nlt (a := 480) (by omega) (by omega), ?_⟩
      exact last (off V (nR a + 1) + 1 - off V (nR a)) (off V (nR a)) V S1 d1 f1 f2 (by omega) (Nat.le_refl _) (fun j h1 h2 => absurd h2 (by omega)) hc
    | succ n ih =>
      intro y V S1 hy d1 f1 f2 hc
      obtain ⟨a1, a2, a3, a4, a5, a6, a7, a8⟩ := d1
      have hVV : ∀ j, j ≤ y → (V j).Nodup ∧ ∀ u, u ∈ V j → Vd a (mY a j) u := fun j hj => ⟨(a5 j hj).1, (a5 j hj).2.1⟩
      refine eX1_make_56 hρ hF43 ?_
      rw [a1, if_neg (nI_ge (by omega) (by omega)), if_neg (show ¬ (4 : Int32) ≤ nI y from nI_ge (b := 4) (by omega) (by omega)), nI_1, nI_clamp (show y + 1 < 2 ^ 31 by omega), a2]
      refine ⟨vp_in_nI (by omega) (by omega), ?_⟩
      have hcN := capNs hW hR a4 (show y < nR a by omega) hVV
      have hcL := lof_cap hW hR (show y < nR a by omega) hVV
      refine sC_linkLevel (o := off V y) (b := off V (y + 1)) (m := lof a V y) (V := V y) hρ hF7 hW hR (show y < nR a by omega) rfl hc ?_ ?_ ?_ (hVV y (Nat.le_refl _)).2 ?_ ?_ ?_ hcN hcL (fun S2 W w1 w2 w3 w4 w5 w6 w7 => ?_)
      · rw [setI_at, if_neg (by omega)]; exact a6 y (Nat.le_refl _)
      · rw [setI_at, if_pos ⟨rfl, rfl⟩]
      · intro t ht
        rw [setI_ne _ _ _ (by decide), setI_ne _ _ _ (by decide)]
        exact (a5 y (Nat.le_refl _)).2.2 t ht
      · rw [setI_ne _ _ _ (by decide)]; exact a2
      · rw [setI_ne _ _ _ (by decide)]; exact a3
      · unfold FIs FI fillAt
        rw [setI_ne _ _ _ (by decide), setI_ne _ _ _ (by decide), setI_ne _ _ _ (by decide), setI_ne _ _ _ (by decide), setI_ne _ _ _ (by decide), setI_ne _ _ _ (by decide), setI_L]
        exact a8
      · -- the next level
        have hVe : ∀ j, j ≤ y → (fun j => if j = y + 1 then W else V j) j = V j := fun j hj => if_neg (by omega)
        have hVn : (fun j => if j = y + 1 then W else V j) (y + 1) = W := if_pos rfl
        generalize hV2 : (fun j => if j = y + 1 then W else V j) = V2 at hVe hVn
        have o1 : ∀ j, j ≤ y + 1 → off V2 j = off V j := fun j hj => off_congr j (fun i hi => hVe i (by omega))
        have l1 : ∀ j, j ≤ y + 1 → lof a V2 j = lof a V j := fun j hj => lof_congr j (fun i hi => hVe i (by omega))
        have o2 : off V2 (y + 2) = off V (y + 1) + W.length := by
          show off V2 (y + 1) + (V2 (y + 1)).length = _
          rw [o1 (y + 1) (Nat.le_refl _), hVn]
        obtain ⟨g1, g2, g3, g4, g5, g6⟩ := w7
        refine ih (y + 1) V2 S2 (by omega) ⟨?_, ?_, ?_, ?_, fun j hj => ?_, fun j hj => ?_, fun j hj A u B e => ?_, ?_⟩ (fun k hk => ?_) ?_ ?_
        · rw [g3, setI_ne _ _ _ (by decide)]; exact a1
        · rw [w4]; congr 1; exact o2.symm
        · rw [w5]
          congr 1
          rw [l1 (y + 1) (Nat.le_refl _)]
          rfl
        · rw [hVe 0 (by omega)]; exact a4
        · by_cases c : j = y + 1
          · rw [c, hVn, o1 (y + 1) (Nat.le_refl _)]
            exact ⟨w1, w2, w3⟩
          · rw [hVe j (by omega), o1 j (by omega)]
            obtain ⟨b1, b2, b3⟩ := a5 j (by omega)
            refine ⟨b1, b2, fun t ht => ?_⟩
            have hm := off_mono V (i := j + 1) (y + 1) (by omega)
            have e1 : off V (j + 1) = off V j + (V j).length := rfl
            have q := g6 (off V j + t) (by omega)
            rw [q.1, q.2, setI_ne _ _ _ (by decide), setI_ne _ _ _ (by decide)]
            exact b3 t ht
        · rw [g1 43 (by decide), setI_at]
          by_cases c : j = y + 1
          · rw [if_pos ⟨rfl, c⟩, c, o1 (y + 1) (Nat.le_refl _)]
          · rw [if_neg (fun z => c z.2), o1 j (by omega)]
            exact a6 j (by omega)
        · by_cases c : j = y
          · subst c
            rw [hVe j (Nat.le_refl _)] at e
            rw [o1 j (by omega), o1 (j + 1) (Nat.le_refl _), l1 j (by omega), hVn]
            exact w6 A u B e
          · rw [hVe j (by omega)] at e
            rw [o1 j (by omega), o1 (j + 1) (by omega), l1 j (by omega), hVe (j + 1) (by omega)]
            obtain ⟨n1, n2⟩ := a7 j (by omega) A u B e
            have hm := off_mono V (i := j + 1) y (by omega)
            have e1 : off V (j + 1) = off V j + (V j).length := rfl
            have hA : A.length < (V j).length := by rw [e, List.length_append, List.length_cons]; omega
            have hlm := lof_mono a V (i := j + 1) y (by omega)
            have e2 : lof a V (j + 1) = lof a V j + LC a j (V j) := rfl
            have e3 : LC a j (V j) = LC a j A + ((lnk a j u).length + LC a j B) := by rw [e, LC_app, LC_cons]
            refine ⟨?_, fun q hq => (n2 q hq).mono (List.prefix_refl _) ?_ ?_⟩
            · rw [g4 _ (by omega), setI_ne _ _ _ (by decide)]; exact n1
            · rw [(g5 _ (by omega)).1, setI_ne _ _ _ (by decide)]
            · rw [(g5 _ (by omega)).2, setI_ne _ _ _ (by decide)]
        · unfold FIs FI fillAt
          rw [g1 32 (by decide), g1 33 (by decide), g1 34 (by decide), g1 35 (by decide), g1 36 (by decide), g1 42 (by decide), g2, setI_ne _ _ _ (by decide), setI_ne _ _ _ (by decide), setI_ne _ _ _ (by decide), setI_ne _ _ _ (by decide), setI_ne _ _ _ (by decide), setI_ne _ _ _ (by decide), setI_L]
          exact a8
        · rw [g1 k (by omega), setI_ne _ _ _ (by omega)]; exact f1 k hk
        · rw [g2, setI_L]; exact f2
        · rw [o2]; exact hcN W w1 w2
  refine key (nR a) 0 V S (by omega) hD (fun _ _ => rfl) rfl ?_
  show 0 + (V 0).length ≤ 480
  rw [hD.2.2.2.1]
  show 0 + 1 ≤ 480
  omega
end DGs
